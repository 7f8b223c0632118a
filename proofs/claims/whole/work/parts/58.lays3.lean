section LX
variable {h : Zm} {F : Nat → Int → Int} {M : Nat} {S : Int → Int} {g : Nat → Int → Int} {c0 : Int}
/-- what a turn of lays has done before the three rows get their values -/
def LPr (F F' : Nat → Int → Int) (M : Nat) (S : Int → Int) (g : Nat → Int → Int) (v n : Int) (w : Int → Int) : Prop := LI F F' M S g (v + 1) v n w (missB S g (go g v) (S 8 + 1)) ∧ ∀ i, 0 ≤ i → i < n → np S (go g (w i)) ≠ go g v
theorem LI.up {F' : Nat → Int → Int} {v u n : Int} {w : Int → Int} {ms : Int → Prop} {a : Nat} {x : Int} {k : Int} (hL : LI F F' M S g v u n w ms) (ha : M + 10 ≤ a ∧ a ≤ M + 12) (hk : ∀ t, 0 ≤ t → t < u → go g t ≠ k) : LI F (up F' a k x) M S g v u n w ms := by
  obtain ⟨l1, l2, l3, l4, l5, l6, l7, l8, l9⟩ := hL
  refine ⟨l1.up (Or.inl ⟨by omega, by omega⟩), ⟨l2.1, by rw [up_a (by omega)]; exact l2.2⟩, fun t h1 h2 => by rw [up_a (by omega)]; exact l3 t h1 h2, fun t h1 h2 h3 => ?_, l5, fun i h1 h2 => by rw [up_a (by omega)]; exact l6 i h1 h2, l7, l8, l9⟩
  have := hk t h1 h2
  rw [up_n (fun q => this q.2), up_n (fun q => this q.2), up_n (fun q => this q.2)]
  exact l4 t h1 h2 h3
theorem l_J182 {Q : Zm → Prop} {X14 : Int → Zm → Prop} {v n x : Int} {F' : Nat → Int → Int} {w : Int → Int} (km : kM h M) (hS : RS F M S) (wf : WF S g c0) (hc9 : c0 ≤ 1000) (hv0 : 0 ≤ v) (hv : v < gc g) (hX14 : ∀ n w F', LI F F' M S g (v + 1) (v + 1) n w (fun _ => False) → X14 n (zwI h F')) (hL : LPr F F' M S g v n w) (hx : InR x) (hval : nk S (go g v) = 0 → F' (M + 10) (go g v) = gop g (go g v) ∧ F' (M + 11) (go g v) = gox g (go g v) ∧ x = goy g (go g v)) : mX7_lays_J182 X14 M n (go g v) (M + 12) (go g v) x (zwI h F') Q := by
  unfold mX7_lays_J182
  have wo := wf.2.2.2
  have hlv := wo.2.1 v hv0 hv
  have hk : ∀ t, 0 ≤ t → t < v → go g t ≠ go g v := fun t a b e => by have := o_inj wo a (by omega) hv0 hv e; omega
  have hL2 := hL.1.up (a := M + 12) (x := x) (k := go g v) ⟨by omega, by omega⟩ hk
  have hS2 := hL2.1.rs hS
  have hs8 := wf.1.2.2.1
  refine f_st km.k13 hlv.1.1 (by have := hlv.1; omega) hx (r_ld km hS2 (by decide) (by decide) fun _ => f_rc km.1 (s_lastChild km hS2 ⟨by have := hlv.1; omega, by have := hlv.1; omega⟩ ⟨by omega, by omega⟩ fun r hr => ?_))
  refine l_push km hS wf hv0 hv hc9 hX14 n r _ w (S 8 + 1) ?_ (fun i a b e => absurd e (hL.2 i a b)) hr
  obtain ⟨l1, l2, l3, l4, l5, l6, l7, l8, l9⟩ := hL2
  refine ⟨l1, l2, l3, fun t a b e => ?_, l5, l6, l7, l8, l9⟩
  by_cases z : t = v
  · subst z
    obtain ⟨e1, e2, e3⟩ := hval e
    rw [up_a (by omega), up_a (by omega), up_s]
    exact ⟨e1, e2, e3⟩
  · exact l4 t a (by omega) e
theorem l_J146 {Q : Zm → Prop} {X14 : Int → Zm → Prop} {v n x x4 : Int} {F' : Nat → Int → Int} {w : Int → Int} (km : kM h M) (hS : RS F M S) (wf : WF S g c0) (hc9 : c0 ≤ 1000) (hv0 : 0 ≤ v) (hv : v < gc g) (hX14 : ∀ n w F', LI F F' M S g (v + 1) (v + 1) n w (fun _ => False) → X14 n (zwI h F')) (hL : LPr F F' M S g v n w) (hx : InR x) (h4 : (x4 = 1 ∧ nk S (go g v) = 0) ∨ (x4 = 0 ∧ nk S (go g v) ≠ 0)) (hval : nk S (go g v) = 0 → F' (M + 10) (go g v) = gop g (go g v) ∧ x = gox g (go g v)) : mX7_lays_J146 X14 M n (go g v) (np S (go g v)) x4 (M + 11) (go g v) x (zwI h F') Q := by
  unfold mX7_lays_J146
  have wo := wf.2.2.2
  have hlv := wo.2.1 v hv0 hv
  have hk : ∀ t, 0 ≤ t → t < v → go g t ≠ go g v := fun t a b e => by have := o_inj wo a (by omega) hv0 hv e; omega
  have hL2 := hL.1.up (a := M + 11) (x := x) (k := go g v) ⟨by omega, by omega⟩ hk
  have hS2 := hL2.1.rs hS
  have hval2 : nk S (go g v) = 0 → up F' (M + 11) (go g v) x (M + 10) (go g v) = gop g (go g v) ∧ up F' (M + 11) (go g v) x (M + 11) (go g v) = gox g (go g v) := fun e => by
    rw [up_a (by omega), up_s]
    exact hval e
  have fin : ∀ y : Int, InR y → (nk S (go g v) = 0 → y = goy g (go g v)) → mX7_lays_J182 X14 M n (go g v) (M + 12) (go g v) y (zwI h (up F' (M + 11) (go g v) x)) Q := fun y hy e => l_J182 km hS wf hc9 hv0 hv hX14 ⟨hL2, hL.2⟩ hy (fun e0 => ⟨(hval2 e0).1, (hval2 e0).2, e e0⟩)
  have wt := wf.2.2.1
  refine f_st km.k12 hlv.1.1 (by have := hlv.1; omega) hx (f_gr km.1 km.r13 (f_eq ⟨by have := hlv.1; omega, by have := hlv.1; omega⟩ z_in0 (fun z => fin 0 z_in0 (fun _ => by rw [z]; exact wt.1.2.2.2.symm)) (fun z => ?_)))
  rcases h4 with ⟨rfl, e0⟩ | ⟨rfl, e0⟩
  · refine f_eq ⟨by decide, by decide⟩ z_in0 (fun y => absurd y (by decide)) (fun _ => ?_)
    have hp := wt.2.1 _ hlv z
    obtain ⟨j, ⟨j0, j1⟩, j2, -⟩ := wo.2.2.2.2.1 v (by
      rcases Int.lt_or_le 0 v with q | q
      · omega
      · have : v = 0 := by omega
        subst this
        exact absurd wo.1.2 z) hv
    have ho := (hL2.2.2.2.1 j j0 (by omega) (by rw [j2]; exact hp.2.1)).2.2
    rw [j2] at ho
    have hb := g_op wf.2.1 wt hp.1 hp.2.1
    have hn := wf.2.1.2.2.1 _ hlv e0
    refine f_gr km.1 km.r13 (f_ldv km.k13 hp.1.1.1 (by have := hp.1.1; omega) ho fun _ => f_rc km.1 (s_off (w := 5) 2 (by decide) km hS2 hlv.1.1 hlv.1.2 (by decide) (by decide) fun _ => fin _ ⟨by omega, by omega⟩ (fun _ => (wt.2.2.2 _ hlv z e0).2.2.symm)))
  · exact f_eq z_in0 z_in0 (fun _ => fin 0 z_in0 (fun e => absurd e e0)) (fun y => absurd rfl y)
theorem l_J110 {Q : Zm → Prop} {X14 : Int → Zm → Prop} {v n x x4 : Int} {F' : Nat → Int → Int} {w : Int → Int} (km : kM h M) (hS : RS F M S) (wf : WF S g c0) (hc9 : c0 ≤ 1000) (hv0 : 0 ≤ v) (hv : v < gc g) (hX14 : ∀ n w F', LI F F' M S g (v + 1) (v + 1) n w (fun _ => False) → X14 n (zwI h F')) (hL : LPr F F' M S g v n w) (hx : InR x) (h4 : (x4 = 1 ∧ nk S (go g v) = 0) ∨ (x4 = 0 ∧ nk S (go g v) ≠ 0)) (hval : nk S (go g v) = 0 → x = gop g (go g v)) : mX7_lays_J110 X14 M n (go g v) (np S (go g v)) x4 (M + 10) (go g v) x (zwI h F') Q := by
  unfold mX7_lays_J110
  have wo := wf.2.2.2
  have hlv := wo.2.1 v hv0 hv
  have hk : ∀ t, 0 ≤ t → t < v → go g t ≠ go g v := fun t a b e => by have := o_inj wo a (by omega) hv0 hv e; omega
  have hL2 := hL.1.up (a := M + 10) (x := x) (k := go g v) ⟨by omega, by omega⟩ hk
  have hS2 := hL2.1.rs hS
  have fin : ∀ y : Int, InR y → (nk S (go g v) = 0 → y = gox g (go g v)) → mX7_lays_J146 X14 M n (go g v) (np S (go g v)) x4 (M + 11) (go g v) y (zwI h (up F' (M + 10) (go g v) x)) Q := fun y hy e => l_J146 km hS wf hc9 hv0 hv hX14 ⟨hL2, hL.2⟩ hy h4 (fun e0 => ⟨by rw [up_s]; exact hval e0, e e0⟩)
  have wt := wf.2.2.1
  refine f_st km.k11 hlv.1.1 (by have := hlv.1; omega) hx (f_gr km.1 km.r12 (f_eq ⟨by have := hlv.1; omega, by have := hlv.1; omega⟩ z_in0 (fun z => fin 0 z_in0 (fun _ => by rw [z]; exact wt.1.2.2.1.symm)) (fun z => ?_)))
  rcases id h4 with ⟨rfl, e0⟩ | ⟨rfl, e0⟩
  · refine f_eq ⟨by decide, by decide⟩ z_in0 (fun y => absurd y (by decide)) (fun _ => ?_)
    have hp := wt.2.1 _ hlv z
    obtain ⟨j, ⟨j0, j1⟩, j2, -⟩ := wo.2.2.2.2.1 v (by
      rcases Int.lt_or_le 0 v with q | q
      · omega
      · have : v = 0 := by omega
        subst this
        exact absurd wo.1.2 z) hv
    have ho := (hL2.2.2.2.1 j j0 (by omega) (by rw [j2]; exact hp.2.1)).2.1
    rw [j2] at ho
    have hb := g_op wf.2.1 wt hp.1 hp.2.1
    have hn := wf.2.1.2.2.1 _ hlv e0
    refine f_gr km.1 km.r12 (f_ldv km.k12 hp.1.1.1 (by have := hp.1.1; omega) ho fun _ => f_rc km.1 (s_off (w := 4) 1 (by decide) km hS2 hlv.1.1 hlv.1.2 (by decide) (by decide) fun _ => fin _ ⟨by omega, by omega⟩ (fun _ => (wt.2.2.2 _ hlv z e0).2.1.symm)))
  · exact f_eq z_in0 z_in0 (fun _ => fin 0 z_in0 (fun e => absurd e e0)) (fun y => absurd rfl y)
theorem l_J69 {Q : Zm → Prop} {X14 : Int → Zm → Prop} {v n x4 : Int} {F' : Nat → Int → Int} {w : Int → Int} (km : kM h M) (hS : RS F M S) (wf : WF S g c0) (hc9 : c0 ≤ 1000) (hv0 : 0 ≤ v) (hv : v < gc g) (hX14 : ∀ n w F', LI F F' M S g (v + 1) (v + 1) n w (fun _ => False) → X14 n (zwI h F')) (hL : LPr F F' M S g v n w) (h4 : (x4 = 1 ∧ nk S (go g v) = 0) ∨ (x4 = 0 ∧ nk S (go g v) ≠ 0)) : mX7_lays_J69 X14 M n (go g v) (np S (go g v)) x4 (zwI h F') Q := by
  unfold mX7_lays_J69
  have wo := wf.2.2.2
  have hlv := wo.2.1 v hv0 hv
  have hS2 := hL.1.1.rs hS
  have fin : ∀ y : Int, InR y → (nk S (go g v) = 0 → y = gop g (go g v)) → mX7_lays_J110 X14 M n (go g v) (np S (go g v)) x4 (M + 10) (go g v) y (zwI h F') Q := fun y hy e => l_J110 km hS wf hc9 hv0 hv hX14 hL hy h4 e
  have wt := wf.2.2.1
  refine f_gr km.1 km.r11 (f_eq ⟨by have := hlv.1; omega, by have := hlv.1; omega⟩ z_in0 (fun z => fin 100 ⟨by decide, by decide⟩ (fun _ => by rw [z]; exact wt.1.2.1.symm)) (fun z => ?_))
  rcases id h4 with ⟨rfl, e0⟩ | ⟨rfl, e0⟩
  · refine f_eq ⟨by decide, by decide⟩ z_in0 (fun y => absurd y (by decide)) (fun _ => ?_)
    have hp := wt.2.1 _ hlv z
    obtain ⟨j, ⟨j0, j1⟩, j2, -⟩ := wo.2.2.2.2.1 v (by
      rcases Int.lt_or_le 0 v with q | q
      · omega
      · have : v = 0 := by omega
        subst this
        exact absurd wo.1.2 z) hv
    have ho := (hL.1.2.2.2.1 j j0 (by omega) (by rw [j2]; exact hp.2.1)).1
    rw [j2] at ho
    have hb := g_op wf.2.1 wt hp.1 hp.2.1
    have hn := wf.2.1.2.2.1 _ hlv e0
    have hm := mul_bd (a := gop g (np S (go g v))) (b := nf S (go g v) 0) (A := 100) (B := 100) hb.1.1 hb.1.2 hn.1.1 hn.1.2
    refine f_gr km.1 km.r11 (f_ldv km.k11 hp.1.1.1 (by have := hp.1.1; omega) ho fun _ => f_rc km.1 (s_off (w := 3) 0 (by decide) km hS2 hlv.1.1 hlv.1.2 (by decide) (by decide) fun _ => ⟨⟨by omega, by omega⟩, ⟨by decide, by decide⟩, ?_⟩))
    rw [tdiv_pos hm.1]
    refine fin _ ⟨by omega, by omega⟩ (fun _ => (wt.2.2.2 _ hlv z e0).1.symm)
  · exact f_eq z_in0 z_in0 (fun _ => fin 0 z_in0 (fun e => absurd e e0)) (fun y => absurd rfl y)
theorem s_lays {Q : Zm → Prop} (km : kM h M) (hS : RS F M S) (wf : WF S g c0) (hc9 : c0 ≤ 1000) (q : ∀ F', laid M F F' → LD F' M S g → Q (zwI h F')) : mX7_lays M (zwI h F) Q := by
  unfold mX7_lays mX7_lays_H14
  have wo := wf.2.2.2
  refine f_pi km.1 z_in0 (f_gr km.1 km.r10 (f_st km.k10 (by decide) (by decide) z_in0 ?_))
  refine lfp1_i (fun _ m => (24 - zI m M 9).toNat) (fun n m => ∃ F' w v, m = zwI h F' ∧ LI F F' M S g v v n w (fun _ => False)) (fun X n m hm hX => ?_) 1 _ ⟨_, fun _ => 0, 0, rfl, ?_⟩
  · obtain ⟨F', w, v, rfl, hL⟩ := hm
    unfold mX7_lays_B14
    obtain ⟨l1, ⟨l2, l2'⟩, l3, l4, l5, l6, l7, l8, l9⟩ := id hL
    have hn24 : n ≤ 24 := by
      rcases Int.lt_or_le 0 n with z | z
      · have := (l6 (n - 1) (by omega) (by omega)).2
        omega
      · omega
    refine f_le ⟨by omega, by omega⟩ z_in0 (fun z => ?_) (fun z => ?_)
    · -- nothing waits: all are visited
      have hvc : v = gc g := by
        rcases Int.lt_or_le v (gc g) with y | y
        · exfalso
          have hp : pend S g v v := by
            by_cases e : v = 0
            · exact Or.inl e
            · obtain ⟨j, ⟨j0, j1⟩, j2, -⟩ := wo.2.2.2.2.1 v (by omega) y
              exact Or.inr ⟨j, ⟨j0, j1⟩, j1, j2⟩
          rcases l8 v (Int.le_refl _) y hp with ⟨i, ⟨a, b⟩, -⟩ | f
          · omega
          · exact f
        · omega
      subst hvc
      exact q F' l1 ⟨l2', l3, l4⟩
    · obtain ⟨a1, ⟨a2, a3⟩, a4⟩ := l6 (n - 1) (by omega) (by omega)
      have hv : v < gc g := by omega
      have hp : pend S g v v := by
        by_cases e : v = 0
        · exact Or.inl e
        · obtain ⟨j, ⟨j0, j1⟩, j2, -⟩ := wo.2.2.2.2.1 v (by omega) hv
          exact Or.inr ⟨j, ⟨j0, j1⟩, j1, j2⟩
      have hw : w (n - 1) = v := by
        rcases l8 v (Int.le_refl _) hv hp with ⟨i, ⟨a, b⟩, e⟩ | f
        · by_cases y : i = n - 1
          · rw [← y]; exact e
          · have := l7 i (n - 1) a (by omega) (by omega)
            omega
        · exact f.elim
      rw [hw] at a1
      have hlv := wo.2.1 v l2.1 hv
      have hcnt := wo.1.1
      have hkr : InR (go g v) := ⟨by have := hlv.1; omega, by have := hlv.1; omega⟩
      have e1 : n + -1 = n - 1 := by omega
      rw [e1]
      refine f_gr km.1 km.r10 (f_ldv km.k10 (by omega) (by omega) a1 fun _ => f_gr km.1 km.r8 (f_giv km.1 l2' fun _ => f_st km.k8 l2.1 (by omega) hkr (f_giv km.1 (v := v) (by rw [up_a (by omega)]; exact l2') fun _ => f_pi km.1 ⟨by omega, by omega⟩ ?_)))
      have hL2 : LPr F (up (up F' (M + 8) v (go g v)) M 9 (v + 1)) M S g v (n - 1) w := by
        refine ⟨⟨(l1.up (Or.inl ⟨by omega, by omega⟩)).up (Or.inr ⟨rfl, rfl⟩), ⟨⟨by omega, by omega⟩, up_s _ _ _ _⟩, fun t b1 b2 => ?_, fun t b1 b2 b3 => by rw [up_a (by omega), up_a (by omega), up_a (by omega), up_a (by omega), up_a (by omega), up_a (by omega)]; exact l4 t b1 b2 b3, by omega, fun i b1 b2 => ?_, fun i j b1 b2 b3 => l7 i j b1 b2 (by omega), fun t b1 b2 b3 => ?_, fun i b1 b2 => ?_⟩, fun i b1 b2 e => ?_⟩
        · rw [up_a (by omega)]
          by_cases e : t = v
          · subst e; rw [up_s]
          · rw [up_n (by omega)]; exact l3 t b1 (by omega)
        · rw [up_a (by omega), up_a (by omega)]
          obtain ⟨c1, ⟨c2, c3⟩, c4⟩ := l6 i b1 (by omega)
          have := l7 i (n - 1) b1 (by omega) (by omega)
          exact ⟨c1, ⟨by omega, c3⟩, c4⟩
        · rcases b3 with e | ⟨j, ⟨d1, d2⟩, d3, d4⟩
          · omega
          · by_cases e : j = v
            · subst e
              have hlt := wo.2.1 t (by omega) b2
              have := (wf.2.2.1.2.1 _ hlt (o_pos wo (by omega) b2)).2.2.2.2
              exact Or.inr ⟨d4.symm, by omega⟩
            · rcases l8 t (by omega) b2 (Or.inr ⟨j, ⟨d1, by omega⟩, d3, d4⟩) with ⟨i, ⟨f1, f2⟩, f3⟩ | f
              · by_cases y : i = n - 1
                · subst y; omega
                · exact Or.inl ⟨i, ⟨f1, by omega⟩, f3⟩
              · exact f.elim
        · rcases l9 i b1 (by omega) with e | ⟨j, ⟨d1, d2⟩, d3, d4⟩
          · exact Or.inl e
          · exact Or.inr ⟨j, ⟨d1, by omega⟩, d3, d4⟩
        · obtain ⟨c1, ⟨c2, c3⟩, c4⟩ := l6 i b1 (by omega)
          have := l7 i (n - 1) b1 (by omega) (by omega)
          rcases l9 i b1 (by omega) with e2 | ⟨j, ⟨d1, d2⟩, d3, d4⟩
          · omega
          · have := o_inj wo d1 (by omega) l2.1 hv (by rw [d4, e])
            omega
      have hS2 := hL2.1.1.rs hS
      have hX14 : ∀ n' w' F'', LI F F'' M S g (v + 1) (v + 1) n' w' (fun _ => False) → X n' (zwI h F'') := fun n' w' F'' hL' => hX n' _ ⟨F'', w', v + 1, rfl, hL'⟩ (by
        have e1 : zI (zwI h F'') M 9 = v + 1 := hL'.2.1.2
        have e2 : zI (zwI h F') M 9 = v := l2'
        rw [e1, e2]
        omega)
      refine f_rc km.1 (s_ofp km hS2 hlv.1.1 hlv.1.2 fun _ => f_rc km.1 (s_ofk km hS2 hlv.1.1 hlv.1.2 fun hkk => f_eq hkk z_in0 (fun y => l_J69 km hS wf hc9 l2.1 hv hX14 hL2 (Or.inl ⟨rfl, y⟩)) (fun y => l_J69 km hS wf hc9 l2.1 hv hX14 hL2 (Or.inr ⟨rfl, y⟩))))
  · have h24 := wo.1.1
    refine ⟨(laid.rf.up (Or.inr ⟨rfl, rfl⟩)).up (Or.inl ⟨by omega, by omega⟩), ⟨⟨by omega, by omega⟩, by rw [up_a (by omega), up_s]⟩, fun t a b => by omega, fun t a b => by omega, by omega, fun i a b => ?_, fun i j a b c => by omega, fun t a b c => ?_, fun i a b => Or.inl rfl⟩
    · have : i = 0 := by omega
      subst this
      rw [up_s]
      refine ⟨wo.1.2.symm, ⟨?_, ?_⟩, ?_⟩
      · show (0 : Int) ≤ 0
        omega
      · show (0 : Int) < gc g
        omega
      · show (0 : Int) + 0 ≤ 23
        omega
    · rcases c with e | ⟨j, ⟨d1, d2⟩, -⟩
      · exact Or.inl ⟨0, ⟨by omega, by omega⟩, e.symm⟩
      · omega
end LX
