/-! the class's order of visits: cut out, put in, settle -/
/-- count, order and depths -/
def OS (F : Nat → Int → Int) (A : Nat) (S : Int → Int) (g : Nat → Int → Int) : Prop := F (A + 2) 3 = gc g ∧ (∀ t, 0 ≤ t → t < gc g → F (A + 28) t = go g t) ∧ ∀ k, live S k → F (A + 4 + k.toNat) 2 = gd g k
theorem CS.os {F : Nat → Int → Int} {A : Nat} {S : Int → Int} {g : Nat → Int → Int} (cs : CS F A S g) : OS F A S g :=
  ⟨cs.2.2.2.1.1, cs.2.2.2.1.2, fun k hl => ((cs.2.2.2.2 k hl.1.1 hl.1.2).2 hl.2).1.2⟩
/-- only the order, the carried ones and the count differ -/
def tf (A : Nat) (F F' : Nat → Int → Int) : Prop := ∀ b j, b ≠ A + 28 → b ≠ A + 29 → ¬ (b = A + 2 ∧ j = 3) → F' b j = F b j
theorem tf.rf {A : Nat} {F : Nat → Int → Int} : tf A F F := fun _ _ _ _ _ => rfl
theorem tf.tr {A : Nat} {F G H : Nat → Int → Int} (h1 : tf A F G) (h2 : tf A G H) : tf A F H := fun b j x y z => (h2 b j x y z).trans (h1 b j x y z)
theorem tf.up {A a : Nat} {F : Nat → Int → Int} {i v : Int} (h : a = A + 28 ∨ a = A + 29 ∨ (a = A + 2 ∧ i = 3)) : tf A F (up F a i v) := fun b j x y z => up_n (by
  rintro ⟨p, q⟩
  rcases h with e | e | e
  · exact x (p.trans e)
  · exact y (p.trans e)
  · exact z ⟨p.trans e.1, q.trans e.2⟩)
section TO
variable {h : Zm} {F : Nat → Int → Int} {A n M : Nat} {S : Int → Int} {g : Nat → Int → Int} {c0 : Int}
theorem s_startOfO {Q : Int → Zm → Prop} {x : Int} (kt : kT h A) (os : OS F A S g) (w : WF S g c0) (hl : live S x) (q : Q (pos g x) (zwI h F)) : mX5_startOf (A + 2) x (zwI h F) Q := by
  unfold mX5_startOf mX5_startOf_H2
  obtain ⟨⟨k1, k2, k3, k4⟩, ⟨k5, k6, k7⟩, k8⟩ := kt
  have wo := w.2.2.2
  have hc := wo.1.1
  have hlx := hl.1
  obtain ⟨⟨p0, p1⟩, p2⟩ := pos_ok wo hl
  refine lfp1_up (h := h) (pos g x) (fun i F' => F' = F ∧ 0 ≤ i) (fun X i F' hi hI hX => ?_) 0 F p0 ⟨rfl, Int.le_refl _⟩
  obtain ⟨rfl, i0⟩ := hI
  unfold mX5_startOf_B2
  have hli := wo.2.1 i i0 (by omega)
  have hli' := hli.1
  refine f_giv k1 os.1 fun _ => f_lt ⟨by omega, by omega⟩ ⟨by omega, by omega⟩ (fun z => f_gr k1 k3 (f_ldv k6 i0 (by omega) (os.2.1 i i0 z) fun _ => f_eq ⟨by omega, by omega⟩ ⟨by omega, by omega⟩ (fun e => ?_) (fun e => hX ?_ _ ⟨rfl, by omega⟩))) (fun z => by omega)
  · have := pos_u wo i0 z e
    rw [this] at q
    exact q
  · rcases Int.lt_or_le i (pos g x) with y | y
    · exact y
    · have : i = pos g x := by omega
      rw [this] at e
      exact absurd p2 e
theorem s_endOfO {Q : Int → Zm → Prop} {x : Int} (kt : kT h A) (os : OS F A S g) (w : WF S g c0) (hl : live S x) (q : Q (en g (pos g x)) (zwI h F)) : mX5_endOf (A + 2) x (zwI h F) Q := by
  unfold mX5_endOf
  obtain ⟨⟨k1, k2, k3, k4⟩, ⟨k5, k6, k7⟩, k8⟩ := id kt
  have wo := w.2.2.2
  have hc := wo.1.1
  have hlx := hl.1
  obtain ⟨⟨p0, p1⟩, p2⟩ := pos_ok wo hl
  have hd := gd_b w hl
  refine f_rc k1 (s_startOfO kt os w hl (f_rc k1 (s_nodeAt kt hlx.1 hlx.2 (f_giv (k8 x hlx.1 hlx.2).2 (os.2.2 x hl) fun _ => ?_))))
  unfold mX5_endOf_H17
  have hse := en_SE p0 p1
  refine lfp1_up (h := h) (en g (pos g x)) (fun i F' => F' = F ∧ pos g x < i) (fun X i F' hi hI hX => ?_) (pos g x + 1) F (by have := hse.1; omega) ⟨rfl, by omega⟩
  obtain ⟨rfl, i0⟩ := hI
  unfold mX5_endOf_B17
  have he := hse.1
  refine f_giv k1 os.1 fun _ => f_lt ⟨by omega, by omega⟩ ⟨by omega, by omega⟩ (fun z => ?_) (fun z => ?_)
  · have hli := wo.2.1 i (by omega) z
    have hdi := gd_b w hli
    refine f_gr k1 k3 (f_ldv k6 (by omega) (by omega) (os.2.1 i (by omega) z) fun _ => f_rc k1 (s_nodeAt kt hli.1.1 hli.1.2 (f_giv (k8 _ hli.1.1 hli.1.2).2 (os.2.2 _ hli) fun _ => f_le ⟨by omega, by omega⟩ ⟨by omega, by omega⟩ (fun e => ?_) (fun e => hX ?_ _ ⟨rfl, by omega⟩))))
    · have ei : i = en g (pos g x) := by
        rcases Int.lt_or_le i (en g (pos g x)) with y | y
        · have := hse.2.1 i i0 y
          rw [p2] at this
          omega
        · omega
      refine f_giv k1 os.1 fun _ => s_min ⟨by omega, by omega⟩ ⟨by omega, by omega⟩ ?_
      rw [show min i (gc g) = en g (pos g x) by omega]
      exact q
    · rcases Int.lt_or_le i (en g (pos g x)) with y | y
      · exact y
      · have ei : i = en g (pos g x) := by omega
        have := hse.2.2 (by omega)
        rw [p2, ← ei] at this
        omega
  · refine f_giv k1 os.1 fun _ => s_min ⟨by omega, by omega⟩ ⟨by omega, by omega⟩ ?_
    rw [show min i (gc g) = en g (pos g x) by omega]
    exact q
/-- what settle starts from -/
def PN (F : Nat → Int → Int) (A : Nat) (S : Int → Int) (g : Nat → Int → Int) : Prop := (F (A + 2) 3 = gc g ∧ ∀ t, 0 ≤ t → t < gc g → F (A + 28) t = go g t) ∧ (∀ k, live S k → k ≠ 0 → F (A + 4 + k.toNat) 1 = np S k) ∧ (∀ k, live S k → (0 ≤ F (A + 4 + k.toNat) 3 ∧ F (A + 4 + k.toNat) 3 ≤ 100) ∧ (-12 ≤ F (A + 4 + k.toNat) 4 ∧ F (A + 4 + k.toNat) 4 ≤ 12) ∧ (-12 ≤ F (A + 4 + k.toNat) 5 ∧ F (A + 4 + k.toNat) 5 ≤ 12)) ∧ (∀ k, live S k → nk S k = 0 → F (A + 4 + k.toNat) 3 = nf S k 0 ∧ F (A + 4 + k.toNat) 4 = nf S k 1 ∧ F (A + 4 + k.toNat) 5 = nf S k 2) ∧ (F (A + 4) 2 = 0 ∧ F (A + 4) 6 = 100 ∧ F (A + 4) 7 = 0 ∧ F (A + 4) 8 = 0)
/-- only what settle writes differs -/
def sf (A : Nat) (F F' : Nat → Int → Int) : Prop := ∀ b j, ¬ ((A + 5 ≤ b ∧ b ≤ A + 27) ∧ (j = 2 ∨ j = 6 ∨ j = 7 ∨ j = 8)) → F' b j = F b j
theorem s_settle {Q : Zm → Prop} (kt : kT h A) (w : WF S g c0) (pn : PN F A S g) (q : ∀ F', sf A F F' → (∀ k, live S k → F' (A + 4 + k.toNat) 2 = gd g k ∧ (nk S k = 0 → F' (A + 4 + k.toNat) 6 = gop g k ∧ F' (A + 4 + k.toNat) 7 = gox g k ∧ F' (A + 4 + k.toNat) 8 = goy g k)) → Q (zwI h F')) : mX5_settle (A + 2) (zwI h F) Q := by
  unfold mX5_settle mX5_settle_H2
  obtain ⟨⟨k1, k2, k3, k4⟩, ⟨k5, k6, k7⟩, k8⟩ := id kt
  have wo := w.2.2.2
  have hc := wo.1.1
  obtain ⟨pn1, pn2, pn3, pn4, pn5⟩ := pn
  refine lfp1_up (h := h) (gc g) (fun i F' => sf A F F' ∧ 1 ≤ i ∧ ∀ t, 0 ≤ t → t < i → F' (A + 4 + (go g t).toNat) 2 = gd g (go g t) ∧ (nk S (go g t) = 0 → F' (A + 4 + (go g t).toNat) 6 = gop g (go g t) ∧ F' (A + 4 + (go g t).toNat) 7 = gox g (go g t) ∧ F' (A + 4 + (go g t).toNat) 8 = goy g (go g t))) (fun X i F' hi hI hX => ?_) 1 F (by omega) ⟨fun _ _ _ => rfl, Int.le_refl _, fun t a b => ?_⟩
  · obtain ⟨f1, i0, i1⟩ := hI
    unfold mX5_settle_B2
    refine f_giv (v := gc g) k1 (by rw [f1 _ _ (by omega)]; exact pn1.1) fun _ => f_lt ⟨by omega, by omega⟩ ⟨by omega, by omega⟩ (fun z => ?_) (fun z => ?_)
    · have hl := wo.2.1 i (by omega) z
      have hne0 := o_pos wo i0 z
      have hp := w.2.2.1.2.1 _ hl hne0
      have ho := g_op w.2.1 w.2.2.1 hp.1 hp.2.1
      have hdp := gd_b w hp.1
      have hkn := (k8 _ hl.1.1 hl.1.2).2
      have hkp := (k8 _ hp.1.1.1 hp.1.1.2).2
      obtain ⟨⟨j0, j1⟩, j2, -, j4⟩ := par_pos w i0 z
      have hpar := i1 _ j0 j1
      rw [j2] at hpar
      obtain ⟨hp2, hp6⟩ := hpar
      have hp6 := hp6 hp.2.1
      have hbd := pn3 _ hl
      have hgr := pn4 _ hl
      have hwt := w.2.2.1.2.2.2 _ hl hne0
      have hl1 := hl.1
      have hp1 := hp.1.1
      have hk1 : 1 ≤ go g i := by omega
      have npk : np S (go g i) ≠ go g i := fun y => by rw [y] at j4; omega
      have nab : A + 4 + (np S (go g i)).toNat ≠ A + 4 + (go g i).toNat := by omega
      have e3 : ∀ j, j = 3 ∨ j = 4 ∨ j = 5 ∨ j = 1 → F' (A + 4 + (go g i).toNat) j = F (A + 4 + (go g i).toNat) j := fun j hj => f1 _ _ (by omega)
      have hm := mul_bd (a := gop g (np S (go g i))) (b := F (A + 4 + (go g i).toNat) 3) (A := 100) (B := 100) ho.1.1 ho.1.2 hbd.1.1 hbd.1.2
      refine f_gr k1 k3 (f_ldv k6 (by omega) (by omega) (v := go g i) (by rw [f1 _ _ (by omega)]; exact pn1.2 i (by omega) z) fun _ => f_rc k1 (s_nodeAt kt hl.1.1 hl.1.2 (f_giv (v := np S (go g i)) hkn (by rw [e3 1 (by omega)]; exact pn2 _ hl hne0) fun _ => f_rc k1 (s_nodeAt kt hp.1.1.1 hp.1.1.2 (f_rc hkn ?_)))))
      unfold mX2_settleBelow
      refine f_giv hkp hp2 fun _ => f_pi hkn ⟨by omega, by omega⟩ (f_giv (v := gop g (np S (go g i))) hkp (by rw [up_a nab]; exact hp6.1) fun _ => f_giv (v := F (A + 4 + (go g i).toNat) 3) hkn (by rw [up_n (by omega)]; exact e3 3 (by omega)) fun _ => ⟨⟨by omega, by omega⟩, ⟨by decide, by decide⟩, ?_⟩)
      rw [tdiv_pos hm.1]
      refine f_pi hkn ⟨by omega, by omega⟩ (f_giv (v := gox g (np S (go g i))) hkp (by rw [up_a nab, up_a nab]; exact hp6.2.1) fun _ => f_giv (v := F (A + 4 + (go g i).toNat) 4) hkn (by rw [up_n (by omega), up_n (by omega)]; exact e3 4 (by omega)) fun _ => f_pi hkn ⟨by omega, by omega⟩ (f_giv (v := goy g (np S (go g i))) hkp (by rw [up_a nab, up_a nab, up_a nab]; exact hp6.2.2) fun _ => f_giv (v := F (A + 4 + (go g i).toNat) 5) hkn (by rw [up_n (by omega), up_n (by omega), up_n (by omega)]; exact e3 5 (by omega)) fun _ => f_pi hkn ⟨by omega, by omega⟩ (hX z _ ⟨fun b j y => ?_, by omega, fun t a b => ?_⟩)))
      · rw [up_n (fun q => y ⟨by omega, by omega⟩), up_n (fun q => y ⟨by omega, by omega⟩), up_n (fun q => y ⟨by omega, by omega⟩), up_n (fun q => y ⟨by omega, by omega⟩)]
        exact f1 b j y
      · by_cases et : t = i
        · subst et
          refine ⟨?_, fun k0 => ⟨?_, ?_, ?_⟩⟩
          · rw [up_n (by omega), up_n (by omega), up_n (by omega), up_s]; omega
          · rw [up_n (by omega), up_n (by omega), up_s, (hwt k0).1, (hgr k0).1]
          · rw [up_n (by omega), up_s, (hwt k0).2.1, (hgr k0).2.1]
          · rw [up_s, (hwt k0).2.2, (hgr k0).2.2]
        · have hlt := wo.2.1 t a (by omega)
          have hne := wo.2.2.1 t i a (by omega) z
          have hlt1 := hlt.1
          have nad : A + 4 + (go g t).toNat ≠ A + 4 + (go g i).toNat := by omega
          have := i1 t a (by omega)
          rw [up_a nad, up_a nad, up_a nad, up_a nad, up_a nad, up_a nad, up_a nad, up_a nad, up_a nad, up_a nad, up_a nad, up_a nad, up_a nad, up_a nad, up_a nad, up_a nad]
          exact this
    · refine q F' f1 (fun k hl => ?_)
      obtain ⟨⟨p0, p1⟩, p2⟩ := pos_ok wo hl
      have := i1 _ p0 (by omega)
      rw [p2] at this
      exact this
  · have e0 : t = 0 := by omega
    subst e0
    rw [wo.1.2]
    have wt := w.2.2.1.1
    have e0 : A + 4 + (0 : Int).toNat = A + 4 := rfl
    rw [e0, wt.1, wt.2.1, wt.2.2.1, wt.2.2.2]
    exact ⟨pn5.1, fun _ => pn5.2⟩
end TO
