/-! new nodes come into the tree -/
/-- qs (L of them) come below P; d are the depths after it -/
def IN (S S' : Int → Int) (g : Nat → Int → Int) (P L : Int) (qs d : Int → Int) : Prop :=
  ((live S P ∧ nk S P = 0) ∧ 1 ≤ L ∧ gc g + L ≤ 24) ∧
  ((∀ t, 0 ≤ t → t < L → (0 ≤ qs t ∧ qs t < 24) ∧ ¬ live S (qs t)) ∧ ∀ t u, 0 ≤ t → t < u → u < L → qs t ≠ qs u) ∧
  (∀ k, live S' k ↔ live S k ∨ ∃ t, (0 ≤ t ∧ t < L) ∧ qs t = k) ∧
  (∀ k, live S k → nk S' k = nk S k ∧ np S' k = np S k ∧ no S' k = no S k ∧ d k = gd g k) ∧
  ((np S' (qs 0) = P ∧ d (qs 0) = gd g P + 1) ∧ ∀ k, live S k → k ≠ 0 → np S k = P → no S k < no S' (qs 0)) ∧
  (∀ t, 1 ≤ t → t < L → ∃ j, (0 ≤ j ∧ j < t) ∧ qs j = np S' (qs t) ∧ nk S' (qs j) = 0 ∧ d (qs t) = d (qs j) + 1 ∧ ∀ r, j < r → r < t → d (qs t) ≤ d (qs r)) ∧
  (∀ t u, 1 ≤ t → t < u → u < L → np S' (qs t) = np S' (qs u) → no S' (qs t) < no S' (qs u)) ∧
  (∀ t, 0 ≤ t → t < L → d (qs t) ≤ 4 ∧ 1 ≤ no S' (qs t) ∧ no S' (qs t) ≤ S' 8) ∧ S 8 ≤ S' 8
section INS
variable {S S' : Int → Int} {g : Nat → Int → Int} {c c' P L : Int} {qs d : Int → Int}
theorem WF_ins (w : WF S g c) (i : IN S S' g P L qs d) (wn' : WN S') (ws' : WS S' c') : WF S' (mkG S' d (oin g (en g (pos g P)) L qs) (gc g + L)) c' := by
  obtain ⟨⟨⟨hP, hP0⟩, hL, h24⟩, ⟨q1, q2⟩, lv, sm, ⟨⟨z1, z2⟩, z3⟩, qp, qo, qd, h8⟩ := i
  obtain ⟨-, wn, wt, wo⟩ := id w
  have hc := wo.1.1
  obtain ⟨⟨p0, p1⟩, p2⟩ := pos_ok wo hP
  have he := en_SE p0 p1
  generalize hE : en g (pos g P) = e at he
  have he1 := he.1
  have oi : ∀ t, oin g e L qs t = if t < e then go g t else if t < e + L then qs (t - e) else go g (t - L) := fun _ => rfl
  have hdp := w.2.2.1.2.2.1 P hP
  -- depths of the new ones
  have dq : ∀ n : Nat, ∀ t : Int, 0 ≤ t → t < L → t ≤ n → gd g P + 1 ≤ d (qs t) := by
    intro n
    induction n with
    | zero =>
      intro t a b c
      have : t = 0 := by omega
      rw [this]; omega
    | succ n ih =>
      intro t a b c
      by_cases e0 : t = 0
      · rw [e0]; omega
      · obtain ⟨j, ⟨j0, j1⟩, -, -, j2, -⟩ := qp t (by omega) b
        have := ih j j0 (by omega) (by omega)
        omega
  have dq : ∀ t : Int, 0 ≤ t → t < L → gd g P + 1 ≤ d (qs t) := fun t a b => dq t.toNat t a b (by omega)
  have lq : ∀ t, 0 ≤ t → t < L → live S' (qs t) := fun t a b => (lv _).mpr (Or.inr ⟨t, ⟨a, b⟩, rfl⟩)
  have lo : ∀ k, live S k → live S' k := fun k h => (lv k).mpr (Or.inl h)
  have d0 : d 0 = 0 := by rw [(sm 0 (live0 wn)).2.2.2]; exact wt.1.1
  have wt' : WT S' (mkG S' d (oin g e L qs) (gc g + L)) := by
    refine mkG_WT d0 (fun k hl hk => ?_) (fun k hl => ?_)
    · rcases (lv k).mp hl with h | ⟨t, ⟨t0, t1⟩, rfl⟩
      · have a := wt.2.1 k h hk
        have b := sm k h
        have b' := sm _ a.1
        rw [b.2.1, b.2.2.1, b.2.2.2, b'.1, b'.2.2.2]
        exact ⟨lo _ a.1, a.2.1, a.2.2.1, a.2.2.2.1, by omega⟩
      · have hd := qd t t0 t1
        by_cases e0 : t = 0
        · subst e0
          rw [z1, (sm P hP).1, (sm P hP).2.2.2]
          exact ⟨lo _ hP, hP0, ⟨z2, hd.1⟩, hd.2⟩
        · obtain ⟨j, ⟨j0, j1⟩, j2, j3, j4, -⟩ := qp t (by omega) t1
          rw [← j2]
          exact ⟨lq j j0 (by omega), j3, ⟨j4, hd.1⟩, hd.2⟩
    · rcases (lv k).mp hl with h | ⟨t, ⟨t0, t1⟩, rfl⟩
      · rw [(sm k h).2.2.2]; exact wt.2.2.1 k h
      · have := dq t t0 t1; omega
  refine ⟨ws', wn', wt', ?_⟩
  have gcm : gc (mkG S' d (oin g e L qs) (gc g + L)) = gc g + L := rfl
  have gom : ∀ t, go (mkG S' d (oin g e L qs) (gc g + L)) t = oin g e L qs t := fun _ => rfl
  have gdm : ∀ k, gd (mkG S' d (oin g e L qs) (gc g + L)) k = d k := fun _ => rfl
  have kind : ∀ t, 0 ≤ t → t < gc g + L → (∃ t', (0 ≤ t' ∧ t' < gc g) ∧ oin g e L qs t = go g t' ∧ ((t < e ∧ t' = t) ∨ (e + L ≤ t ∧ t' = t - L))) ∨ (∃ t', (0 ≤ t' ∧ t' < L) ∧ oin g e L qs t = qs t' ∧ t = e + t') := fun t a b => by
    rw [oi]
    by_cases y1 : t < e
    · exact Or.inl ⟨t, by omega, if_pos y1, Or.inl ⟨y1, rfl⟩⟩
    · by_cases y2 : t < e + L
      · exact Or.inr ⟨t - e, by omega, by rw [if_neg y1, if_pos y2], by omega⟩
      · exact Or.inl ⟨t - L, by omega, by rw [if_neg y1, if_neg y2], Or.inr ⟨by omega, rfl⟩⟩
  refine ⟨⟨?_, ?_⟩, fun t a b => ?_, fun t u a b f => ?_, fun k hl => ?_, fun t a b => ?_, fun t u a b f y => ?_⟩
  · rw [gcm]; omega
  · rw [gom, oi, if_pos (by omega)]; exact wo.1.2
  · rw [gom]
    rcases kind t a b with ⟨t', t1, t2, -⟩ | ⟨t', t1, t2, -⟩
    · rw [t2]; exact lo _ (wo.2.1 t' t1.1 t1.2)
    · rw [t2]; exact lq t' t1.1 t1.2
  · rw [gom, gom]
    rcases kind t a (by rw [gcm] at f; omega) with ⟨t', t1, t2, t3⟩ | ⟨t', t1, t2, t3⟩ <;> rcases kind u (by omega) f with ⟨u', u1, u2, u3⟩ | ⟨u', u1, u2, u3⟩
    · rw [t2, u2]; exact wo.2.2.1 t' u' t1.1 (by omega) u1.2
    · rw [t2, u2]; exact fun y => (q1 u' u1.1 u1.2).2 (by rw [← y]; exact wo.2.1 t' t1.1 t1.2)
    · rw [t2, u2]; exact fun y => (q1 t' t1.1 t1.2).2 (by rw [y]; exact wo.2.1 u' u1.1 u1.2)
    · rw [t2, u2]; exact q2 t' u' t1.1 (by omega) u1.2
  · rcases (lv k).mp hl with h | ⟨t, ⟨t0, t1⟩, rfl⟩
    · obtain ⟨⟨k0, k1⟩, k2⟩ := pos_ok wo h
      by_cases y : pos g k < e
      · exact ⟨pos g k, ⟨k0, by rw [gcm]; omega⟩, by rw [gom, oi, if_pos y]; exact k2⟩
      · exact ⟨pos g k + L, ⟨by omega, by rw [gcm]; omega⟩, by rw [gom, oi, if_neg (by omega), if_neg (by omega), show pos g k + L - L = pos g k by omega]; exact k2⟩
    · exact ⟨e + t, ⟨by omega, by rw [gcm]; omega⟩, by rw [gom, oi, if_neg (by omega), if_pos (by omega), show e + t - e = t by omega]⟩
  · rw [gom]
    simp only [gom, gdm]
    rcases kind t (by omega) b with ⟨t', t1, t2, t3⟩ | ⟨t', t1, t2, t3⟩
    · have hl := wo.2.1 t' t1.1 t1.2
      have i' : 1 ≤ t' := by omega
      obtain ⟨⟨j0, j1⟩, j2, j3, j5⟩ := par_pos w i' t1.2
      rw [t2, (sm _ hl).2.1, (sm _ hl).2.2.2]
      generalize pos g (np S (go g t')) = j at j0 j1 j2 j3
      have old : ∀ r, 0 ≤ r → r < gc g + L → (r < e ∨ e + L ≤ r) → ∀ r', r' = (if r < e then r else r - L) → j < r' → r' < t' → gd g (go g t') ≤ d (oin g e L qs r) := fun r r0 r1 r2 r' r3 r4 r5 => by
        have eo : oin g e L qs r = go g r' := by
          rw [oi, r3]
          by_cases y : r < e
          · rw [if_pos y, if_pos y]
          · rw [if_neg y, if_neg y, if_neg (by omega)]
        rw [eo, (sm _ (wo.2.1 r' (by omega) (by omega))).2.2.2]
        exact j3 r' r4 r5
      by_cases y : j < e
      · refine ⟨j, ⟨j0, by omega⟩, by rw [oi, if_pos y]; exact j2, fun r r0 r1 => ?_⟩
        by_cases y2 : r < e ∨ e + L ≤ r
        · exact old r (by omega) (by omega) y2 _ rfl (by split <;> omega) (by split <;> omega)
        · have y3 : oin g e L qs r = qs (r - e) := by rw [oi, if_neg (by omega), if_pos (by omega)]
          have d1 := dq (r - e) (by omega) (by omega)
          have te : e ≤ t' := by omega
          have d2 := he.2.2 (by omega)
          rw [p2] at d2
          rw [y3]
          by_cases y4 : t' = e
          · rw [y4]; omega
          · have := j3 e (by omega) (by omega); omega
      · refine ⟨j + L, ⟨by omega, by omega⟩, by rw [oi, if_neg (by omega), if_neg (by omega), show j + L - L = j by omega]; exact j2, fun r r0 r1 => ?_⟩
        exact old r (by omega) (by omega) (by omega) _ rfl (by rw [if_neg (by omega)]; omega) (by rw [if_neg (by omega)]; omega)
    · rw [t2]
      by_cases e0 : t' = 0
      · refine ⟨pos g P, ⟨p0, by omega⟩, by rw [oi, if_pos he1.1, p2, e0, z1], fun r r0 r1 => ?_⟩
        have y3 : oin g e L qs r = go g r := by rw [oi, if_pos (by omega)]
        rw [y3, e0, z2, (sm _ (wo.2.1 r (by omega) (by omega))).2.2.2]
        have := he.2.1 r r0 (by omega)
        rw [p2] at this
        omega
      · obtain ⟨j, ⟨j0, j1⟩, j2, -, -, j4⟩ := qp t' (by omega) t1.2
        refine ⟨e + j, ⟨by omega, by omega⟩, by rw [oi, if_neg (by omega), if_pos (by omega), show e + j - e = j by omega]; exact j2, fun r r0 r1 => ?_⟩
        have y3 : oin g e L qs r = qs (r - e) := by rw [oi, if_neg (by omega), if_pos (by omega)]
        rw [y3]
        exact j4 (r - e) (by omega) (by omega)
  · rw [gom, gom] at y ⊢
    have inq : ∀ t', 1 ≤ t' → t' < L → ¬ live S (np S' (qs t')) := fun t' a b h => by
      obtain ⟨j, ⟨j0, j1⟩, j2, -⟩ := qp t' a b
      rw [← j2] at h
      exact (q1 j j0 (by omega)).2 h
    rcases kind t (by omega) (by rw [gcm] at f; omega) with ⟨t', t1, t2, t3⟩ | ⟨t', t1, t2, t3⟩ <;> rcases kind u (by omega) f with ⟨u', u1, u2, u3⟩ | ⟨u', u1, u2, u3⟩
    · have h1 := wo.2.1 t' t1.1 t1.2
      have h2 := wo.2.1 u' u1.1 u1.2
      rw [t2, u2, (sm _ h1).2.1, (sm _ h2).2.1] at y
      rw [t2, u2, (sm _ h1).2.2.1, (sm _ h2).2.2.1]
      exact wo.2.2.2.2.2 t' u' (by omega) (by omega) u1.2 y
    · have h1 := wo.2.1 t' t1.1 t1.2
      have hn := o_pos wo (t := t') (by omega) t1.2
      have hp := (wt.2.1 _ h1 hn).1
      rw [t2, u2, (sm _ h1).2.1] at y
      rw [t2, u2, (sm _ h1).2.2.1]
      by_cases e0 : u' = 0
      · rw [e0, z1] at y
        rw [e0]
        exact z3 _ h1 hn y
      · exact absurd (by rw [← y]; exact hp) (inq u' (by omega) u1.2)
    · exfalso
      have h2 := wo.2.1 u' u1.1 u1.2
      have hn := o_pos wo (t := u') (by omega) u1.2
      have hp := (wt.2.1 _ h2 hn).1
      rw [t2, u2, (sm _ h2).2.1] at y
      by_cases e0 : t' = 0
      · rw [e0, z1] at y
        have sp := seg_par w p0 he (show 1 ≤ u' by omega) u1.2 (by omega)
        rw [← y] at sp
        have := sp.mpr ⟨Int.le_refl _, he1.1⟩
        omega
      · exact inq t' (by omega) t1.2 (by rw [y]; exact hp)
    · rw [t2, u2] at y ⊢
      by_cases e0 : t' = 0
      · exfalso
        rw [e0, z1] at y
        exact inq u' (by omega) u1.2 (by rw [← y]; exact hP)
      · exact qo t' u' (by omega) (by omega) u1.2 y
end INS
