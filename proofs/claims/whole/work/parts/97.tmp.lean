/-! the constructors: worlds and small classes -/
def fz (F : Nat → Int → Int) (N : Nat) : Nat → Int → Int := fun b j => if b = N then 0 else F b j
theorem fz_e {F : Nat → Int → Int} {N b : Nat} {j : Int} : fz F N b j = if b = N then 0 else F b j := rfl
theorem fz_s {F : Nat → Int → Int} {N : Nat} {j : Int} : fz F N N j = 0 := if_pos rfl
theorem fz_n {F : Nat → Int → Int} {N b : Nat} {j : Int} (e : b ≠ N) : fz F N b j = F b j := if_neg e
def sr (lo hi : Nat) (h h' : Zm) : Prop := ∀ a, lo ≤ a → a < hi → zkd h' a = zkd h a ∧ ∀ j, zR h' a j = zR h a j
def fl (lo hi : Nat) (F F' : Nat → Int → Int) : Prop := ∀ a j, lo ≤ a → a < hi → F' a j = F a j
theorem sr.rf {lo hi : Nat} {h : Zm} : sr lo hi h h := fun _ _ _ => ⟨rfl, fun _ => rfl⟩
theorem fl.rf {lo hi : Nat} {F : Nat → Int → Int} : fl lo hi F F := fun _ _ _ _ => rfl
theorem sr.tr {lo hi : Nat} {h h' h2 : Zm} (s : sr lo hi h h') (t : sr lo hi h' h2) : sr lo hi h h2 := fun a x y => ⟨(t a x y).1.trans (s a x y).1, fun j => ((t a x y).2 j).trans ((s a x y).2 j)⟩
theorem fl.tr {lo hi : Nat} {F G H : Nat → Int → Int} (s : fl lo hi F G) (t : fl lo hi G H) : fl lo hi F H := fun a j x y => (t a j x y).trans (s a j x y)
theorem sr.wd {lo hi lo' hi' : Nat} {h h' : Zm} (s : sr lo hi h h') (x : lo ≤ lo') (y : hi' ≤ hi) : sr lo' hi' h h' := fun a u v => s a (by omega) (by omega)
theorem fl.wd {lo hi lo' hi' : Nat} {F G : Nat → Int → Int} (s : fl lo hi F G) (x : lo ≤ lo') (y : hi' ≤ hi) : fl lo' hi' F G := fun a j u v => s a j (by omega) (by omega)
section ZZ
variable {h : Zm} {F : Nat → Int → Int} {t k a b v N d m : Nat} {i j : Int}
theorem kz_al : zkd (zal h t k) a = if a = h.1.2 then (t, k) else zkd h a := rfl
theorem kz_st : zkd (zsR h b j v) a = zkd h a := rfl
theorem rz_al : zR (zal h t k) a j = if a = h.1.2 then 0 else zR h a j := rfl
theorem rz_st : zR (zsR h b i v) a j = if a = b ∧ j = i then v else zR h a j := rfl
theorem nz_al : (zal h t k).1.2 = h.1.2 + 1 := rfl
theorem nz_st : (zsR h b i v).1.2 = h.1.2 := rfl
theorem f_nw {Q : Nat → Zm → Prop} (hn : h.1.2 = N) (q : Q N (zwI (zal h t k) (fz F N))) : cNw (zwI h F) t k Q := by
  subst hn
  exact q
theorem f_pr {Q : Zm → Prop} (hk : zkd h a = (d, m)) (q : Q (zwI (zsR h a j v) F)) : cPr (zwI h F) d a j v Q := ⟨by show (zkd h a).1 = d; rw [hk], q⟩
end ZZ
theorem kC.sl {h h' : Zm} {C : Nat} (s : sr C (C + 3) h h') (k : kC h C) : kC h' C := by
  obtain ⟨k1, k2, k3, k4, k5⟩ := k
  have s0 := s C (by omega) (by omega)
  exact ⟨s0.1.trans k1, (s0.2 0).trans k2, (s0.2 1).trans k3, (s (C + 1) (by omega) (by omega)).1.trans k4, (s (C + 2) (by omega) (by omega)).1.trans k5⟩
theorem kT.sl {h h' : Zm} {A : Nat} (s : sr (A + 2) (A + 30) h h') (k : kT h A) : kT h' A := by
  obtain ⟨⟨k1, k2, k3, k4⟩, ⟨k5, k6, k7⟩, k8⟩ := k
  have s0 := s (A + 2) (by omega) (by omega)
  exact ⟨⟨s0.1.trans k1, (s0.2 0).trans k2, (s0.2 1).trans k3, (s0.2 2).trans k4⟩, ⟨(s (A + 3) (by omega) (by omega)).1.trans k5, (s (A + 28) (by omega) (by omega)).1.trans k6, (s (A + 29) (by omega) (by omega)).1.trans k7⟩, fun k x y => ⟨((s (A + 3) (by omega) (by omega)).2 k).trans (k8 k x y).1, (s (A + 4 + k.toNat) (by omega) (by omega)).1.trans (k8 k x y).2⟩⟩
theorem kS.sl {h h' : Zm} {A : Nat} (s : sr A (A + 52) h h') (k : kS h A) : kS h' A := by
  obtain ⟨⟨k1, k2, k3, k4, k5, k6⟩, k7, k8⟩ := k
  have s0 := s A (by omega) (by omega)
  exact ⟨⟨s0.1.trans k1, (s0.2 5).trans k2, (s0.2 6).trans k3, (s0.2 7).trans k4, (s (A + 1) (by omega) (by omega)).1.trans k5, (s (A + 30) (by omega) (by omega)).1.trans k6⟩, k7.sl (s.wd (by omega) (by omega)), fun p x y => ⟨((s (A + 30) (by omega) (by omega)).2 p).trans (k8 p x y).1, (k8 p x y).2.sl (s.wd (by omega) (by omega))⟩⟩
theorem kP.sl {h h' : Zm} {P : Nat} (s : sr P (P + 4) h h') (k : kP h P) : kP h' P := by
  obtain ⟨⟨k1, k2, k3, k4⟩, k5, k6, k7⟩ := k
  have s0 := s P (by omega) (by omega)
  exact ⟨⟨s0.1.trans k1, (s0.2 0).trans k2, (s0.2 1).trans k3, (s0.2 2).trans k4⟩, (s (P + 1) (by omega) (by omega)).1.trans k5, (s (P + 2) (by omega) (by omega)).1.trans k6, (s (P + 3) (by omega) (by omega)).1.trans k7⟩
theorem kIk.sl {h h' : Zm} {T : Nat} (s : sr T (T + 146) h h') (k : kIk h T) : kIk h' T := by
  obtain ⟨⟨k1, k2, k3⟩, k4⟩ := k
  have s0 := s T (by omega) (by omega)
  exact ⟨⟨s0.1.trans k1, (s0.2 0).trans k2, (s (T + 1) (by omega) (by omega)).1.trans k3⟩, fun i x y => ⟨((s (T + 1) (by omega) (by omega)).2 i).trans (k4 i x y).1, (s (T + 2 + i.toNat) (by omega) (by omega)).1.trans (k4 i x y).2⟩⟩
section CN
variable {h : Zm} {F : Nat → Int → Int}
theorem s_i0 {Q : Zm → Prop} {C : Nat} (hk : zkd h C = (10, 3)) (hn : h.1.2 = C + 1) (q : ∀ h' F', h'.1.2 = C + 3 → sr 0 C h h' → fl 0 C F F' → kC h' C → F' C 2 = 2 → (F' (C + 1) 0 = 0 ∧ F' (C + 1) 1 = 255) → (F' (C + 2) 0 = 0 ∧ F' (C + 2) 1 = 255) → Q (zwI h' F')) : mX0_init C (zwI h F) Q := by
  unfold mX0_init
  refine f_rc hk (f_nw hn (f_pr (m := 3) (by (try simp only [kz_al, kz_st, rz_al, rz_st, nz_al, nz_st]); (repeat' first | rw [if_pos (by omega)] | rw [if_neg (by omega)]); all_goals first | rfl | assumption | omega) (f_nw (N := C + 2) (by (try simp only [kz_al, kz_st, rz_al, rz_st, nz_al, nz_st]); (repeat' first | rw [if_pos (by omega)] | rw [if_neg (by omega)]); all_goals first | rfl | assumption | omega) (f_pr (m := 3) (by (try simp only [kz_al, kz_st, rz_al, rz_st, nz_al, nz_st]); (repeat' first | rw [if_pos (by omega)] | rw [if_neg (by omega)]); all_goals first | rfl | assumption | omega) (f_gr (m := 3) (r := C + 1) (by (try simp only [kz_al, kz_st, rz_al, rz_st, nz_al, nz_st]); (repeat' first | rw [if_pos (by omega)] | rw [if_neg (by omega)]); all_goals first | rfl | assumption | omega) (by (try simp only [kz_al, kz_st, rz_al, rz_st, nz_al, nz_st]); (repeat' first | rw [if_pos (by omega)] | rw [if_neg (by omega)]); all_goals first | rfl | assumption | omega) (f_st (m := 8) (by (try simp only [kz_al, kz_st, rz_al, rz_st, nz_al, nz_st]); (repeat' first | rw [if_pos (by omega)] | rw [if_neg (by omega)]); all_goals first | rfl | assumption | omega) (by decide) (by decide) ⟨by decide, by decide⟩ (f_gr (m := 3) (r := C + 2) (by (try simp only [kz_al, kz_st, rz_al, rz_st, nz_al, nz_st]); (repeat' first | rw [if_pos (by omega)] | rw [if_neg (by omega)]); all_goals first | rfl | assumption | omega) (by (try simp only [kz_al, kz_st, rz_al, rz_st, nz_al, nz_st]); (repeat' first | rw [if_pos (by omega)] | rw [if_neg (by omega)]); all_goals first | rfl | assumption | omega) (f_st (m := 8) (by (try simp only [kz_al, kz_st, rz_al, rz_st, nz_al, nz_st]); (repeat' first | rw [if_pos (by omega)] | rw [if_neg (by omega)]); all_goals first | rfl | assumption | omega) (by decide) (by decide) ⟨by decide, by decide⟩ (f_pi (m := 3) (by (try simp only [kz_al, kz_st, rz_al, rz_st, nz_al, nz_st]); (repeat' first | rw [if_pos (by omega)] | rw [if_neg (by omega)]); all_goals first | rfl | assumption | omega) ⟨by decide, by decide⟩ (q _ _ (by (try simp only [kz_al, kz_st, rz_al, rz_st, nz_al, nz_st]); (repeat' first | rw [if_pos (by omega)] | rw [if_neg (by omega)]); all_goals first | rfl | assumption | omega) (fun a x y => ⟨(by (try simp only [kz_al, kz_st, rz_al, rz_st, nz_al, nz_st]); (repeat' first | rw [if_pos (by omega)] | rw [if_neg (by omega)]); all_goals first | rfl | assumption | omega), fun j => (by (try simp only [kz_al, kz_st, rz_al, rz_st, nz_al, nz_st]); (repeat' first | rw [if_pos (by omega)] | rw [if_neg (by omega)]); all_goals first | rfl | assumption | omega)⟩) (fun a j x y => (by (try simp only [up_e, fz_e, true_and]); (repeat' first | rw [if_pos (by omega)] | rw [if_neg (by omega)]); all_goals first | rfl | assumption | omega)) ⟨(by (try simp only [kz_al, kz_st, rz_al, rz_st, nz_al, nz_st]); (repeat' first | rw [if_pos (by omega)] | rw [if_neg (by omega)]); all_goals first | rfl | assumption | omega), (by (try simp only [kz_al, kz_st, rz_al, rz_st, nz_al, nz_st]); (repeat' first | rw [if_pos (by omega)] | rw [if_neg (by omega)]); all_goals first | rfl | assumption | omega), (by (try simp only [kz_al, kz_st, rz_al, rz_st, nz_al, nz_st]); (repeat' first | rw [if_pos (by omega)] | rw [if_neg (by omega)]); all_goals first | rfl | assumption | omega), (by (try simp only [kz_al, kz_st, rz_al, rz_st, nz_al, nz_st]); (repeat' first | rw [if_pos (by omega)] | rw [if_neg (by omega)]); all_goals first | rfl | assumption | omega), (by (try simp only [kz_al, kz_st, rz_al, rz_st, nz_al, nz_st]); (repeat' first | rw [if_pos (by omega)] | rw [if_neg (by omega)]); all_goals first | rfl | assumption | omega)⟩ (by (try simp only [up_e, fz_e, true_and]); (repeat' first | rw [if_pos (by omega)] | rw [if_neg (by omega)]); all_goals first | rfl | assumption | omega) ⟨(by (try simp only [up_e, fz_e, true_and]); (repeat' first | rw [if_pos (by omega)] | rw [if_neg (by omega)]); all_goals first | rfl | assumption | omega), (by (try simp only [up_e, fz_e, true_and]); (repeat' first | rw [if_pos (by omega)] | rw [if_neg (by omega)]); all_goals first | rfl | assumption | omega)⟩ ⟨(by (try simp only [up_e, fz_e, true_and]); (repeat' first | rw [if_pos (by omega)] | rw [if_neg (by omega)]); all_goals first | rfl | assumption | omega), (by (try simp only [up_e, fz_e, true_and]); (repeat' first | rw [if_pos (by omega)] | rw [if_neg (by omega)]); all_goals first | rfl | assumption | omega)⟩))))))))))
def iN0 (j : Int) : Int := if j = 0 ∨ j = 1 then -1 else if j = 11 ∨ j = 12 then 1 else 0
theorem s_i2 {Q : Zm → Prop} {a : Nat} (hk : zkd h a = (12, 18)) (hz : ∀ j, F a j = 0) (q : ∀ F', bu a F F' → (∀ j, F' a j = iN0 j) → Q (zwI h F')) : mX2_init a (zwI h F) Q := by
  unfold mX2_init
  refine f_rc hk (f_pi hk ⟨by decide, by decide⟩ (f_pi hk ⟨by decide, by decide⟩ (f_pi hk ⟨by decide, by decide⟩ (f_pi hk ⟨by decide, by decide⟩ (q _ (((bu.up.tr bu.up).tr bu.up).tr bu.up) fun j => ?_)))))
  have := hz j
  unfold iN0
  rcases (show j = 0 ∨ j = 1 ∨ j = 11 ∨ j = 12 ∨ (j ≠ 0 ∧ j ≠ 1 ∧ j ≠ 11 ∧ j ≠ 12) by omega) with rfl | rfl | rfl | rfl | z
  · exact (by (try simp only [up_e, fz_e, true_and]); (repeat' first | rw [if_pos (by omega)] | rw [if_neg (by omega)]); all_goals first | rfl | assumption | omega)
  · exact (by (try simp only [up_e, fz_e, true_and]); (repeat' first | rw [if_pos (by omega)] | rw [if_neg (by omega)]); all_goals first | rfl | assumption | omega)
  · exact (by (try simp only [up_e, fz_e, true_and]); (repeat' first | rw [if_pos (by omega)] | rw [if_neg (by omega)]); all_goals first | rfl | assumption | omega)
  · exact (by (try simp only [up_e, fz_e, true_and]); (repeat' first | rw [if_pos (by omega)] | rw [if_neg (by omega)]); all_goals first | rfl | assumption | omega)
  · exact (by (try simp only [up_e, fz_e, true_and]); (repeat' first | rw [if_pos (by omega)] | rw [if_neg (by omega)]); all_goals first | rfl | assumption | omega)
theorem s_i3 {Q : Zm → Prop} {P : Nat} (hk : zkd h P = (13, 3)) (hn : h.1.2 = P + 1) (q : ∀ h' F', h'.1.2 = P + 4 → sr 0 P h h' → fl 0 P F F' → kP h' P → Q (zwI h' F')) : mX3_init P (zwI h F) Q := by
  unfold mX3_init
  exact f_rc hk (f_nw hn (f_pr (m := 3) (by (try simp only [kz_al, kz_st, rz_al, rz_st, nz_al, nz_st]); (repeat' first | rw [if_pos (by omega)] | rw [if_neg (by omega)]); all_goals first | rfl | assumption | omega) (f_nw (N := P + 2) (by (try simp only [kz_al, kz_st, rz_al, rz_st, nz_al, nz_st]); (repeat' first | rw [if_pos (by omega)] | rw [if_neg (by omega)]); all_goals first | rfl | assumption | omega) (f_pr (m := 3) (by (try simp only [kz_al, kz_st, rz_al, rz_st, nz_al, nz_st]); (repeat' first | rw [if_pos (by omega)] | rw [if_neg (by omega)]); all_goals first | rfl | assumption | omega) (f_nw (N := P + 3) (by (try simp only [kz_al, kz_st, rz_al, rz_st, nz_al, nz_st]); (repeat' first | rw [if_pos (by omega)] | rw [if_neg (by omega)]); all_goals first | rfl | assumption | omega) (f_pr (m := 3) (by (try simp only [kz_al, kz_st, rz_al, rz_st, nz_al, nz_st]); (repeat' first | rw [if_pos (by omega)] | rw [if_neg (by omega)]); all_goals first | rfl | assumption | omega) (q _ _ (by (try simp only [kz_al, kz_st, rz_al, rz_st, nz_al, nz_st]); (repeat' first | rw [if_pos (by omega)] | rw [if_neg (by omega)]); all_goals first | rfl | assumption | omega) (fun a x y => ⟨(by (try simp only [kz_al, kz_st, rz_al, rz_st, nz_al, nz_st]); (repeat' first | rw [if_pos (by omega)] | rw [if_neg (by omega)]); all_goals first | rfl | assumption | omega), fun j => (by (try simp only [kz_al, kz_st, rz_al, rz_st, nz_al, nz_st]); (repeat' first | rw [if_pos (by omega)] | rw [if_neg (by omega)]); all_goals first | rfl | assumption | omega)⟩) (fun a j x y => (by (try simp only [up_e, fz_e, true_and]); (repeat' first | rw [if_pos (by omega)] | rw [if_neg (by omega)]); all_goals first | rfl | assumption | omega)) ⟨⟨(by (try simp only [kz_al, kz_st, rz_al, rz_st, nz_al, nz_st]); (repeat' first | rw [if_pos (by omega)] | rw [if_neg (by omega)]); all_goals first | rfl | assumption | omega), (by (try simp only [kz_al, kz_st, rz_al, rz_st, nz_al, nz_st]); (repeat' first | rw [if_pos (by omega)] | rw [if_neg (by omega)]); all_goals first | rfl | assumption | omega), (by (try simp only [kz_al, kz_st, rz_al, rz_st, nz_al, nz_st]); (repeat' first | rw [if_pos (by omega)] | rw [if_neg (by omega)]); all_goals first | rfl | assumption | omega), (by (try simp only [kz_al, kz_st, rz_al, rz_st, nz_al, nz_st]); (repeat' first | rw [if_pos (by omega)] | rw [if_neg (by omega)]); all_goals first | rfl | assumption | omega)⟩, (by (try simp only [kz_al, kz_st, rz_al, rz_st, nz_al, nz_st]); (repeat' first | rw [if_pos (by omega)] | rw [if_neg (by omega)]); all_goals first | rfl | assumption | omega), (by (try simp only [kz_al, kz_st, rz_al, rz_st, nz_al, nz_st]); (repeat' first | rw [if_pos (by omega)] | rw [if_neg (by omega)]); all_goals first | rfl | assumption | omega), (by (try simp only [kz_al, kz_st, rz_al, rz_st, nz_al, nz_st]); (repeat' first | rw [if_pos (by omega)] | rw [if_neg (by omega)]); all_goals first | rfl | assumption | omega)⟩)))))))
def fz2 (F : Nat → Int → Int) (N k : Nat) : Nat → Int → Int := fun b j => if N ≤ b ∧ b ≤ N + k then 0 else F b j
theorem kz_al2 {h : Zm} {n k b : Nat} : zkd (zal2 h n k) b = if b = h.1.2 then (7, n) else if h.1.2 < b ∧ b ≤ h.1.2 + n then (1, k) else zkd h b := rfl
theorem rz_al2 {h : Zm} {n k b : Nat} {j : Int} : zR (zal2 h n k) b j = if b = h.1.2 then (if j.toNat < n then h.1.2 + 1 + j.toNat else 0) else if h.1.2 < b ∧ b ≤ h.1.2 + n then 0 else zR h b j := rfl
theorem nz_al2 {h : Zm} {n k : Nat} : (zal2 h n k).1.2 = h.1.2 + 1 + n := rfl
theorem f_nw2 {Q : Nat → Zm → Prop} {n k N : Nat} (hn : h.1.2 = N) (q : Q N (zwI (zal2 h n k) (fz2 F N n))) : cNw2 (zwI h F) n k Q := by
  subst hn
  exact q
theorem s_i1 {Q : Zm → Prop} {T : Nat} (hk : zkd h T = (11, 2)) (hn : h.1.2 = T + 1) (q : ∀ h' F', h'.1.2 = T + 146 → sr 0 T h h' → fl 0 T F F' → kIk h' T → Q (zwI h' F')) : mX1_init T (zwI h F) Q := by
  unfold mX1_init
  have e2 : ∀ b, b ≠ T + 1 → (b < T + 1 ∨ T + 145 < b) → zkd (zal2 h 144 9) b = zkd h b ∧ ∀ j, zR (zal2 h 144 9) b j = zR h b j := fun b x y => ⟨by rw [kz_al2, if_neg (by omega), if_neg (by omega)], fun j => by rw [rz_al2, if_neg (by omega), if_neg (by omega)]⟩
  have eT := e2 T (by omega) (by omega)
  refine f_rc hk (f_nw2 hn (f_pr (m := 2) (eT.1.trans hk) (f_pi (m := 2) (eT.1.trans hk) ⟨by decide, by decide⟩ (q _ _ ?_ (fun a x y => ⟨(e2 a (by omega) (by omega)).1, fun j => ?_⟩) (fun a j x y => ?_) ⟨⟨eT.1.trans hk, ?_, ?_⟩, fun i x y => ⟨?_, ?_⟩⟩))))
  · rw [nz_st, nz_al2]; omega
  · rw [rz_st, if_neg (by omega)]; exact (e2 a (by omega) (by omega)).2 j
  · rw [up_a (by omega)]; exact if_neg (by omega)
  · rw [rz_st, if_pos ⟨rfl, rfl⟩]
  · rw [kz_st, kz_al2, if_pos hn.symm]
  · rw [rz_st, if_neg (by omega), rz_al2, if_pos hn.symm, if_pos (by omega)]; omega
  · rw [kz_st, kz_al2, if_neg (by omega), if_pos (by omega)]
/-- the first node, behind its constructor -/
def iN (k j : Int) : Int := if k = 0 ∧ j = 0 then 0 else if k = 0 ∧ (j = 3 ∨ j = 6) then 100 else iN0 j
theorem s_i5 {Q : Zm → Prop} {A : Nat} (hk : zkd h (A + 2) = (15, 4)) (hn : h.1.2 = A + 3) (q : ∀ h' F', h'.1.2 = A + 30 → sr 0 (A + 2) h h' → fl 0 (A + 2) F F' → kT h' A → F' (A + 2) 3 = 1 → (∀ j, F' (A + 28) j = 0) → (∀ k : Int, 0 ≤ k → k < 24 → ∀ j, F' (A + 4 + k.toNat) j = iN k j) → Q (zwI h' F')) : mX5_init (A + 2) (zwI h F) Q := by
  unfold mX5_init
  refine f_rc hk (f_nw hn (f_pr (m := 4) (by (try simp only [kz_al, kz_st, rz_al, rz_st, nz_al, nz_st]); (repeat' first | rw [if_pos (by omega)] | rw [if_neg (by omega)]); all_goals first | rfl | assumption | omega) ?_))
  unfold mX5_init_H15
  refine lfp1_i (fun i _ => (24 - i).toNat) (fun i m => ∃ h' F', m = zwI h' F' ∧ (0 ≤ i ∧ i ≤ 24) ∧ h'.1.2 = A + 4 + i.toNat ∧ sr 0 (A + 2) h h' ∧ fl 0 (A + 2) F F' ∧ (zkd h' (A + 2) = (15, 4) ∧ zR h' (A + 2) 0 = A + 3 ∧ zkd h' (A + 3) = (5, 24)) ∧ ∀ k : Int, 0 ≤ k → k < i → (zR h' (A + 3) k = A + 4 + k.toNat ∧ zkd h' (A + 4 + k.toNat) = (12, 18)) ∧ ∀ j, F' (A + 4 + k.toNat) j = iN0 j) (fun X i m hI hX => ?_) 0 _ ⟨_, _, rfl, by decide, (by (try simp only [kz_al, kz_st, rz_al, rz_st, nz_al, nz_st]); (repeat' first | rw [if_pos (by omega)] | rw [if_neg (by omega)]); all_goals first | rfl | assumption | omega), fun a x y => ⟨(by (try simp only [kz_al, kz_st, rz_al, rz_st, nz_al, nz_st]); (repeat' first | rw [if_pos (by omega)] | rw [if_neg (by omega)]); all_goals first | rfl | assumption | omega), fun j => (by (try simp only [kz_al, kz_st, rz_al, rz_st, nz_al, nz_st]); (repeat' first | rw [if_pos (by omega)] | rw [if_neg (by omega)]); all_goals first | rfl | assumption | omega)⟩, fun a j x y => (by (try simp only [up_e, fz_e, true_and]); (repeat' first | rw [if_pos (by omega)] | rw [if_neg (by omega)]); all_goals first | rfl | assumption | omega), ⟨(by (try simp only [kz_al, kz_st, rz_al, rz_st, nz_al, nz_st]); (repeat' first | rw [if_pos (by omega)] | rw [if_neg (by omega)]); all_goals first | rfl | assumption | omega), (by (try simp only [kz_al, kz_st, rz_al, rz_st, nz_al, nz_st]); (repeat' first | rw [if_pos (by omega)] | rw [if_neg (by omega)]); all_goals first | rfl | assumption | omega), (by (try simp only [kz_al, kz_st, rz_al, rz_st, nz_al, nz_st]); (repeat' first | rw [if_pos (by omega)] | rw [if_neg (by omega)]); all_goals first | rfl | assumption | omega)⟩, fun k x y => by omega⟩
  obtain ⟨h1, F1, rfl, hi, hn1, s1, f1, ⟨r1, r2, r3⟩, v1⟩ := hI
  unfold mX5_init_B15
  refine f_lt ⟨by omega, by omega⟩ ⟨by decide, by decide⟩ (fun z => ?_) (fun z => ?_)
  · refine f_gr r1 r2 (f_nw (N := A + 4 + i.toNat) hn1 (f_rc (m := 18) (by (try simp only [kz_al, kz_st, rz_al, rz_st, nz_al, nz_st]); (repeat' first | rw [if_pos (by omega)] | rw [if_neg (by omega)]); all_goals first | rfl | assumption | omega) (s_i2 (by (try simp only [kz_al, kz_st, rz_al, rz_st, nz_al, nz_st]); (repeat' first | rw [if_pos (by omega)] | rw [if_neg (by omega)]); all_goals first | rfl | assumption | omega) (fun j => (by (try simp only [up_e, fz_e, true_and]); (repeat' first | rw [if_pos (by omega)] | rw [if_neg (by omega)]); all_goals first | rfl | assumption | omega)) fun F2 b2 w2 => f_str (t := 5) (m := 24) (by (try simp only [kz_al, kz_st, rz_al, rz_st, nz_al, nz_st]); (repeat' first | rw [if_pos (by omega)] | rw [if_neg (by omega)]); all_goals first | rfl | assumption | omega) hi.1 z (by (try simp only [kz_al, kz_st, rz_al, rz_st, nz_al, nz_st]); (repeat' first | rw [if_pos (by omega)] | rw [if_neg (by omega)]); all_goals first | rfl | assumption | omega) (hX _ _ ⟨_, _, rfl, by omega, (by (try simp only [kz_al, kz_st, rz_al, rz_st, nz_al, nz_st]); (repeat' first | rw [if_pos (by omega)] | rw [if_neg (by omega)]); all_goals first | rfl | assumption | omega), fun a x y => ⟨?_, fun j => ?_⟩, fun a j x y => ?_, ⟨?_, ?_, ?_⟩, fun k x y => ⟨⟨?_, ?_⟩, fun j => ?_⟩⟩ (by omega)))))
    · rw [kz_st, kz_al, if_neg (by omega)]; exact (s1 a x y).1
    · rw [rz_st, if_neg (by omega), rz_al, if_neg (by omega)]; exact (s1 a x y).2 j
    · rw [b2 _ _ (by omega), fz_n (by omega)]; exact f1 a j x y
    · rw [kz_st, kz_al, if_neg (by omega)]; exact r1
    · rw [rz_st, if_neg (by omega), rz_al, if_neg (by omega)]; exact r2
    · rw [kz_st, kz_al, if_neg (by omega)]; exact r3
    · rw [rz_st]
      by_cases e : k = i
      · rw [if_pos ⟨rfl, e⟩, e]
      · rw [if_neg (by omega), rz_al, if_neg (by omega)]; exact (v1 k x (by omega)).1.1
    · rw [kz_st, kz_al]
      by_cases e : k = i
      · rw [if_pos (by omega)]
      · rw [if_neg (by omega)]; exact (v1 k x (by omega)).1.2
    · by_cases e : k = i
      · rw [e]; exact w2 j
      · rw [b2 _ _ (by omega), fz_n (by omega)]; exact (v1 k x (by omega)).2 j
  · have e24 : i = 24 := by omega
    subst e24
    have hn1 : h1.1.2 = A + 28 := by omega
    have v0 := (v1 0 (by decide) (by decide)).1
    have e0 : A + 4 + (0 : Int).toNat = A + 4 := rfl
    rw [e0] at v0
    obtain ⟨v01, v02⟩ := v0
    refine f_nw hn1 (f_pr (m := 4) (by (try simp only [kz_al, kz_st, rz_al, rz_st, nz_al, nz_st]); (repeat' first | rw [if_pos (by omega)] | rw [if_neg (by omega)]); all_goals first | rfl | assumption | omega) (f_nw (N := A + 29) (by (try simp only [kz_al, kz_st, rz_al, rz_st, nz_al, nz_st]); (repeat' first | rw [if_pos (by omega)] | rw [if_neg (by omega)]); all_goals first | rfl | assumption | omega) (f_pr (m := 4) (by (try simp only [kz_al, kz_st, rz_al, rz_st, nz_al, nz_st]); (repeat' first | rw [if_pos (by omega)] | rw [if_neg (by omega)]); all_goals first | rfl | assumption | omega) (f_pi (m := 4) (by (try simp only [kz_al, kz_st, rz_al, rz_st, nz_al, nz_st]); (repeat' first | rw [if_pos (by omega)] | rw [if_neg (by omega)]); all_goals first | rfl | assumption | omega) ⟨by decide, by decide⟩ (f_gr (m := 4) (r := A + 3) (by (try simp only [kz_al, kz_st, rz_al, rz_st, nz_al, nz_st]); (repeat' first | rw [if_pos (by omega)] | rw [if_neg (by omega)]); all_goals first | rfl | assumption | omega) (by (try simp only [kz_al, kz_st, rz_al, rz_st, nz_al, nz_st]); (repeat' first | rw [if_pos (by omega)] | rw [if_neg (by omega)]); all_goals first | rfl | assumption | omega) (f_ldr (m := 24) (r := A + 4) (by (try simp only [kz_al, kz_st, rz_al, rz_st, nz_al, nz_st]); (repeat' first | rw [if_pos (by omega)] | rw [if_neg (by omega)]); all_goals first | rfl | assumption | omega) (by decide) (by decide) (by decide) (by (try simp only [kz_al, kz_st, rz_al, rz_st, nz_al, nz_st]); (repeat' first | rw [if_pos (by omega)] | rw [if_neg (by omega)]); all_goals first | rfl | assumption | omega) (f_pi (m := 18) (by (try simp only [kz_al, kz_st, rz_al, rz_st, nz_al, nz_st]); (repeat' first | rw [if_pos (by omega)] | rw [if_neg (by omega)]); all_goals first | rfl | assumption | omega) ⟨by decide, by decide⟩ (f_gr (m := 4) (r := A + 3) (by (try simp only [kz_al, kz_st, rz_al, rz_st, nz_al, nz_st]); (repeat' first | rw [if_pos (by omega)] | rw [if_neg (by omega)]); all_goals first | rfl | assumption | omega) (by (try simp only [kz_al, kz_st, rz_al, rz_st, nz_al, nz_st]); (repeat' first | rw [if_pos (by omega)] | rw [if_neg (by omega)]); all_goals first | rfl | assumption | omega) (f_ldr (m := 24) (r := A + 4) (by (try simp only [kz_al, kz_st, rz_al, rz_st, nz_al, nz_st]); (repeat' first | rw [if_pos (by omega)] | rw [if_neg (by omega)]); all_goals first | rfl | assumption | omega) (by decide) (by decide) (by decide) (by (try simp only [kz_al, kz_st, rz_al, rz_st, nz_al, nz_st]); (repeat' first | rw [if_pos (by omega)] | rw [if_neg (by omega)]); all_goals first | rfl | assumption | omega) (f_pi (m := 18) (by (try simp only [kz_al, kz_st, rz_al, rz_st, nz_al, nz_st]); (repeat' first | rw [if_pos (by omega)] | rw [if_neg (by omega)]); all_goals first | rfl | assumption | omega) ⟨by decide, by decide⟩ (f_gr (m := 4) (r := A + 3) (by (try simp only [kz_al, kz_st, rz_al, rz_st, nz_al, nz_st]); (repeat' first | rw [if_pos (by omega)] | rw [if_neg (by omega)]); all_goals first | rfl | assumption | omega) (by (try simp only [kz_al, kz_st, rz_al, rz_st, nz_al, nz_st]); (repeat' first | rw [if_pos (by omega)] | rw [if_neg (by omega)]); all_goals first | rfl | assumption | omega) (f_ldr (m := 24) (r := A + 4) (by (try simp only [kz_al, kz_st, rz_al, rz_st, nz_al, nz_st]); (repeat' first | rw [if_pos (by omega)] | rw [if_neg (by omega)]); all_goals first | rfl | assumption | omega) (by decide) (by decide) (by decide) (by (try simp only [kz_al, kz_st, rz_al, rz_st, nz_al, nz_st]); (repeat' first | rw [if_pos (by omega)] | rw [if_neg (by omega)]); all_goals first | rfl | assumption | omega) (f_pi (m := 18) (by (try simp only [kz_al, kz_st, rz_al, rz_st, nz_al, nz_st]); (repeat' first | rw [if_pos (by omega)] | rw [if_neg (by omega)]); all_goals first | rfl | assumption | omega) ⟨by decide, by decide⟩ (q _ _ (by (try simp only [kz_al, kz_st, rz_al, rz_st, nz_al, nz_st]); (repeat' first | rw [if_pos (by omega)] | rw [if_neg (by omega)]); all_goals first | rfl | assumption | omega) (fun a x y => ⟨?_, fun j => ?_⟩) (fun a j x y => ?_) ⟨⟨(by (try simp only [kz_al, kz_st, rz_al, rz_st, nz_al, nz_st]); (repeat' first | rw [if_pos (by omega)] | rw [if_neg (by omega)]); all_goals first | rfl | assumption | omega), (by (try simp only [kz_al, kz_st, rz_al, rz_st, nz_al, nz_st]); (repeat' first | rw [if_pos (by omega)] | rw [if_neg (by omega)]); all_goals first | rfl | assumption | omega), (by (try simp only [kz_al, kz_st, rz_al, rz_st, nz_al, nz_st]); (repeat' first | rw [if_pos (by omega)] | rw [if_neg (by omega)]); all_goals first | rfl | assumption | omega), (by (try simp only [kz_al, kz_st, rz_al, rz_st, nz_al, nz_st]); (repeat' first | rw [if_pos (by omega)] | rw [if_neg (by omega)]); all_goals first | rfl | assumption | omega)⟩, ⟨(by (try simp only [kz_al, kz_st, rz_al, rz_st, nz_al, nz_st]); (repeat' first | rw [if_pos (by omega)] | rw [if_neg (by omega)]); all_goals first | rfl | assumption | omega), (by (try simp only [kz_al, kz_st, rz_al, rz_st, nz_al, nz_st]); (repeat' first | rw [if_pos (by omega)] | rw [if_neg (by omega)]); all_goals first | rfl | assumption | omega), (by (try simp only [kz_al, kz_st, rz_al, rz_st, nz_al, nz_st]); (repeat' first | rw [if_pos (by omega)] | rw [if_neg (by omega)]); all_goals first | rfl | assumption | omega)⟩, fun k x y => ⟨?_, ?_⟩⟩ (by (try simp only [up_e, fz_e, true_and]); (repeat' first | rw [if_pos (by omega)] | rw [if_neg (by omega)]); all_goals first | rfl | assumption | omega) (fun j => (by (try simp only [up_e, fz_e, true_and]); (repeat' first | rw [if_pos (by omega)] | rw [if_neg (by omega)]); all_goals first | rfl | assumption | omega)) (fun k x y j => ?_)))))))))))))))
    · have := (s1 a x y).1; exact (by (try simp only [kz_al, kz_st, rz_al, rz_st, nz_al, nz_st]); (repeat' first | rw [if_pos (by omega)] | rw [if_neg (by omega)]); all_goals first | rfl | assumption | omega)
    · have := (s1 a x y).2 j; exact (by (try simp only [kz_al, kz_st, rz_al, rz_st, nz_al, nz_st]); (repeat' first | rw [if_pos (by omega)] | rw [if_neg (by omega)]); all_goals first | rfl | assumption | omega)
    · have := f1 a j x y; exact (by (try simp only [up_e, fz_e, true_and]); (repeat' first | rw [if_pos (by omega)] | rw [if_neg (by omega)]); all_goals first | rfl | assumption | omega)
    · have := (v1 k x y).1.1; exact (by (try simp only [kz_al, kz_st, rz_al, rz_st, nz_al, nz_st]); (repeat' first | rw [if_pos (by omega)] | rw [if_neg (by omega)]); all_goals first | rfl | assumption | omega)
    · have := (v1 k x y).1.2; exact (by (try simp only [kz_al, kz_st, rz_al, rz_st, nz_al, nz_st]); (repeat' first | rw [if_pos (by omega)] | rw [if_neg (by omega)]); all_goals first | rfl | assumption | omega)
    · have w1 := (v1 k x y).2 j
      have e1 : iN k j = if k = 0 ∧ j = 0 then 0 else if k = 0 ∧ (j = 3 ∨ j = 6) then 100 else iN0 j := rfl
      rw [e1]
      by_cases k0 : k = 0 ∧ j = 0
      · obtain ⟨rfl, rfl⟩ := k0
        rw [e0]
        exact (by (try simp only [up_e, fz_e, true_and]); (repeat' first | rw [if_pos (by omega)] | rw [if_neg (by omega)]); all_goals first | rfl | assumption | omega)
      · rw [if_neg k0]
        by_cases k1 : k = 0 ∧ (j = 3 ∨ j = 6)
        · obtain ⟨rfl, rfl | rfl⟩ := k1
          · rw [e0]
            exact (by (try simp only [up_e, fz_e, true_and]); (repeat' first | rw [if_pos (by omega)] | rw [if_neg (by omega)]); all_goals first | rfl | assumption | omega)
          · rw [e0]
            exact (by (try simp only [up_e, fz_e, true_and]); (repeat' first | rw [if_pos (by omega)] | rw [if_neg (by omega)]); all_goals first | rfl | assumption | omega)
        · rw [if_neg k1]
          exact (by (try simp only [up_e, fz_e, true_and]); (repeat' first | rw [if_pos (by omega)] | rw [if_neg (by omega)]); all_goals first | rfl | assumption | omega)
end CN
/-! the start: the first state, and the class's constructor -/
def t0 (j : Int) : Int := if j = 0 then 8 else if j = 1 then 6 else if j = 2 then 50 else if j = 3 then 40 else if j = 4 then 700 else 0
def t1 (j : Int) : Int := if 5 ≤ j ∧ j < 8 then 1 else t0 j
def t2 (j : Int) : Int := if (9 ≤ j ∧ j < 128) ∧ (j - 9) % 17 = 0 then 2 else if (9 ≤ j ∧ j < 128) ∧ ((j - 9) % 17 = 3 ∨ (j - 9) % 17 = 4) then 255 else t1 j
def t3 (j : Int) : Int := if (128 ≤ j ∧ j < 368) ∧ (j - 128) % 10 = 0 then -1 else t2 j
def iS (j : Int) : Int := if j = 131 then 100 else if j = 129 then -1 else if j = 128 then 0 else t3 j
def iG (i : Nat) : Int → Int := if i = 1 then fun _ => 100 else if i = 5 then fun _ => 1 else fun _ => 0
theorem t0_z {j : Int} (h : 5 ≤ j) : t0 j = 0 := by
  unfold t0
  rw [if_neg (by omega), if_neg (by omega), if_neg (by omega), if_neg (by omega), if_neg (by omega)]
theorem iS_t {j : Int} (h : j < 128) : iS j = t2 j := by
  unfold iS t3
  rw [if_neg (by omega), if_neg (by omega), if_neg (by omega), if_neg (by omega)]
theorem iS_n {k j : Int} (h0 : 0 ≤ k) (h1 : k < 24) (h2 : 0 ≤ j) (h3 : j < 10) : iS (128 + 10 * k + j) = if j = 0 then (if k = 0 then 0 else -1) else if k = 0 ∧ j = 1 then -1 else if k = 0 ∧ j = 3 then 100 else 0 := by
  unfold iS t3 t2 t1
  by_cases k0 : k = 0
  · subst k0
    rcases (show j = 0 ∨ j = 1 ∨ j = 3 ∨ (j ≠ 0 ∧ j ≠ 1 ∧ j ≠ 3) by omega) with rfl | rfl | rfl | z
    · exact (by (try simp only [up_e, fz_e, true_and]); (repeat' first | rw [if_pos (by omega)] | rw [if_neg (by omega)]); all_goals first | rfl | assumption | omega)
    · exact (by (try simp only [up_e, fz_e, true_and]); (repeat' first | rw [if_pos (by omega)] | rw [if_neg (by omega)]); all_goals first | rfl | assumption | omega)
    · exact (by (try simp only [up_e, fz_e, true_and]); (repeat' first | rw [if_pos (by omega)] | rw [if_neg (by omega)]); all_goals first | rfl | assumption | omega)
    · rw [if_neg (by omega), if_neg (by omega), if_neg (by omega), if_neg (by omega), if_neg (by omega), if_neg (by omega), if_neg (by omega), if_neg (by omega), if_neg (by omega), if_neg (by omega)]
      exact t0_z (by omega)
  · by_cases j0 : j = 0
    · subst j0
      rw [if_neg (by omega), if_neg (by omega), if_neg (by omega), if_pos (by omega), if_pos rfl, if_neg k0]
    · rw [if_neg (by omega), if_neg (by omega), if_neg (by omega), if_neg (by omega), if_neg (by omega), if_neg (by omega), if_neg (by omega), if_neg (by omega), if_neg (by omega), if_neg (by omega)]
      exact t0_z (by omega)
theorem iS_k {k : Int} (h0 : 0 ≤ k) (h1 : k < 24) : nk iS k = if k = 0 then 0 else -1 := by
  have := iS_n h0 h1 (j := 0) (by decide) (by decide)
  rw [Int.add_zero, if_pos rfl] at this
  exact this
theorem iS_l {k : Int} : live iS k ↔ k = 0 := by
  constructor
  · intro h
    have h2 := h.2
    rw [iS_k h.1.1 h.1.2] at h2
    by_cases e : k = 0
    · exact e
    · rw [if_neg e] at h2
      exact absurd h2 (by decide)
  · intro e
    rw [e]
    exact ⟨⟨by decide, by decide⟩, by decide⟩
theorem iS_cc {p : Int} (h0 : 0 ≤ p) (h1 : p < 7) : cc iS p = 2 := by
  unfold cc
  rw [iS_t (by omega)]
  unfold t2
  exact if_pos (by omega)
theorem iS_cpq {p : Int} (h0 : 0 ≤ p) (h1 : p < 7) : (cp iS p 0 = 0 ∧ cp iS p 1 = 255) ∧ (cq iS p 0 = 0 ∧ cq iS p 1 = 255) := by
  unfold cp cq
  rw [iS_t (by omega), iS_t (by omega), iS_t (by omega), iS_t (by omega)]
  unfold t2 t1
  refine ⟨⟨?_, ?_⟩, ?_, ?_⟩
  · rw [if_neg (by omega), if_neg (by omega), if_neg (by omega)]; exact t0_z (by omega)
  · rw [if_neg (by omega), if_pos (by omega)]
  · rw [if_neg (by omega), if_neg (by omega), if_neg (by omega)]; exact t0_z (by omega)
  · rw [if_neg (by omega), if_pos (by omega)]
theorem iS_WF {c : Int} (hc : 0 ≤ c) : WF iS iG c := by
  have n0 : np iS 0 = -1 := by decide
  refine ⟨⟨⟨⟨by decide, by decide⟩, by decide, by decide, by decide⟩, fun j a b => Or.inr ?_, ⟨by decide, ?_⟩, fun p a b => ?_⟩, ⟨by decide, fun k a b => ?_, fun k h z => ?_, fun k h z => ?_, fun k h z => ?_, fun k h z => ?_⟩, ⟨⟨rfl, rfl, rfl, rfl⟩, fun k h z => absurd (iS_l.mp h) z, fun k h => Int.le_refl 0, fun k h z => absurd (iS_l.mp h) z⟩, ⟨⟨⟨by decide, by decide⟩, rfl⟩, fun t a b => iS_l.mpr rfl, fun i j a b d => ?_, fun k h => ⟨0, ⟨by decide, by decide⟩, (iS_l.mp h).symm⟩, fun i a b => ?_, fun i j a b d => ?_⟩⟩
  · rw [iS_t (by omega)]
    unfold t2 t1
    rw [if_neg (by omega), if_neg (by omega), if_pos (by omega)]
  · rw [show iS 8 = 0 by decide]; exact hc
  · obtain ⟨⟨p0, p1⟩, q0, q1⟩ := iS_cpq a b
    rw [iS_cc a b]
    have pp : ∀ i, 0 ≤ i → i < 2 → (i = 0 ∧ cp iS p i = 0 ∧ cq iS p i = 0) ∨ (i = 1 ∧ cp iS p i = 255 ∧ cq iS p i = 255) := fun i x y => by
      rcases (show i = 0 ∨ i = 1 by omega) with rfl | rfl
      · exact Or.inl ⟨rfl, p0, q0⟩
      · exact Or.inr ⟨rfl, p1, q1⟩
    refine ⟨⟨by decide, by decide⟩, p0, p1, fun i j x y z => ?_, fun i j x y z => ?_, fun i x y => ?_⟩
    · have := pp i x (by omega)
      have := pp j (by omega) z
      omega
    · have := pp i x (by omega)
      have := pp j (by omega) z
      omega
    · have := pp i x y
      omega
  · rw [iS_k a b]
    split <;> decide
  · rw [iS_l.mp h]; decide
  · rw [iS_l.mp h] at z
    exact absurd (by decide) z
  · rw [iS_l.mp h] at z
    exact absurd z (by decide)
  · rw [iS_l.mp h] at z
    exact absurd z (by decide)
  · have : gc iG = 1 := rfl
    omega
  · have : gc iG = 1 := rfl
    omega
  · have : gc iG = 1 := rfl
    omega
section C4
variable {h : Zm} {F : Nat → Int → Int}
theorem iN_NS {a : Nat} {k : Int} (h0 : 0 ≤ k) (h1 : k < 24) (v : ∀ j, F a j = iN k j) : NS F a iS iG k := by
  by_cases e : k = 0
  · subst e
    refine ⟨⟨?_, ?_, ?_, ?_⟩, fun _ => ⟨⟨?_, ?_⟩, fun _ => ⟨⟨?_, ?_, ?_⟩, ?_, ?_, ?_⟩, fun z => absurd (by decide) z, fun z => absurd z (by decide), fun z => absurd z (by decide)⟩⟩ <;> simp only [v] <;> decide
  · have ek := iS_k h0 h1
    rw [if_neg e] at ek
    have e2 : ∀ j, iN k j = iN0 j := fun j => by
      unfold iN
      rw [if_neg (fun y => e y.1), if_neg (fun y => e y.1)]
    refine ⟨?_, fun z => ?_⟩
    · rw [ek]
      simp only [v, e2]
      decide
    · rw [ek] at z
      exact absurd z (by decide)
theorem s_i4 {Q : Zm → Prop} {A : Nat} (hk : zkd h A = (14, 8)) (hn : h.1.2 = A + 1) (q : ∀ h' F', h'.1.2 = A + 52 → sr 0 A h h' → fl 0 A F F' → kS h' A → CS F' A iS iG → Q (zwI h' F')) : mX4_init A (zwI h F) Q := by
  unfold mX4_init
  refine f_rc hk (f_pi hk ⟨by decide, by decide⟩ (f_pi hk ⟨by decide, by decide⟩ (f_pi hk ⟨by decide, by decide⟩ (f_pi hk ⟨by decide, by decide⟩ (f_pi hk ⟨by decide, by decide⟩ (f_nw hn (f_pr (m := 8) (by (try simp only [kz_al, kz_st, rz_al, rz_st, nz_al, nz_st]); (repeat' first | rw [if_pos (by omega)] | rw [if_neg (by omega)]); all_goals first | rfl | assumption | omega) ?_)))))))
  unfold mX4_init_H44
  refine lfp1_up 3 (fun i F' => (0 ≤ i ∧ fl 0 A F F') ∧ (∀ j, 0 ≤ j → j < 5 → F' A j = iS j) ∧ ∀ j, 0 ≤ j → j < i → F' (A + 1) j = 1) (fun X i F1 hi hI hX => ?_) 0 _ (by decide) ⟨⟨by decide, fun a j x y => (by (try simp only [up_e, fz_e, true_and]); (repeat' first | rw [if_pos (by omega)] | rw [if_neg (by omega)]); all_goals first | rfl | assumption | omega)⟩, fun j x y => ?_, fun j x y => by omega⟩
  · obtain ⟨⟨i0, f1⟩, v1, w1⟩ := hI
    unfold mX4_init_B44
    refine f_lt ⟨by omega, by omega⟩ ⟨by decide, by decide⟩ (fun z => ?_) (fun z => ?_)
    · refine f_gr (m := 8) (r := A + 1) (by (try simp only [kz_al, kz_st, rz_al, rz_st, nz_al, nz_st]); (repeat' first | rw [if_pos (by omega)] | rw [if_neg (by omega)]); all_goals first | rfl | assumption | omega) (by (try simp only [kz_al, kz_st, rz_al, rz_st, nz_al, nz_st]); (repeat' first | rw [if_pos (by omega)] | rw [if_neg (by omega)]); all_goals first | rfl | assumption | omega) (f_st (m := 3) (by (try simp only [kz_al, kz_st, rz_al, rz_st, nz_al, nz_st]); (repeat' first | rw [if_pos (by omega)] | rw [if_neg (by omega)]); all_goals first | rfl | assumption | omega) i0 z ⟨by decide, by decide⟩ (hX z _ ⟨⟨by omega, fun a j x y => ?_⟩, fun j x y => ?_, fun j x y => ?_⟩))
      · rw [up_a (by omega)]; exact f1 a j x y
      · rw [up_a (by omega)]; exact v1 j x y
      · rw [up_e]
        by_cases e : j = i
        · rw [if_pos ⟨rfl, e⟩]
        · rw [if_neg (fun y => e y.2)]; exact w1 j x (by omega)
    · refine f_nw (N := A + 2) (by (try simp only [kz_al, kz_st, rz_al, rz_st, nz_al, nz_st]); (repeat' first | rw [if_pos (by omega)] | rw [if_neg (by omega)]); all_goals first | rfl | assumption | omega) (f_rc (m := 4) (by (try simp only [kz_al, kz_st, rz_al, rz_st, nz_al, nz_st]); (repeat' first | rw [if_pos (by omega)] | rw [if_neg (by omega)]); all_goals first | rfl | assumption | omega) (s_i5 (by (try simp only [kz_al, kz_st, rz_al, rz_st, nz_al, nz_st]); (repeat' first | rw [if_pos (by omega)] | rw [if_neg (by omega)]); all_goals first | rfl | assumption | omega) (by (try simp only [kz_al, kz_st, rz_al, rz_st, nz_al, nz_st]); (repeat' first | rw [if_pos (by omega)] | rw [if_neg (by omega)]); all_goals first | rfl | assumption | omega) fun h2 F2 n2 s2 f2 k2 c2 o2 v2 => ?_))
      have sA := s2 A (by omega) (by omega)
      have sA1 := s2 (A + 1) (by omega) (by omega)
      have a1 : zkd h2 A = (14, 8) := sA.1.trans (by (try simp only [kz_al, kz_st, rz_al, rz_st, nz_al, nz_st]); (repeat' first | rw [if_pos (by omega)] | rw [if_neg (by omega)]); all_goals first | rfl | assumption | omega)
      have a2 : zR h2 A 5 = A + 1 := (sA.2 5).trans (by (try simp only [kz_al, kz_st, rz_al, rz_st, nz_al, nz_st]); (repeat' first | rw [if_pos (by omega)] | rw [if_neg (by omega)]); all_goals first | rfl | assumption | omega)
      have a3 : zkd h2 (A + 1) = (1, 3) := sA1.1.trans (by (try simp only [kz_al, kz_st, rz_al, rz_st, nz_al, nz_st]); (repeat' first | rw [if_pos (by omega)] | rw [if_neg (by omega)]); all_goals first | rfl | assumption | omega)
      have s3 : sr 0 A h h2 := fun a x y => ⟨(s2 a x (by omega)).1.trans (by (try simp only [kz_al, kz_st, rz_al, rz_st, nz_al, nz_st]); (repeat' first | rw [if_pos (by omega)] | rw [if_neg (by omega)]); all_goals first | rfl | assumption | omega), fun j => ((s2 a x (by omega)).2 j).trans (by (try simp only [kz_al, kz_st, rz_al, rz_st, nz_al, nz_st]); (repeat' first | rw [if_pos (by omega)] | rw [if_neg (by omega)]); all_goals first | rfl | assumption | omega)⟩
      have f3 : fl 0 A F F2 := fun a j x y => by rw [f2 a j x (by omega), fz_n (by omega)]; exact f1 a j x y
      have v3 : ∀ j, 0 ≤ j → j < 5 → F2 A j = iS j := fun j x y => by rw [f2 A j (by omega) (by omega), fz_n (by omega)]; exact v1 j x y
      have w3 : ∀ j, 0 ≤ j → j < 3 → F2 (A + 1) j = 1 := fun j x y => by rw [f2 (A + 1) j (by omega) (by omega), fz_n (by omega)]; exact w1 j x (by omega)
      refine f_pr a1 (f_nw (N := A + 30) (by (try simp only [kz_al, kz_st, rz_al, rz_st, nz_al, nz_st]); (repeat' first | rw [if_pos (by omega)] | rw [if_neg (by omega)]); all_goals first | rfl | assumption | omega) (f_pr (m := 8) (by (try simp only [kz_al, kz_st, rz_al, rz_st, nz_al, nz_st]); (repeat' first | rw [if_pos (by omega)] | rw [if_neg (by omega)]); all_goals first | rfl | assumption | omega) ?_))
      unfold mX4_init_H84
      refine lfp1_i (fun i _ => (7 - i).toNat) (fun i m => ∃ h' F', m = zwI h' F' ∧ (0 ≤ i ∧ i ≤ 7) ∧ h'.1.2 = A + 31 + 3 * i.toNat ∧ (sr 0 A h2 h' ∧ sr (A + 1) (A + 30) h2 h') ∧ fl 0 (A + 30) F2 F' ∧ ((zkd h' A = (14, 8) ∧ zR h' A 5 = A + 1 ∧ zR h' A 6 = A + 2 ∧ zR h' A 7 = A + 30) ∧ zkd h' (A + 30) = (4, 7)) ∧ ∀ p : Int, 0 ≤ p → p < i → (zR h' (A + 30) p = A + 31 + 3 * p.toNat ∧ kC h' (A + 31 + 3 * p.toNat)) ∧ F' (A + 31 + 3 * p.toNat) 2 = 2 ∧ (F' (A + 31 + 3 * p.toNat + 1) 0 = 0 ∧ F' (A + 31 + 3 * p.toNat + 1) 1 = 255) ∧ (F' (A + 31 + 3 * p.toNat + 2) 0 = 0 ∧ F' (A + 31 + 3 * p.toNat + 2) 1 = 255)) (fun X2 i m hI hX2 => ?_) 0 _ ⟨_, _, rfl, by decide, (by (try simp only [kz_al, kz_st, rz_al, rz_st, nz_al, nz_st]); (repeat' first | rw [if_pos (by omega)] | rw [if_neg (by omega)]); all_goals first | rfl | assumption | omega), ⟨fun a x y => ⟨(by (try simp only [kz_al, kz_st, rz_al, rz_st, nz_al, nz_st]); (repeat' first | rw [if_pos (by omega)] | rw [if_neg (by omega)]); all_goals first | rfl | assumption | omega), fun j => (by (try simp only [kz_al, kz_st, rz_al, rz_st, nz_al, nz_st]); (repeat' first | rw [if_pos (by omega)] | rw [if_neg (by omega)]); all_goals first | rfl | assumption | omega)⟩, fun a x y => ⟨(by (try simp only [kz_al, kz_st, rz_al, rz_st, nz_al, nz_st]); (repeat' first | rw [if_pos (by omega)] | rw [if_neg (by omega)]); all_goals first | rfl | assumption | omega), fun j => (by (try simp only [kz_al, kz_st, rz_al, rz_st, nz_al, nz_st]); (repeat' first | rw [if_pos (by omega)] | rw [if_neg (by omega)]); all_goals first | rfl | assumption | omega)⟩⟩, fun a j x y => fz_n (by omega), ⟨⟨(by (try simp only [kz_al, kz_st, rz_al, rz_st, nz_al, nz_st]); (repeat' first | rw [if_pos (by omega)] | rw [if_neg (by omega)]); all_goals first | rfl | assumption | omega), (by (try simp only [kz_al, kz_st, rz_al, rz_st, nz_al, nz_st]); (repeat' first | rw [if_pos (by omega)] | rw [if_neg (by omega)]); all_goals first | rfl | assumption | omega), (by (try simp only [kz_al, kz_st, rz_al, rz_st, nz_al, nz_st]); (repeat' first | rw [if_pos (by omega)] | rw [if_neg (by omega)]); all_goals first | rfl | assumption | omega), (by (try simp only [kz_al, kz_st, rz_al, rz_st, nz_al, nz_st]); (repeat' first | rw [if_pos (by omega)] | rw [if_neg (by omega)]); all_goals first | rfl | assumption | omega)⟩, (by (try simp only [kz_al, kz_st, rz_al, rz_st, nz_al, nz_st]); (repeat' first | rw [if_pos (by omega)] | rw [if_neg (by omega)]); all_goals first | rfl | assumption | omega)⟩, fun p x y => by omega⟩
      obtain ⟨h4, F4, rfl, hi4, n4, ⟨s4, s5⟩, f4, ⟨⟨b1, b2, b3, b4⟩, b5⟩, v4⟩ := hI
      unfold mX4_init_B84
      refine f_lt ⟨by omega, by omega⟩ ⟨by decide, by decide⟩ (fun u => ?_) (fun u => ?_)
      · refine f_gr b1 b4 (f_nw (N := A + 31 + 3 * i.toNat) n4 (f_rc (m := 3) (by (try simp only [kz_al, kz_st, rz_al, rz_st, nz_al, nz_st]); (repeat' first | rw [if_pos (by omega)] | rw [if_neg (by omega)]); all_goals first | rfl | assumption | omega) (s_i0 (by (try simp only [kz_al, kz_st, rz_al, rz_st, nz_al, nz_st]); (repeat' first | rw [if_pos (by omega)] | rw [if_neg (by omega)]); all_goals first | rfl | assumption | omega) (by (try simp only [kz_al, kz_st, rz_al, rz_st, nz_al, nz_st]); (repeat' first | rw [if_pos (by omega)] | rw [if_neg (by omega)]); all_goals first | rfl | assumption | omega) fun h5 F5 n5 s6 f6 k6 c6 p6 q6 => ?_)))
        have l6 : ∀ a, a < A + 31 + 3 * i.toNat → zkd h5 a = zkd h4 a ∧ ∀ j, zR h5 a j = zR h4 a j := fun a x => ⟨(s6 a (by omega) x).1.trans (by (try simp only [kz_al, kz_st, rz_al, rz_st, nz_al, nz_st]); (repeat' first | rw [if_pos (by omega)] | rw [if_neg (by omega)]); all_goals first | rfl | assumption | omega), fun j => ((s6 a (by omega) x).2 j).trans (by (try simp only [kz_al, kz_st, rz_al, rz_st, nz_al, nz_st]); (repeat' first | rw [if_pos (by omega)] | rw [if_neg (by omega)]); all_goals first | rfl | assumption | omega)⟩
        have g6 : ∀ a j, a < A + 31 + 3 * i.toNat → F5 a j = F4 a j := fun a j x => by rw [f6 a j (by omega) x, fz_n (by omega)]
        have m5 : zkd h5 (A + 30) = (4, 7) := (l6 _ (by omega)).1.trans b5
        have zst : ∀ a j, a ≠ A + 30 → zR (zsR h5 (A + 30) i (A + 31 + 3 * i.toNat)) a j = zR h5 a j := fun a j x => by rw [rz_st, if_neg (fun y => x y.1)]
        refine f_str m5 hi4.1 u (by rw [k6.1]) (hX2 _ _ ⟨_, _, rfl, by omega, by rw [nz_st]; omega, ⟨fun a x y => ⟨?_, fun j => ?_⟩, fun a x y => ⟨?_, fun j => ?_⟩⟩, fun a j x y => ?_, ⟨⟨?_, ?_, ?_, ?_⟩, m5⟩, fun p x y => ⟨⟨?_, ?_⟩, ?_⟩⟩ (by omega))
        · rw [kz_st, (l6 a (by omega)).1]; exact (s4 a x y).1
        · rw [zst _ _ (by omega), (l6 a (by omega)).2]; exact (s4 a x y).2 j
        · rw [kz_st, (l6 a (by omega)).1]; exact (s5 a x y).1
        · rw [zst _ _ (by omega), (l6 a (by omega)).2]; exact (s5 a x y).2 j
        · rw [g6 _ _ (by omega)]; exact f4 a j x y
        · rw [kz_st, (l6 _ (by omega)).1]; exact b1
        · rw [zst _ _ (by omega), (l6 _ (by omega)).2]; exact b2
        · rw [zst _ _ (by omega), (l6 _ (by omega)).2]; exact b3
        · rw [zst _ _ (by omega), (l6 _ (by omega)).2]; exact b4
        · rw [rz_st]
          by_cases e : p = i
          · rw [if_pos ⟨rfl, e⟩, e]
          · rw [if_neg (fun y => e y.2), (l6 _ (by omega)).2]; exact (v4 p x (by omega)).1.1
        · by_cases e : p = i
          · rw [e]
            exact k6.sl fun a x y => ⟨rfl, fun j => zst a j (by omega)⟩
          · refine (v4 p x (by omega)).1.2.sl fun a x y => ⟨(l6 a (by omega)).1, fun j => ?_⟩
            rw [zst _ _ (by omega)]; exact (l6 a (by omega)).2 j
        · by_cases e : p = i
          · rw [e]
            exact ⟨c6, p6, q6⟩
          · rw [g6 _ _ (by omega), g6 _ _ (by omega), g6 _ _ (by omega), g6 _ _ (by omega), g6 _ _ (by omega)]
            exact (v4 p x (by omega)).2
      · have e7 : i = 7 := by omega
        subst e7
        refine q h4 F4 (by omega) (s3.tr s4) (f3.tr (f4.wd (by omega) (by omega))) ⟨⟨b1, b2, b3, b4, (s5 (A + 1) (by omega) (by omega)).1.trans a3, b5⟩, k2.sl (s5.wd (by omega) (by omega)), fun p x y => (v4 p x y).1⟩ ⟨fun j x y => ?_, fun j x y => ?_, fun p x y => ?_, ⟨?_, fun t x y => ?_⟩, fun k x y => ?_⟩
        · rw [f4 _ _ (by omega) (by omega)]; exact v3 j x y
        · rw [f4 _ _ (by omega) (by omega), w3 j x y, iS_t (by omega)]
          unfold t2 t1
          rw [if_neg (by omega), if_neg (by omega), if_pos (by omega)]
        · obtain ⟨-, c1, c2, c3⟩ := v4 p x y
          obtain ⟨⟨p0, p1⟩, q0, q1⟩ := iS_cpq x y
          rw [iS_cc x y]
          refine ⟨c1, fun i u v => ?_⟩
          rcases (show i = 0 ∨ i = 1 by omega) with rfl | rfl
          · rw [p0, q0]; exact ⟨c2.1, c3.1⟩
          · rw [p1, q1]; exact ⟨c2.2, c3.2⟩
        · rw [f4 _ _ (by omega) (by omega)]; exact c2
        · rw [f4 _ _ (by omega) (by omega)]; exact o2 t
        · exact iN_NS x y fun j => by rw [f4 _ _ (by omega) (by omega)]; exact v2 k x y j
  · rcases (show j = 0 ∨ j = 1 ∨ j = 2 ∨ j = 3 ∨ j = 4 by omega) with rfl | rfl | rfl | rfl | rfl
    · rw [show iS 0 = 8 by decide]; exact (by (try simp only [up_e, fz_e, true_and]); (repeat' first | rw [if_pos (by omega)] | rw [if_neg (by omega)]); all_goals first | rfl | assumption | omega)
    · rw [show iS 1 = 6 by decide]; exact (by (try simp only [up_e, fz_e, true_and]); (repeat' first | rw [if_pos (by omega)] | rw [if_neg (by omega)]); all_goals first | rfl | assumption | omega)
    · rw [show iS 2 = 50 by decide]; exact (by (try simp only [up_e, fz_e, true_and]); (repeat' first | rw [if_pos (by omega)] | rw [if_neg (by omega)]); all_goals first | rfl | assumption | omega)
    · rw [show iS 3 = 40 by decide]; exact (by (try simp only [up_e, fz_e, true_and]); (repeat' first | rw [if_pos (by omega)] | rw [if_neg (by omega)]); all_goals first | rfl | assumption | omega)
    · rw [show iS 4 = 700 by decide]; exact (by (try simp only [up_e, fz_e, true_and]); (repeat' first | rw [if_pos (by omega)] | rw [if_neg (by omega)]); all_goals first | rfl | assumption | omega)
end C4
/-! the class's constructor, and the reference's -/
def iD (j : Int) : Int := if j = 2 ∨ j = 3 then 1 else 0
theorem iD_ok : okD iD := ⟨⟨by decide, by decide⟩, ⟨by decide, by decide⟩, by decide, by decide, by decide⟩
def kD0 (h : Zm) (n : Nat) : Prop := (zkd h n = (16, 8) ∧ zR h n 0 = n + 1 ∧ zR h n 1 = n + 53 ∧ zR h n 3 = n + 314 ∧ zR h n 4 = n + 315 ∧ zR h n 5 = n + 319 ∧ zR h n 6 = n + 465 ∧ zR h n 7 = n + 466) ∧ (zkd h (n + 53) = (6, 5) ∧ zkd h (n + 465) = (1, 7) ∧ zkd h (n + 466) = (1, 101) ∧ zkd h (n + 314) = (12, 18)) ∧ kS h (n + 1) ∧ kP h (n + 315) ∧ kIk h (n + 319) ∧ ∀ i : Nat, i < 5 → kS h (n + 54 + 52 * i)
theorem kD0.sl {h h' : Zm} {n : Nat} (s : sr n (n + 467) h h') (k : kD0 h n) : kD0 h' n := by
  obtain ⟨⟨a1, a2, a3, a4, a5, a6, a7, a8⟩, ⟨b1, b2, b3, b4⟩, c1, c2, c3, c4⟩ := k
  have s0 := s n (by omega) (by omega)
  exact ⟨⟨s0.1.trans a1, (s0.2 0).trans a2, (s0.2 1).trans a3, (s0.2 3).trans a4, (s0.2 4).trans a5, (s0.2 5).trans a6, (s0.2 6).trans a7, (s0.2 7).trans a8⟩, ⟨(s _ (by omega) (by omega)).1.trans b1, (s _ (by omega) (by omega)).1.trans b2, (s _ (by omega) (by omega)).1.trans b3, (s _ (by omega) (by omega)).1.trans b4⟩, c1.sl (s.wd (by omega) (by omega)), c2.sl (s.wd (by omega) (by omega)), c3.sl (s.wd (by omega) (by omega)), fun i hi => (c4 i hi).sl (s.wd (by omega) (by omega))⟩
section C6
variable {h : Zm} {F : Nat → Int → Int}
theorem s_i6 {Q : Zm → Prop} {n : Nat} (hk : zkd h n = (16, 8)) (hn : h.1.2 = n + 1) (q : ∀ h' F', h'.1.2 = n + 467 → kD0 h' n → HB h' n (fun i => n + 54 + 52 * i.toNat) → F' n 2 = 0 → CS F' (n + 1) iS iG → DC F' n iD → Q (zwI h' F')) : mX6_init n (zwI h F) Q := by
  unfold mX6_init
  refine f_rc hk (f_nw hn (f_rc (m := 8) (by (try simp only [kz_al, kz_st, rz_al, rz_st, nz_al, nz_st]); (repeat' first | rw [if_pos (by omega)] | rw [if_neg (by omega)]); all_goals first | rfl | assumption | omega) (s_i4 (A := n + 1) (by (try simp only [kz_al, kz_st, rz_al, rz_st, nz_al, nz_st]); (repeat' first | rw [if_pos (by omega)] | rw [if_neg (by omega)]); all_goals first | rfl | assumption | omega) (by (try simp only [kz_al, kz_st, rz_al, rz_st, nz_al, nz_st]); (repeat' first | rw [if_pos (by omega)] | rw [if_neg (by omega)]); all_goals first | rfl | assumption | omega) fun h1 F1 n1 s1 f1 k1 c1 => ?_)))
  have a1 : zkd h1 n = (16, 8) := (s1 n (by omega) (by omega)).1.trans (by (try simp only [kz_al, kz_st, rz_al, rz_st, nz_al, nz_st]); (repeat' first | rw [if_pos (by omega)] | rw [if_neg (by omega)]); all_goals first | rfl | assumption | omega)
  refine f_pr a1 (f_nw (N := n + 53) (by (try simp only [kz_al, kz_st, rz_al, rz_st, nz_al, nz_st]); (repeat' first | rw [if_pos (by omega)] | rw [if_neg (by omega)]); all_goals first | rfl | assumption | omega) (f_pr (m := 8) (by (try simp only [kz_al, kz_st, rz_al, rz_st, nz_al, nz_st]); (repeat' first | rw [if_pos (by omega)] | rw [if_neg (by omega)]); all_goals first | rfl | assumption | omega) ?_))
  unfold mX6_init_H25
  refine lfp1_i (fun i _ => (5 - i).toNat) (fun i m => ∃ h' F', m = zwI h' F' ∧ (0 ≤ i ∧ i ≤ 5) ∧ h'.1.2 = n + 54 + 52 * i.toNat ∧ sr (n + 1) (n + 53) h1 h' ∧ fl (n + 1) (n + 53) F1 F' ∧ ((zkd h' n = (16, 8) ∧ zR h' n 0 = n + 1 ∧ zR h' n 1 = n + 53) ∧ zkd h' (n + 53) = (6, 5)) ∧ ∀ p : Int, 0 ≤ p → p < i → zR h' (n + 53) p = n + 54 + 52 * p.toNat ∧ kS h' (n + 54 + 52 * p.toNat)) (fun X i m hI hX => ?_) 0 _ ⟨_, _, rfl, by decide, (by (try simp only [kz_al, kz_st, rz_al, rz_st, nz_al, nz_st]); (repeat' first | rw [if_pos (by omega)] | rw [if_neg (by omega)]); all_goals first | rfl | assumption | omega), fun a x y => ⟨(by (try simp only [kz_al, kz_st, rz_al, rz_st, nz_al, nz_st]); (repeat' first | rw [if_pos (by omega)] | rw [if_neg (by omega)]); all_goals first | rfl | assumption | omega), fun j => (by (try simp only [kz_al, kz_st, rz_al, rz_st, nz_al, nz_st]); (repeat' first | rw [if_pos (by omega)] | rw [if_neg (by omega)]); all_goals first | rfl | assumption | omega)⟩, fun a j x y => fz_n (by omega), ⟨⟨(by (try simp only [kz_al, kz_st, rz_al, rz_st, nz_al, nz_st]); (repeat' first | rw [if_pos (by omega)] | rw [if_neg (by omega)]); all_goals first | rfl | assumption | omega), (by (try simp only [kz_al, kz_st, rz_al, rz_st, nz_al, nz_st]); (repeat' first | rw [if_pos (by omega)] | rw [if_neg (by omega)]); all_goals first | rfl | assumption | omega), (by (try simp only [kz_al, kz_st, rz_al, rz_st, nz_al, nz_st]); (repeat' first | rw [if_pos (by omega)] | rw [if_neg (by omega)]); all_goals first | rfl | assumption | omega)⟩, (by (try simp only [kz_al, kz_st, rz_al, rz_st, nz_al, nz_st]); (repeat' first | rw [if_pos (by omega)] | rw [if_neg (by omega)]); all_goals first | rfl | assumption | omega)⟩, fun p x y => by omega⟩
  obtain ⟨h2, F2, rfl, hi, n2, s2, f2, ⟨⟨b1, b2, b3⟩, b4⟩, v2⟩ := hI
  unfold mX6_init_B25
  refine f_lt ⟨by omega, by omega⟩ ⟨by decide, by decide⟩ (fun u => ?_) (fun u => ?_)
  · refine f_gr b1 b3 (f_nw (N := n + 54 + 52 * i.toNat) n2 (f_rc (m := 8) (by (try simp only [kz_al, kz_st, rz_al, rz_st, nz_al, nz_st]); (repeat' first | rw [if_pos (by omega)] | rw [if_neg (by omega)]); all_goals first | rfl | assumption | omega) (s_i4 (by (try simp only [kz_al, kz_st, rz_al, rz_st, nz_al, nz_st]); (repeat' first | rw [if_pos (by omega)] | rw [if_neg (by omega)]); all_goals first | rfl | assumption | omega) (by (try simp only [kz_al, kz_st, rz_al, rz_st, nz_al, nz_st]); (repeat' first | rw [if_pos (by omega)] | rw [if_neg (by omega)]); all_goals first | rfl | assumption | omega) fun h5 F5 n5 s6 f6 k6 _ => ?_)))
    have l6 : ∀ a, a < n + 54 + 52 * i.toNat → zkd h5 a = zkd h2 a ∧ ∀ j, zR h5 a j = zR h2 a j := fun a x => ⟨(s6 a (by omega) x).1.trans (by (try simp only [kz_al, kz_st, rz_al, rz_st, nz_al, nz_st]); (repeat' first | rw [if_pos (by omega)] | rw [if_neg (by omega)]); all_goals first | rfl | assumption | omega), fun j => ((s6 a (by omega) x).2 j).trans (by (try simp only [kz_al, kz_st, rz_al, rz_st, nz_al, nz_st]); (repeat' first | rw [if_pos (by omega)] | rw [if_neg (by omega)]); all_goals first | rfl | assumption | omega)⟩
    have m5 : zkd h5 (n + 53) = (6, 5) := (l6 _ (by omega)).1.trans b4
    have zst : ∀ a j, a ≠ n + 53 → zR (zsR h5 (n + 53) i (n + 54 + 52 * i.toNat)) a j = zR h5 a j := fun a j x => by rw [rz_st, if_neg (fun y => x y.1)]
    refine f_str m5 hi.1 u (by rw [k6.1.1]) (hX _ _ ⟨_, _, rfl, by omega, by rw [nz_st]; omega, fun a x y => ⟨?_, fun j => ?_⟩, fun a j x y => ?_, ⟨⟨?_, ?_, ?_⟩, m5⟩, fun p x y => ⟨?_, ?_⟩⟩ (by omega))
    · rw [kz_st, (l6 a (by omega)).1]; exact (s2 a x y).1
    · rw [zst _ _ (by omega), (l6 a (by omega)).2]; exact (s2 a x y).2 j
    · rw [f6 _ _ (by omega) (by omega), fz_n (by omega)]; exact f2 a j x y
    · rw [kz_st, (l6 _ (by omega)).1]; exact b1
    · rw [zst _ _ (by omega), (l6 _ (by omega)).2]; exact b2
    · rw [zst _ _ (by omega), (l6 _ (by omega)).2]; exact b3
    · rw [rz_st]
      by_cases e : p = i
      · rw [if_pos ⟨rfl, e⟩, e]
      · rw [if_neg (fun y => e y.2), (l6 _ (by omega)).2]; exact (v2 p x (by omega)).1
    · by_cases e : p = i
      · rw [e]
        exact k6.sl fun a x y => ⟨rfl, fun j => zst a j (by omega)⟩
      · refine (v2 p x (by omega)).2.sl fun a x y => ⟨(l6 a (by omega)).1, fun j => ?_⟩
        rw [zst _ _ (by omega)]; exact (l6 a (by omega)).2 j
  · have e5 : i = 5 := by omega
    subst e5
    have n3 : h2.1.2 = n + 314 := by omega
    refine f_pi b1 ⟨by decide, by decide⟩ (f_nw n3 (f_rc (m := 18) (by (try simp only [kz_al, kz_st, rz_al, rz_st, nz_al, nz_st]); (repeat' first | rw [if_pos (by omega)] | rw [if_neg (by omega)]); all_goals first | rfl | assumption | omega) (s_i2 (by (try simp only [kz_al, kz_st, rz_al, rz_st, nz_al, nz_st]); (repeat' first | rw [if_pos (by omega)] | rw [if_neg (by omega)]); all_goals first | rfl | assumption | omega) (fun j => fz_s) fun F3 g3 w3 => f_pr (m := 8) (by (try simp only [kz_al, kz_st, rz_al, rz_st, nz_al, nz_st]); (repeat' first | rw [if_pos (by omega)] | rw [if_neg (by omega)]); all_goals first | rfl | assumption | omega) (f_nw (N := n + 315) (by (try simp only [kz_al, kz_st, rz_al, rz_st, nz_al, nz_st]); (repeat' first | rw [if_pos (by omega)] | rw [if_neg (by omega)]); all_goals first | rfl | assumption | omega) (f_rc (m := 3) (by (try simp only [kz_al, kz_st, rz_al, rz_st, nz_al, nz_st]); (repeat' first | rw [if_pos (by omega)] | rw [if_neg (by omega)]); all_goals first | rfl | assumption | omega) (s_i3 (by (try simp only [kz_al, kz_st, rz_al, rz_st, nz_al, nz_st]); (repeat' first | rw [if_pos (by omega)] | rw [if_neg (by omega)]); all_goals first | rfl | assumption | omega) (by (try simp only [kz_al, kz_st, rz_al, rz_st, nz_al, nz_st]); (repeat' first | rw [if_pos (by omega)] | rw [if_neg (by omega)]); all_goals first | rfl | assumption | omega) fun h4 F4 n4 s4 f4 k4 => ?_))))))
    have l4 : sr (n + 1) (n + 314) h2 h4 := fun a x y => ⟨(s4 a (by omega) (by omega)).1.trans (by (try simp only [kz_al, kz_st, rz_al, rz_st, nz_al, nz_st]); (repeat' first | rw [if_pos (by omega)] | rw [if_neg (by omega)]); all_goals first | rfl | assumption | omega), fun j => ((s4 a (by omega) (by omega)).2 j).trans (by (try simp only [kz_al, kz_st, rz_al, rz_st, nz_al, nz_st]); (repeat' first | rw [if_pos (by omega)] | rw [if_neg (by omega)]); all_goals first | rfl | assumption | omega)⟩
    have s4n := s4 n (by omega) (by omega)
    have d4 : zkd h4 n = (16, 8) := s4n.1.trans (by (try simp only [kz_al, kz_st, rz_al, rz_st, nz_al, nz_st]); (repeat' first | rw [if_pos (by omega)] | rw [if_neg (by omega)]); all_goals first | rfl | assumption | omega)
    have r40 : zR h4 n 0 = n + 1 := (s4n.2 0).trans (by (try simp only [kz_al, kz_st, rz_al, rz_st, nz_al, nz_st]); (repeat' first | rw [if_pos (by omega)] | rw [if_neg (by omega)]); all_goals first | rfl | assumption | omega)
    have r41 : zR h4 n 1 = n + 53 := (s4n.2 1).trans (by (try simp only [kz_al, kz_st, rz_al, rz_st, nz_al, nz_st]); (repeat' first | rw [if_pos (by omega)] | rw [if_neg (by omega)]); all_goals first | rfl | assumption | omega)
    have r43 : zR h4 n 3 = n + 314 := (s4n.2 3).trans (by (try simp only [kz_al, kz_st, rz_al, rz_st, nz_al, nz_st]); (repeat' first | rw [if_pos (by omega)] | rw [if_neg (by omega)]); all_goals first | rfl | assumption | omega)
    have d431 : zkd h4 (n + 314) = (12, 18) := (s4 _ (by omega) (by omega)).1.trans (by (try simp only [kz_al, kz_st, rz_al, rz_st, nz_al, nz_st]); (repeat' first | rw [if_pos (by omega)] | rw [if_neg (by omega)]); all_goals first | rfl | assumption | omega)
    refine f_pr d4 (f_nw (N := n + 319) (by (try simp only [kz_al, kz_st, rz_al, rz_st, nz_al, nz_st]); (repeat' first | rw [if_pos (by omega)] | rw [if_neg (by omega)]); all_goals first | rfl | assumption | omega) (f_rc (m := 2) (by (try simp only [kz_al, kz_st, rz_al, rz_st, nz_al, nz_st]); (repeat' first | rw [if_pos (by omega)] | rw [if_neg (by omega)]); all_goals first | rfl | assumption | omega) (s_i1 (by (try simp only [kz_al, kz_st, rz_al, rz_st, nz_al, nz_st]); (repeat' first | rw [if_pos (by omega)] | rw [if_neg (by omega)]); all_goals first | rfl | assumption | omega) (by (try simp only [kz_al, kz_st, rz_al, rz_st, nz_al, nz_st]); (repeat' first | rw [if_pos (by omega)] | rw [if_neg (by omega)]); all_goals first | rfl | assumption | omega) fun h6 F6 n6 s6 f6 k6 => ?_)))
    have l6 : sr (n + 1) (n + 314) h2 h6 := l4.tr fun a x y => ⟨(s6 a (by omega) (by omega)).1.trans (by (try simp only [kz_al, kz_st, rz_al, rz_st, nz_al, nz_st]); (repeat' first | rw [if_pos (by omega)] | rw [if_neg (by omega)]); all_goals first | rfl | assumption | omega), fun j => ((s6 a (by omega) (by omega)).2 j).trans (by (try simp only [kz_al, kz_st, rz_al, rz_st, nz_al, nz_st]); (repeat' first | rw [if_pos (by omega)] | rw [if_neg (by omega)]); all_goals first | rfl | assumption | omega)⟩
    have s6n := s6 n (by omega) (by omega)
    have d6 : zkd h6 n = (16, 8) := s6n.1.trans (by (try simp only [kz_al, kz_st, rz_al, rz_st, nz_al, nz_st]); (repeat' first | rw [if_pos (by omega)] | rw [if_neg (by omega)]); all_goals first | rfl | assumption | omega)
    have r60 : zR h6 n 0 = n + 1 := (s6n.2 0).trans (by (try simp only [kz_al, kz_st, rz_al, rz_st, nz_al, nz_st]); (repeat' first | rw [if_pos (by omega)] | rw [if_neg (by omega)]); all_goals first | rfl | assumption | omega)
    have r61 : zR h6 n 1 = n + 53 := (s6n.2 1).trans (by (try simp only [kz_al, kz_st, rz_al, rz_st, nz_al, nz_st]); (repeat' first | rw [if_pos (by omega)] | rw [if_neg (by omega)]); all_goals first | rfl | assumption | omega)
    have r63 : zR h6 n 3 = n + 314 := (s6n.2 3).trans (by (try simp only [kz_al, kz_st, rz_al, rz_st, nz_al, nz_st]); (repeat' first | rw [if_pos (by omega)] | rw [if_neg (by omega)]); all_goals first | rfl | assumption | omega)
    have r64 : zR h6 n 4 = n + 315 := (s6n.2 4).trans (by (try simp only [kz_al, kz_st, rz_al, rz_st, nz_al, nz_st]); (repeat' first | rw [if_pos (by omega)] | rw [if_neg (by omega)]); all_goals first | rfl | assumption | omega)
    have d631 : zkd h6 (n + 314) = (12, 18) := (s6 _ (by omega) (by omega)).1.trans (by (try simp only [kz_al, kz_st, rz_al, rz_st, nz_al, nz_st]); (repeat' first | rw [if_pos (by omega)] | rw [if_neg (by omega)]); all_goals first | rfl | assumption | omega)
    have k46 : kP h6 (n + 315) := k4.sl fun a x y => ⟨(s6 a (by omega) (by omega)).1.trans (by (try simp only [kz_al, kz_st, rz_al, rz_st, nz_al, nz_st]); (repeat' first | rw [if_pos (by omega)] | rw [if_neg (by omega)]); all_goals first | rfl | assumption | omega), fun j => ((s6 a (by omega) (by omega)).2 j).trans (by (try simp only [kz_al, kz_st, rz_al, rz_st, nz_al, nz_st]); (repeat' first | rw [if_pos (by omega)] | rw [if_neg (by omega)]); all_goals first | rfl | assumption | omega)⟩
    have d653 : zkd h6 (n + 53) = (6, 5) := (l6 _ (by omega) (by omega)).1.trans b4
    refine f_pr d6 (f_nw (N := n + 465) (by (try simp only [kz_al, kz_st, rz_al, rz_st, nz_al, nz_st]); (repeat' first | rw [if_pos (by omega)] | rw [if_neg (by omega)]); all_goals first | rfl | assumption | omega) (f_pr (m := 8) (by (try simp only [kz_al, kz_st, rz_al, rz_st, nz_al, nz_st]); (repeat' first | rw [if_pos (by omega)] | rw [if_neg (by omega)]); all_goals first | rfl | assumption | omega) (f_nw (N := n + 466) (by (try simp only [kz_al, kz_st, rz_al, rz_st, nz_al, nz_st]); (repeat' first | rw [if_pos (by omega)] | rw [if_neg (by omega)]); all_goals first | rfl | assumption | omega) (f_pr (m := 8) (by (try simp only [kz_al, kz_st, rz_al, rz_st, nz_al, nz_st]); (repeat' first | rw [if_pos (by omega)] | rw [if_neg (by omega)]); all_goals first | rfl | assumption | omega) ?_))))
    have l7 : sr (n + 1) (n + 465) h6 (zsR (zal (zsR (zal (zsR h6 n 5 (n + 319)) 1 7) n 6 (n + 465)) 1 101) n 7 (n + 466)) := fun a x y => ⟨(by (try simp only [kz_al, kz_st, rz_al, rz_st, nz_al, nz_st]); (repeat' first | rw [if_pos (by omega)] | rw [if_neg (by omega)]); all_goals first | rfl | assumption | omega), fun j => (by (try simp only [kz_al, kz_st, rz_al, rz_st, nz_al, nz_st]); (repeat' first | rw [if_pos (by omega)] | rw [if_neg (by omega)]); all_goals first | rfl | assumption | omega)⟩
    have fA : ∀ a j, a ≠ n → a < n + 314 → F6 a j = F2 a j := fun a j x y => by rw [f6 _ _ (by omega) (by omega), fz_n (by omega), f4 _ _ (by omega) (by omega), fz_n (by omega), g3 _ _ (by omega), fz_n (by omega), up_a x]
    refine q _ _ (by (try simp only [kz_al, kz_st, rz_al, rz_st, nz_al, nz_st]); (repeat' first | rw [if_pos (by omega)] | rw [if_neg (by omega)]); all_goals first | rfl | assumption | omega) ⟨⟨(by (try simp only [kz_al, kz_st, rz_al, rz_st, nz_al, nz_st]); (repeat' first | rw [if_pos (by omega)] | rw [if_neg (by omega)]); all_goals first | rfl | assumption | omega), (by (try simp only [kz_al, kz_st, rz_al, rz_st, nz_al, nz_st]); (repeat' first | rw [if_pos (by omega)] | rw [if_neg (by omega)]); all_goals first | rfl | assumption | omega), (by (try simp only [kz_al, kz_st, rz_al, rz_st, nz_al, nz_st]); (repeat' first | rw [if_pos (by omega)] | rw [if_neg (by omega)]); all_goals first | rfl | assumption | omega), (by (try simp only [kz_al, kz_st, rz_al, rz_st, nz_al, nz_st]); (repeat' first | rw [if_pos (by omega)] | rw [if_neg (by omega)]); all_goals first | rfl | assumption | omega), (by (try simp only [kz_al, kz_st, rz_al, rz_st, nz_al, nz_st]); (repeat' first | rw [if_pos (by omega)] | rw [if_neg (by omega)]); all_goals first | rfl | assumption | omega), (by (try simp only [kz_al, kz_st, rz_al, rz_st, nz_al, nz_st]); (repeat' first | rw [if_pos (by omega)] | rw [if_neg (by omega)]); all_goals first | rfl | assumption | omega), (by (try simp only [kz_al, kz_st, rz_al, rz_st, nz_al, nz_st]); (repeat' first | rw [if_pos (by omega)] | rw [if_neg (by omega)]); all_goals first | rfl | assumption | omega), (by (try simp only [kz_al, kz_st, rz_al, rz_st, nz_al, nz_st]); (repeat' first | rw [if_pos (by omega)] | rw [if_neg (by omega)]); all_goals first | rfl | assumption | omega)⟩, ⟨(by (try simp only [kz_al, kz_st, rz_al, rz_st, nz_al, nz_st]); (repeat' first | rw [if_pos (by omega)] | rw [if_neg (by omega)]); all_goals first | rfl | assumption | omega), (by (try simp only [kz_al, kz_st, rz_al, rz_st, nz_al, nz_st]); (repeat' first | rw [if_pos (by omega)] | rw [if_neg (by omega)]); all_goals first | rfl | assumption | omega), (by (try simp only [kz_al, kz_st, rz_al, rz_st, nz_al, nz_st]); (repeat' first | rw [if_pos (by omega)] | rw [if_neg (by omega)]); all_goals first | rfl | assumption | omega), (by (try simp only [kz_al, kz_st, rz_al, rz_st, nz_al, nz_st]); (repeat' first | rw [if_pos (by omega)] | rw [if_neg (by omega)]); all_goals first | rfl | assumption | omega)⟩, k1.sl ((s2.tr (l6.wd (by omega) (by omega))).tr (l7.wd (by omega) (by omega))), k46.sl (l7.wd (by omega) (by omega)), k6.sl (l7.wd (by omega) (by omega)), fun i hi => ?_⟩ ⟨fun i x y => ⟨?_, i.toNat, by omega, rfl⟩, fun i k x y z => by omega⟩ ?_ (c1.keep fun b j x y => ?_) (fun j x y => ?_)
    · have := (v2 (i : Int) (by omega) (by omega)).2
      rw [Int.toNat_natCast] at this
      exact this.sl ((l6.wd (by omega) (by omega)).tr (l7.wd (by omega) (by omega)))
    · rw [(l7 _ (by omega) (by omega)).2, (l6 _ (by omega) (by omega)).2]
      exact (v2 i x y).1
    · rw [fz_n (by omega), fz_n (by omega), f6 _ _ (by omega) (by omega), fz_n (by omega), f4 _ _ (by omega) (by omega), fz_n (by omega), g3 _ _ (by omega), fz_n (by omega)]
      exact up_s _ _ _ _
    · rw [fz_n (by omega), fz_n (by omega), fA _ _ (by omega) (by omega)]
      exact f2 b j x (by omega)
    · rw [fz_n (by omega), fz_n (by omega), f6 _ _ (by omega) (by omega), fz_n (by omega), f4 _ _ (by omega) (by omega), fz_n (by omega), w3]
      unfold iN0 iD
      by_cases e : j = 2 ∨ j = 3
      · rw [if_neg (by omega), if_pos (by omega), if_pos e]
      · rw [if_neg (by omega), if_neg (by omega), if_neg e]
def kMp (h : Zm) (M : Nat) (L : List (Nat × Nat × Nat × Nat)) : Prop := zkd h M = (17, 20) ∧ ∀ e ∈ L, zR h M (e.1 : Int) = M + e.2.1 ∧ zkd h (M + e.2.1) = (e.2.2.1, e.2.2.2)
theorem s_mf {Q : Zm → Prop} {M : Nat} {L : List (Nat × Nat × Nat × Nat)} (e : Nat × Nat × Nat × Nat) (km : kMp h M L) (hn : h.1.2 = M + e.2.1) (h0 : 1 ≤ e.2.1) (hL : ∀ x ∈ L, x.1 ≠ e.1 ∧ x.2.1 < e.2.1) (z : ∀ a j, M < a → a < M + e.2.1 → F a j = 0) (q : ∀ h' F', h'.1.2 = M + (e.2.1 + 1) → sr 0 M h h' → fl 0 (M + 1) F F' → kMp h' M (e :: L) → (∀ a j, M < a → a < M + (e.2.1 + 1) → F' a j = 0) → Q (zwI h' F')) : cNw (zwI h F) e.2.2.1 e.2.2.2 fun r h1 => cPr h1 17 M (e.1 : Int) r Q := by
  obtain ⟨k0, k1⟩ := km
  refine f_nw hn (f_pr (m := 20) (by (try simp only [kz_al, kz_st, rz_al, rz_st, nz_al, nz_st]); (repeat' first | rw [if_pos (by omega)] | rw [if_neg (by omega)]); all_goals first | rfl | assumption | omega) (q _ _ (by rw [nz_st, nz_al]; omega) (fun a x y => ⟨(by (try simp only [kz_al, kz_st, rz_al, rz_st, nz_al, nz_st]); (repeat' first | rw [if_pos (by omega)] | rw [if_neg (by omega)]); all_goals first | rfl | assumption | omega), fun j => (by (try simp only [kz_al, kz_st, rz_al, rz_st, nz_al, nz_st]); (repeat' first | rw [if_pos (by omega)] | rw [if_neg (by omega)]); all_goals first | rfl | assumption | omega)⟩) (fun a j x y => fz_n (by omega)) ⟨(by (try simp only [kz_al, kz_st, rz_al, rz_st, nz_al, nz_st]); (repeat' first | rw [if_pos (by omega)] | rw [if_neg (by omega)]); all_goals first | rfl | assumption | omega), fun x hx => ?_⟩ (fun a j x y => ?_)))
  · rcases List.mem_cons.mp hx with hx | hx
    · rw [hx]
      exact ⟨(by (try simp only [kz_al, kz_st, rz_al, rz_st, nz_al, nz_st]); (repeat' first | rw [if_pos (by omega)] | rw [if_neg (by omega)]); all_goals first | rfl | assumption | omega), by rw [kz_st, kz_al, if_pos hn.symm]⟩
    · have hl := hL x hx
      have kx := k1 x hx
      refine ⟨?_, ?_⟩
      · rw [rz_st, if_neg (by omega), rz_al, if_neg (by omega)]; exact kx.1
      · rw [kz_st, kz_al, if_neg (by omega)]; exact kx.2
  · by_cases ea : a = M + e.2.1
    · rw [ea]; exact fz_s
    · rw [fz_n ea]; exact z a j x (by omega)
theorem s_i7 {Q : Zm → Prop} {M : Nat} (hk : zkd h M = (17, 20)) (hn : h.1.2 = M + 1) (hz : F M 3 = 0) (q : ∀ h' F', sr 0 M h h' → fl 0 M F F' → kM h' M → RS F' M iS → F' M 3 = 0 → DR F' M iD → Q (zwI h' F')) : mX7_init M (zwI h F) Q := by
  unfold mX7_init
  refine f_rc hk (s_mf (L := []) (0, 1, 1, 368) ⟨hk, fun x hx => by cases hx⟩ hn (by decide) (by decide) (fun a j x y => by have y : a < M + 1 := y; omega) fun h1 F1 n1 s1 f1 k1 z1 => s_mf (1, 2, 1, 1840) k1 n1 (by decide) (by decide) z1 fun h2 F2 n2 s2 f2 k2 z2 => s_mf (2, 3, 1, 368) k2 n2 (by decide) (by decide) z2 fun h3 F3 n3 s3 f3 k3 z3 => s_mf (4, 4, 1, 4) k3 n3 (by decide) (by decide) z3 fun h4 F4 n4 s4 f4 k4 z4 => s_mf (5, 5, 1, 3) k4 n4 (by decide) (by decide) z4 fun h5 F5 n5 s5 f5 k5 z5 => s_mf (6, 6, 2, 24) k5 n5 (by decide) (by decide) z5 fun h6 F6 n6 s6 f6 k6 z6 => s_mf (7, 7, 1, 256) k6 n6 (by decide) (by decide) z6 fun h7 F7 n7 s7 f7 k7 z7 => s_mf (8, 8, 1, 24) k7 n7 (by decide) (by decide) z7 fun h8 F8 n8 s8 f8 k8 z8 => s_mf (10, 9, 1, 24) k8 n8 (by decide) (by decide) z8 fun h9 F9 n9 s9 f9 k9 z9 => s_mf (11, 10, 1, 24) k9 n9 (by decide) (by decide) z9 fun h10 F10 n10 s10 f10 k10 z10 => s_mf (12, 11, 1, 24) k10 n10 (by decide) (by decide) z10 fun h11 F11 n11 s11 f11 k11 z11 => s_mf (13, 12, 1, 24) k11 n11 (by decide) (by decide) z11 fun h12 F12 n12 s12 f12 k12 z12 => s_mf (14, 13, 1, 6) k12 n12 (by decide) (by decide) z12 fun h13 F13 n13 s13 f13 k13 z13 => s_mf (15, 14, 1, 7) k13 n13 (by decide) (by decide) z13 fun h14 F14 n14 s14 f14 k14 z14 => s_mf (16, 15, 1, 7) k14 n14 (by decide) (by decide) z14 fun h15 F15 n15 s15 f15 k15 z15 => s_mf (17, 16, 1, 7) k15 n15 (by decide) (by decide) z15 fun h16 F16 n16 s16 f16 k16 z16 => s_mf (18, 17, 1, 1296) k16 n16 (by decide) (by decide) z16 fun h17 F17 n17 s17 f17 k17 z17 => ?_)
  have km : kM h17 M := ⟨k17.1, fun e he => k17.2 e (List.mem_reverse.mpr he)⟩
  have s18 : sr 0 M h h17 := (((((((((((((((s1.tr s2).tr s3).tr s4).tr s5).tr s6).tr s7).tr s8).tr s9).tr s10).tr s11).tr s12).tr s13).tr s14).tr s15).tr s16).tr s17
  have f18 : fl 0 (M + 1) F F17 := (((((((((((((((f1.tr f2).tr f3).tr f4).tr f5).tr f6).tr f7).tr f8).tr f9).tr f10).tr f11).tr f12).tr f13).tr f14).tr f15).tr f16).tr f17
  have zz : ∀ a j, M < a → a < M + 18 → F17 a j = 0 := z17
  have hz' : F17 M 3 = 0 := (f18 M 3 (by omega) (by omega)).trans hz
  have f19 : fl 0 M F F17 := f18.wd (by omega) (by omega)
  clear f18 z17 k17
  refine f_gr km.1 km.r0 (f_st km.k0 (by decide) (by decide) ⟨by decide, by decide⟩ (f_gr km.1 km.r0 (f_st km.k0 (by decide) (by decide) ⟨by decide, by decide⟩ (f_gr km.1 km.r0 (f_st km.k0 (by decide) (by decide) ⟨by decide, by decide⟩ (f_gr km.1 km.r0 (f_st km.k0 (by decide) (by decide) ⟨by decide, by decide⟩ (f_gr km.1 km.r0 (f_st km.k0 (by decide) (by decide) ⟨by decide, by decide⟩ ?_)))))))))
  unfold mX7_init_H186
  refine lfp1_up 3 (fun i F' => (0 ≤ i ∧ bu (M + 1) F17 F') ∧ ∀ j, 0 ≤ j → j < 368 → F' (M + 1) j = if 5 ≤ j ∧ j < 5 + i then 1 else t0 j) (fun X i F1 hi hI hX => ?_) 0 _ (by decide) ⟨⟨by decide, (((bu.up.tr bu.up).tr bu.up).tr bu.up).tr bu.up⟩, fun j x y => ?_⟩
  · obtain ⟨⟨i0, g1⟩, v1⟩ := hI
    unfold mX7_init_B186
    refine f_lt ⟨by omega, by omega⟩ ⟨by decide, by decide⟩ (fun u => f_gr km.1 km.r0 (f_st km.k0 (by omega) (by omega) ⟨by decide, by decide⟩ (hX u _ ⟨⟨by omega, g1.tr bu.up⟩, fun j x y => ?_⟩))) (fun u => ?_)
    · rw [up_e]
      by_cases e : j = 5 + i
      · rw [if_pos ⟨rfl, e⟩, if_pos (by omega)]
      · rw [if_neg (fun y => e y.2), v1 j x y]
        by_cases e2 : 5 ≤ j ∧ j < 5 + i
        · rw [if_pos e2, if_pos (by omega)]
        · rw [if_neg e2, if_neg (by omega)]
    · have v1 : ∀ j, 0 ≤ j → j < 368 → F1 (M + 1) j = t1 j := fun j x y => by
        rw [v1 j x y]
        unfold t1
        rw [show 5 + i = 8 by omega]
      unfold mX7_init_H208
      refine lfp1_up 7 (fun i F' => (0 ≤ i ∧ bu (M + 1) F17 F') ∧ ∀ j, 0 ≤ j → j < 368 → F' (M + 1) j = if (9 ≤ j ∧ j < 9 + 17 * i) ∧ (j - 9) % 17 = 0 then 2 else if (9 ≤ j ∧ j < 9 + 17 * i) ∧ ((j - 9) % 17 = 3 ∨ (j - 9) % 17 = 4) then 255 else t1 j) (fun X i F2 hi hI hX => ?_) 0 _ (by decide) ⟨⟨by decide, g1⟩, fun j x y => by rw [if_neg (by omega), if_neg (by omega)]; exact v1 j x y⟩
      obtain ⟨⟨i0, g2⟩, v2⟩ := hI
      unfold mX7_init_B208
      refine f_lt ⟨by omega, by omega⟩ ⟨by decide, by decide⟩ (fun u => f_gr km.1 km.r0 (f_st km.k0 (by omega) (by omega) ⟨by decide, by decide⟩ (f_gr km.1 km.r0 (f_st km.k0 (by omega) (by omega) ⟨by decide, by decide⟩ (f_gr km.1 km.r0 (f_st km.k0 (by omega) (by omega) ⟨by decide, by decide⟩ (hX u _ ⟨⟨by omega, ((g2.tr bu.up).tr bu.up).tr bu.up⟩, fun j x y => ?_⟩))))))) (fun u => ?_)
      · rw [up_e, up_e, up_e]
        by_cases e4 : j = 9 + 17 * i + 4
        · rw [if_pos ⟨rfl, e4⟩, if_neg (by omega), if_pos (by omega)]
        · rw [if_neg (fun y => e4 y.2)]
          by_cases e3 : j = 9 + 17 * i + 3
          · rw [if_pos ⟨rfl, e3⟩, if_neg (by omega), if_pos (by omega)]
          · rw [if_neg (fun y => e3 y.2)]
            by_cases e0 : j = 9 + 17 * i
            · rw [if_pos ⟨rfl, e0⟩, if_pos (by omega)]
            · rw [if_neg (fun y => e0 y.2), v2 j x y]
              by_cases c1 : (9 ≤ j ∧ j < 9 + 17 * i) ∧ (j - 9) % 17 = 0
              · rw [if_pos c1, if_pos (by omega)]
              · rw [if_neg c1, if_neg (show ¬ ((9 ≤ j ∧ j < 9 + 17 * (i + 1)) ∧ (j - 9) % 17 = 0) by omega)]
                by_cases c2 : (9 ≤ j ∧ j < 9 + 17 * i) ∧ ((j - 9) % 17 = 3 ∨ (j - 9) % 17 = 4)
                · rw [if_pos c2, if_pos (by omega)]
                · rw [if_neg c2, if_neg (show ¬ ((9 ≤ j ∧ j < 9 + 17 * (i + 1)) ∧ ((j - 9) % 17 = 3 ∨ (j - 9) % 17 = 4)) by omega)]
      · have v2 : ∀ j, 0 ≤ j → j < 368 → F2 (M + 1) j = t2 j := fun j x y => by
          rw [v2 j x y]
          unfold t2
          rw [show 9 + 17 * i = 128 by omega]
        unfold mX7_init_H269
        refine lfp1_up 24 (fun i F' => (0 ≤ i ∧ bu (M + 1) F17 F') ∧ ∀ j, 0 ≤ j → j < 368 → F' (M + 1) j = if (128 ≤ j ∧ j < 128 + 10 * i) ∧ (j - 128) % 10 = 0 then -1 else t2 j) (fun X i F3 hi hI hX => ?_) 0 _ (by decide) ⟨⟨by decide, g2⟩, fun j x y => by rw [if_neg (by omega)]; exact v2 j x y⟩
        obtain ⟨⟨i0, g3⟩, v3⟩ := hI
        unfold mX7_init_B269
        refine f_lt ⟨by omega, by omega⟩ ⟨by decide, by decide⟩ (fun u => f_gr km.1 km.r0 (f_st km.k0 (by omega) (by omega) ⟨by decide, by decide⟩ (hX u _ ⟨⟨by omega, g3.tr bu.up⟩, fun j x y => ?_⟩))) (fun u => ?_)
        · rw [up_e]
          by_cases e : j = 128 + 10 * i
          · rw [if_pos ⟨rfl, e⟩, if_pos (by omega)]
          · rw [if_neg (fun y => e y.2), v3 j x y]
            by_cases e2 : (128 ≤ j ∧ j < 128 + 10 * i) ∧ (j - 128) % 10 = 0
            · rw [if_pos e2, if_pos (by omega)]
            · rw [if_neg e2, if_neg (show ¬ ((128 ≤ j ∧ j < 128 + 10 * (i + 1)) ∧ (j - 128) % 10 = 0) by omega)]
        · have v3 : ∀ j, 0 ≤ j → j < 368 → F3 (M + 1) j = t3 j := fun j x y => by
            rw [v3 j x y]
            unfold t3
            rw [show 128 + 10 * i = 368 by omega]
          refine f_gr km.1 km.r0 (f_st km.k0 (by decide) (by decide) ⟨by decide, by decide⟩ (f_gr km.1 km.r0 (f_st km.k0 (by decide) (by decide) ⟨by decide, by decide⟩ (f_gr km.1 km.r0 (f_st km.k0 (by decide) (by decide) ⟨by decide, by decide⟩ (f_gr km.1 km.r4 (f_st km.k4 (by decide) (by decide) ⟨by decide, by decide⟩ (f_gr km.1 km.r4 (f_st km.k4 (by decide) (by decide) ⟨by decide, by decide⟩ (q _ _ s18 (fun a j x y => ?_) km (fun j x y => ?_) ?_ ⟨fun j x y => ?_, fun j x y => ?_⟩))))))))))
          · rw [up_a (by omega), up_a (by omega), up_a (by omega), up_a (by omega), up_a (by omega), g3 _ _ (by omega)]; exact f19 a j x y
          · rw [up_a (by omega), up_a (by omega), up_e, up_e, up_e]
            unfold iS
            by_cases e1 : j = 131
            · rw [if_pos ⟨rfl, e1⟩, if_pos e1]
            · rw [if_neg (fun y => e1 y.2), if_neg e1]
              by_cases e2 : j = 129
              · rw [if_pos ⟨rfl, e2⟩, if_pos e2]
              · rw [if_neg (fun y => e2 y.2), if_neg e2]
                by_cases e3 : j = 128
                · rw [if_pos ⟨rfl, e3⟩, if_pos e3]
                · rw [if_neg (fun y => e3 y.2), if_neg e3]
                  exact v3 j x y
          · rw [up_a (by omega), up_a (by omega), up_a (by omega), up_a (by omega), up_a (by omega), g3 _ _ (by omega)]; exact hz'
          · rw [up_e, up_e]
            unfold iD
            by_cases e1 : j = 3
            · rw [if_pos ⟨rfl, e1⟩, if_pos (Or.inr e1)]
            · rw [if_neg (fun y => e1 y.2)]
              by_cases e2 : j = 2
              · rw [if_pos ⟨rfl, e2⟩, if_pos (Or.inl e2)]
              · rw [if_neg (fun y => e2 y.2), if_neg (by omega), up_a (by omega), up_a (by omega), up_a (by omega), g3 _ _ (by omega)]
                exact zz _ _ (by omega) (by omega)
          · rw [up_a (by omega), up_a (by omega), up_a (by omega), up_a (by omega), up_a (by omega), g3 _ _ (by omega), zz _ _ (by omega) (by omega)]
            exact (if_neg (by omega)).symm
  · have zj := zz (M + 1) j (by omega) (by omega)
    rw [if_neg (by omega)]
    unfold t0
    rw [up_e, up_e, up_e, up_e, up_e]
    rcases (show j = 0 ∨ j = 1 ∨ j = 2 ∨ j = 3 ∨ j = 4 ∨ 4 < j by omega) with rfl | rfl | rfl | rfl | rfl | z
    · exact (by (try simp only [up_e, fz_e, true_and]); (repeat' first | rw [if_pos (by omega)] | rw [if_neg (by omega)]); all_goals first | rfl | assumption | omega)
    · exact (by (try simp only [up_e, fz_e, true_and]); (repeat' first | rw [if_pos (by omega)] | rw [if_neg (by omega)]); all_goals first | rfl | assumption | omega)
    · exact (by (try simp only [up_e, fz_e, true_and]); (repeat' first | rw [if_pos (by omega)] | rw [if_neg (by omega)]); all_goals first | rfl | assumption | omega)
    · exact (by (try simp only [up_e, fz_e, true_and]); (repeat' first | rw [if_pos (by omega)] | rw [if_neg (by omega)]); all_goals first | rfl | assumption | omega)
    · exact (by (try simp only [up_e, fz_e, true_and]); (repeat' first | rw [if_pos (by omega)] | rw [if_neg (by omega)]); all_goals first | rfl | assumption | omega)
    · exact (by (try simp only [up_e, fz_e, true_and]); (repeat' first | rw [if_pos (by omega)] | rw [if_neg (by omega)]); all_goals first | rfl | assumption | omega)
end C6
