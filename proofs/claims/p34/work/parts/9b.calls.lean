/-! both sides, a call each -/
def LX (n : Nat) (c : Int) (S : Int → Int) (g : Nat → Int → Int) (Hs : Int → Int → Int) (Hg : Int → Nat → Int → Int) (b : Int → Nat) (k : Int) (D : Int → Int) (h : Zm) (F : Nat → Int → Int) : Prop := CI h F n S g Hs Hg b k ∧ RI F (n + 467) S Hs k ∧ WF S g c ∧ (∀ i, 0 ≤ i → i < k → WF (Hs i) (Hg i) c) ∧ okD D ∧ DC F n D ∧ DR F (n + 467) D
section LL
variable {n L : Nat} {c x3 : Int} {sc : Int → Int} {S S' D : Int → Int} {g g' : Nat → Int → Int} {Hs : Int → Int → Int} {Hg : Int → Nat → Int → Int} {b b1 : Int → Nat} {k : Int} {h h1 : Zm} {F F1 F2 : Nat → Int → Int} {A B : Zm → Prop}
theorem CI.kp (e : ∀ a j, n ≤ a → a < n + 314 → F1 a j = F a j) (ci : CI h F n S g Hs Hg b k) : CI h F1 n S g Hs Hg b k := by
  obtain ⟨kd, hb, hk, cs, hi⟩ := ci
  refine ⟨kd, hb, ⟨by rw [e _ _ (by omega) (by omega)]; exact hk.1, hk.2⟩, cs.keep fun b j x y => e _ _ (by omega) (by omega), fun i x y => ?_⟩
  obtain ⟨z, j, j1, j2⟩ := hb.1 i x (by omega)
  exact (hi i x y).keep fun a j u v => e _ _ (by omega) (by omega)
theorem RI.kp {M : Nat} (e0 : F1 M 3 = F M 3) (e : ∀ a j, a = M + 1 ∨ a = M + 2 → F1 a j = F a j) (ri : RI F M S Hs k) : RI F1 M S Hs k := by
  obtain ⟨r1, r2, r3⟩ := ri
  exact ⟨fun j x y => by rw [e _ _ (Or.inl rfl)]; exact r1 j x y, ⟨e0.trans r2.1, r2.2⟩, fun i j a c x y => by rw [e _ _ (Or.inr rfl)]; exact r3 i j a c x y⟩
theorem DC.kp (e : ∀ j, F1 (n + 314) j = F (n + 314) j) (d : DC F n D) : DC F1 n D := fun j x y => (e _).trans (d j x y)
theorem DR.kp {M : Nat} (e : ∀ a j, a = M + 4 ∨ a = M + 5 → F1 a j = F a j) (d : DR F M D) : DR F1 M D := ⟨fun j x y => (e _ _ (Or.inl rfl)).trans (d.1 j x y), fun j x y => (e _ _ (Or.inr rfl)).trans (d.2 j x y)⟩
theorem LX.up (l : LX n c S g Hs Hg b k D h F) : LX n (c + 1) S g Hs Hg b k D h F := ⟨l.1, l.2.1, l.2.2.1.mono (by omega), fun i x y => (l.2.2.2.1 i x y).mono (by omega), l.2.2.2.2⟩
theorem LX.fr (f : fr (n + 316) (n + 466) F F1) (l : LX n c S g Hs Hg b k D h F) : LX n c S g Hs Hg b k D h F1 :=
  ⟨l.1.kp fun a j x y => f _ _ (by omega), l.2.1.kp (f _ _ (by omega)) (fun a j x => f _ _ (by omega)), l.2.2.1, l.2.2.2.1, l.2.2.2.2.1, l.2.2.2.2.2.1.kp fun j => f _ _ (by omega), l.2.2.2.2.2.2.kp fun a j x => f _ _ (by omega)⟩
theorem RI.hf (f : hf n F F1) (ri : RI F (n + 467) S Hs k) : RI F1 (n + 467) S Hs k := ri.kp (f _ _ (by omega)) (fun a j x => f _ _ (by omega))
theorem DR.hf (f : hf n F F1) (d : DR F (n + 467) D) : DR F1 (n + 467) D := d.kp fun a j x => f _ _ (by omega)
theorem CI.k0 (ci : CI h F n S g Hs Hg b k) : 0 ≤ k ∧ k ≤ 5 := ci.2.2.1.2
theorem f_fin {v : Int} {P R : Prop} (r : InR v) (k : P) : cEq v v P R := ⟨⟨r, r⟩, fun _ => k, fun e => absurd rfl e⟩
theorem rowG_ok {o dx dy : Int} {x P : Int} (hk : 1 ≤ x ∧ x < 24) (z : (0 ≤ o ∧ o ≤ 100) ∧ (-12 ≤ dx ∧ dx ≤ 12) ∧ (-12 ≤ dy ∧ dy ≤ 12)) : okN (rowG S x P o dx dy D) x := by
  have rf := rowG_f (S := S) (D := D) (k := x) (P := P) (o := o) (dx := dx) (dy := dy)
  have rk := (rowG_AR (S := S) (D := D) (P := P) (o := o) (dx := dx) (dy := dy) hk).2.2.2.1
  unfold okN
  rw [rk, rf.1, rf.2.1, rf.2.2]
  exact ⟨fun _ => z, fun y => absurd rfl y, fun y => absurd y (by decide), fun y => absurd y (by decide)⟩
theorem rowR_ok {x P : Int} (hk : 1 ≤ x ∧ x < 24) (od : okD D) : okN (rowR S x P D) x := by
  have rf := rowR_f (S := S) (D := D) (k := x) (P := P) hk
  have rk := (rowR_AR (S := S) (D := D) (P := P) hk).2.2.2.1
  unfold okN
  rw [rk, rf 0 (by decide) (by decide), rf 1 (by decide) (by decide), rf 2 (by decide) (by decide), rf 3 (by decide) (by decide), rf 4 (by decide) (by decide), rf 5 (by decide) (by decide), rf 6 (by decide) (by decide)]
  exact ⟨fun y => absurd y (by decide), fun _ => ⟨od.1, od.2.1⟩, fun _ => od.2.2, fun y => absurd y (by decide)⟩
theorem rowS_ok {x P p u : Int} (hk : 1 ≤ x ∧ x < 24) (od : okD D) (z : (0 ≤ p ∧ p ≤ 2) ∧ (0 ≤ u ∧ u ≤ 255)) : okN (rowS S x P p u D) x := by
  have rf := rowS_f (S := S) (D := D) (k := x) (P := P) (p := p) (u := u) hk
  have rk := (rowS_AR (S := S) (D := D) (P := P) (p := p) (u := u) hk).2.2.2.1
  unfold okN
  rw [rk, rf.1 0 (by decide) (by decide), rf.1 1 (by decide) (by decide), rf.1 2 (by decide) (by decide), rf.1 3 (by decide) (by decide), rf.2.1, rf.2.2]
  exact ⟨fun y => absurd y (by decide), fun _ => ⟨od.1, od.2.1⟩, fun y => absurd y (by decide), fun _ => z⟩
theorem set_R (w : WF S g c) {x : Int} (z : 0 ≤ x ∧ x ≤ 2) : InR (S (2 + x)) := by
  have h := w.1.1.2
  rcases (show x = 0 ∨ x = 1 ∨ x = 2 by omega) with rfl | rfl | rfl
  · exact (show InR (S 2) from ⟨by omega, by omega⟩)
  · exact (show InR (S 3) from ⟨by omega, by omega⟩)
  · exact (show InR (S 4) from ⟨by omega, by omega⟩)
theorem fre_R : InR (fre S) := by
  have := fre_b S
  exact ⟨by omega, by omega⟩
end LL
