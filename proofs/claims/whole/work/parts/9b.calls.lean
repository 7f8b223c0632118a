/-! both sides, a call each -/
def LX (n : Nat) (c : Int) (S : Int → Int) (g : Nat → Int → Int) (Hs : Int → Int → Int) (Hg : Int → Nat → Int → Int) (b : Int → Nat) (k : Int) (D : Int → Int) (h : Zm) (F : Nat → Int → Int) : Prop := CI h F n S g Hs Hg b k ∧ RI F (n + 467) S Hs k ∧ WF S g c ∧ (∀ i, 0 ≤ i → i < k → WF (Hs i) (Hg i) c) ∧ okD D ∧ DC F n D ∧ DR F (n + 467) D
def LZ (n : Nat) (c : Int) (h : Zm) (F : Nat → Int → Int) : Prop := ∃ S g Hs Hg b k D, LX n c S g Hs Hg b k D h F
section LL
variable {n L : Nat} {c x3 : Int} {sc : Int → Int} {S S' D : Int → Int} {g g' : Nat → Int → Int} {Hs : Int → Int → Int} {Hg : Int → Nat → Int → Int} {b b1 : Int → Nat} {k : Int} {h h1 : Zm} {F F1 F2 : Nat → Int → Int} {A B : Zm → Prop}
theorem CI.kp (e : ∀ a j, n ≤ a → a < n + 314 → F1 a j = F a j) (ci : CI h F n S g Hs Hg b k) : CI h F1 n S g Hs Hg b k := by
  obtain ⟨kd, hb, hk, cs, hi⟩ := ci
  refine ⟨kd, hb, ⟨by rw [e _ _ (by omega) (by omega)]; exact hk.1, hk.2⟩, cs.keep fun b j x y => e _ _ (by omega) (by omega), fun i x y => ?_⟩
  obtain ⟨z, j, j1, j2⟩ := hb.1 i x (by omega)
  exact (hi i x y).keep fun a j u v => e _ _ (by omega) (by omega)
theorem RI.kp {M : Nat} (e0 : F1 M 3 = F M 3) (e : ∀ a j, a = M + 1 ∨ a = M + 2 → F1 a j = F a j) (ri : RI F M S Hs k) : RI F1 M S Hs k := by
  obtain ⟨r1, r2, r3⟩ := ri
  exact ⟨fun j x y => by rw [e _ _ (Or.inl rfl)]; exact r1 j x y, ⟨e0.trans r2.1, r2.2⟩, fun i j a c x y => by rw [e _ _ (Or.inr rfl)]; exact r3 i j a c x y⟩
theorem DC.kp (e : ∀ j, F1 (n + 314) j = F (n + 314) j) (d : DC F n D) : DC F1 n D := fun j x y => (e _).trans (d j x y)
theorem DR.kp {M : Nat} (e : ∀ a j, a = M + 4 ∨ a = M + 5 → F1 a j = F a j) (d : DR F M D) : DR F1 M D := ⟨fun j x y => (e _ _ (Or.inl rfl)).trans (d.1 j x y), fun j x y => (e _ _ (Or.inr rfl)).trans (d.2 j x y)⟩
theorem LX.up (l : LX n c S g Hs Hg b k D h F) : LX n (c + 1) S g Hs Hg b k D h F := ⟨l.1, l.2.1, l.2.2.1.mono (by omega), fun i x y => (l.2.2.2.1 i x y).mono (by omega), l.2.2.2.2⟩
theorem LX.fr (f : fr (n + 316) (n + 466) F F1) (l : LX n c S g Hs Hg b k D h F) : LX n c S g Hs Hg b k D h F1 :=
  ⟨l.1.kp fun a j x y => f _ _ (by omega), l.2.1.kp (f _ _ (by omega)) (fun a j x => f _ _ (by omega)), l.2.2.1, l.2.2.2.1, l.2.2.2.2.1, l.2.2.2.2.2.1.kp fun j => f _ _ (by omega), l.2.2.2.2.2.2.kp fun a j x => f _ _ (by omega)⟩
theorem LX.qf (f : qf (n + 467 + 17) (n + 467) F F1) (l : LX n c S g Hs Hg b k D h F) : LX n c S g Hs Hg b k D h F1 :=
  ⟨l.1.kp fun a j x y => f _ _ (by omega) (by omega), l.2.1.kp (f _ _ (by omega) (by omega)) (fun a j x => f _ _ (by omega) (by omega)), l.2.2.1, l.2.2.2.1, l.2.2.2.2.1, l.2.2.2.2.2.1.kp fun j => f _ _ (by omega) (by omega), l.2.2.2.2.2.2.kp fun a j x => f _ _ (by omega) (by omega)⟩
theorem RI.hf (f : hf n F F1) (ri : RI F (n + 467) S Hs k) : RI F1 (n + 467) S Hs k := ri.kp (f _ _ (by omega)) (fun a j x => f _ _ (by omega))
theorem DR.hf (f : hf n F F1) (d : DR F (n + 467) D) : DR F1 (n + 467) D := d.kp fun a j x => f _ _ (by omega)
theorem CI.k0 (ci : CI h F n S g Hs Hg b k) : 0 ≤ k ∧ k ≤ 5 := ci.2.2.1.2
theorem LZ_ch (l : LX n c S g Hs Hg b k D h F) (f1 : hf n F F1) (ci1 : CI h1 F1 n S' g' (pH Hs k S) (pH Hg k g) b1 (pK k)) (ri2 : RI F2 (n + 467) S' (pH Hs k S) (pK k)) (q2 : qe (n + 467) F1 F2) (w' : WF S' g' (c + 1)) : LZ n (c + 1) h1 F2 := by
  obtain ⟨ci, ri, w, hw, od, dc, dr⟩ := l
  have hk := ci.k0
  refine ⟨S', g', pH Hs k S, pH Hg k g, b1, pK k, D, ci1.kp fun a j x y => q2 _ _ (by omega), ri2, w', fun i x y => ?_, od, (dc.kp (F1 := F1) fun j => f1 _ _ (by omega)).kp fun j => q2 _ _ (by omega), (dr.hf f1).kp fun a j x => q2 _ _ (by omega)⟩
  unfold pH
  unfold pK at y
  by_cases e : k < 5
  · rw [if_pos e] at y
    rw [if_pos e, if_pos e]
    by_cases e2 : i = k
    · rw [if_pos e2, if_pos e2]; exact w.mono (by omega)
    · rw [if_neg e2, if_neg e2]; exact (hw i x (by omega)).mono (by omega)
  · rw [if_neg e] at y
    rw [if_neg e, if_neg e]
    by_cases e2 : i = 4
    · rw [if_pos e2, if_pos e2]; exact w.mono (by omega)
    · rw [if_neg e2, if_neg e2]; exact (hw (i + 1) (by omega) (by omega)).mono (by omega)
theorem f_fin {v : Int} {P R : Prop} (r : InR v) (k : P) : cEq v v P R := ⟨⟨r, r⟩, fun _ => k, fun e => absurd rfl e⟩
theorem rowG_ok {o dx dy : Int} {x P : Int} (hk : 1 ≤ x ∧ x < 24) (z : (0 ≤ o ∧ o ≤ 100) ∧ (-12 ≤ dx ∧ dx ≤ 12) ∧ (-12 ≤ dy ∧ dy ≤ 12)) : okN (rowG S x P o dx dy D) x := by
  have rf := rowG_f (S := S) (D := D) (k := x) (P := P) (o := o) (dx := dx) (dy := dy)
  have rk := (rowG_AR (S := S) (D := D) (P := P) (o := o) (dx := dx) (dy := dy) hk).2.2.2.1
  unfold okN
  rw [rk, rf.1, rf.2.1, rf.2.2]
  exact ⟨fun _ => z, fun y => absurd rfl y, fun y => absurd y (by decide), fun y => absurd y (by decide)⟩
theorem rowR_ok {x P : Int} (hk : 1 ≤ x ∧ x < 24) (od : okD D) : okN (rowR S x P D) x := by
  have rf := rowR_f (S := S) (D := D) (k := x) (P := P) hk
  have rk := (rowR_AR (S := S) (D := D) (P := P) hk).2.2.2.1
  unfold okN
  rw [rk, rf 0 (by decide) (by decide), rf 1 (by decide) (by decide), rf 2 (by decide) (by decide), rf 3 (by decide) (by decide), rf 4 (by decide) (by decide), rf 5 (by decide) (by decide), rf 6 (by decide) (by decide)]
  exact ⟨fun y => absurd y (by decide), fun _ => ⟨od.1, od.2.1⟩, fun _ => od.2.2, fun y => absurd y (by decide)⟩
theorem rowS_ok {x P p u : Int} (hk : 1 ≤ x ∧ x < 24) (od : okD D) (z : (0 ≤ p ∧ p ≤ 2) ∧ (0 ≤ u ∧ u ≤ 255)) : okN (rowS S x P p u D) x := by
  have rf := rowS_f (S := S) (D := D) (k := x) (P := P) (p := p) (u := u) hk
  have rk := (rowS_AR (S := S) (D := D) (P := P) (p := p) (u := u) hk).2.2.2.1
  unfold okN
  rw [rk, rf.1 0 (by decide) (by decide), rf.1 1 (by decide) (by decide), rf.1 2 (by decide) (by decide), rf.1 3 (by decide) (by decide), rf.2.1, rf.2.2]
  exact ⟨fun y => absurd y (by decide), fun _ => ⟨od.1, od.2.1⟩, fun y => absurd y (by decide), fun _ => z⟩
theorem set_R (w : WF S g c) {x : Int} (z : 0 ≤ x ∧ x ≤ 2) : InR (S (2 + x)) := by
  have h := w.1.1.2
  rcases (show x = 0 ∨ x = 1 ∨ x = 2 by omega) with rfl | rfl | rfl
  · exact (show InR (S 2) from ⟨by omega, by omega⟩)
  · exact (show InR (S 3) from ⟨by omega, by omega⟩)
  · exact (show InR (S 4) from ⟨by omega, by omega⟩)
theorem fre_R : InR (fre S) := by
  have := fre_b S
  exact ⟨by omega, by omega⟩
theorem p_setSize (hb : 0 ≤ x3 ∧ x3 ≤ (L : Int) - 5) (hsc : ∀ i, InR (sc i)) (hc : 0 ≤ c ∧ c ≤ 511) (l : LZ n c h F) (K : ∀ h' F', LZ n (c + 1) h' F' → A (zwI h' F')) : cSld L sc (x3 + 1) fun v9 => cSld L sc (x3 + 2) fun v10 => cRc (zwI h F) 16 n <| mX6_setSize n v9 v10 (zwI h F) fun v12 h11 => cSld L sc (x3 + 1) fun v13 => cSld L sc (x3 + 2) fun v14 => cRc h11 17 (n + 467) <| mX7_setSize (n + 467) v13 v14 h11 fun v16 h15 => cEq v12 v16 (A h15) (B h15) := by
  obtain ⟨S, g, Hs, Hg, b, k, D, lx⟩ := l
  have kd := lx.1.1
  have w := lx.2.2.1
  have lu : LZ n (c + 1) h F := ⟨S, g, Hs, Hg, b, k, D, lx.up⟩
  exact ⟨⟨by omega, by omega⟩, ⟨⟨by omega, by omega⟩, f_rc kd.k (s_setSize6 lx.1 w (hsc _) (hsc _) (fun z h1 F1 b1 s1 f1 c1 => ⟨⟨by omega, by omega⟩, ⟨⟨by omega, by omega⟩, f_rc c1.1.km.1 (s_setSize7 c1.1.km (lx.2.1.hf f1) w.1 (hsc _) (hsc _) (fun _ F2 r2 q2 => f_fin (by have := w.1.1.1; exact ⟨by omega, by omega⟩) (K _ _ (LZ_ch lx f1 c1 r2 q2 ((WF_ru (by unfold okv; omega) (WF_ru (by unfold okv; omega) w)).mono (by omega))))) (fun y => absurd z y))⟩⟩) (fun z => ⟨⟨by omega, by omega⟩, ⟨⟨by omega, by omega⟩, f_rc kd.km.1 (s_setSize7 kd.km lx.2.1 w.1 (hsc _) (hsc _) (fun y => absurd y z) (fun _ => f_fin R_1 (K _ _ lu)))⟩⟩))⟩⟩
theorem p_addGroup (hb : 0 ≤ x3 ∧ x3 ≤ (L : Int) - 5) (hsc : ∀ i, InR (sc i)) (hc : 0 ≤ c ∧ c ≤ 511) (l : LZ n c h F) (K : ∀ h' F', LZ n (c + 1) h' F' → A (zwI h' F')) : cSld L sc (x3 + 1) fun v17 => cSld L sc (x3 + 2) fun v18 => cSld L sc (x3 + 3) fun v19 => cSld L sc (x3 + 4) fun v20 => cRc (zwI h F) 16 n <| mX6_addGroup n v17 v18 v19 v20 (zwI h F) fun v22 h21 => cSld L sc (x3 + 1) fun v23 => cSld L sc (x3 + 2) fun v24 => cSld L sc (x3 + 3) fun v25 => cSld L sc (x3 + 4) fun v26 => cRc h21 17 (n + 467) <| mX7_addGroup (n + 467) v23 v24 v25 v26 h21 fun v28 h27 => cEq v22 v28 (A h27) (B h27) := by
  obtain ⟨S, g, Hs, Hg, b, k, D, lx⟩ := l
  have kd := lx.1.1
  have w := lx.2.2.1
  have lu : LZ n (c + 1) h F := ⟨S, g, Hs, Hg, b, k, D, lx.up⟩
  exact ⟨⟨by omega, by omega⟩, ⟨⟨by omega, by omega⟩, ⟨⟨by omega, by omega⟩, ⟨⟨by omega, by omega⟩, f_rc kd.k (s_addGroup6 (D := D) lx.1 w (hsc _) (hsc _) (hsc _) (hsc _) (fun z p1 p2 p3 p4 p5 h1 F1 b1 s1 f1 c1 => ⟨⟨by omega, by omega⟩, ⟨⟨by omega, by omega⟩, ⟨⟨by omega, by omega⟩, ⟨⟨by omega, by omega⟩, f_rc c1.1.km.1 (s_addGroup7 c1.1.km (lx.2.1.hf f1) w (by omega) (lx.2.2.2.2.2.2.hf f1) (hsc _) (hsc _) (hsc _) (hsc _) (fun _ _ _ _ F2 r2 q2 => f_fin fre_R (by have hkf : 1 ≤ fre S ∧ fre S < 24 := ⟨(fre_b S).1, p4⟩; exact K _ _ (LZ_ch lx f1 c1 r2 q2 (WF_add w (rowG_AR hkf) hkf (fre_neg p4) p1 p2 p3 (by decide) (rowG_ok hkf z))))) (fun y => absurd z y) (fun _ y => absurd y (by have := fre_b S; omega)))⟩⟩⟩⟩) (fun z => ⟨⟨by omega, by omega⟩, ⟨⟨by omega, by omega⟩, ⟨⟨by omega, by omega⟩, ⟨⟨by omega, by omega⟩, f_rc kd.km.1 (s_addGroup7 kd.km lx.2.1 w (by omega) lx.2.2.2.2.2.2 (hsc _) (hsc _) (hsc _) (hsc _) (fun y => absurd y z) (fun _ => f_fin R_1 (K _ _ lu)) (fun y => absurd y z))⟩⟩⟩⟩) (fun z e => ⟨⟨by omega, by omega⟩, ⟨⟨by omega, by omega⟩, ⟨⟨by omega, by omega⟩, ⟨⟨by omega, by omega⟩, f_rc kd.km.1 (s_addGroup7 kd.km lx.2.1 w (by omega) lx.2.2.2.2.2.2 (hsc _) (hsc _) (hsc _) (hsc _) (fun _ _ y _ => absurd e (by have := fre_b S; omega)) (fun y => absurd z y) (fun _ _ => f_fin fNb_R (K _ _ lu)))⟩⟩⟩⟩))⟩⟩⟩⟩
theorem p_addRect (hb : 0 ≤ x3 ∧ x3 ≤ (L : Int) - 5) (hsc : ∀ i, InR (sc i)) (hc : 0 ≤ c ∧ c ≤ 511) (l : LZ n c h F) (K : ∀ h' F', LZ n (c + 1) h' F' → A (zwI h' F')) : cSld L sc (x3 + 1) fun v29 => cRc (zwI h F) 16 n <| mX6_addRect n v29 (zwI h F) fun v31 h30 => cSld L sc (x3 + 1) fun v32 => cRc h30 17 (n + 467) <| mX7_addRect (n + 467) v32 h30 fun v34 h33 => cEq v31 v34 (A h33) (B h33) := by
  obtain ⟨S, g, Hs, Hg, b, k, D, lx⟩ := l
  have kd := lx.1.1
  have w := lx.2.2.1
  have lu : LZ n (c + 1) h F := ⟨S, g, Hs, Hg, b, k, D, lx.up⟩
  exact ⟨⟨by omega, by omega⟩, f_rc kd.k (s_addRect6 lx.1 w lx.2.2.2.2.2.1 lx.2.2.2.2.1 (hsc _) (fun p1 p2 p3 p4 p5 h1 F1 b1 s1 f1 c1 => ⟨⟨by omega, by omega⟩, f_rc c1.1.km.1 (s_addRect7 c1.1.km (lx.2.1.hf f1) w (by omega) (lx.2.2.2.2.2.2.hf f1) (hsc _) (fun _ _ _ F2 r2 q2 => f_fin fre_R (by have hkf : 1 ≤ fre S ∧ fre S < 24 := ⟨(fre_b S).1, p4⟩; exact K _ _ (LZ_ch lx f1 c1 r2 q2 (WF_add w (rowR_AR hkf) hkf (fre_neg p4) p1 p2 p3 (by decide) (rowR_ok hkf lx.2.2.2.2.1))))) (fun y => absurd y (by have := fre_b S; omega)))⟩) (fun e => ⟨⟨by omega, by omega⟩, f_rc kd.km.1 (s_addRect7 kd.km lx.2.1 w (by omega) lx.2.2.2.2.2.2 (hsc _) (fun _ y _ => absurd e (by have := fre_b S; omega)) (fun _ => f_fin fNb_R (K _ _ lu)))⟩))⟩
theorem p_addSpot (hb : 0 ≤ x3 ∧ x3 ≤ (L : Int) - 5) (hsc : ∀ i, InR (sc i)) (hc : 0 ≤ c ∧ c ≤ 511) (l : LZ n c h F) (K : ∀ h' F', LZ n (c + 1) h' F' → A (zwI h' F')) : cSld L sc (x3 + 1) fun v35 => cSld L sc (x3 + 2) fun v36 => cSld L sc (x3 + 3) fun v37 => cRc (zwI h F) 16 n <| mX6_addSpot n v35 v36 v37 (zwI h F) fun v39 h38 => cSld L sc (x3 + 1) fun v40 => cSld L sc (x3 + 2) fun v41 => cSld L sc (x3 + 3) fun v42 => cRc h38 17 (n + 467) <| mX7_addSpot (n + 467) v40 v41 v42 h38 fun v44 h43 => cEq v39 v44 (A h43) (B h43) := by
  obtain ⟨S, g, Hs, Hg, b, k, D, lx⟩ := l
  have kd := lx.1.1
  have w := lx.2.2.1
  have lu : LZ n (c + 1) h F := ⟨S, g, Hs, Hg, b, k, D, lx.up⟩
  exact ⟨⟨by omega, by omega⟩, ⟨⟨by omega, by omega⟩, ⟨⟨by omega, by omega⟩, f_rc kd.k (s_addSpot6 lx.1 w lx.2.2.2.2.2.1 lx.2.2.2.2.1 (hsc _) (hsc _) (hsc _) (fun z p1 p2 p3 p4 p5 h1 F1 b1 s1 f1 c1 => ⟨⟨by omega, by omega⟩, ⟨⟨by omega, by omega⟩, ⟨⟨by omega, by omega⟩, f_rc c1.1.km.1 (s_addSpot7 c1.1.km (lx.2.1.hf f1) w (by omega) (lx.2.2.2.2.2.2.hf f1) (hsc _) (hsc _) (hsc _) (fun _ _ _ _ F2 r2 q2 => f_fin fre_R (by have hkf : 1 ≤ fre S ∧ fre S < 24 := ⟨(fre_b S).1, p4⟩; exact K _ _ (LZ_ch lx f1 c1 r2 q2 (WF_add w (rowS_AR hkf) hkf (fre_neg p4) p1 p2 p3 (by decide) (rowS_ok hkf lx.2.2.2.2.1 z))))) (fun y => absurd z y) (fun _ y => absurd y (by have := fre_b S; omega)))⟩⟩⟩) (fun z => ⟨⟨by omega, by omega⟩, ⟨⟨by omega, by omega⟩, ⟨⟨by omega, by omega⟩, f_rc kd.km.1 (s_addSpot7 kd.km lx.2.1 w (by omega) lx.2.2.2.2.2.2 (hsc _) (hsc _) (hsc _) (fun y => absurd y z) (fun _ => f_fin R_1 (K _ _ lu)) (fun y => absurd y z))⟩⟩⟩) (fun z e => ⟨⟨by omega, by omega⟩, ⟨⟨by omega, by omega⟩, ⟨⟨by omega, by omega⟩, f_rc kd.km.1 (s_addSpot7 kd.km lx.2.1 w (by omega) lx.2.2.2.2.2.2 (hsc _) (hsc _) (hsc _) (fun _ _ y _ => absurd e (by have := fre_b S; omega)) (fun y => absurd z y) (fun _ _ => f_fin fNb_R (K _ _ lu)))⟩⟩⟩))⟩⟩⟩
theorem p_setBox (hb : 0 ≤ x3 ∧ x3 ≤ (L : Int) - 5) (hsc : ∀ i, InR (sc i)) (hc : 0 ≤ c ∧ c ≤ 511) (l : LZ n c h F) (K : ∀ h' F', LZ n (c + 1) h' F' → A (zwI h' F')) : cSld L sc (x3 + 1) fun v45 => cSld L sc (x3 + 2) fun v46 => cSld L sc (x3 + 3) fun v47 => cSld L sc (x3 + 4) fun v48 => cRc (zwI h F) 16 n <| mX6_setBox n v45 v46 v47 v48 (zwI h F) fun v50 h49 => cSld L sc (x3 + 1) fun v51 => cSld L sc (x3 + 2) fun v52 => cSld L sc (x3 + 3) fun v53 => cSld L sc (x3 + 4) fun v54 => cRc h49 17 (n + 467) <| mX7_setBox (n + 467) v51 v52 v53 v54 h49 fun v56 h55 => cEq v50 v56 (A h55) (B h55) := by
  obtain ⟨S, g, Hs, Hg, b, k, D, lx⟩ := l
  have kd := lx.1.1
  have w := lx.2.2.1
  have lu : LZ n (c + 1) h F := ⟨S, g, Hs, Hg, b, k, D, lx.up⟩
  exact ⟨⟨by omega, by omega⟩, ⟨⟨by omega, by omega⟩, ⟨⟨by omega, by omega⟩, ⟨⟨by omega, by omega⟩, f_rc kd.k (s_setBox6 kd lx.2.2.2.2.2.1 (hsc _) (hsc _) (hsc _) (hsc _) (fun z F1 f1 d1 => ⟨⟨by omega, by omega⟩, ⟨⟨by omega, by omega⟩, ⟨⟨by omega, by omega⟩, ⟨⟨by omega, by omega⟩, f_rc kd.km.1 (s_setBox7 kd.km (lx.2.2.2.2.2.2.kp fun a j x => f1 _ _ (by omega)) (hsc _) (hsc _) (hsc _) (hsc _) (fun _ F2 f2 d2 => f_fin (by have := mul_bd (a := sc (x3 + 3)) (b := sc (x3 + 4)) (A := 12) (B := 12) (by omega) (by omega) (by omega) (by omega); exact ⟨by omega, by omega⟩) (K _ _ ⟨S, g, Hs, Hg, b, k, dBox D _ _ _ _, (lx.1.kp (F1 := F1) fun a j x y => f1 _ _ (by omega)).kp fun a j x y => f2 _ _ (by omega), (lx.2.1.kp (F1 := F1) (f1 _ _ (by omega)) (fun a j x => f1 _ _ (by omega))).kp (f2 _ _ (by omega)) (fun a j x => f2 _ _ (by omega)), w.mono (by omega), fun i x y => (lx.2.2.2.1 i x y).mono (by omega), okD_box lx.2.2.2.2.1 z, d1.kp fun j => f2 _ _ (by omega), d2⟩)) (fun y => absurd z y))⟩⟩⟩⟩) (fun z => ⟨⟨by omega, by omega⟩, ⟨⟨by omega, by omega⟩, ⟨⟨by omega, by omega⟩, ⟨⟨by omega, by omega⟩, f_rc kd.km.1 (s_setBox7 kd.km lx.2.2.2.2.2.2 (hsc _) (hsc _) (hsc _) (hsc _) (fun y => absurd y z) (fun _ => f_fin R_1 (K _ _ lu)))⟩⟩⟩⟩))⟩⟩⟩⟩
theorem p_setInk (hb : 0 ≤ x3 ∧ x3 ≤ (L : Int) - 5) (hsc : ∀ i, InR (sc i)) (hc : 0 ≤ c ∧ c ≤ 511) (l : LZ n c h F) (K : ∀ h' F', LZ n (c + 1) h' F' → A (zwI h' F')) : cSld L sc (x3 + 1) fun v57 => cSld L sc (x3 + 2) fun v58 => cSld L sc (x3 + 3) fun v59 => cRc (zwI h F) 16 n <| mX6_setInk n v57 v58 v59 (zwI h F) fun v61 h60 => cSld L sc (x3 + 1) fun v62 => cSld L sc (x3 + 2) fun v63 => cSld L sc (x3 + 3) fun v64 => cRc h60 17 (n + 467) <| mX7_setInk (n + 467) v62 v63 v64 h60 fun v66 h65 => cEq v61 v66 (A h65) (B h65) := by
  obtain ⟨S, g, Hs, Hg, b, k, D, lx⟩ := l
  have kd := lx.1.1
  have w := lx.2.2.1
  have lu : LZ n (c + 1) h F := ⟨S, g, Hs, Hg, b, k, D, lx.up⟩
  exact ⟨⟨by omega, by omega⟩, ⟨⟨by omega, by omega⟩, ⟨⟨by omega, by omega⟩, f_rc kd.k (s_setInk6 kd lx.2.2.2.2.2.1 (hsc _) (hsc _) (hsc _) (fun z F1 f1 d1 => ⟨⟨by omega, by omega⟩, ⟨⟨by omega, by omega⟩, ⟨⟨by omega, by omega⟩, f_rc kd.km.1 (s_setInk7 kd.km (lx.2.2.2.2.2.2.kp fun a j x => f1 _ _ (by omega)) (hsc _) (hsc _) (hsc _) (fun _ F2 f2 d2 => f_fin ⟨by omega, by omega⟩ (K _ _ ⟨S, g, Hs, Hg, b, k, dInk D _ _ _, (lx.1.kp (F1 := F1) fun a j x y => f1 _ _ (by omega)).kp fun a j x y => f2 _ _ (by omega), (lx.2.1.kp (F1 := F1) (f1 _ _ (by omega)) (fun a j x => f1 _ _ (by omega))).kp (f2 _ _ (by omega)) (fun a j x => f2 _ _ (by omega)), w.mono (by omega), fun i x y => (lx.2.2.2.1 i x y).mono (by omega), okD_ink lx.2.2.2.2.1 z, d1.kp fun j => f2 _ _ (by omega), d2⟩)) (fun y => absurd z y))⟩⟩⟩) (fun z => ⟨⟨by omega, by omega⟩, ⟨⟨by omega, by omega⟩, ⟨⟨by omega, by omega⟩, f_rc kd.km.1 (s_setInk7 kd.km lx.2.2.2.2.2.2 (hsc _) (hsc _) (hsc _) (fun y => absurd y z) (fun _ => f_fin R_1 (K _ _ lu)))⟩⟩⟩))⟩⟩⟩
theorem p_remove (hb : 0 ≤ x3 ∧ x3 ≤ (L : Int) - 5) (hsc : ∀ i, InR (sc i)) (hc : 0 ≤ c ∧ c ≤ 511) (l : LZ n c h F) (K : ∀ h' F', LZ n (c + 1) h' F' → A (zwI h' F')) : cSld L sc (x3 + 1) fun v67 => cRc (zwI h F) 16 n <| mX6_remove n v67 (zwI h F) fun v69 h68 => cSld L sc (x3 + 1) fun v70 => cRc h68 17 (n + 467) <| mX7_remove (n + 467) v70 h68 fun v72 h71 => cEq v69 v72 (A h71) (B h71) := by
  obtain ⟨S, g, Hs, Hg, b, k, D, lx⟩ := l
  have kd := lx.1.1
  have w := lx.2.2.1
  have lu : LZ n (c + 1) h F := ⟨S, g, Hs, Hg, b, k, D, lx.up⟩
  exact ⟨⟨by omega, by omega⟩, f_rc kd.k (s_remove6 lx.1 w (hsc _) (fun z x0 h1 F1 b1 s1 f1 c1 => ⟨⟨by omega, by omega⟩, f_rc c1.1.km.1 (s_remove7 c1.1.km (lx.2.1.hf f1) w (hsc _) (fun _ _ F2 r2 q2 => f_fin (by have := en_R w (show live S (sc (x3 + 1)) from z); exact ⟨by omega, by omega⟩) (K _ _ (LZ_ch lx f1 c1 r2 q2 ((WF_kill w z x0).mono (by omega))))) (fun y => absurd z y) (fun _ y => absurd y x0))⟩) (fun z => ⟨⟨by omega, by omega⟩, f_rc kd.km.1 (s_remove7 kd.km lx.2.1 w (hsc _) (fun y => absurd y z) (fun _ => f_fin R_1 (K _ _ lu)) (fun y => absurd y z))⟩) (fun z e => ⟨⟨by omega, by omega⟩, f_rc kd.km.1 (s_remove7 kd.km lx.2.1 w (hsc _) (fun _ y => absurd e y) (fun y => absurd z y) (fun _ _ => f_fin R_2 (K _ _ lu)))⟩))⟩
theorem p_move (hb : 0 ≤ x3 ∧ x3 ≤ (L : Int) - 5) (hsc : ∀ i, InR (sc i)) (hc : 0 ≤ c ∧ c ≤ 511) (l : LZ n c h F) (K : ∀ h' F', LZ n (c + 1) h' F' → A (zwI h' F')) : cSld L sc (x3 + 1) fun v73 => cSld L sc (x3 + 2) fun v74 => cRc (zwI h F) 16 n <| mX6_move n v73 v74 (zwI h F) fun v76 h75 => cSld L sc (x3 + 1) fun v77 => cSld L sc (x3 + 2) fun v78 => cRc h75 17 (n + 467) <| mX7_move (n + 467) v77 v78 h75 fun v80 h79 => cEq v76 v80 (A h79) (B h79) := by
  obtain ⟨S, g, Hs, Hg, b, k, D, lx⟩ := l
  have kd := lx.1.1
  have w := lx.2.2.1
  have lu : LZ n (c + 1) h F := ⟨S, g, Hs, Hg, b, k, D, lx.up⟩
  exact ⟨⟨by omega, by omega⟩, ⟨⟨by omega, by omega⟩, f_rc kd.k (s_move6 lx.1 w (hsc _) (hsc _) (fun z z2 e m h1 F1 b1 s1 f1 c1 => ⟨⟨by omega, by omega⟩, ⟨⟨by omega, by omega⟩, f_rc c1.1.km.1 (s_move7 c1.1.km (lx.2.1.hf f1) w (by omega) (hsc _) (hsc _) (fun _ _ _ _ F2 r2 q2 => f_fin (by have := gd_b w (show live S (sc (x3 + 2)) from z2); exact ⟨by omega, by omega⟩) (K _ _ (LZ_ch lx f1 c1 r2 q2 (WF_mov w z e z2 m)))) (fun y => absurd ⟨z, z2⟩ y) (fun _ y => absurd ⟨e, m⟩ y))⟩⟩) (fun y => ⟨⟨by omega, by omega⟩, ⟨⟨by omega, by omega⟩, f_rc kd.km.1 (s_move7 kd.km lx.2.1 w (by omega) (hsc _) (hsc _) (fun z z2 _ _ => absurd ⟨z, z2⟩ y) (fun _ => f_fin R_1 (K _ _ lu)) (fun z _ => absurd z y))⟩⟩) (fun z y => ⟨⟨by omega, by omega⟩, ⟨⟨by omega, by omega⟩, f_rc kd.km.1 (s_move7 kd.km lx.2.1 w (by omega) (hsc _) (hsc _) (fun _ _ e m => absurd ⟨e, m⟩ y) (fun u => absurd z u) (fun _ _ => f_fin R_2 (K _ _ lu)))⟩⟩))⟩⟩
theorem p_nodeInfo (hb : 0 ≤ x3 ∧ x3 ≤ (L : Int) - 5) (hsc : ∀ i, InR (sc i)) (hc : 0 ≤ c ∧ c ≤ 511) (l : LZ n c h F) (K : ∀ h' F', LZ n (c + 1) h' F' → A (zwI h' F')) : cSld L sc (x3 + 1) fun v81 => cSld L sc (x3 + 2) fun v82 => cRc (zwI h F) 16 n <| mX6_nodeInfo n v81 v82 (zwI h F) fun v84 h83 => cSld L sc (x3 + 1) fun v85 => cSld L sc (x3 + 2) fun v86 => cRc h83 17 (n + 467) <| mX7_nodeInfo (n + 467) v85 v86 h83 fun v88 h87 => cEq v84 v88 (A h87) (B h87) := by
  obtain ⟨S, g, Hs, Hg, b, k, D, lx⟩ := l
  have kd := lx.1.1
  have w := lx.2.2.1
  have lu : LZ n (c + 1) h F := ⟨S, g, Hs, Hg, b, k, D, lx.up⟩
  exact ⟨⟨by omega, by omega⟩, ⟨⟨by omega, by omega⟩, f_rc kd.k (s_nodeInfo6 kd lx.1.2.2.2.1 w (hsc _) (hsc _) (⟨⟨by omega, by omega⟩, ⟨⟨by omega, by omega⟩, f_rc kd.km.1 (s_nodeInfo7 kd.km lx.2.1.1 w (by omega) (hsc _) (hsc _) (f_fin (aInfo_R w _ _) (K _ _ ⟨S, g, Hs, Hg, b, k, D, lx.up⟩)))⟩⟩))⟩⟩
theorem p_nodeCount (hb : 0 ≤ x3 ∧ x3 ≤ (L : Int) - 5) (hsc : ∀ i, InR (sc i)) (hc : 0 ≤ c ∧ c ≤ 511) (l : LZ n c h F) (K : ∀ h' F', LZ n (c + 1) h' F' → A (zwI h' F')) : cRc (zwI h F) 16 n <| mX6_nodeCount n (zwI h F) fun v90 h89 => cRc h89 17 (n + 467) <| mX7_nodeCount (n + 467) h89 fun v92 h91 => cEq v90 v92 (A h91) (B h91) := by
  obtain ⟨S, g, Hs, Hg, b, k, D, lx⟩ := l
  have kd := lx.1.1
  have w := lx.2.2.1
  have lu : LZ n (c + 1) h F := ⟨S, g, Hs, Hg, b, k, D, lx.up⟩
  exact f_rc kd.k (s_nodeCount6 kd lx.1.2.2.2.1   (f_rc kd.km.1 (s_nodeCount7 kd.km lx.2.1.1 w  (f_fin (gc_R w) (K _ _ ⟨S, g, Hs, Hg, b, k, D, lx.up⟩)))))
theorem p_set (hb : 0 ≤ x3 ∧ x3 ≤ (L : Int) - 5) (hsc : ∀ i, InR (sc i)) (hc : 0 ≤ c ∧ c ≤ 511) (l : LZ n c h F) (K : ∀ h' F', LZ n (c + 1) h' F' → A (zwI h' F')) : cSld L sc (x3 + 1) fun v93 => cSld L sc (x3 + 2) fun v94 => cRc (zwI h F) 16 n <| mX6_set n v93 v94 (zwI h F) fun v96 h95 => cSld L sc (x3 + 1) fun v97 => cSld L sc (x3 + 2) fun v98 => cRc h95 17 (n + 467) <| mX7_set (n + 467) v97 v98 h95 fun v100 h99 => cEq v96 v100 (A h99) (B h99) := by
  obtain ⟨S, g, Hs, Hg, b, k, D, lx⟩ := l
  have kd := lx.1.1
  have w := lx.2.2.1
  have lu : LZ n (c + 1) h F := ⟨S, g, Hs, Hg, b, k, D, lx.up⟩
  exact ⟨⟨by omega, by omega⟩, ⟨⟨by omega, by omega⟩, f_rc kd.k (s_set6 lx.1 w (hsc _) (hsc _) (fun z h1 F1 b1 s1 f1 c1 => ⟨⟨by omega, by omega⟩, ⟨⟨by omega, by omega⟩, f_rc c1.1.km.1 (s_set7 c1.1.km (lx.2.1.hf f1) (hsc _) (hsc _) (fun _ F2 r2 q2 => f_fin (set_R w z.1) (K _ _ (LZ_ch lx f1 c1 r2 q2 ((WF_ru z.2 w).mono (by omega))))) (fun y => absurd z y))⟩⟩) (fun z => ⟨⟨by omega, by omega⟩, ⟨⟨by omega, by omega⟩, f_rc kd.km.1 (s_set7 kd.km lx.2.1 (hsc _) (hsc _) (fun y => absurd y z) (fun _ => f_fin R_1 (K _ _ lu)))⟩⟩))⟩⟩
theorem p_setKnockout (hb : 0 ≤ x3 ∧ x3 ≤ (L : Int) - 5) (hsc : ∀ i, InR (sc i)) (hc : 0 ≤ c ∧ c ≤ 511) (l : LZ n c h F) (K : ∀ h' F', LZ n (c + 1) h' F' → A (zwI h' F')) : cSld L sc (x3 + 1) fun v101 => cSld L sc (x3 + 2) fun v102 => cRc (zwI h F) 16 n <| mX6_setKnockout n v101 v102 (zwI h F) fun v104 h103 => cSld L sc (x3 + 1) fun v105 => cSld L sc (x3 + 2) fun v106 => cRc h103 17 (n + 467) <| mX7_setKnockout (n + 467) v105 v106 h103 fun v108 h107 => cEq v104 v108 (A h107) (B h107) := by
  obtain ⟨S, g, Hs, Hg, b, k, D, lx⟩ := l
  have kd := lx.1.1
  have w := lx.2.2.1
  have lu : LZ n (c + 1) h F := ⟨S, g, Hs, Hg, b, k, D, lx.up⟩
  exact ⟨⟨by omega, by omega⟩, ⟨⟨by omega, by omega⟩, f_rc kd.k (s_setKnockout6 lx.1 w (hsc _) (hsc _) (fun z h1 F1 b1 s1 f1 c1 => ⟨⟨by omega, by omega⟩, ⟨⟨by omega, by omega⟩, f_rc c1.1.km.1 (s_setKnockout7 c1.1.km (lx.2.1.hf f1) (hsc _) (hsc _) (fun _ F2 r2 q2 => f_fin (by rcases w.1.2.1 _ z.1.1 (by omega) with e | e <;> rw [e] <;> exact ⟨by decide, by decide⟩) (K _ _ (LZ_ch lx f1 c1 r2 q2 ((WF_ru (by unfold okv; omega) w).mono (by omega))))) (fun y => absurd z y))⟩⟩) (fun z => ⟨⟨by omega, by omega⟩, ⟨⟨by omega, by omega⟩, f_rc kd.km.1 (s_setKnockout7 kd.km lx.2.1 (hsc _) (hsc _) (fun y => absurd y z) (fun _ => f_fin R_1 (K _ _ lu)))⟩⟩))⟩⟩
theorem p_setPoint (hb : 0 ≤ x3 ∧ x3 ≤ (L : Int) - 5) (hsc : ∀ i, InR (sc i)) (hc : 0 ≤ c ∧ c ≤ 511) (l : LZ n c h F) (K : ∀ h' F', LZ n (c + 1) h' F' → A (zwI h' F')) : cSld L sc (x3 + 1) fun v109 => cSld L sc (x3 + 2) fun v110 => cSld L sc (x3 + 3) fun v111 => cRc (zwI h F) 16 n <| mX6_setPoint n v109 v110 v111 (zwI h F) fun v113 h112 => cSld L sc (x3 + 1) fun v114 => cSld L sc (x3 + 2) fun v115 => cSld L sc (x3 + 3) fun v116 => cRc h112 17 (n + 467) <| mX7_setPoint (n + 467) v114 v115 v116 h112 fun v118 h117 => cEq v113 v118 (A h117) (B h117) := by
  obtain ⟨S, g, Hs, Hg, b, k, D, lx⟩ := l
  have kd := lx.1.1
  have w := lx.2.2.1
  have lu : LZ n (c + 1) h F := ⟨S, g, Hs, Hg, b, k, D, lx.up⟩
  exact ⟨⟨by omega, by omega⟩, ⟨⟨by omega, by omega⟩, ⟨⟨by omega, by omega⟩, f_rc kd.k (s_setPoint6 lx.1 w (hsc _) (hsc _) (hsc _) (fun z h1 F1 b1 s1 f1 c1 => ⟨⟨by omega, by omega⟩, ⟨⟨by omega, by omega⟩, ⟨⟨by omega, by omega⟩, f_rc c1.1.km.1 (s_setPoint7 c1.1.km (lx.2.1.hf f1) w (hsc _) (hsc _) (hsc _) (fun _ F2 r2 q2 => f_fin (by obtain ⟨-, -, o3, -⟩ := sPt_ok w z; have := o3.1; exact ⟨by omega, by omega⟩) (K _ _ (LZ_ch lx f1 c1 r2 q2 ((by obtain ⟨o1, o2, o3, -⟩ := sPt_ok w z; exact (WF_cur ⟨o1.1.1, by have := o1.1.2; omega⟩ o2 o3 w).mono (by omega)))))) (fun y => absurd z y))⟩⟩⟩) (fun z => ⟨⟨by omega, by omega⟩, ⟨⟨by omega, by omega⟩, ⟨⟨by omega, by omega⟩, f_rc kd.km.1 (s_setPoint7 kd.km lx.2.1 w (hsc _) (hsc _) (hsc _) (fun y => absurd y z) (fun _ => f_fin fPt_R (K _ _ lu)))⟩⟩⟩))⟩⟩⟩
theorem p_removePoint (hb : 0 ≤ x3 ∧ x3 ≤ (L : Int) - 5) (hsc : ∀ i, InR (sc i)) (hc : 0 ≤ c ∧ c ≤ 511) (l : LZ n c h F) (K : ∀ h' F', LZ n (c + 1) h' F' → A (zwI h' F')) : cSld L sc (x3 + 1) fun v119 => cSld L sc (x3 + 2) fun v120 => cRc (zwI h F) 16 n <| mX6_removePoint n v119 v120 (zwI h F) fun v122 h121 => cSld L sc (x3 + 1) fun v123 => cSld L sc (x3 + 2) fun v124 => cRc h121 17 (n + 467) <| mX7_removePoint (n + 467) v123 v124 h121 fun v126 h125 => cEq v122 v126 (A h125) (B h125) := by
  obtain ⟨S, g, Hs, Hg, b, k, D, lx⟩ := l
  have kd := lx.1.1
  have w := lx.2.2.1
  have lu : LZ n (c + 1) h F := ⟨S, g, Hs, Hg, b, k, D, lx.up⟩
  exact ⟨⟨by omega, by omega⟩, ⟨⟨by omega, by omega⟩, f_rc kd.k (s_removePoint6 lx.1 w (hsc _) (hsc _) (fun z h1 F1 b1 s1 f1 c1 => ⟨⟨by omega, by omega⟩, ⟨⟨by omega, by omega⟩, f_rc c1.1.km.1 (s_removePoint7 c1.1.km (lx.2.1.hf f1) w (hsc _) (hsc _) (fun _ F2 r2 q2 => f_fin (by obtain ⟨o1, ⟨o4, o5⟩, -, -, -⟩ := rDel_ok w z; have := ((w.1.2.2.2 _ o1.1.1 (by have := o1.1.2; omega)).2.2.2.2.2 (pl S (sc (x3 + 1)) (sc (x3 + 2))) (by omega) (by omega)).2; exact ⟨by omega, by omega⟩) (K _ _ (LZ_ch lx f1 c1 r2 q2 ((by obtain ⟨o1, -, -, o2, o3⟩ := rDel_ok w z; exact (WF_cur ⟨o1.1.1, by have := o1.1.2; omega⟩ o2 o3 w).mono (by omega)))))) (fun y => absurd z y))⟩⟩) (fun z => ⟨⟨by omega, by omega⟩, ⟨⟨by omega, by omega⟩, f_rc kd.km.1 (s_removePoint7 kd.km lx.2.1 w (hsc _) (hsc _) (fun y => absurd y z) (fun _ => f_fin fRm_R (K _ _ lu)))⟩⟩))⟩⟩
theorem p_curve (hb : 0 ≤ x3 ∧ x3 ≤ (L : Int) - 5) (hsc : ∀ i, InR (sc i)) (hc : 0 ≤ c ∧ c ≤ 511) (l : LZ n c h F) (K : ∀ h' F', LZ n (c + 1) h' F' → A (zwI h' F')) : cSld L sc (x3 + 1) fun v127 => cSld L sc (x3 + 2) fun v128 => cRc (zwI h F) 16 n <| mX6_curve n v127 v128 (zwI h F) fun v130 h129 => cSld L sc (x3 + 1) fun v131 => cSld L sc (x3 + 2) fun v132 => cRc h129 17 (n + 467) <| mX7_curve (n + 467) v131 v132 h129 fun v134 h133 => cEq v130 v134 (A h133) (B h133) := by
  obtain ⟨S, g, Hs, Hg, b, k, D, lx⟩ := l
  have kd := lx.1.1
  have w := lx.2.2.1
  have lu : LZ n (c + 1) h F := ⟨S, g, Hs, Hg, b, k, D, lx.up⟩
  exact ⟨⟨by omega, by omega⟩, ⟨⟨by omega, by omega⟩, f_rc kd.k (s_curve6 kd lx.1.2.2.2.1 w.1 (hsc _) (hsc _) (⟨⟨by omega, by omega⟩, ⟨⟨by omega, by omega⟩, f_rc kd.km.1 (s_curve7 kd.km lx.2.1.1 w.1 (hsc _) (hsc _) (f_fin (aCurve_R w.1 _ _) (K _ _ ⟨S, g, Hs, Hg, b, k, D, lx.up⟩)))⟩⟩))⟩⟩
theorem p_inverse (hb : 0 ≤ x3 ∧ x3 ≤ (L : Int) - 5) (hsc : ∀ i, InR (sc i)) (hc : 0 ≤ c ∧ c ≤ 511) (l : LZ n c h F) (K : ∀ h' F', LZ n (c + 1) h' F' → A (zwI h' F')) : cSld L sc (x3 + 1) fun v135 => cSld L sc (x3 + 2) fun v136 => cRc (zwI h F) 16 n <| mX6_inverse n v135 v136 (zwI h F) fun v138 h137 => cSld L sc (x3 + 1) fun v139 => cSld L sc (x3 + 2) fun v140 => cRc h137 17 (n + 467) <| mX7_inverse (n + 467) v139 v140 h137 fun v142 h141 => cEq v138 v142 (A h141) (B h141) := by
  obtain ⟨S, g, Hs, Hg, b, k, D, lx⟩ := l
  have kd := lx.1.1
  have w := lx.2.2.1
  have lu : LZ n (c + 1) h F := ⟨S, g, Hs, Hg, b, k, D, lx.up⟩
  exact ⟨⟨by omega, by omega⟩, ⟨⟨by omega, by omega⟩, f_rc kd.k (s_inverse6 kd lx.1.2.2.2.1 w.1 (hsc _) (hsc _) (⟨⟨by omega, by omega⟩, ⟨⟨by omega, by omega⟩, f_rc kd.km.1 (s_inverse7 kd.km lx.2.1.1 w.1 (hsc _) (hsc _) (f_fin (aInv_R _ _) (K _ _ ⟨S, g, Hs, Hg, b, k, D, lx.up⟩)))⟩⟩))⟩⟩
theorem p_simplify (hb : 0 ≤ x3 ∧ x3 ≤ (L : Int) - 5) (hsc : ∀ i, InR (sc i)) (hc : 0 ≤ c ∧ c ≤ 511) (l : LZ n c h F) (K : ∀ h' F', LZ n (c + 1) h' F' → A (zwI h' F')) : cSld L sc (x3 + 1) fun v143 => cRc (zwI h F) 16 n <| mX6_simplify n v143 (zwI h F) fun v145 h144 => cSld L sc (x3 + 1) fun v146 => cRc h144 17 (n + 467) <| mX7_simplify (n + 467) v146 h144 fun v148 h147 => cEq v145 v148 (A h147) (B h147) := by
  obtain ⟨S, g, Hs, Hg, b, k, D, lx⟩ := l
  have kd := lx.1.1
  have w := lx.2.2.1
  have lu : LZ n (c + 1) h F := ⟨S, g, Hs, Hg, b, k, D, lx.up⟩
  exact ⟨⟨by omega, by omega⟩, f_rc kd.k (s_simplify6 lx.1 w (hsc _) (fun z h1 F1 b1 s1 f1 c1 => ⟨⟨by omega, by omega⟩, f_rc c1.1.km.1 (s_simplify7 c1.1.km (lx.2.1.hf f1) w (hsc _) (fun _ F2 r2 q2 => f_fin (aSim_R w z) (K _ _ (LZ_ch lx f1 c1 r2 q2 ((WF_cur ⟨z.1, by omega⟩ rSim_q (wfC_rSim (w.1.2.2.2 _ z.1 (by omega))) w).mono (by omega))))) (fun y => absurd z y))⟩) (fun z => ⟨⟨by omega, by omega⟩, f_rc kd.km.1 (s_simplify7 kd.km lx.2.1 w (hsc _) (fun y => absurd y z) (fun _ => f_fin R_1 (K _ _ lu)))⟩))⟩
theorem p_rendered (hb : 0 ≤ x3 ∧ x3 ≤ (L : Int) - 5) (hsc : ∀ i, InR (sc i)) (hc : 0 ≤ c ∧ c ≤ 511) (l : LZ n c h F) (K : ∀ h' F', LZ n (c + 1) h' F' → A (zwI h' F')) : cSld L sc (x3 + 1) fun v149 => cSld L sc (x3 + 2) fun v150 => cSld L sc (x3 + 3) fun v151 => cRc (zwI h F) 16 n <| mX6_rendered n v149 v150 v151 (zwI h F) fun v153 h152 => cSld L sc (x3 + 1) fun v154 => cSld L sc (x3 + 2) fun v155 => cSld L sc (x3 + 3) fun v156 => cRc h152 17 (n + 467) <| mX7_rendered (n + 467) v154 v155 v156 h152 fun v158 h157 => cEq v153 v158 (A h157) (B h157) := by
  obtain ⟨S, g, Hs, Hg, b, k, D, lx⟩ := l
  have kd := lx.1.1
  have w := lx.2.2.1
  have lu : LZ n (c + 1) h F := ⟨S, g, Hs, Hg, b, k, D, lx.up⟩
  exact ⟨⟨by omega, by omega⟩, ⟨⟨by omega, by omega⟩, ⟨⟨by omega, by omega⟩, f_rc kd.k (s_rendered6 kd lx.1.2.2.2.1 w (hsc _) (hsc _) (hsc _) (fun F1 f1 => ⟨⟨by omega, by omega⟩, ⟨⟨by omega, by omega⟩, ⟨⟨by omega, by omega⟩, f_rc kd.km.1 (s_rendered7 kd.km (lx.fr f1).2.1.1 w (by omega) (hsc _) (hsc _) (hsc _) (fun F2 f2 => f_fin (aRend_R w _ _ _) (K _ _ ⟨S, g, Hs, Hg, b, k, D, ((lx.fr f1).qf f2).up⟩)))⟩⟩⟩))⟩⟩⟩
theorem p_ink (hb : 0 ≤ x3 ∧ x3 ≤ (L : Int) - 5) (hsc : ∀ i, InR (sc i)) (hc : 0 ≤ c ∧ c ≤ 511) (l : LZ n c h F) (K : ∀ h' F', LZ n (c + 1) h' F' → A (zwI h' F')) : cSld L sc (x3 + 1) fun v159 => cSld L sc (x3 + 2) fun v160 => cSld L sc (x3 + 3) fun v161 => cRc (zwI h F) 16 n <| mX6_ink n v159 v160 v161 (zwI h F) fun v163 h162 => cSld L sc (x3 + 1) fun v164 => cSld L sc (x3 + 2) fun v165 => cSld L sc (x3 + 3) fun v166 => cRc h162 17 (n + 467) <| mX7_ink (n + 467) v164 v165 v166 h162 fun v168 h167 => cEq v163 v168 (A h167) (B h167) := by
  obtain ⟨S, g, Hs, Hg, b, k, D, lx⟩ := l
  have kd := lx.1.1
  have w := lx.2.2.1
  have lu : LZ n (c + 1) h F := ⟨S, g, Hs, Hg, b, k, D, lx.up⟩
  exact ⟨⟨by omega, by omega⟩, ⟨⟨by omega, by omega⟩, ⟨⟨by omega, by omega⟩, f_rc kd.k (s_ink6 kd lx.1.2.2.2.1 w (hsc _) (hsc _) (hsc _) (fun F1 f1 => ⟨⟨by omega, by omega⟩, ⟨⟨by omega, by omega⟩, ⟨⟨by omega, by omega⟩, f_rc kd.km.1 (s_ink7 kd.km (lx.fr f1).2.1.1 w (by omega) (hsc _) (hsc _) (hsc _) (fun F2 f2 => f_fin (aInk_R w _ _ _) (K _ _ ⟨S, g, Hs, Hg, b, k, D, ((lx.fr f1).qf f2).up⟩)))⟩⟩⟩))⟩⟩⟩
theorem p_inkOf (hb : 0 ≤ x3 ∧ x3 ≤ (L : Int) - 5) (hsc : ∀ i, InR (sc i)) (hc : 0 ≤ c ∧ c ≤ 511) (l : LZ n c h F) (K : ∀ h' F', LZ n (c + 1) h' F' → A (zwI h' F')) : cSld L sc (x3 + 1) fun v169 => cSld L sc (x3 + 2) fun v170 => cRc (zwI h F) 16 n <| mX6_inkOf n v169 v170 (zwI h F) fun v172 h171 => cSld L sc (x3 + 1) fun v173 => cSld L sc (x3 + 2) fun v174 => cRc h171 17 (n + 467) <| mX7_inkOf (n + 467) v173 v174 h171 fun v176 h175 => cEq v172 v176 (A h175) (B h175) := by
  obtain ⟨S, g, Hs, Hg, b, k, D, lx⟩ := l
  have kd := lx.1.1
  have w := lx.2.2.1
  have lu : LZ n (c + 1) h F := ⟨S, g, Hs, Hg, b, k, D, lx.up⟩
  exact ⟨⟨by omega, by omega⟩, ⟨⟨by omega, by omega⟩, f_rc kd.k (s_inkOf6 kd lx.1.2.2.2.1 w (hsc _) (hsc _) (fun F1 f1 => ⟨⟨by omega, by omega⟩, ⟨⟨by omega, by omega⟩, f_rc kd.km.1 (s_inkOf7 kd.km (lx.fr f1).2.1.1 w (hsc _) (hsc _) (fun F2 f2 => f_fin (aInkOf_R w _ _) (K _ _ ⟨S, g, Hs, Hg, b, k, D, ((lx.fr f1).qf f2).up⟩)))⟩⟩))⟩⟩
theorem p_touchedBy (hb : 0 ≤ x3 ∧ x3 ≤ (L : Int) - 5) (hsc : ∀ i, InR (sc i)) (hc : 0 ≤ c ∧ c ≤ 511) (l : LZ n c h F) (K : ∀ h' F', LZ n (c + 1) h' F' → A (zwI h' F')) : cSld L sc (x3 + 1) fun v177 => cSld L sc (x3 + 2) fun v178 => cRc (zwI h F) 16 n <| mX6_touchedBy n v177 v178 (zwI h F) fun v180 h179 => cSld L sc (x3 + 1) fun v181 => cSld L sc (x3 + 2) fun v182 => cRc h179 17 (n + 467) <| mX7_touchedBy (n + 467) v181 v182 h179 fun v184 h183 => cEq v180 v184 (A h183) (B h183) := by
  obtain ⟨S, g, Hs, Hg, b, k, D, lx⟩ := l
  have kd := lx.1.1
  have w := lx.2.2.1
  have lu : LZ n (c + 1) h F := ⟨S, g, Hs, Hg, b, k, D, lx.up⟩
  exact ⟨⟨by omega, by omega⟩, ⟨⟨by omega, by omega⟩, f_rc kd.k (s_touchedBy6 kd lx.1.2.2.2.1 w (hsc _) (hsc _) (⟨⟨by omega, by omega⟩, ⟨⟨by omega, by omega⟩, f_rc kd.km.1 (s_touchedBy7 kd.km lx.2.1.1 w (by omega) (hsc _) (hsc _) (fun F2 f2 => f_fin (aTouch_R w _ _) (K _ _ ⟨S, g, Hs, Hg, b, k, D, (lx.qf f2).up⟩)))⟩⟩))⟩⟩
theorem p_coverage (hb : 0 ≤ x3 ∧ x3 ≤ (L : Int) - 5) (hsc : ∀ i, InR (sc i)) (hc : 0 ≤ c ∧ c ≤ 511) (l : LZ n c h F) (K : ∀ h' F', LZ n (c + 1) h' F' → A (zwI h' F')) : cSld L sc (x3 + 1) fun v185 => cRc (zwI h F) 16 n <| mX6_coverage n v185 (zwI h F) fun v187 h186 => cSld L sc (x3 + 1) fun v188 => cRc h186 17 (n + 467) <| mX7_coverage (n + 467) v188 h186 fun v190 h189 => cEq v187 v190 (A h189) (B h189) := by
  obtain ⟨S, g, Hs, Hg, b, k, D, lx⟩ := l
  have kd := lx.1.1
  have w := lx.2.2.1
  have lu : LZ n (c + 1) h F := ⟨S, g, Hs, Hg, b, k, D, lx.up⟩
  exact ⟨⟨by omega, by omega⟩, f_rc kd.k (s_coverage6 kd lx.1.2.2.2.1 w (hsc _) (fun F1 f1 => ⟨⟨by omega, by omega⟩, f_rc kd.km.1 (s_coverage7 kd.km (lx.fr f1).2.1.1 w (by omega) (hsc _) (fun F2 f2 => f_fin (aCov_R w _) (K _ _ ⟨S, g, Hs, Hg, b, k, D, ((lx.fr f1).qf f2).up⟩)))⟩))⟩
theorem p_plateAt (hb : 0 ≤ x3 ∧ x3 ≤ (L : Int) - 5) (hsc : ∀ i, InR (sc i)) (hc : 0 ≤ c ∧ c ≤ 511) (l : LZ n c h F) (K : ∀ h' F', LZ n (c + 1) h' F' → A (zwI h' F')) : cSld L sc (x3 + 1) fun v191 => cRc (zwI h F) 16 n <| mX6_plateAt n v191 (zwI h F) fun v193 h192 => cSld L sc (x3 + 1) fun v194 => cRc h192 17 (n + 467) <| mX7_plateAt (n + 467) v194 h192 fun v196 h195 => cEq v193 v196 (A h195) (B h195) := by
  obtain ⟨S, g, Hs, Hg, b, k, D, lx⟩ := l
  have kd := lx.1.1
  have w := lx.2.2.1
  have lu : LZ n (c + 1) h F := ⟨S, g, Hs, Hg, b, k, D, lx.up⟩
  exact ⟨⟨by omega, by omega⟩, f_rc kd.k (s_plateAt6 kd lx.1.2.2.2.1 w (hsc _) (fun F1 f1 => ⟨⟨by omega, by omega⟩, f_rc kd.km.1 (s_plateAt7 kd.km (lx.fr f1).2.1.1 w (by omega) (hsc _) (fun F2 f2 => f_fin (aPlate_R _) (K _ _ ⟨S, g, Hs, Hg, b, k, D, ((lx.fr f1).qf f2).up⟩)))⟩))⟩
theorem p_greatestSum (hb : 0 ≤ x3 ∧ x3 ≤ (L : Int) - 5) (hsc : ∀ i, InR (sc i)) (hc : 0 ≤ c ∧ c ≤ 511) (l : LZ n c h F) (K : ∀ h' F', LZ n (c + 1) h' F' → A (zwI h' F')) : cRc (zwI h F) 16 n <| mX6_greatestSum n (zwI h F) fun v198 h197 => cRc h197 17 (n + 467) <| mX7_greatestSum (n + 467) h197 fun v200 h199 => cEq v198 v200 (A h199) (B h199) := by
  obtain ⟨S, g, Hs, Hg, b, k, D, lx⟩ := l
  have kd := lx.1.1
  have w := lx.2.2.1
  have lu : LZ n (c + 1) h F := ⟨S, g, Hs, Hg, b, k, D, lx.up⟩
  exact f_rc kd.k (s_greatestSum6 kd lx.1.2.2.2.1 w  (fun F1 f1 => f_rc kd.km.1 (s_greatestSum7 kd.km (lx.fr f1).2.1.1 w (by omega)  (fun F2 f2 => f_fin (aGreat_R w) (K _ _ ⟨S, g, Hs, Hg, b, k, D, ((lx.fr f1).qf f2).up⟩)))))
theorem p_limitedPixels (hb : 0 ≤ x3 ∧ x3 ≤ (L : Int) - 5) (hsc : ∀ i, InR (sc i)) (hc : 0 ≤ c ∧ c ≤ 511) (l : LZ n c h F) (K : ∀ h' F', LZ n (c + 1) h' F' → A (zwI h' F')) : cRc (zwI h F) 16 n <| mX6_limitedPixels n (zwI h F) fun v202 h201 => cRc h201 17 (n + 467) <| mX7_limitedPixels (n + 467) h201 fun v204 h203 => cEq v202 v204 (A h203) (B h203) := by
  obtain ⟨S, g, Hs, Hg, b, k, D, lx⟩ := l
  have kd := lx.1.1
  have w := lx.2.2.1
  have lu : LZ n (c + 1) h F := ⟨S, g, Hs, Hg, b, k, D, lx.up⟩
  exact f_rc kd.k (s_limitedPixels6 kd lx.1.2.2.2.1 w  (fun F1 f1 => f_rc kd.km.1 (s_limitedPixels7 kd.km (lx.fr f1).2.1.1 w (by omega)  (fun F2 f2 => f_fin (aLim_R w) (K _ _ ⟨S, g, Hs, Hg, b, k, D, ((lx.fr f1).qf f2).up⟩)))))
theorem p_inkCount (hb : 0 ≤ x3 ∧ x3 ≤ (L : Int) - 5) (hsc : ∀ i, InR (sc i)) (hc : 0 ≤ c ∧ c ≤ 511) (l : LZ n c h F) (K : ∀ h' F', LZ n (c + 1) h' F' → A (zwI h' F')) : cRc (zwI h F) 16 n <| mX6_inkCount n (zwI h F) fun v206 h205 => cRc h205 17 (n + 467) <| mX7_inkCount (n + 467) h205 fun v208 h207 => cEq v206 v208 (A h207) (B h207) := by
  obtain ⟨S, g, Hs, Hg, b, k, D, lx⟩ := l
  have kd := lx.1.1
  have w := lx.2.2.1
  have lu : LZ n (c + 1) h F := ⟨S, g, Hs, Hg, b, k, D, lx.up⟩
  exact f_rc kd.k (s_inkCount6 kd lx.1.2.2.2.1 w  (fun F1 f1 => f_rc kd.km.1 (s_inkCount7 kd.km (lx.fr f1).2.1.1 w (by omega)  (fun F2 f2 => f_fin (aInks_R w) (K _ _ ⟨S, g, Hs, Hg, b, k, D, ((lx.fr f1).qf f2).up⟩)))))
theorem p_inkAt (hb : 0 ≤ x3 ∧ x3 ≤ (L : Int) - 5) (hsc : ∀ i, InR (sc i)) (hc : 0 ≤ c ∧ c ≤ 511) (l : LZ n c h F) (K : ∀ h' F', LZ n (c + 1) h' F' → A (zwI h' F')) : cSld L sc (x3 + 1) fun v209 => cSld L sc (x3 + 2) fun v210 => cRc (zwI h F) 16 n <| mX6_inkAt n v209 v210 (zwI h F) fun v212 h211 => cSld L sc (x3 + 1) fun v213 => cSld L sc (x3 + 2) fun v214 => cRc h211 17 (n + 467) <| mX7_inkAt (n + 467) v213 v214 h211 fun v216 h215 => cEq v212 v216 (A h215) (B h215) := by
  obtain ⟨S, g, Hs, Hg, b, k, D, lx⟩ := l
  have kd := lx.1.1
  have w := lx.2.2.1
  have lu : LZ n (c + 1) h F := ⟨S, g, Hs, Hg, b, k, D, lx.up⟩
  exact ⟨⟨by omega, by omega⟩, ⟨⟨by omega, by omega⟩, f_rc kd.k (s_inkAt6 kd lx.1.2.2.2.1 w (hsc _) (hsc _) (fun F1 f1 => ⟨⟨by omega, by omega⟩, ⟨⟨by omega, by omega⟩, f_rc kd.km.1 (s_inkAt7 kd.km (lx.fr f1).2.1.1 w (by omega) (hsc _) (hsc _) (fun F2 f2 => f_fin (aInkAt_R w _ _) (K _ _ ⟨S, g, Hs, Hg, b, k, D, ((lx.fr f1).qf f2).up⟩)))⟩⟩))⟩⟩
theorem p_neededLimit (hb : 0 ≤ x3 ∧ x3 ≤ (L : Int) - 5) (hsc : ∀ i, InR (sc i)) (hc : 0 ≤ c ∧ c ≤ 511) (l : LZ n c h F) (K : ∀ h' F', LZ n (c + 1) h' F' → A (zwI h' F')) : cRc (zwI h F) 16 n <| mX6_neededLimit n (zwI h F) fun v218 h217 => cRc h217 17 (n + 467) <| mX7_neededLimit (n + 467) h217 fun v220 h219 => cEq v218 v220 (A h219) (B h219) := by
  obtain ⟨S, g, Hs, Hg, b, k, D, lx⟩ := l
  have kd := lx.1.1
  have w := lx.2.2.1
  have lu : LZ n (c + 1) h F := ⟨S, g, Hs, Hg, b, k, D, lx.up⟩
  exact f_rc kd.k (s_neededLimit6 kd lx.1.2.2.2.1 w  (fun F1 f1 => f_rc kd.km.1 (s_neededLimit7 kd.km (lx.fr f1).2.1.1 w (by omega)  (fun F2 f2 => f_fin (aNeed_R w) (K _ _ ⟨S, g, Hs, Hg, b, k, D, ((lx.fr f1).qf f2).up⟩)))))
theorem p_thriftiestAmount (hb : 0 ≤ x3 ∧ x3 ≤ (L : Int) - 5) (hsc : ∀ i, InR (sc i)) (hc : 0 ≤ c ∧ c ≤ 511) (l : LZ n c h F) (K : ∀ h' F', LZ n (c + 1) h' F' → A (zwI h' F')) : cRc (zwI h F) 16 n <| mX6_thriftiestAmount n (zwI h F) fun v222 h221 => cRc h221 17 (n + 467) <| mX7_thriftiestAmount (n + 467) h221 fun v224 h223 => cEq v222 v224 (A h223) (B h223) := by
  obtain ⟨S, g, Hs, Hg, b, k, D, lx⟩ := l
  have kd := lx.1.1
  have w := lx.2.2.1
  have lu : LZ n (c + 1) h F := ⟨S, g, Hs, Hg, b, k, D, lx.up⟩
  exact f_rc kd.k (s_thriftiest6 kd lx.1.2.2.2.1 w  (fun F1 f1 => f_rc kd.km.1 (s_thriftiest7 kd.km (lx.fr f1).2.1.1 w (by omega)  (fun F2 f2 => f_fin (aThrift_R) (K _ _ ⟨S, g, Hs, Hg, b, k, D, ((lx.fr f1).qf f2).up⟩)))))
theorem p_disorderedPixels (hb : 0 ≤ x3 ∧ x3 ≤ (L : Int) - 5) (hsc : ∀ i, InR (sc i)) (hc : 0 ≤ c ∧ c ≤ 511) (l : LZ n c h F) (K : ∀ h' F', LZ n (c + 1) h' F' → A (zwI h' F')) : cRc (zwI h F) 16 n <| mX6_disorderedPixels n (zwI h F) fun v226 h225 => cRc h225 17 (n + 467) <| mX7_disorderedPixels (n + 467) h225 fun v228 h227 => cEq v226 v228 (A h227) (B h227) := by
  obtain ⟨S, g, Hs, Hg, b, k, D, lx⟩ := l
  have kd := lx.1.1
  have w := lx.2.2.1
  have lu : LZ n (c + 1) h F := ⟨S, g, Hs, Hg, b, k, D, lx.up⟩
  exact f_rc kd.k (s_disorderedPixels6 kd lx.1.2.2.2.1 w  (fun F1 f1 => f_rc kd.km.1 (s_disorderedPixels7 kd.km (lx.fr f1).2.1.1 w (by omega)  (fun F2 f2 => f_fin (aDis_R w) (K _ _ ⟨S, g, Hs, Hg, b, k, D, ((lx.fr f1).qf f2).up⟩)))))
theorem p_undo (hb : 0 ≤ x3 ∧ x3 ≤ (L : Int) - 5) (hsc : ∀ i, InR (sc i)) (hc : 0 ≤ c ∧ c ≤ 511) (l : LZ n c h F) (K : ∀ h' F', LZ n (c + 1) h' F' → A (zwI h' F')) : cRc (zwI h F) 16 n <| mX6_undo n (zwI h F) fun v230 h229 => cRc h229 17 (n + 467) <| mX7_undo (n + 467) h229 fun v232 h231 => cEq v230 v232 (A h231) (B h231) := by
  obtain ⟨S, g, Hs, Hg, b, k, D, lx⟩ := l
  have kd := lx.1.1
  have w := lx.2.2.1
  have lu : LZ n (c + 1) h F := ⟨S, g, Hs, Hg, b, k, D, lx.up⟩
  have hk := lx.1.k0
  exact f_rc kd.k (s_undo6 lx.1 lx.2.2.2.1 (fun z F1 f1 c1 => f_rc kd.km.1 (s_undo7 kd.km (lx.2.1.hf f1) (fun _ F2 r2 q2 => f_fin ⟨by omega, by omega⟩ (K _ _ ⟨Hs (k - 1), Hg (k - 1), Hs, Hg, b, k - 1, D, c1.kp fun a j x y => q2 _ _ (by omega), r2, (lx.2.2.2.1 (k - 1) (by omega) (by omega)).mono (by omega), fun i x y => (lx.2.2.2.1 i x (by omega)).mono (by omega), lx.2.2.2.2.1, (lx.2.2.2.2.2.1.kp (F1 := F1) fun j => f1 _ _ (by omega)).kp fun j => q2 _ _ (by omega), (lx.2.2.2.2.2.2.hf f1).kp fun a j x => q2 _ _ (by omega)⟩)) (fun y => by omega))) (fun z => f_rc kd.km.1 (s_undo7 kd.km lx.2.1 (fun y => by omega) (fun _ => f_fin R_2 (K _ _ lu)))))
end LL
