/-! a node added, on both sides -/
theorem LT_add {F F' : Nat → Int → Int} {N : Nat} {S S' : Int → Int} {d K P : Int} (l : LT F N S) (a : AR S S' d K P) (hd : 1 ≤ d ∧ d < 24) (hK : 0 ≤ K) (e1 : F' N d = K) (e2 : F' (N + 1) d = P) (e3 : F' (N + 2) d = S 8 + 1) (e4 : F' (N + 2) 0 = S 8 + 1) (e5 : F' (N + 3) d = lbx S' d) (e6 : F' (N + 4) d = lik S' d) (o : ∀ b j, N ≤ b → b ≤ N + 4 → j ≠ d → ¬ (b = N + 2 ∧ j = 0) → F' b j = F b j) : LT F' N S' := by
  obtain ⟨l1, l2, ⟨l3, l4⟩, l5, l6⟩ := l
  obtain ⟨-, a8, -, ak, ap, an⟩ := id a
  have cg : ∀ k, 0 ≤ k → k < 24 → k ≠ d → lbx S' k = lbx S k ∧ lik S' k = lik S k := fun k x y z => by
    obtain ⟨k1, k2, k3, k4⟩ := a.kx x y z
    unfold lbx lik
    rw [k1, k4 0 (by decide) (by decide), k4 1 (by decide) (by decide), k4 2 (by decide) (by decide), k4 3 (by decide) (by decide), k4 4 (by decide) (by decide), k4 5 (by decide) (by decide), k4 6 (by decide) (by decide)]
    exact ⟨rfl, rfl⟩
  have lv : ∀ k, live S' k → k ≠ d → live S k := fun k x z => ⟨x.1, by have := (a.kx x.1.1 x.1.2 z).1; have := x.2; omega⟩
  refine ⟨fun k x y => ?_, fun k x y => ?_, ⟨fun k x y => ?_, by rw [e4, a8]⟩, fun k x => ?_, fun k x y => ?_⟩
  · by_cases z : k = d
    · rw [z, e1, ak]
    · rw [o _ _ (by omega) (by omega) z (by omega), l1 k x y, (a.kx x y z).1]
  · by_cases z : k = d
    · rw [z, e2]
      unfold lp
      rw [ak, if_pos hK, ap]
    · have h := a.kx (by omega) y z
      rw [o _ _ (by omega) (by omega) z (by omega), l2 k x y]
      unfold lp
      rw [h.1, h.2.1]
  · by_cases z : k = d
    · rw [z, e3]
      unfold lcn
      rw [ak, if_pos hK, an]
    · have h := a.kx (by omega) y z
      rw [o _ _ (by omega) (by omega) z (by omega), l3 k x y]
      unfold lcn
      rw [h.1, h.2.2.1]
  · by_cases z : k = d
    · rw [z, e5]
    · rw [o _ _ (by omega) (by omega) z (by omega), l5 k (lv k x z), (cg k x.1.1 x.1.2 z).1]
  · by_cases z : k = d
    · rw [z, e6]
    · rw [o _ _ (by omega) (by omega) z (by omega), l6 k (lv k x z) y, (cg k x.1.1 x.1.2 z).2]
section AI
variable {h : Zm} {F : Nat → Int → Int} {S S' : Int → Int} {g : Nat → Int → Int} {N : Nat} {Q : Int → Zm → Prop} {d K P x y w hh a b c o : Int}
theorem l_340 (kw : kLw h N) (lt : LT F N S) (ar : AR S S' d K P) (hd : 1 ≤ d ∧ d < 24) (h8 : 0 ≤ S 8 ∧ S 8 ≤ 4000) (hK : 0 ≤ K ∧ K ≤ 2) (hP : InR P) (hx : -12 ≤ x ∧ x ≤ 12) (hy : -12 ≤ y ∧ y ≤ 12) (hw : 1 ≤ w ∧ w ≤ 12) (hh1 : 1 ≤ hh ∧ hh ≤ 12) (ha : 0 ≤ a ∧ a ≤ 255) (hb : 0 ≤ b ∧ b ≤ 255) (hc : 0 ≤ c ∧ c ≤ 255) (ho : 0 ≤ o ∧ o ≤ 100) (b0 : K = 0 → lbx S' d = o + 128 * (x + 12) + 4096 * (y + 12)) (b1 : K ≠ 0 → lbx S' d = x + 12 + 32 * (y + 12) + 1024 * w + 16384 * hh) (i1 : K = 1 → lik S' d = 65536 * a + 256 * b + c) (i2 : K = 2 → lik S' d = 256 * (a % 3) + b) (i0 : K = 0 → lik S' d = 0) (q : ∀ F', (∀ b j, (b < N ∨ N + 4 < b) → F' b j = F b j) → LT F' N S' → Q 1 (zwI h F')) : mL_isAdded_J340 N (N + 1) (N + 2) (N + 3) (N + 4) P K x y w hh a b c o d 1 d (zwI h F) Q := by
  unfold mL_isAdded_J340
  have l0 := lt.2.2.1.2
  have e0 : up (up F N d K) (N + 1) d P (N + 2) 0 = S 8 := by rw [up_a (by omega), up_a (by omega)]; exact l0
  refine f_le ⟨by omega, by omega⟩ z_in0 (fun z => by omega) (fun _ => f_st kw.kd (by omega) (by omega) ⟨by omega, by omega⟩ (f_st kw.pa (by omega) (by omega) hP (f_ldv kw.cm (by decide) (by decide) e0 fun _ => f_st kw.cm (by decide) (by decide) ⟨by omega, by omega⟩ (f_ldv (v := S 8 + 1) kw.cm (by decide) (by decide) (up_s _ _ _ _) fun _ => f_st kw.cm (by omega) (by omega) ⟨by omega, by omega⟩ ?_))))
  have end486 : ∀ m : Zm, Q 1 m → mL_isAdded_J486 d 1 d m Q := fun m hq => by
    unfold mL_isAdded_J486
    exact f_eq ⟨by decide, by decide⟩ z_in0 (fun z => absurd z (by decide)) (fun _ => f_eq ⟨by omega, by omega⟩ ⟨by omega, by omega⟩ (fun _ => hq) (fun z => absurd rfl z))
  have f435 : ∀ F2 v, (∀ b j, b ≠ N + 3 → b ≠ N + 4 → F2 b j = up (up (up (up F N d K) (N + 1) d P) (N + 2) 0 (S 8 + 1)) (N + 2) d (S 8 + 1) b j) → (∀ j, F2 (N + 3) j = F (N + 3) j) → (∀ j, F2 (N + 4) j = F (N + 4) j) → InR v → v = lbx S' d → mL_isAdded_J435 (N + 4) K a b c d 1 d (N + 3) d v (zwI h F2) Q := by
    intro F2 v f2 f3 f4 rv ev
    unfold mL_isAdded_J435
    have fin : ∀ u, u = lik S' d → Q 1 (zwI h (up (up F2 (N + 3) d v) (N + 4) d u)) := fun u hu => by
      refine q _ (fun b j z => ?_) (LT_add lt ar hd hK.1 ?_ ?_ ?_ ?_ ?_ ?_ (fun b j z1 z2 z3 z4 => ?_))
      · rw [up_a (by omega), up_a (by omega), f2 _ _ (by omega) (by omega), up_a (by omega), up_a (by omega), up_a (by omega), up_a (by omega)]
      · rw [up_a (by omega), up_a (by omega), f2 _ _ (by omega) (by omega), up_a (by omega), up_a (by omega), up_a (by omega), up_s]
      · rw [up_a (by omega), up_a (by omega), f2 _ _ (by omega) (by omega), up_a (by omega), up_a (by omega), up_s]
      · rw [up_a (by omega), up_a (by omega), f2 _ _ (by omega) (by omega), up_s]
      · rw [up_a (by omega), up_a (by omega), f2 _ _ (by omega) (by omega), up_n (by omega), up_s]
      · rw [up_a (by omega), up_s, ev]
      · rw [up_s, hu]
      · rw [up_n (by omega), up_n (by omega)]
        rcases (show b = N ∨ b = N + 1 ∨ b = N + 2 ∨ b = N + 3 ∨ b = N + 4 by omega) with e | e | e | e | e
        · rw [f2 _ _ (by omega) (by omega), up_n (by omega), up_n (by omega), up_n (by omega), up_n (by omega)]
        · rw [f2 _ _ (by omega) (by omega), up_n (by omega), up_n (by omega), up_n (by omega), up_n (by omega)]
        · rw [f2 _ _ (by omega) (by omega), up_n (by omega), up_n (by omega), up_n (by omega), up_n (by omega)]
        · rw [e]; exact f3 j
        · rw [e]; exact f4 j
    refine f_st kw.bx (by omega) (by omega) rv (f_eq ⟨by omega, by omega⟩ ⟨by decide, by decide⟩ (fun z => f_st kw.ik (by omega) (by omega) ⟨by omega, by omega⟩ (end486 _ (fin _ (i1 z).symm))) (fun z1 => f_eq ⟨by omega, by omega⟩ ⟨by decide, by decide⟩ (fun z => f_remv (v := a % 3) ⟨by omega, by omega⟩ ⟨by decide, by decide⟩ rfl (f_st kw.ik (by omega) (by omega) ⟨by omega, by omega⟩ (end486 _ (fin _ (i2 z).symm)))) (fun z2 => f_st kw.ik (by omega) (by omega) z_in0 (end486 _ (fin _ (i0 (by omega)).symm)))))
  refine f_eq ⟨by omega, by omega⟩ z_in0 (fun z => f435 _ _ (fun b j _ _ => rfl) (fun j => ?_) (fun j => ?_) ⟨by omega, by omega⟩ (b0 z).symm) (fun z => f435 _ _ (fun b j _ _ => rfl) (fun j => ?_) (fun j => ?_) ⟨by omega, by omega⟩ (b1 z).symm)
  all_goals rw [up_a (by omega), up_a (by omega), up_a (by omega), up_a (by omega)]
end AI
/-- the law between its calls: the class's state S (with ghosts g, draft D) at n, the law's arrays from n + 467 on -/
def LV (n : Nat) (c : Int) (S : Int → Int) (g : Nat → Int → Int) (D : Int → Int) (h : Zm) (F : Nat → Int → Int) : Prop := (∃ Hs Hg b k, CI h F n S g Hs Hg b k) ∧ WF S g c ∧ (okD D ∧ DC F n D) ∧ (LT F (n + 467) S ∧ LSt F (n + 467) S) ∧ kLw h (n + 467) ∧ stc S
section LA
variable {h : Zm} {F : Nat → Int → Int} {S D : Int → Int} {g : Nat → Int → Int} {n : Nat} {c : Int} {Q : Int → Zm → Prop} {P K x y w hh a b d o : Int}
theorem stc.ar {S S' : Int → Int} (s : stc S) (e : ∀ j, 9 ≤ j → j < 128 → S' j = S j) : stc S' := fun i h0 h1 => by
  have := s i h0 h1
  rw [e _ (by omega) (by omega), e _ (by omega) (by omega), e _ (by omega) (by omega), e _ (by omega) (by omega)]
  exact this
/-- what a call that leaves the state leaves -/
theorem LV.fr {F' : Nat → Int → Int} (l : LV n c S g D h F) (f : fr (n + 316) (n + 466) F F') : LV n c S g D h F' := by
  obtain ⟨⟨Hs, Hg, b, k, ci⟩, w, ⟨od, dc⟩, ⟨lt, ls⟩, kw, s⟩ := l
  exact ⟨⟨Hs, Hg, b, k, ci.kp fun a j x y => f _ _ (by omega)⟩, w, ⟨od, dc.kp fun j => f _ _ (by omega)⟩, ⟨lt.keep fun a j x y => f _ _ (by omega), ls.keep fun a j x y => f _ _ (by omega)⟩, kw, s⟩
theorem l_add (l : LV n c S g D h F) (hc : c ≤ 3000) (hP : InR P) (hK : 0 ≤ K ∧ K ≤ 2) (hx : -12 ≤ x ∧ x ≤ 12) (hy : -12 ≤ y ∧ y ≤ 12) (hw : 1 ≤ w ∧ w ≤ 12) (hh1 : 1 ≤ hh ∧ hh ≤ 12) (ha : 0 ≤ a ∧ a ≤ 255) (hb : 0 ≤ b ∧ b ≤ 255) (hd : 0 ≤ d ∧ d ≤ 255) (ho : 0 ≤ o ∧ o ≤ 100) (q : ∀ h' F' S' g' D', LV n (c + 1) S' g' D' h' F' → S' 0 = S 0 → S' 1 = S 1 → h'.1.2 = h.1.2 → Q 1 (zwI h' F')) : mL_isAdded_J243 n (n + 467) (n + 467 + 1) (n + 467 + 2) (n + 467 + 3) (n + 467 + 4) P K x y w hh a b d o (fNb S g P) (zwI h F) Q := by
  obtain ⟨⟨Hs, Hg, bb, k, ci⟩, wf, ⟨od, dc⟩, ⟨lt, ls⟩, kw, st⟩ := l
  have kd := ci.1
  have h8 := wf.1.2.2.1
  have okb : okB x y w hh := ⟨⟨hx, hy⟩, hw, hh1⟩
  have oki : okI a b d := ⟨ha, hb, hd⟩
  have hm := mul_bd (a := w) (b := hh) (A := 12) (B := 12) (by omega) hw.2 (by omega) hh1.2
  unfold mL_isAdded_J243
  refine f_rc kd.k (s_setBox6 kd dc ⟨by omega, by omega⟩ ⟨by omega, by omega⟩ ⟨by omega, by omega⟩ ⟨by omega, by omega⟩ (fun _ F1 f1 d1 => f_fin ⟨by omega, by omega⟩ (f_rc kd.k (s_setInk6 kd d1 ⟨by omega, by omega⟩ ⟨by omega, by omega⟩ ⟨by omega, by omega⟩ (fun _ F2 f2 d2 => f_fin ⟨by omega, by omega⟩ ?_) (fun no => absurd oki no)))) (fun no => absurd okb no))
  have f12 : bu (n + 314) F F2 := f1.tr f2
  have ci2 : CI h F2 n S g Hs Hg bb k := ci.kp fun a j x y => f12 _ _ (by omega)
  have od2 := okD_ink (okD_box od okb) oki
  have lt2 : LT F2 (n + 467) S := lt.keep fun a j x y => f12 _ _ (by omega)
  have ls2 : LSt F2 (n + 467) S := ls.keep fun a j x y => f12 _ _ (by omega)
  have hD0 : dInk (dBox D x y w hh) a b d 0 = x := rfl
  have hD1 : dInk (dBox D x y w hh) a b d 1 = y := rfl
  have hD2 : dInk (dBox D x y w hh) a b d 2 = w := rfl
  have hD3 : dInk (dBox D x y w hh) a b d 3 = hh := rfl
  have hD4 : dInk (dBox D x y w hh) a b d 4 = a := rfl
  have hD5 : dInk (dBox D x y w hh) a b d 5 = b := rfl
  have hD6 : dInk (dBox D x y w hh) a b d 6 = d := rfl
  generalize dInk (dBox D x y w hh) a b d = D2 at d2 od2 hD0 hD1 hD2 hD3 hD4 hD5 hD6
  have hfr := fre_b S
  -- refused
  have no : fNb S g P < 0 → mL_isAdded_J340 (n + 467) (n + 467 + 1) (n + 467 + 2) (n + 467 + 3) (n + 467 + 4) P K x y w hh a b d o (fNb S g P) 1 (fNb S g P) (zwI h F2) Q := fun z => by
    have rN := fNb_R (S := S) (g := g) (P := P)
    unfold mL_isAdded_J340 mL_isAdded_J486
    exact f_le rN z_in0 (fun _ => f_eq ⟨by decide, by decide⟩ z_in0 (fun z => absurd z (by decide)) (fun _ => f_fin rN (q h F2 S g D2 ⟨⟨Hs, Hg, bb, k, ci2⟩, wf.mono (by omega), ⟨od2, d2⟩, ⟨lt2, ls2⟩, kw, st⟩ rfl rfl rfl))) (fun z2 => by omega)
  -- taken
  have yes : ∀ (S' : Int → Int) (g' : Nat → Int → Int) (h' : Zm) (F' : Nat → Int → Int) (b' : Int → Nat), fre S < 24 → AR S S' (fre S) K P → WF S' g' (c + 1) → (K = 0 → nf S' (fre S) 0 = o ∧ nf S' (fre S) 1 = x ∧ nf S' (fre S) 2 = y) → (K ≠ 0 → ∀ j, 0 ≤ j → j < 4 → nf S' (fre S) j = D2 j) → (K = 1 → nf S' (fre S) 4 = a ∧ nf S' (fre S) 5 = b ∧ nf S' (fre S) 6 = d) → (K = 2 → nf S' (fre S) 4 = a % 3 ∧ nf S' (fre S) 5 = b) → sw n h h' → hf n F2 F' → CI h' F' n S' g' (pH Hs k S) (pH Hg k g) b' (pK k) → mL_isAdded_J340 (n + 467) (n + 467 + 1) (n + 467 + 2) (n + 467 + 3) (n + 467 + 4) P K x y w hh a b d o (fre S) 1 (fre S) (zwI h' F') Q := by
    intro S' g' h' F' b' zf ar w' n0 n1 n2 n3 s f c'
    have lt3 : LT F' (n + 467) S := lt2.keep fun a j x y => f _ _ (by omega)
    have ls3 : LSt F' (n + 467) S := ls2.keep fun a j x y => f _ _ (by omega)
    have kw3 : kLw h' (n + 467) := kw.to fun a _ _ => s.1 a
    have eK : nk S' (fre S) = K := ar.2.2.2.1
    refine l_340 kw3 lt3 ar ⟨hfr.1, zf⟩ ⟨h8.1, by omega⟩ hK hP hx hy hw hh1 ha hb hd ho (fun z => ?_) (fun z => ?_) (fun z => ?_) (fun z => ?_) (fun z => ?_) (fun F3 f3 l3 => q h' F3 S' g' D2 ⟨⟨_, _, _, _, c'.kp fun a j x y => f3 _ _ (by omega)⟩, w', ⟨od2, ?_⟩, ⟨l3, ?_⟩, kw3, st.ar fun j x y => ar.1 j (by omega) y (by omega)⟩ (ar.1 0 (by decide) (by decide) (by decide)) (ar.1 1 (by decide) (by decide) (by decide)) s.2.2)
    · unfold lbx
      obtain ⟨m0, m1, m2⟩ := n0 z
      rw [eK, if_pos z, m0, m1, m2]
    · unfold lbx
      have m := n1 z
      rw [eK, if_neg z, m 0 (by decide) (by decide), m 1 (by decide) (by decide), m 2 (by decide) (by decide), m 3 (by decide) (by decide), hD0, hD1, hD2, hD3]
    · unfold lik
      obtain ⟨m0, m1, m2⟩ := n2 z
      rw [eK, if_pos z, m0, m1, m2]
    · unfold lik
      obtain ⟨m0, m1⟩ := n3 z
      rw [eK, if_neg (by omega), if_pos z, m0, m1]
    · unfold lik
      rw [eK, if_neg (by omega), if_neg (by omega)]
    · refine (d2.kp (F1 := F') fun j => f _ _ (by omega)).kp fun j => f3 _ _ (by omega)
    · refine ⟨fun i x y => ?_, fun i x y => ?_⟩
      · rw [f3 _ _ (by omega), ls3.1 i x y]
        exact (ar.1 _ (by omega) (by omega) (by omega)).symm
      · rw [f3 _ _ (by omega), ls3.2 i x y]
        exact (ar.1 _ (by omega) (by omega) (by omega)).symm
  unfold mL_isAdded_J291
  refine f_eq ⟨by omega, by omega⟩ z_in0 (fun z => ?_) (fun z => f_eq ⟨by omega, by omega⟩ ⟨by decide, by decide⟩ (fun z1 => ?_) (fun z1 => ?_))
  · refine f_rc kd.k (s_addGroup6 (D := D2) ci2 wf hP ⟨by omega, by omega⟩ ⟨by omega, by omega⟩ ⟨by omega, by omega⟩ (fun z0 p1 p2 p3 p4 p5 h' F' b' s f c' => ?_) (fun z0 => absurd ⟨ho, hx, hy⟩ z0) (fun _ z0 => no z0))
    have hkf : 1 ≤ fre S ∧ fre S < 24 := ⟨hfr.1, p4⟩
    rw [p5]
    exact yes _ _ h' F' b' p4 (by rw [z]; exact rowG_AR hkf) (WF_add wf (rowG_AR hkf) hkf (fre_neg p4) p1 p2 p3 (by decide) (rowG_ok hkf z0)) (fun _ => rowG_f) (fun y => absurd z y) (fun y => by omega) (fun y => by omega) s f c'
  · refine f_rc kd.k (s_addRect6 ci2 wf d2 od2 hP (fun p1 p2 p3 p4 p5 h' F' b' s f c' => ?_) (fun z0 => no z0))
    have hkf : 1 ≤ fre S ∧ fre S < 24 := ⟨hfr.1, p4⟩
    have rf := rowR_f (S := S) (D := D2) (P := P) hkf
    rw [p5]
    exact yes _ _ h' F' b' p4 (by rw [z1]; exact rowR_AR hkf) (WF_add wf (rowR_AR hkf) hkf (fre_neg p4) p1 p2 p3 (by decide) (rowR_ok hkf od2)) (fun y => by omega) (fun _ j u v => rf j u (by omega)) (fun _ => ⟨(rf 4 (by decide) (by decide)).trans hD4, (rf 5 (by decide) (by decide)).trans hD5, (rf 6 (by decide) (by decide)).trans hD6⟩) (fun y => by omega) s f c'
  · refine f_remv (v := a % 3) ⟨by omega, by omega⟩ ⟨by decide, by decide⟩ rfl (f_rc kd.k (s_addSpot6 ci2 wf d2 od2 hP ⟨by omega, by omega⟩ ⟨by omega, by omega⟩ (fun z0 p1 p2 p3 p4 p5 h' F' b' s f c' => ?_) (fun z0 => absurd ⟨⟨by omega, by omega⟩, hb⟩ z0) (fun _ z0 => no z0)))
    have hkf : 1 ≤ fre S ∧ fre S < 24 := ⟨hfr.1, p4⟩
    have rf := rowS_f (S := S) (D := D2) (P := P) (p := a % 3) (u := b) hkf
    rw [p5]
    exact yes _ _ h' F' b' p4 (by rw [show K = 2 by omega]; exact rowS_AR hkf) (WF_add wf (rowS_AR hkf) hkf (fre_neg p4) p1 p2 p3 (by decide) (rowS_ok hkf od2 z0)) (fun y => by omega) (fun _ j u v => rf.1 j u v) (fun y => by omega) (fun _ => rf.2) s f c'
end LA
