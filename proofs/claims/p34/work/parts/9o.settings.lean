/-! the settings, the page, and the law -/
section SET
variable {h : Zm} {F : Nat → Int → Int} {S D : Int → Int} {g : Nat → Int → Int} {n L : Nat} {sc : Int → Int} {c : Int}
theorem LT.cg {F : Nat → Int → Int} {N : Nat} {S S' : Int → Int} (e : ∀ j, 8 ≤ j → S' j = S j) (l : LT F N S) : LT F N S' := by
  have e1 : ∀ k, 0 ≤ k → nk S' k = nk S k ∧ np S' k = np S k ∧ no S' k = no S k ∧ ∀ j, 0 ≤ j → nf S' k j = nf S k j := fun k a => ⟨e _ (by omega), e _ (by omega), e _ (by omega), fun j b => e _ (by omega)⟩
  obtain ⟨l1, l2, ⟨l3, l4⟩, l5, l6⟩ := l
  have lv : ∀ k, live S' k → live S k := fun k x => ⟨x.1, by have := (e1 k x.1.1).1; have := x.2; omega⟩
  refine ⟨fun k a b => by rw [(e1 k a).1]; exact l1 k a b, fun k a b => ?_, ⟨fun k a b => ?_, by rw [e 8 (by decide)]; exact l4⟩, fun k a => ?_, fun k a b => ?_⟩
  · unfold lp
    rw [(e1 k (by omega)).1, (e1 k (by omega)).2.1]
    exact l2 k a b
  · unfold lcn
    rw [(e1 k (by omega)).1, (e1 k (by omega)).2.2.1]
    exact l3 k a b
  · obtain ⟨k1, k2, k3, k4⟩ := e1 k a.1.1
    unfold lbx
    rw [k1, k4 0 (by decide), k4 1 (by decide), k4 2 (by decide), k4 3 (by decide)]
    exact l5 k (lv k a)
  · obtain ⟨k1, k2, k3, k4⟩ := e1 k a.1.1
    unfold lik
    rw [k1, k4 4 (by decide), k4 5 (by decide), k4 6 (by decide)]
    exact l6 k (lv k a) b
theorem l_310 {a0 : Nat} {W Hh : Int} (hL : L ≤ 260) (hsc : ∀ i, InR (sc i)) (l : LV n 0 S g D h F) (hn : h.1.2 = n + 467 + 10) (hW : S 0 = W) (hH : S 1 = Hh) : mL_law_J310 L sc a0 n (n + 467) (n + 467 + 1) (n + 467 + 2) (n + 467 + 3) (n + 467 + 4) (n + 467 + 5) (n + 467 + 6) (n + 467 + 7) (n + 467 + 8) (n + 467 + 9) W Hh 1 (zwI h F) (fun v _ => v = 1) := by
  unfold mL_law_J310
  exact l_cell hL hsc ⟨by decide, by decide⟩ fun v rv => l_low rv ⟨by decide, by decide⟩ fun t t0 t1 => l_327 hL hsc ⟨t0, by omega⟩ l hn hW hH
theorem l_256 {a0 : Nat} (hL : L ≤ 260) (hsc : ∀ i, InR (sc i)) (l : LV n 0 S g D h F) (hn : h.1.2 = n + 467 + 10) (hW : S 0 = 8) (hH : S 1 = 6) : mL_law_J256 L sc a0 n (n + 467) (n + 467 + 1) (n + 467 + 2) (n + 467 + 3) (n + 467 + 4) (n + 467 + 5) (n + 467 + 6) (n + 467 + 7) (n + 467 + 8) (n + 467 + 9) 1 (zwI h F) (fun v _ => v = 1) := by
  unfold mL_law_J256
  refine l_cell hL hsc ⟨by decide, by decide⟩ fun v rv => l_low rv ⟨by decide, by decide⟩ fun x x0 x1 => l_cell hL hsc ⟨by decide, by decide⟩ fun u hu => ⟨hu, l_low ⟨by omega, by omega⟩ ⟨by decide, by decide⟩ fun y y0 y1 => f_eq ⟨by decide, by decide⟩ z_in0 (fun e => absurd e (by decide)) (fun _ => ?_)⟩
  obtain ⟨⟨Hs, Hg, b, k, ci⟩, w, ⟨od, dc⟩, ⟨lt, ls⟩, kw, st⟩ := l
  refine f_rc ci.1.k (s_setSize6 ci w ⟨by omega, by omega⟩ ⟨by omega, by omega⟩ (fun z h1 F1 b1 s1 f1 c1 => ?_) (fun z => absurd ⟨⟨by omega, by omega⟩, by omega, by omega⟩ z))
  rw [hW, hH]
  have e : ∀ j, 2 ≤ j → ru (ru S 0 (1 + x)) 1 (1 + y) j = S j := fun j a => by rw [ru_n (by omega), ru_n (by omega)]
  refine f_eq ⟨by decide, by decide⟩ ⟨by decide, by decide⟩ (fun _ => l_310 (S := ru (ru S 0 (1 + x)) 1 (1 + y)) (g := g) (D := D) hL hsc ⟨⟨_, _, _, _, c1⟩, WF_ru (by unfold okv; omega) (WF_ru (by unfold okv; omega) w), ⟨od, dc.kp fun j => f1 _ _ (by omega)⟩, ⟨(lt.cg fun j a => e j (by omega)).keep fun a j u v => f1 _ _ (by omega), ?_⟩, kw.to fun a _ _ => s1.1 a, st.ar fun j u v => e j (by omega)⟩ (s1.2.2.trans hn) ?_ ?_) (fun e => absurd e (by decide))
  · refine ⟨fun i u v => ?_, fun i u v => ?_⟩
    · rw [f1 _ _ (by omega), e _ (by omega)]; exact ls.1 i u v
    · rw [f1 _ _ (by omega), e _ (by omega)]; exact ls.2 i u v
  · rw [ru_n (by decide), ru_s]
  · rw [ru_s]
/-- between the settings: the first k are set -/
def LPs (n : Nat) (k : Int) (S : Int → Int) (g : Nat → Int → Int) (D : Int → Int) (h : Zm) (F : Nat → Int → Int) : Prop := (∃ Hs Hg b kk, CI h F n S g Hs Hg b kk) ∧ WF S g 0 ∧ (okD D ∧ DC F n D) ∧ LT F (n + 467) S ∧ kLw h (n + 467) ∧ stc S ∧ (∀ i, 0 ≤ i → i < k → F (n + 467 + 5) i = S (5 + i) ∧ F (n + 467 + 6) i = S (2 + i)) ∧ (∀ i, k ≤ i → i < 3 → S (5 + i) = 1 ∧ S (2 + i) = iS (2 + i)) ∧ S 0 = 8 ∧ S 1 = 6 ∧ h.1.2 = n + 467 + 10
theorem l_121 {a0 : Nat} (hL : L ≤ 260) (hsc : ∀ i, InR (sc i)) (l : LPs n 0 S g D h F) : mL_law_H121 L sc a0 n (n + 467) (n + 467 + 1) (n + 467 + 2) (n + 467 + 3) (n + 467 + 4) (n + 467 + 5) (n + 467 + 6) (n + 467 + 7) (n + 467 + 8) (n + 467 + 9) 1 0 (zwI h F) (fun v _ => v = 1) := by
  unfold mL_law_H121
  refine lfp2_i (fun _ k _ => (3 - k).toNat) (fun is k m => ∃ h' F' S' g' D', m = zwI h' F' ∧ is = 1 ∧ (0 ≤ k ∧ k ≤ 3) ∧ LPs n k S' g' D' h' F') (fun X is k m hI hX => ?_) 1 0 _ ⟨h, F, S, g, D, rfl, rfl, ⟨by decide, by decide⟩, l⟩
  obtain ⟨h', F', S', g', D', rfl, rfl, hk, ⟨Hs, Hg, b, kk, ci⟩, w, ⟨od, dc⟩, lt, kw, st, q1, q2, hW, hH, hn⟩ := hI
  unfold mL_law_B121
  refine f_lt ⟨by omega, by omega⟩ ⟨by decide, by decide⟩ (fun z => f_eq ⟨by decide, by decide⟩ z_in0 (fun e => absurd e (by decide)) (fun _ => ?_)) (fun z => ?_)
  · refine l_cell hL hsc ⟨by decide, by decide⟩ fun v0 rv0 => fun v1 rv1 => l_low rv1 ⟨by decide, by decide⟩ fun v v0 v1 => f_st kw.kn hk.1 (by omega) ⟨by omega, by omega⟩ (l_cell hL hsc ⟨by omega, by omega⟩ fun u hu => ?_)
    have e186 : ∀ m, 1 ≤ m ∧ m ≤ 2000 → (∀ x, 0 ≤ x → x < m → okv (2 + k) x) → mL_law_J186 L sc X a0 n (n + 467) (n + 467 + 1) (n + 467 + 2) (n + 467 + 3) (n + 467 + 4) (n + 467 + 5) (n + 467 + 6) (n + 467 + 7) (n + 467 + 8) (n + 467 + 9) k (n + 467 + 6) k u m (zwI h' (up F' (n + 467 + 5) k v)) (fun v _ => v = 1) := by
      intro m hm ho
      unfold mL_law_J186
      refine l_low hu ⟨hm.1, by omega⟩ fun x x0 x1 => f_st kw.st hk.1 (by omega) ⟨by omega, by omega⟩ ?_
      have f0 : ∀ b j, ¬ (b = n + 467 + 5 ∧ j = k) → ¬ (b = n + 467 + 6 ∧ j = k) → up (up F' (n + 467 + 5) k v) (n + 467 + 6) k x b j = F' b j := fun b j a1 a2 => by rw [up_n a2, up_n a1]
      have f5 : up (up F' (n + 467 + 5) k v) (n + 467 + 6) k x (n + 467 + 5) k = v := by rw [up_a (by omega), up_s]
      have f6 : up (up F' (n + 467 + 5) k v) (n + 467 + 6) k x (n + 467 + 6) k = x := up_s _ _ _ _
      generalize up (up F' (n + 467 + 5) k v) (n + 467 + 6) k x = F0 at f0 f5 f6 ⊢
      have ci0 : CI h' F0 n S' g' Hs Hg b kk := ci.kp fun a j y1 y2 => f0 _ _ (by omega) (by omega)
      obtain ⟨s5, s2⟩ := q2 k (Int.le_refl _) z
      have o5 : okv (5 + k) v := by unfold okv; omega
      have w1 := WF_ru o5 w
      refine f_ldv kw.kn hk.1 (by omega) f5 fun _ => f_rc ci0.1.k (s_setKnockout6 ci0 w ⟨by omega, by omega⟩ ⟨by omega, by omega⟩ (fun _ h1 F1 b1 s1 f1 c1 => ?_) (fun no => absurd ⟨⟨hk.1, by omega⟩, v0, by omega⟩ no))
      rw [s5]
      have kw1 : kLw h1 (n + 467) := kw.to fun a _ _ => s1.1 a
      refine f_fin ⟨by decide, by decide⟩ (f_ldv (v := x) kw1.st hk.1 (by omega) (by rw [f1 _ _ (by omega)]; exact f6) fun _ => f_rc c1.1.k (s_set6 c1 w1 ⟨by omega, by omega⟩ ⟨by omega, by omega⟩ (fun _ h2 F2 b2 s2' f2 c2 => ?_) (fun no => absurd ⟨⟨hk.1, by omega⟩, ho x x0 x1⟩ no)))
      have e2 : ru S' (5 + k) v (2 + k) = iS (2 + k) := by rw [ru_n (by omega)]; exact s2
      rw [e2]
      have f12 : ∀ a j, n + 313 < a → F2 a j = F0 a j := fun a j y => by rw [f2 _ _ (Or.inr y), f1 _ _ (Or.inr y)]
      have eS : ∀ j, j ≠ 5 + k → j ≠ 2 + k → ru (ru S' (5 + k) v) (2 + k) x j = S' j := fun j y1 y2 => by rw [ru_n y2, ru_n y1]
      have e5 : ru (ru S' (5 + k) v) (2 + k) x (5 + k) = v := by rw [ru_n (by omega), ru_s]
      have e6 : ru (ru S' (5 + k) v) (2 + k) x (2 + k) = x := ru_s
      have goal : X 1 (k + 1) (zwI h2 F2) := by
        refine hX _ _ _ ⟨h2, F2, ru (ru S' (5 + k) v) (2 + k) x, g', D', rfl, rfl, ⟨by omega, by omega⟩, ⟨_, _, _, _, c2⟩, WF_ru (ho x x0 x1) w1, ⟨od, dc.kp fun j => ?_⟩, (lt.cg fun j y => eS j (by omega) (by omega)).keep fun a j y1 y2 => ?_, kw1.to fun a _ _ => s2'.1 a, st.ar fun j y1 y2 => eS j (by omega) (by omega), fun i y1 y2 => ?_, fun i y1 y2 => ?_, ?_, ?_, ?_⟩ (by omega)
        · rw [f12 _ _ (by omega), f0 _ _ (by omega) (by omega)]
        · rw [f12 _ _ (by omega), f0 _ _ (by omega) (by omega)]
        · by_cases o : i = k
          · rw [o, f12 _ _ (by omega), f12 _ _ (by omega), f5, f6, e5, e6]
            exact ⟨rfl, rfl⟩
          · rw [f12 _ _ (by omega), f12 _ _ (by omega), f0 _ _ (by omega) (by omega), f0 _ _ (by omega) (by omega), eS _ (by omega) (by omega)]
            have hq := q1 i y1 (by omega)
            refine ⟨hq.1, ?_⟩
            rw [hq.2]
            by_cases o2 : 2 + i = 5 + k
            · omega
            · exact (eS _ (by omega) (by omega)).symm
        · have hq := q2 i (by omega) y2
          refine ⟨?_, ?_⟩
          · rw [eS _ (by omega) (by omega)]; exact hq.1
          · rw [eS _ (by omega) (by omega)]; exact hq.2
        · rw [eS _ (by omega) (by omega)]; exact hW
        · rw [eS _ (by omega) (by omega)]; exact hH
        · rw [s2'.2.2, s1.2.2]; exact hn
      have e240 : ∀ a, a = iS (2 + k) → InR a → mL_law_J240 L sc X a0 n (n + 467) (n + 467 + 1) (n + 467 + 2) (n + 467 + 3) (n + 467 + 4) (n + 467 + 5) (n + 467 + 6) (n + 467 + 7) (n + 467 + 8) (n + 467 + 9) k (iS (2 + k)) a (zwI h2 F2) (fun v _ => v = 1) := fun a ha ra => by
        unfold mL_law_J240
        rw [← ha]
        exact f_fin ra goal
      refine f_eq ⟨by omega, by omega⟩ z_in0 (fun ek => e240 50 (by rw [ek]; decide) ⟨by decide, by decide⟩) (fun ek => f_eq ⟨by omega, by omega⟩ ⟨by decide, by decide⟩ (fun ek2 => e240 40 (by rw [ek2]; decide) ⟨by decide, by decide⟩) (fun ek2 => e240 700 (by rw [show k = 2 by omega]; decide) ⟨by decide, by decide⟩))
    refine f_eq ⟨by omega, by omega⟩ z_in0 (fun ek => e186 101 ⟨by decide, by decide⟩ fun x x0 x1 => by unfold okv; omega) (fun ek => f_eq ⟨by omega, by omega⟩ ⟨by decide, by decide⟩ (fun ek2 => e186 256 ⟨by decide, by decide⟩ fun x x0 x1 => by unfold okv; omega) (fun ek2 => e186 1786 ⟨by decide, by decide⟩ fun x x0 x1 => by unfold okv; omega))
  · have ek : k = 3 := by omega
    subst ek
    exact l_256 hL hsc ⟨⟨Hs, Hg, b, kk, ci⟩, w, ⟨od, dc⟩, ⟨lt, fun i u v => (q1 i u v).1, fun i u v => (q1 i u v).2⟩, kw, st⟩ hn hW hH
end SET
