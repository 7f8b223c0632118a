/-! the law -/
def zh0 (n : Nat) : Zm := (((fun _ => (0, 0)), n), (fun _ _ => 0), (fun _ _ => 0))
def al10 (h : Zm) : Zm := zal (zal (zal (zal (zal (zal (zal (zal (zal (zal h 1 24) 1 24) 1 24) 1 24) 1 24) 1 3) 1 3) 1 6) 1 7) 1 7
def fz10 (F : Nat → Int → Int) (N : Nat) : Nat → Int → Int := fz (fz (fz (fz (fz (fz (fz (fz (fz (fz F N) (N + 1)) (N + 2)) (N + 3)) (N + 4)) (N + 5)) (N + 6)) (N + 7)) (N + 8)) (N + 9)
theorem al10_n {h : Zm} : (al10 h).1.2 = h.1.2 + 10 := rfl
theorem al10_k {h : Zm} {N a : Nat} (hn : h.1.2 = N) : zkd (al10 h) a = if a = N + 9 then (1, 7) else if a = N + 8 then (1, 7) else if a = N + 7 then (1, 6) else if a = N + 6 then (1, 3) else if a = N + 5 then (1, 3) else if a = N + 4 then (1, 24) else if a = N + 3 then (1, 24) else if a = N + 2 then (1, 24) else if a = N + 1 then (1, 24) else if a = N then (1, 24) else zkd h a := by
  subst hn
  rfl
theorem al_r {h : Zm} {t k a : Nat} {j : Int} (ha : a < h.1.2) : zR (zal h t k) a j = zR h a j := by
  rw [rz_al]
  exact if_neg (by omega)
theorem al10_r {h : Zm} {N a : Nat} {j : Int} (hn : h.1.2 = N) (ha : a < N) : zR (al10 h) a j = zR h a j := by
  subst hn
  unfold al10
  rw [al_r (by simp only [nz_al]; omega), al_r (by simp only [nz_al]; omega), al_r (by simp only [nz_al]; omega), al_r (by simp only [nz_al]; omega), al_r (by simp only [nz_al]; omega), al_r (by simp only [nz_al]; omega), al_r (by simp only [nz_al]; omega), al_r (by simp only [nz_al]; omega), al_r (by simp only [nz_al]; omega), al_r ha]
theorem al10_w {h : Zm} {N : Nat} (hn : h.1.2 = N) : kLw (al10 h) N := by
  refine ⟨⟨⟨?_, ?_⟩, ?_, ?_, ?_⟩, ⟨?_, ?_⟩, ?_, ?_, ?_⟩
  all_goals rw [al10_k hn]
  · rw [if_neg (by omega), if_neg (by omega), if_neg (by omega), if_neg (by omega), if_neg (by omega), if_neg (by omega), if_neg (by omega), if_neg (by omega), if_neg (by omega), if_pos rfl]
  · rw [if_neg (by omega), if_neg (by omega), if_neg (by omega), if_neg (by omega), if_neg (by omega), if_neg (by omega), if_neg (by omega), if_neg (by omega), if_pos rfl]
  · rw [if_neg (by omega), if_neg (by omega), if_neg (by omega), if_neg (by omega), if_neg (by omega), if_neg (by omega), if_neg (by omega), if_pos rfl]
  · rw [if_neg (by omega), if_neg (by omega), if_neg (by omega), if_neg (by omega), if_neg (by omega), if_neg (by omega), if_pos rfl]
  · rw [if_neg (by omega), if_neg (by omega), if_neg (by omega), if_neg (by omega), if_neg (by omega), if_pos rfl]
  · rw [if_neg (by omega), if_neg (by omega), if_neg (by omega), if_neg (by omega), if_pos rfl]
  · rw [if_neg (by omega), if_neg (by omega), if_neg (by omega), if_pos rfl]
  · rw [if_neg (by omega), if_neg (by omega), if_pos rfl]
  · rw [if_neg (by omega), if_pos rfl]
  · rw [if_pos rfl]
theorem fz10_o {F : Nat → Int → Int} {N a : Nat} {j : Int} (ha : a < N) : fz10 F N a j = F a j := by
  unfold fz10
  rw [fz_n (by omega), fz_n (by omega), fz_n (by omega), fz_n (by omega), fz_n (by omega), fz_n (by omega), fz_n (by omega), fz_n (by omega), fz_n (by omega), fz_n (by omega)]
theorem fz10_z {F : Nat → Int → Int} {N a : Nat} {j : Int} (h0 : N ≤ a) (h1 : a ≤ N + 9) : fz10 F N a j = 0 := by
  unfold fz10
  rw [fz_e]
  split
  · rfl
  rw [fz_e]
  split
  · rfl
  rw [fz_e]
  split
  · rfl
  rw [fz_e]
  split
  · rfl
  rw [fz_e]
  split
  · rfl
  rw [fz_e]
  split
  · rfl
  rw [fz_e]
  split
  · rfl
  rw [fz_e]
  split
  · rfl
  rw [fz_e]
  split
  · rfl
  rw [fz_e, if_pos (by omega)]
theorem iS_stc : stc iS := fun i h0 h1 => by
  rcases (show i = 0 ∨ i = 1 ∨ i = 2 ∨ i = 3 ∨ i = 4 ∨ i = 5 ∨ i = 6 by omega) with rfl | rfl | rfl | rfl | rfl | rfl | rfl <;> decide
theorem iS_nk {k : Int} (h0 : 1 ≤ k) (h1 : k < 24) : nk iS k = -1 := by
  unfold nk iS
  rw [if_neg (by omega), if_neg (by omega), if_neg (by omega)]
  unfold t3
  rw [if_pos (by omega)]
/-- the law's tree at its beginning -/
theorem iS_LT {F F' : Nat → Int → Int} {N : Nat} (hz : ∀ a j, N ≤ a → a ≤ N + 4 → F a j = 0) (e1 : ∀ b j, b ≠ N → b ≠ N + 1 → b ≠ N + 3 → F' b j = F b j) (e2 : F' N 0 = 0 ∧ ∀ j, 1 ≤ j → j < 24 → F' N j = -1) (e3 : F' (N + 1) 0 = -1 ∧ ∀ j, 1 ≤ j → F' (N + 1) j = F (N + 1) j) (e4 : F' (N + 3) 0 = 50788) : LT F' N iS := by
  have lv : ∀ k, live iS k → k = 0 := fun k hl => by
    by_cases z : k = 0
    · exact z
    · have h1 := hl.1
      have h2 := hl.2
      rw [iS_nk (by omega) h1.2] at h2
      exact absurd h2 (by decide)
  refine ⟨fun k a b => ?_, fun k a b => ?_, ⟨fun k a b => ?_, ?_⟩, fun k hl => ?_, fun k hl hk => absurd (lv k hl) hk⟩
  · by_cases z : k = 0
    · rw [z, e2.1]; decide
    · rw [e2.2 k (by omega) b, iS_nk (by omega) b]
  · rw [e3.2 k a, hz _ _ (by omega) (by omega)]
    unfold lp
    rw [if_neg (by rw [iS_nk a b]; decide)]
  · rw [e1 _ _ (by omega) (by omega) (by omega), hz _ _ (by omega) (by omega)]
    unfold lcn
    rw [if_neg (by rw [iS_nk a b]; decide)]
  · rw [e1 _ _ (by omega) (by omega) (by omega), hz _ _ (by omega) (by omega)]
    decide
  · rw [lv k hl, e4]
    decide
theorem iS_rnd (x y : Int) : rnd iS iG x y (gc iG).toNat = fun c => if c < 3 then 255 else 0 := by
  show (if inb iS iG (go iG ((0 : Nat) : Int)) x y then _ else rnd iS iG x y 0) = _
  rw [if_neg (fun v => absurd v.1 (by decide))]
  rfl
theorem iS_ink : aInk iS iG 0 0 7 = 0 := by
  have w : WF iS iG 0 := iS_WF (Int.le_refl _)
  have b7' : b7 (bef iS (iS 2) (rnd iS iG 0 0 (gc iG).toNat)) := fun i a b => bef_r w.1 (px_r w 0 0) w.1.1.2.1 a b
  have hB : ∀ i, 0 ≤ i → i < 7 → bef iS (iS 2) (rnd iS iG 0 0 (gc iG).toNat) i = 0 := fun i a b => by
    rw [bef_raw iS_stc w.1 (px_r w 0 0) w.1.1.2.1 a b, iS_rnd]
    rcases (show i = 0 ∨ i = 1 ∨ i = 2 ∨ i = 3 ∨ i = 4 ∨ i = 5 ∨ i = 6 by omega) with rfl | rfl | rfl | rfl | rfl | rfl | rfl <;> decide
  have af := aft_facts (S := iS) b7' (by decide)
  have hA : ∀ i, 0 ≤ i → i < 7 → aft iS (bef iS (iS 2) (rnd iS iG 0 0 (gc iG).toNat)) i = 0 := fun i a b => by
    have h1 := af.1 i a b
    rw [hB i a b] at h1
    omega
  unfold aInk
  rw [if_pos (by decide)]
  show (if (7 : Int) = 7 then _ else _) = _
  rw [if_pos rfl]
  exact smI_z hA
theorem iS_rend : aRend iS iG 7 5 0 = 255 := by
  unfold aRend
  rw [if_pos (by decide), iS_rnd]
  rfl
theorem iS_touch : aTouch iS iG 0 0 = -4 := by
  unfold aTouch
  rw [if_pos (by decide)]
  rfl
theorem law_ok (L : Nat) (sc : Int → Int) (a0 n : Nat) (hL : L ≤ 260) (hsc : ∀ i, InR (sc i)) (hn : 2 ≤ n) : mL_law L sc a0 (zh0 n) (fun v _ => v = 1) := by
  unfold mL_law
  show cNw (zwI (zh0 n) (fun _ _ => 0)) 16 8 _
  refine f_nw (N := n) rfl ?_
  have k0 : zkd (zal (zh0 n) 16 8) n = (16, 8) := by rw [kz_al]; exact if_pos rfl
  have n0 : (zal (zh0 n) 16 8).1.2 = n + 1 := rfl
  generalize zal (zh0 n) 16 8 = hA at k0 n0 ⊢
  refine f_rc k0 (s_i6 k0 n0 fun h1 F1 n1 kd hb z2 cs dc => ?_)
  refine f_nw (N := n + 467) n1 (f_nw (N := n + 467 + 1) (by rw [nz_al, n1]) (f_nw (N := n + 467 + 2) (by rw [nz_al, nz_al, n1]) (f_nw (N := n + 467 + 3) (by rw [nz_al, nz_al, nz_al, n1]) (f_nw (N := n + 467 + 4) (by rw [nz_al, nz_al, nz_al, nz_al, n1]) (f_nw (N := n + 467 + 5) (by rw [nz_al, nz_al, nz_al, nz_al, nz_al, n1]) (f_nw (N := n + 467 + 6) (by rw [nz_al, nz_al, nz_al, nz_al, nz_al, nz_al, n1]) (f_nw (N := n + 467 + 7) (by rw [nz_al, nz_al, nz_al, nz_al, nz_al, nz_al, nz_al, n1]) (f_nw (N := n + 467 + 8) (by rw [nz_al, nz_al, nz_al, nz_al, nz_al, nz_al, nz_al, nz_al, n1]) (f_nw (N := n + 467 + 9) (by rw [nz_al, nz_al, nz_al, nz_al, nz_al, nz_al, nz_al, nz_al, nz_al, n1]) ?_)))))))))
  have kw : kLw (al10 h1) (n + 467) := al10_w n1
  have nn : (al10 h1).1.2 = n + 467 + 10 := by rw [al10_n, n1]
  have sr1 : sr n (n + 467) h1 (al10 h1) := fun a x y => ⟨by rw [al10_k n1, if_neg (by omega), if_neg (by omega), if_neg (by omega), if_neg (by omega), if_neg (by omega), if_neg (by omega), if_neg (by omega), if_neg (by omega), if_neg (by omega), if_neg (by omega)], fun j => al10_r n1 y⟩
  have fo : ∀ a j, a < n + 467 → fz10 F1 (n + 467) a j = F1 a j := fun a j y => fz10_o y
  have fzz : ∀ a j, n + 467 ≤ a → a ≤ n + 467 + 9 → fz10 F1 (n + 467) a j = 0 := fun a j y z => fz10_z y z
  show mL_begins (n + 467) (n + 467 + 1) (n + 467 + 2) (n + 467 + 3) (n + 467 + 4) (zwI (al10 h1) (fz10 F1 (n + 467))) _
  generalize al10 h1 = h2 at kw nn sr1 ⊢
  generalize fz10 F1 (n + 467) = F2 at fo fzz ⊢
  refine l_begins kw.kd kw.pa kw.bx ⟨by omega, by omega, by omega⟩ (fun F3 f3 g1 g2 g3 => ?_)
  obtain ⟨d1, d2, d3, d4, d5, d6⟩ := kD0.sl sr1 kd
  have w : WF iS iG 0 := iS_WF (Int.le_refl _)
  have e3 : ∀ a j, a < n + 467 → F3 a j = F1 a j := fun a j y => by rw [f3 _ _ (by omega) (by omega) (by omega)]; exact fo a j y
  have ci : CI h2 F3 n iS iG (fun _ => iS) (fun _ => iG) (fun i => n + 54 + 52 * i.toNat) 0 := by
    refine ⟨⟨d1, d2, d3, d4, d5, d6, trivial⟩, ⟨fun i x y => ⟨?_, (hb.1 i x y).2⟩, hb.2⟩, ⟨?_, by decide, by decide⟩, ?_, fun i x y => by omega⟩
    · rw [(sr1 (n + 53) (by omega) (by omega)).2]; exact (hb.1 i x y).1
    · rw [e3 _ _ (by omega)]; exact z2
    · exact cs.keep fun b j x y => e3 _ _ (by omega)
  have lt : LT F3 (n + 467) iS := iS_LT (fun a j y z => fzz a j y (by omega)) f3 g1 g2 g3
  have l0 : LPs n 0 iS iG iD h2 F3 := ⟨⟨_, _, _, _, ci⟩, w, ⟨iD_ok, fun j x y => by rw [e3 _ _ (by omega)]; exact dc j x y⟩, lt, kw, iS_stc, fun i x y => by omega, fun i x y => ⟨?_, rfl⟩, rfl, rfl, nn⟩
  · have fr0 : ∀ F', fr (n + 316) (n + 466) F3 F' → LPs n 0 iS iG iD h2 F' := fun F' f => by
      obtain ⟨⟨Hs, Hg, b, k, c0⟩, a1, ⟨a2, a3⟩, a4, a5, a6, a7, a8⟩ := l0
      exact ⟨⟨Hs, Hg, b, k, c0.kp fun a j x y => f _ _ (by omega)⟩, a1, ⟨a2, a3.kp fun j => f _ _ (by omega)⟩, a4.keep fun a j x y => f _ _ (by omega), a5, a6, fun i x y => by omega, a8⟩
    have kd1 := ci.1
    refine f_rc kd1.k (s_ink6 kd1 ci.2.2.2.1 w z_in0 z_in0 ⟨by decide, by decide⟩ (fun F4 f4 => ?_))
    rw [iS_ink]
    obtain ⟨⟨Hs4, Hg4, b4, k4, c4⟩, -⟩ := fr0 F4 f4
    refine f_fin z_in0 (f_rc kd1.k (s_rendered6 kd1 c4.2.2.2.1 w ⟨by decide, by decide⟩ ⟨by decide, by decide⟩ z_in0 (fun F5 f5 => ?_)))
    rw [iS_rend]
    have l5 := fr0 F5 (f4.tr f5)
    obtain ⟨⟨Hs5, Hg5, b5, k5, c5⟩, -⟩ := id l5
    refine f_fin ⟨by decide, by decide⟩ (f_rc kd1.k (s_touchedBy6 kd1 c5.2.2.2.1 w z_in0 z_in0 ?_))
    rw [iS_touch]
    exact f_fin ⟨by decide, by decide⟩ (l_121 hL hsc l5)
  · rcases (show i = 0 ∨ i = 1 ∨ i = 2 by omega) with rfl | rfl | rfl <;> decide
