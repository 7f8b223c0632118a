/-! the reference's inks -/
/-- the reference's table of inks shows T -/
def RT (F : Nat → Int → Int) (M : Nat) (T : Int × (Int → Int → Int)) : Prop := F M 19 = T.1 ∧ ∀ r c, 0 ≤ r → r < T.1 → 0 ≤ c → c < 9 → F (M + 17) (9 * r + c) = T.2 r c
theorem sm7_s {A B : Int → Int} : sm7 A B ↔ sm7 B A := ⟨fun h => sm7_i.mpr fun i a b => (sm7_i.mp h i a b).symm, fun h => sm7_i.mpr fun i a b => (sm7_i.mp h i a b).symm⟩
section MI
variable {h : Zm} {F : Nat → Int → Int} {M : Nat} {S : Int → Int} {g : Nat → Int → Int} {c0 : Int}
theorem s_isInk {Q : Int → Zm → Prop} {r : Int} {A : Int → Int} {T : Int × (Int → Int → Int)} (km : kM h M) (hT : RT F M T) (ti : TI 144 T) (h0 : 0 ≤ r) (h1 : r < T.1) (hA : ∀ i, 0 ≤ i → i < 7 → F (M + 15) i = A i) (q : Q (bi (sm7 A (T.2 r))) (zwI h F)) : mX7_isInk M r (zwI h F) Q := by
  unfold mX7_isInk mX7_isInk_H4
  have hn := ti.1
  refine lfp2_up2 (h := h) 7 (fun s i F2 => F2 = F ∧ 0 ≤ i ∧ ((s = 1 ∧ ∀ c, 0 ≤ c → c < i → A c = T.2 r c) ∨ (s = 0 ∧ ¬ sm7 A (T.2 r)))) (fun X2 s i F2 hi hI hX2 => ?_) 1 0 F (by decide) ⟨rfl, by decide, Or.inl ⟨rfl, fun c a b => by omega⟩⟩
  obtain ⟨rfl, i2, i3⟩ := hI
  have hsr : InR s := by rcases i3 with y | y <;> rw [y.1] <;> exact ⟨by decide, by decide⟩
  unfold mX7_isInk_B4
  refine f_lt ⟨by omega, by omega⟩ ⟨by decide, by decide⟩ (fun u => f_eq hsr z_in0 (fun s0 => hX2 u _ _ ⟨rfl, by omega, ?_⟩) (fun s0 => f_gr km.1 km.r18 (f_ldv km.k18 (by omega) (by omega) (hT.2 r i h0 h1 i2 (by omega)) fun r1 => f_gr km.1 km.r16 (f_ldv km.k16 i2 (by omega) (hA i i2 u) fun r2 => f_eq r1 r2 (fun y => hX2 u _ _ ⟨rfl, by omega, ?_⟩) (fun y => hX2 u _ _ ⟨rfl, by omega, ?_⟩))))) (fun u => ?_)
  · rcases i3 with y | y
    · omega
    · exact Or.inr ⟨rfl, y.2⟩
  · rcases i3 with x | x
    · refine Or.inl ⟨rfl, fun c a b => ?_⟩
      by_cases ec : c = i
      · rw [ec]; exact y.symm
      · exact x.2 c a (by omega)
    · exact absurd x.1 s0
  · exact Or.inr ⟨rfl, fun x => y (sm7_i.mp x i i2 u).symm⟩
  · rcases i3 with x | x
    · rw [bi_t (sm7_i.mpr fun c a b => x.2 c a (by omega))] at q
      rw [x.1]
      exact ⟨Or.inr rfl, q⟩
    · rw [bi_f x.2] at q
      rw [x.1]
      exact ⟨Or.inl rfl, q⟩
theorem s_isAhead {Q : Int → Zm → Prop} {i j : Int} {T : Int × (Int → Int → Int)} (km : kM h M) (hT : RT F M T) (ti : TI 144 T) (i0 : 0 ≤ i) (i1 : i < T.1) (j0 : 0 ≤ j) (j1 : j < T.1) (q : Q (bi (cb T.2 i j)) (zwI h F)) : mX7_isAhead M i j (zwI h F) Q := by
  unfold mX7_isAhead
  have hn := ti.1
  have la : ∀ (c : Int) (P : Int → Prop), 0 ≤ c → c < 9 → (InR (T.2 i c) → P (T.2 i c)) → cGr (zwI h F) 17 M 18 fun r => cLd (zwI h F) 1 r (9 * i + c) P := fun c P x y z => f_gr km.1 km.r18 (f_ldv km.k18 (by omega) (by omega) (hT.2 i c i0 i1 x y) z)
  have lb : ∀ (c : Int) (P : Int → Prop), 0 ≤ c → c < 9 → (InR (T.2 j c) → P (T.2 j c)) → cGr (zwI h F) 17 M 18 fun r => cLd (zwI h F) 1 r (9 * j + c) P := fun c P x y z => f_gr km.1 km.r18 (f_ldv km.k18 (by omega) (by omega) (hT.2 j c j0 j1 x y) z)
  refine la 8 _ (by decide) (by decide) fun r1 => lb 8 _ (by decide) (by decide) fun r2 => f_eq r1 r2 (fun e => ?_) (fun e => ?_)
  · refine la 7 _ (by decide) (by decide) fun r3 => lb 7 _ (by decide) (by decide) fun r4 => f_eq r3 r4 (fun e2 => ?_) (fun e2 => ?_)
    · have fin : ∀ k, 0 ≤ k → k < 7 → (∀ c, 0 ≤ c → c < k → T.2 i c = T.2 j c) → (k < 6 → T.2 i k ≠ T.2 j k) → mX7_isAhead_J159 M i j k (zwI h F) Q := by
        intro k k0 k1 hc hne
        unfold mX7_isAhead_J159
        refine la k _ k0 (by omega) fun r5 => lb k _ k0 (by omega) fun r6 => f_lt r5 r6 (fun e3 => ?_) (fun e3 => ?_)
        · rw [bi_t (Or.inr ⟨e.symm, Or.inr ⟨e2, (lex_at k0 k1 hc (by omega)).mpr e3⟩⟩)] at q
          exact q
        · rw [bi_f (fun y => by
            rcases y with y | y
            · omega
            · rcases y.2 with y | y
              · omega
              · by_cases eq : T.2 i k = T.2 j k
                · refine lex_eq (sm7_i.mpr fun c x w => ?_) y.2
                  by_cases ec : c = k
                  · rw [ec]; exact eq
                  · exact hc c x (by have : k = 6 := by rcases Int.lt_or_le k 6 with p | p; exact absurd eq (hne p); omega
                                     omega)
                · have := (lex_at k0 k1 hc eq).mp y.2
                  omega)] at q
          exact q
      unfold mX7_isAhead_H122
      refine lfp1_up (h := h) 6 (fun k F' => F' = F ∧ 0 ≤ k ∧ ∀ c, 0 ≤ c → c < k → T.2 i c = T.2 j c) (fun X k F' hk hI hX => ?_) 0 F (by decide) ⟨rfl, by decide, fun c x y => by omega⟩
      obtain ⟨rfl, g2, g3⟩ := hI
      unfold mX7_isAhead_B122
      refine f_lt ⟨by omega, by omega⟩ ⟨by decide, by decide⟩ (fun z => la k _ g2 (by omega) fun r5 => lb k _ g2 (by omega) fun r6 => f_eq r5 r6 (fun e3 => hX z _ ⟨rfl, by omega, fun c x y => ?_⟩) (fun e3 => fin k g2 (by omega) g3 (fun _ => e3))) (fun z => fin k g2 (by omega) g3 (fun y => by omega))
      by_cases ec : c = k
      · rw [ec]; exact e3
      · exact g3 c x (by omega)
    · refine la 7 _ (by decide) (by decide) fun _ => lb 7 _ (by decide) (by decide) fun _ => f_lt r3 r4 (fun e3 => ?_) (fun e3 => ?_)
      · rw [bi_t (Or.inr ⟨e.symm, Or.inl e3⟩)] at q
        exact q
      · rw [bi_f (fun y => by
          rcases y with y | y
          · omega
          · rcases y.2 with y | y
            · omega
            · exact e2 y.1)] at q
        exact q
  · refine la 8 _ (by decide) (by decide) fun _ => lb 8 _ (by decide) (by decide) fun _ => f_le r1 r2 (fun e3 => ?_) (fun e3 => ?_)
    · rw [bi_f (fun y => by
        rcases y with y | y
        · omega
        · exact e y.1.symm)] at q
      exact q
    · rw [bi_t (Or.inl e3)] at q
      exact q
theorem s_counts {Q : Zm → Prop} (km : kM h M) (hS : RS F M S) (w : WF S g c0) (hc9 : c0 ≤ 1000) (q : ∀ F', qf (M + 17) M F F' → RT F' M (tab S g (S 0 * S 1)) → Q (zwI h F')) : mX7_counts M (zwI h F) Q := by
  unfold mX7_counts
  have hN := nP w.1
  have ha := w.1.1.2.1
  refine f_rc km.1 (s_lays km hS w hc9 fun F1 l1 hD => f_pi km.1 z_in0 ?_)
  unfold mX7_counts_H11
  have u19 : ∀ (F' : Nat → Int → Int) (v : Int), qf (M + 17) M F' (up F' M 19 v) := fun F' v b j _ y => up_n (fun z => y ⟨z.1, Or.inr z.2⟩)
  have u19D : ∀ (F' : Nat → Int → Int) (v : Int), LD F' M S g → LD (up F' M 19 v) M S g := fun F' v hD => ⟨by rw [up_n (by omega)]; exact hD.1, fun t a b => by rw [up_a (by omega)]; exact hD.2.1 t a b, fun t a b c => by rw [up_a (by omega), up_a (by omega), up_a (by omega)]; exact hD.2.2 t a b c⟩
  refine lfp1_up (h := h) (S 0 * S 1) (fun k F' => qf (M + 17) M F F' ∧ LD F' M S g ∧ 0 ≤ k ∧ RT F' M (tab S g k)) (fun X k F' hk hI hX => ?_) 0 _ (by omega) ⟨(l1.qf (by omega)).tr (u19 _ _), u19D _ _ hD, Int.le_refl _, up_s _ _ _ _, fun r c r0 r1 => absurd (show r < 0 from r1) (by omega)⟩
  obtain ⟨f2, hD2, k0, hT⟩ := hI
  have hS2 := f2.rs hS
  unfold mX7_counts_B11
  refine f_rc km.1 (s_pixels km hS2 w.1 (f_lt ⟨by omega, by omega⟩ ⟨by omega, by omega⟩ (fun z => r_ld km hS2 (by decide) (by decide) fun _ => f_rc km.1 (s_pixelAt km hS2 w hD2 ⟨k0, z⟩ ha fun F3 f3 e3 l3 => ?_)) (fun z => ?_)))
  · have ti := tab_TI w k0
    have hts := tab_s S g k0
    have hr := pA_r w ha k
    generalize pA S g (S 2) k = A at l3 hts hr
    generalize tab S g k = T at hT ti hts
    have ti4 := ti.wd (show k ≤ 144 by omega)
    have hn := ti.1
    have hT3 : RT F3 M T := ⟨by rw [f3 _ _ (by omega)]; exact hT.1, fun r c r0 r1 c0 c1 => by rw [f3 _ _ (by omega)]; exact hT.2 r c r0 r1 c0 c1⟩
    have f23 : qf (M + 17) M F F3 := f2.tr (f3.qf (by omega) (by omega))
    have hD3 := hD2.fr f3 (by omega)
    have fin : ∀ F4, qf (M + 17) M F F4 → LD F4 M S g → RT F4 M (tad A T) → X (k + 1) (zwI h F4) := fun F4 a b c => hX z F4 ⟨a, b, by omega, by rw [hts]; exact c⟩
    unfold mX7_counts_H32
    refine lfp1_up (h := h) T.1 (fun i F4 => F4 = F3 ∧ 0 ≤ i ∧ ∀ c, 0 ≤ c → c < i → ¬ sm7 A (T.2 c)) (fun X2 i F4 hi hJ hX2 => ?_) 0 F3 hn.1 ⟨rfl, Int.le_refl _, fun c x y => by omega⟩
    obtain ⟨rfl, i2, i3⟩ := hJ
    unfold mX7_counts_B32
    refine f_giv km.1 hT3.1 fun rn => f_lt ⟨by omega, by omega⟩ rn (fun u => f_rc km.1 (s_isInk km hT3 ti4 i2 u l3 (f_bi (fun e => f_giv km.1 hT3.1 fun _ => f_eq ⟨by omega, by omega⟩ rn (fun y => by omega) (fun y => ?_)) (fun e => hX2 u _ ⟨rfl, by omega, fun c x y => ?_⟩)))) (fun u => f_giv km.1 hT3.1 fun _ => f_eq ⟨by omega, by omega⟩ rn (fun y => ?_) (fun y => by omega))
    · unfold mX7_counts_J134
      have hv := (ti4.2.1 i i2 u).2.2
      refine f_gr km.1 km.r18 (f_ldv km.k18 (by omega) (by omega) (hT3.2 i 8 i2 u (by decide) (by decide)) fun _ => f_st km.k18 (by omega) (by omega) ⟨by omega, by omega⟩ (fin _ (f23.tr ((fr.up (Nat.le_refl _) (Nat.le_refl _) : fr (M + 17) (M + 17) _ _).qf (by omega) (by omega))) (hD3.fr (fr.up (Nat.le_refl _) (Nat.le_refl _) : fr (M + 17) (M + 17) _ _) (by omega)) ?_))
      rw [tad_o i2 u e i3]
      refine ⟨by rw [up_a (by omega)]; exact hT3.1, fun r c r0 r1 c0 c1 => ?_⟩
      have r1 : r < T.1 := r1
      rw [up_e]
      show _ = if r = i ∧ c = 8 then T.2 r 8 + 1 else T.2 r c
      by_cases ec : r = i ∧ c = 8
      · rw [if_pos ec, if_pos ⟨rfl, by omega⟩, ec.1]
      · rw [if_neg ec, if_neg (fun y => ec (by omega))]
        exact hT3.2 r c r0 r1 c0 c1
    · by_cases ec : c = i
      · rw [ec]; exact e
      · exact i3 c x (by omega)
    · subst y
      unfold mX7_counts_H64
      refine lfp1_up (h := h) 7 (fun i F5 => bu (M + 17) F4 F5 ∧ 0 ≤ i ∧ (∀ c, 0 ≤ c → c < i → F5 (M + 17) (9 * T.1 + c) = A c) ∧ ∀ j, 0 ≤ j → j < 9 * T.1 → F5 (M + 17) j = F4 (M + 17) j) (fun X3 i F5 hi hJ hX3 => ?_) 0 F4 (by decide) ⟨bu.rf, by decide, fun c x y => by omega, fun _ _ _ => rfl⟩
      obtain ⟨b5, j2, v5, o5⟩ := hJ
      have hA5 : ∀ i, 0 ≤ i → i < 7 → F5 (M + 15) i = A i := fun i x y => by rw [b5 _ _ (by omega)]; exact l3 i x y
      unfold mX7_counts_B64
      refine f_lt ⟨by omega, by omega⟩ ⟨by decide, by decide⟩ (fun t => f_gr km.1 km.r18 (f_gr km.1 km.r16 (f_ldv km.k16 j2 (by omega) (hA5 i j2 t) fun ra => f_st km.k18 (by omega) (by omega) ra (hX3 t _ ⟨b5.tr bu.up, by omega, fun c x y => ?_, fun j x y => ?_⟩)))) (fun t => ?_)
      · rw [up_e]
        by_cases e : c = i
        · rw [if_pos ⟨rfl, by omega⟩, e]
        · rw [if_neg (by omega)]
          exact v5 c x (by omega)
      · rw [up_n (by omega)]
        exact o5 j x y
      · have hs := tl_b hr (p := 7) (by decide) (by decide)
        have ht : tl A 7 = smI A 7 := if_pos rfl
        refine f_gr km.1 km.r18 (f_rc km.1 (s_told km (by decide) hA5 hr (f_st km.k18 (by omega) (by omega) ⟨by omega, by omega⟩ (f_gr km.1 km.r18 (f_st km.k18 (by omega) (by omega) z_in0 (f_giv (v := T.1) km.1 (by rw [up_a (by omega), up_a (by omega), b5 _ _ (by omega)]; exact hT3.1) fun _ => f_pi km.1 ⟨by omega, by omega⟩ ?_))))))
        unfold mX7_counts_J134
        refine f_gr km.1 km.r18 (f_ldv (v := 0) km.k18 (by omega) (by omega) (by rw [up_a (by omega)]; exact up_s _ _ _ _) fun _ => f_st km.k18 (by omega) (by omega) ⟨by decide, by decide⟩ (fin _ ?_ ?_ ?_))
        · have g1 : qf (M + 17) M F F5 := f23.tr ((b5.fr (Nat.le_refl _) (Nat.le_refl _) : fr (M + 17) (M + 17) F4 F5).qf (by omega) (by omega))
          exact ((((g1.tr ((fr.up (Nat.le_refl _) (Nat.le_refl _) : fr (M + 17) (M + 17) _ _).qf (by omega) (by omega)))).tr ((fr.up (Nat.le_refl _) (Nat.le_refl _) : fr (M + 17) (M + 17) _ _).qf (by omega) (by omega))).tr (u19 _ _)).tr ((fr.up (Nat.le_refl _) (Nat.le_refl _) : fr (M + 17) (M + 17) _ _).qf (by omega) (by omega))
        · have d5 := hD3.fr (b5.fr (Nat.le_refl _) (Nat.le_refl _) : fr (M + 17) (M + 17) F4 F5) (by omega)
          exact (u19D _ _ ((d5.fr (fr.up (Nat.le_refl _) (Nat.le_refl _) : fr (M + 17) (M + 17) _ _) (by omega)).fr (fr.up (Nat.le_refl _) (Nat.le_refl _) : fr (M + 17) (M + 17) _ _) (by omega))).fr (fr.up (Nat.le_refl _) (Nat.le_refl _) : fr (M + 17) (M + 17) _ _) (by omega)
        · rw [tad_n i2 i3]
          refine ⟨by rw [up_a (by omega)]; exact up_s _ _ _ _, fun r c r0 r1 c0 c1 => ?_⟩
          have r1 : r < T.1 + 1 := r1
          show _ = if r = T.1 then nrow A c else T.2 r c
          by_cases e : r = T.1
          · subst e
            rw [if_pos rfl]
            unfold nrow
            by_cases e8 : c = 8
            · rw [e8, up_s, if_neg (by decide), if_neg (by decide)]
              rfl
            · rw [up_n (by omega), up_a (by omega), up_n (by omega)]
              by_cases e7 : c = 7
              · rw [e7, up_s, if_neg (by decide), if_pos rfl, ht]
              · rw [up_n (by omega), if_pos (by omega)]
                exact v5 c c0 (by omega)
          · rw [if_neg e, up_n (by omega), up_a (by omega), up_n (by omega), up_n (by omega), o5 _ (by omega) (by omega)]
            exact hT3.2 r c r0 (by omega) c0 c1
  · have : k = S 0 * S 1 := by omega
    subst this
    exact q F' f2 hT
theorem s_inkCount7 {Q : Int → Zm → Prop} (km : kM h M) (hS : RS F M S) (w : WF S g c0) (hc9 : c0 ≤ 1000) (q : ∀ F', qf (M + 17) M F F' → Q (aInks S g) (zwI h F')) : mX7_inkCount M (zwI h F) Q := by
  unfold mX7_inkCount
  exact f_rc km.1 (s_counts km hS w hc9 fun F1 f1 v1 => f_giv km.1 v1.1 fun _ => q F1 f1)
theorem s_inkAt7 {Q : Int → Zm → Prop} {p x : Int} (km : kM h M) (hS : RS F M S) (w : WF S g c0) (hc9 : c0 ≤ 1000) (hp : InR p) (hx : InR x) (q : ∀ F', qf (M + 17) M F F' → Q (aInkAt S g p x) (zwI h F')) : mX7_inkAt M p x (zwI h F) Q := by
  unfold mX7_inkAt
  unfold aInkAt at q
  have hN := nP w.1
  refine f_lt hp z_in0 (fun z => ?_) (fun z => s_in hx z_in0 ⟨by decide, by decide⟩ (f_bi (fun z2 => ?_) (fun z2 => ?_)))
  · rw [if_neg (by omega)] at q
    exact q F qf.rf
  · rw [if_pos ⟨z, z2⟩] at q
    refine f_rc km.1 (s_counts km hS w hc9 fun F1 f1 v1 => ?_)
    have ti := (tab_TI w (k := S 0 * S 1) (by omega)).wd hN.2
    generalize tab S g (S 0 * S 1) = T at v1 ti q
    have hn := ti.1
    have q := q F1 f1
    unfold tat at q
    unfold mX7_inkAt_H26
    refine lfp2_up2 (h := h) T.1 (fun v i F2 => F2 = F1 ∧ 0 ≤ i ∧ v = if fnd (rk (cb T.2) T.1) p i = -4 then -4 else T.2 (fnd (rk (cb T.2) T.1) p i) x) (fun X v i F2 hi hI hX => ?_) (-4) 0 F1 hn.1 ⟨rfl, by decide, rfl⟩
    obtain ⟨rfl, i2, i3⟩ := hI
    unfold mX7_inkAt_B26
    refine f_giv km.1 v1.1 fun rn => f_lt ⟨by omega, by omega⟩ rn (fun y => ?_) (fun y => ?_)
    · unfold mX7_inkAt_H41
      refine lfp2_up2 (h := h) T.1 (fun s j F3 => F3 = F2 ∧ 0 ≤ j ∧ s = rk (cb T.2) j i) (fun X2 s j F3 hj hJ hX2 => ?_) 0 0 F2 hn.1 ⟨rfl, by decide, rfl⟩
      obtain ⟨rfl, j2, j3⟩ := hJ
      unfold mX7_inkAt_B41
      have hrb := rk_b (cb T.2) (n := j) (p := i) j2
      have st : j < T.1 → ∀ s', s' = s + bi (cb T.2 j i) → X2 s' (j + 1) (zwI h F3) := fun z s' e => hX2 z _ _ ⟨rfl, by omega, by rw [e, j3]; exact (smI_s (fun r => bi (cb T.2 r i)) j2).symm⟩
      refine f_giv km.1 v1.1 fun _ => f_lt ⟨by omega, by omega⟩ rn (fun t => f_eq ⟨by omega, by omega⟩ ⟨by omega, by omega⟩ (fun e => st t _ ?_) (fun e => f_rc km.1 (s_isAhead km v1 ti j2 t i2 y (f_bi (fun e2 => st t _ ?_) (fun e2 => st t _ ?_))))) (fun t => ?_)
      · rw [e, bi_f (lx_ir (lx_ir (lex_ir _)))]
      · rw [bi_t e2]
      · rw [bi_f e2]
      · have e7 : j = T.1 := by omega
        subst e7
        subst j3
        have es := fnd_s (rk (cb T.2) T.1) p i2
        refine f_eq ⟨by omega, by omega⟩ hp (fun e => f_gr km.1 km.r18 (f_ldv km.k18 (by omega) (by omega) (v1.2 i x i2 y z2.1 (by omega)) fun _ => hX y _ _ ⟨rfl, by omega, ?_⟩)) (fun e => hX y _ _ ⟨rfl, by omega, ?_⟩)
        · rw [es, if_pos e, if_neg (by omega)]
        · rw [es, if_neg e]
          exact i3
    · have : i = T.1 := by omega
      subst this
      rw [i3]
      exact q
  · rw [if_neg (fun v => z2 v.2)] at q
    exact q F qf.rf
end MI
