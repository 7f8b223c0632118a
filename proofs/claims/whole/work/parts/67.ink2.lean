/-! the class's table of inks -/
/-- the class's table at t shows T -/
def IT (F : Nat → Int → Int) (t : Nat) (T : Int × (Int → Int → Int)) : Prop := F t 1 = T.1 ∧ ∀ r c, 0 ≤ r → r < T.1 → 0 ≤ c → c < 9 → F (t + 2 + r.toNat) c = T.2 r c
section IK
variable {h : Zm} {F : Nat → Int → Int} {n t a : Nat} {S : Int → Int} {g : Nat → Int → Int} {c0 : Int}
theorem s_add {Q : Zm → Prop} {A : Int → Int} {T : Int × (Int → Int → Int)} {k : Int} (kt : kIk h t) (hka : zkd h a = (1, 7)) (hat : a < t) (hA : ∀ i, 0 ≤ i → i < 7 → F a i = A i) (hr : r7 A) (hT : IT F t T) (ti : TI k T) (hk : k < 144) (q : ∀ F', fr t (t + 145) F F' → IT F' t (tad A T) → Q (zwI h F')) : mX1_add t a (zwI h F) Q := by
  obtain ⟨⟨k1, k2, k3⟩, k4⟩ := kt
  unfold mX1_add mX1_add_H2
  have hn := ti.1
  refine lfp1_up (h := h) T.1 (fun i F' => F' = F ∧ 0 ≤ i ∧ ∀ c, 0 ≤ c → c < i → ¬ sm7 A (T.2 c)) (fun X i F' hi hI hX => ?_) 0 F hn.1 ⟨rfl, Int.le_refl _, fun c x y => by omega⟩
  obtain ⟨rfl, g2, g3⟩ := hI
  unfold mX1_add_B2
  refine f_giv k1 hT.1 fun rn => f_lt ⟨by omega, by omega⟩ rn (fun z => ?_) (fun z => ?_)
  · have h4 := k4 i g2 (by omega)
    refine f_gr k1 k2 (f_ldr k3 (by decide) g2 (by omega) h4.1 (s_sameValues hka h4.2 (by decide) (by decide) hA (fun c x y => hT.2 i c g2 z x (by omega)) (f_bi (fun e => ?_) (fun e => hX z _ ⟨rfl, by omega, fun c x y => ?_⟩))))
    · have hv := (ti.2.1 i g2 z).2.2
      refine f_gr k1 k2 (f_ldr k3 (by decide) g2 (by omega) h4.1 (f_ldv h4.2 (by decide) (by decide) (hT.2 i 8 g2 z (by decide) (by decide)) fun _ => f_st h4.2 (by decide) (by decide) ⟨by omega, by omega⟩ (q _ (fr.up (by omega) (by omega)) ?_)))
      rw [tad_o g2 z e g3]
      refine ⟨by rw [up_a (by omega)]; exact hT.1, fun r c r0 r1 c0 c1 => ?_⟩
      have r1 : r < T.1 := r1
      rw [up_e]
      show _ = if r = i ∧ c = 8 then T.2 r 8 + 1 else T.2 r c
      by_cases e : r = i ∧ c = 8
      · rw [if_pos e, if_pos ⟨by rw [e.1], e.2⟩, e.1]
      · rw [if_neg e, if_neg (fun y => e ⟨by omega, y.2⟩)]
        exact hT.2 r c r0 r1 c0 c1
    · by_cases e2 : c = i
      · rw [e2]; exact e
      · exact g3 c x (by omega)
  · have hiT : i = T.1 := by omega
    subst hiT
    have h4 := k4 T.1 g2 (by omega)
    refine f_giv k1 hT.1 fun _ => f_lt rn ⟨by decide, by decide⟩ (fun y => f_gr k1 k2 (f_giv k1 hT.1 fun _ => f_ldr k3 (by decide) g2 (by omega) h4.1 ?_)) (fun y => by omega)
    unfold mX1_add_H65
    refine lfp1_up (h := h) 7 (fun i F2 => bu (t + 2 + T.1.toNat) F' F2 ∧ 0 ≤ i ∧ ∀ c, 0 ≤ c → c < i → F2 (t + 2 + T.1.toNat) c = A c) (fun X2 i F2 hi hI hX2 => ?_) 0 F' (by decide) ⟨bu.rf, by decide, fun c x y => by omega⟩
    obtain ⟨b2, i2, v2⟩ := hI
    have hA2 : ∀ i, 0 ≤ i → i < 7 → F2 a i = A i := fun i x y => by rw [b2 _ _ (by omega)]; exact hA i x y
    unfold mX1_add_B65
    refine f_lt ⟨by omega, by omega⟩ ⟨by decide, by decide⟩ (fun u => f_ldv hka i2 (by omega) (hA2 i i2 u) fun ra => f_st h4.2 i2 (by omega) ra (hX2 u _ ⟨b2.tr bu.up, by omega, fun c x y => ?_⟩)) (fun u => ?_)
    · rw [up_e]
      by_cases e : c = i
      · rw [if_pos ⟨rfl, e⟩, e]
      · rw [if_neg (by omega)]
        exact v2 c x (by omega)
    · have hs := smI_b (f := A) (m := 1785) (k := 7) (by decide) hr
      refine s_sumOf hka hA2 hr (f_st h4.2 (by decide) (by decide) ⟨by omega, by omega⟩ (f_st h4.2 (by decide) (by decide) ⟨by decide, by decide⟩ (f_giv (v := T.1) k1 (by rw [up_a (by omega), up_a (by omega), b2 _ _ (by omega)]; exact hT.1) fun _ => f_pi k1 ⟨by omega, by omega⟩ (q _ ?_ ?_))))
      · exact ((((b2.fr (by omega) (by omega) : fr t (t + 145) F' F2)).tr (fr.up (by omega) (by omega))).tr (fr.up (by omega) (by omega))).tr (fr.up (by omega) (by omega))
      · rw [tad_n g2 g3]
        refine ⟨up_s _ _ _ _, fun r c r0 r1 c0 c1 => ?_⟩
        have r1 : r < T.1 + 1 := r1
        rw [up_a (by omega)]
        simp only [up_e]
        show _ = if r = T.1 then nrow A c else T.2 r c
        by_cases e : r = T.1
        · subst e
          rw [if_pos rfl]
          unfold nrow
          by_cases e7 : c < 7
          · rw [if_neg (by omega), if_neg (by omega), if_pos e7]
            exact v2 c c0 (by omega)
          · rw [if_neg e7]
            by_cases e8 : c = 7
            · rw [if_neg (by omega), if_pos ⟨rfl, e8⟩, if_pos e8]
            · rw [if_pos ⟨rfl, by omega⟩, if_neg e8]
        · rw [if_neg e, if_neg (by omega), if_neg (by omega), b2 _ _ (by omega)]
          exact hT.2 r c r0 (by omega) c0 c1
theorem IT.kp {F F' : Nat → Int → Int} {T : Int × (Int → Int → Int)} (hT : IT F t T) (ht : TI 144 T) (hf : ∀ b j, t ≤ b → b ≤ t + 145 → F' b j = F b j) : IT F' t T :=
  ⟨by rw [hf _ _ (by omega) (by omega)]; exact hT.1, fun r c r0 r1 c0 c1 => by
    have := ht.1
    rw [hf _ _ (by omega) (by omega)]
    exact hT.2 r c r0 r1 c0 c1⟩
theorem TI.wd {k k' : Int} {T : Int × (Int → Int → Int)} (h : TI k T) (hk : k ≤ k') : TI k' T :=
  ⟨⟨h.1.1, by have := h.1.2; omega⟩, fun r a b => by have := h.2.1 r a b; exact ⟨this.1, this.2.1, this.2.2.1, by omega⟩, h.2.2⟩
theorem s_countInks {Q : Zm → Prop} (kd : kD h n) (cs : CS F (n + 1) S g) (w : WF S g c0) (q : ∀ F', fr (n + 316) (n + 466) F F' → IT F' (n + 319) (tab S g (S 0 * S 1)) → Q (zwI h F')) : mX6_countInks n (zwI h F) Q := by
  unfold mX6_countInks mX6_countInks_H10
  have hN := nP w.1
  refine f_gr kd.k kd.ik (f_pi kd.kt.1.1 z_in0 ?_)
  refine grid1 (fun k F' => fr (n + 316) (n + 466) F F' ∧ IT F' (n + 319) (tab S g k)) kd w.1 (fun k F' hI => hI.1.cs (by omega) cs) (fun Xo X y x k F' hk hkr hd hp hI hX => ?_) (fun F' hI => q F' hI.1 hI.2) ⟨fr.up (by omega) (by omega), up_s _ _ _ _, fun r c r0 r1 => absurd (show r < 0 from r1) (by omega)⟩
  obtain ⟨f2, v2⟩ := hI
  have ti := tab_TI w hkr.1
  refine f_rc kd.k (s_separateAt kd (f2.cs (by omega) cs) w hp fun F3 f3 e3 l3 => ?_)
  have hl : ∀ i, 0 ≤ i → i < 7 → F3 (n + 318) i = pA S g (S 2) k i := by
    unfold pA pB pT
    rw [hd.1, hd.2]
    exact l3
  refine f_gr kd.k kd.ik (f_gr kd.k kd.px (f_gr kd.kp.1.1 kd.kp.1.2.2.2 (f_rc kd.kt.1.1 (s_add kd.kt kd.kp.2.2.2 (by omega) hl (pA_r w w.1.1.2.1 k) (v2.kp (ti.wd (by omega)) fun b j x y => f3 b j (by omega)) ti (by omega) fun F4 f4 v4 => hX F4 ⟨(f2.tr (f3.wd (by omega) (by omega))).tr (f4.wd (by omega) (by omega)), ?_⟩))))
  rw [tab_s _ _ hkr.1]
  exact v4
theorem s_inkCount6 {Q : Int → Zm → Prop} (kd : kD h n) (cs : CS F (n + 1) S g) (w : WF S g c0) (q : ∀ F', fr (n + 316) (n + 466) F F' → Q (aInks S g) (zwI h F')) : mX6_inkCount n (zwI h F) Q := by
  unfold mX6_inkCount
  exact f_rc kd.k (s_countInks kd cs w fun F1 f1 v1 => f_gr kd.k kd.ik (f_giv kd.kt.1.1 v1.1 fun _ => q F1 f1))
theorem s_comesBefore {Q : Int → Zm → Prop} {b : Nat} {R : Int → Int → Int} {i j : Int} (kt : zkd h t = (11, 2)) (ka : zkd h a = (1, 9)) (kb : zkd h b = (1, 9)) (hi : ∀ c, 0 ≤ c → c < 9 → F a c = R i c) (hj : ∀ c, 0 ≤ c → c < 9 → F b c = R j c) (q : Q (bi (cb R i j)) (zwI h F)) : mX1_comesBefore t a b (zwI h F) Q := by
  unfold mX1_comesBefore
  have la : ∀ (c : Int) (P : Int → Prop), 0 ≤ c → c < 9 → (InR (R i c) → P (R i c)) → cLd (zwI h F) 1 a c P := fun c P x y z => f_ldv ka x y (hi c x y) z
  have lb : ∀ (c : Int) (P : Int → Prop), 0 ≤ c → c < 9 → (InR (R j c) → P (R j c)) → cLd (zwI h F) 1 b c P := fun c P x y z => f_ldv kb x y (hj c x y) z
  refine la 8 _ (by decide) (by decide) fun r1 => lb 8 _ (by decide) (by decide) fun r2 => f_eq r1 r2 (fun e => ?_) (fun e => ?_)
  · refine la 7 _ (by decide) (by decide) fun r3 => lb 7 _ (by decide) (by decide) fun r4 => f_eq r3 r4 (fun e2 => ?_) (fun e2 => ?_)
    · unfold mX1_comesBefore_H58
      refine lfp1_up (h := h) 7 (fun k F' => F' = F ∧ 0 ≤ k ∧ ∀ c, 0 ≤ c → c < k → R i c = R j c) (fun X k F' hk hI hX => ?_) 0 F (by decide) ⟨rfl, by decide, fun c x y => by omega⟩
      obtain ⟨rfl, g2, g3⟩ := hI
      unfold mX1_comesBefore_B58
      refine f_lt ⟨by omega, by omega⟩ ⟨by decide, by decide⟩ (fun z => la k _ g2 (by omega) fun r5 => lb k _ g2 (by omega) fun r6 => f_eq r5 r6 (fun e3 => hX z _ ⟨rfl, by omega, fun c x y => ?_⟩) (fun e3 => la k _ g2 (by omega) fun _ => lb k _ g2 (by omega) fun _ => f_lt r5 r6 (fun e4 => ?_) (fun e4 => ?_))) (fun z => ?_)
      · by_cases ec : c = k
        · rw [ec]; exact e3
        · exact g3 c x (by omega)
      · rw [bi_t (Or.inr ⟨e.symm, Or.inr ⟨e2, (lex_at g2 z g3 e3).mpr e4⟩⟩)] at q
        exact q
      · rw [bi_f (fun y => by
          rcases y with y | y
          · omega
          · rcases y.2 with y | y
            · omega
            · have := (lex_at g2 z g3 e3).mp y.2
              omega)] at q
        exact q
      · rw [bi_f (fun y => by
          rcases y with y | y
          · omega
          · rcases y.2 with y | y
            · omega
            · exact lex_eq (sm7_i.mpr fun c x w => g3 c x (by omega)) y.2)] at q
        exact q
    · refine la 7 _ (by decide) (by decide) fun _ => lb 7 _ (by decide) (by decide) fun _ => f_lt r3 r4 (fun e3 => ?_) (fun e3 => ?_)
      · rw [bi_t (Or.inr ⟨e.symm, Or.inl e3⟩)] at q
        exact q
      · rw [bi_f (fun y => by
          rcases y with y | y
          · omega
          · rcases y.2 with y | y
            · omega
            · exact e2 y.1)] at q
        exact q
  · refine la 8 _ (by decide) (by decide) fun _ => lb 8 _ (by decide) (by decide) fun _ => f_le r1 r2 (fun e3 => ?_) (fun e3 => ?_)
    · rw [bi_f (fun y => by
        rcases y with y | y
        · omega
        · exact e y.1.symm)] at q
      exact q
    · rw [bi_t (Or.inl e3)] at q
      exact q
theorem s_inkAt6 {Q : Int → Zm → Prop} {p x : Int} (kd : kD h n) (cs : CS F (n + 1) S g) (w : WF S g c0) (hp : InR p) (hx : InR x) (q : ∀ F', fr (n + 316) (n + 466) F F' → Q (aInkAt S g p x) (zwI h F')) : mX6_inkAt n p x (zwI h F) Q := by
  unfold mX6_inkAt
  unfold aInkAt at q
  have hN := nP w.1
  refine f_lt hp z_in0 (fun z => ?_) (fun z => s_within hx z_in0 ⟨by decide, by decide⟩ (f_bi (fun z2 => ?_) (fun z2 => ?_)))
  · rw [if_neg (by omega)] at q
    exact q F fr.rf
  · rw [if_pos ⟨z, z2⟩] at q
    refine f_rc kd.k (s_countInks kd cs w fun F1 f1 v1 => ?_)
    have ti := (tab_TI w (k := S 0 * S 1) (by omega)).wd hN.2
    generalize tab S g (S 0 * S 1) = T at v1 ti q
    obtain ⟨⟨k1, k2, k3⟩, k4⟩ := kd.kt
    have hn := ti.1
    refine f_gr kd.k kd.ik (f_rc k1 ?_)
    unfold mX1_rowAt mX1_rowAt_H2
    refine lfp1_up (h := h) T.1 (fun i F' => F' = F1 ∧ 0 ≤ i ∧ ∀ c, 0 ≤ c → c < i → rk (cb T.2) T.1 c ≠ p) (fun X i F' hi hI hX => ?_) 0 F1 hn.1 ⟨rfl, by decide, fun c a b => by omega⟩
    obtain ⟨rfl, g2, g3⟩ := hI
    unfold mX1_rowAt_B2
    refine f_giv k1 v1.1 fun rn => f_lt ⟨by omega, by omega⟩ rn (fun u => ?_) (fun u => ?_)
    · have hb := rk_b (cb T.2) (n := T.1) (p := i) hn.1
      refine f_rc k1 ?_
      unfold mX1_inksBefore mX1_inksBefore_H4
      refine lfp2_up2 (h := h) T.1 (fun v j F2 => F2 = F' ∧ 0 ≤ j ∧ v = rk (cb T.2) j i) (fun X2 v j F2 hj hJ hX2 => ?_) 0 0 F' hn.1 ⟨rfl, by decide, rfl⟩
      obtain ⟨rfl, j2, j3⟩ := hJ
      have hvb := rk_b (cb T.2) (n := j) (p := i) j2
      unfold mX1_inksBefore_B4
      refine f_giv k1 v1.1 fun _ => f_lt ⟨by omega, by omega⟩ rn (fun y => ?_) (fun y => ?_)
      · have hi4 := k4 i g2 (by omega)
        have hj4 := k4 j j2 (by omega)
        refine f_gr k1 k2 (f_ldr k3 (by decide) j2 (by omega) hj4.1 (f_gr k1 k2 (f_ldr k3 (by decide) g2 (by omega) hi4.1 (f_rc k1 (s_comesBefore k1 hj4.2 hi4.2 (fun c a b => v1.2 j c j2 y a b) (fun c a b => v1.2 i c g2 u a b) (f_bi (fun e => hX2 y _ _ ⟨rfl, by omega, ?_⟩) (fun e => hX2 y _ _ ⟨rfl, by omega, ?_⟩)))))))
        · have := smI_s (fun r => bi (cb T.2 r i)) j2
          rw [show rk (cb T.2) (j + 1) i = smI (fun r => bi (cb T.2 r i)) (j + 1) from rfl, this, bi_t e, j3]
          rfl
        · have := smI_s (fun r => bi (cb T.2 r i)) j2
          rw [show rk (cb T.2) (j + 1) i = smI (fun r => bi (cb T.2 r i)) (j + 1) from rfl, this, bi_f e, j3, Int.add_zero]
          rfl
      · have ej : j = T.1 := by omega
        subst ej
        subst j3
        refine f_eq ⟨by omega, by omega⟩ hp (fun e => ?_) (fun e => hX u _ ⟨rfl, by omega, fun c a b => ?_⟩)
        · have ef := fnd_u g2 u e (fun j a b y => by have := cb_inj ti ⟨by omega, b⟩ ⟨g2, u⟩ (y.trans e.symm); omega)
          have hi4 := k4 i g2 (by omega)
          refine f_eq ⟨by omega, by omega⟩ ⟨by decide, by decide⟩ (fun y => by omega) (fun _ => f_gr kd.k kd.ik (f_rc k1 ?_))
          unfold mX1_valueOf
          refine f_gr k1 k2 (f_ldr k3 (by decide) g2 (by omega) hi4.1 (f_ldv hi4.2 z2.1 (by omega) (v1.2 i x g2 u z2.1 (by omega)) fun _ => ?_))
          have := q F2 f1
          unfold tat at this
          rw [ef, if_neg (by omega)] at this
          exact this
        · by_cases e2 : c = i
          · rw [e2]; exact e
          · exact g3 c a (by omega)
    · refine f_eq ⟨by decide, by decide⟩ ⟨by decide, by decide⟩ (fun _ => ?_) (fun y => absurd rfl y)
      have := q F' f1
      unfold tat at this
      rw [fnd_n hn.1 (fun j a b => g3 j a (by omega)), if_pos rfl] at this
      exact this
  · rw [if_neg (fun v => z2 v.2)] at q
    exact q F fr.rf
end IK
