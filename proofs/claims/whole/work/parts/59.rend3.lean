/-! the reference's rendering -/
section RR
variable {h : Zm} {F : Nat → Int → Int} {M : Nat} {S : Int → Int} {g : Nat → Int → Int} {c0 : Int}
theorem LD.at {k : Int} (hD : LD F M S g) (wo : WO S g) (hl : live S k) (h0 : nk S k = 0) : F (M + 10) k = gop g k ∧ F (M + 11) k = gox g k ∧ F (M + 12) k = goy g k := by
  obtain ⟨t, ⟨t0, t1⟩, e⟩ := wo.2.2.2.1 k hl
  have := hD.2.2 t t0 t1 (by rw [e]; exact h0)
  rw [e] at this
  exact this
theorem s_isIn {Q : Int → Zm → Prop} {k x y : Int} (km : kM h M) (hS : RS F M S) (wf : WF S g c0) (hD : LD F M S g) (hl : live S k) (hx : 0 ≤ x ∧ x < 12) (hy : 0 ≤ y ∧ y < 12) (q : Q (bi (inb S g k x y)) (zwI h F)) : mX7_isIn M k x y (zwI h F) Q := by
  unfold mX7_isIn
  have wo := wf.2.2.2
  have wt := wf.2.2.1
  have hk := hl.1
  have fin : ∀ xo yo : Int, (k = 0 ∨ (xo = gox g (np S k) ∧ yo = goy g (np S k))) → InR (x - xo) → InR (y - yo) → mX7_isIn_J43 M k (x - xo) y yo (zwI h F) Q := by
    intro xo yo ho hxr hyr
    unfold mX7_isIn_J43
    refine f_rc km.1 (s_ofk km hS hk.1 hk.2 fun hr => f_eq hr z_in0 (fun z => ?_) (fun z => ?_))
    · rw [bi_f (fun v => v.1 z)] at q; exact q
    · have hk0 : k ≠ 0 := fun e => z (by rw [e]; exact wf.2.1.1.1)
      have ho' : xo = gox g (np S k) ∧ yo = goy g (np S k) := by
        rcases ho with e | e
        · exact absurd e hk0
        · exact e
      obtain ⟨rfl, rfl⟩ := ho'
      have hb := wf.2.1.2.2.2.1 k hl z
      refine f_rc km.1 (s_off (w := 3) 0 (by decide) km hS hk.1 hk.2 (by decide) (by decide) fun r0 => f_rc km.1 (s_off (w := 3) 0 (by decide) km hS hk.1 hk.2 (by decide) (by decide) fun _ => f_rc km.1 (s_off (w := 5) 2 (by decide) km hS hk.1 hk.2 (by decide) (by decide) fun _ => s_in hxr r0 ⟨by omega, by omega⟩ (f_bi (fun z1 => ?_) (fun z1 => ?_)))))
      · refine f_rc km.1 (s_off (w := 4) 1 (by decide) km hS hk.1 hk.2 (by decide) (by decide) fun r1 => f_rc km.1 (s_off (w := 4) 1 (by decide) km hS hk.1 hk.2 (by decide) (by decide) fun _ => f_rc km.1 (s_off (w := 6) 3 (by decide) km hS hk.1 hk.2 (by decide) (by decide) fun _ => s_in hyr r1 ⟨by omega, by omega⟩ (f_bi (fun z2 => ?_) (fun z2 => ?_)))))
        · rw [bi_t ⟨z, z1, z2⟩] at q; exact q
        · rw [bi_f (fun v => z2 v.2.2)] at q; exact q
      · rw [bi_f (fun v => z1 v.2.1)] at q; exact q
  refine f_rc km.1 (s_ofp km hS hk.1 hk.2 fun _ => f_eq ⟨by omega, by omega⟩ z_in0 (fun z => ?_) (fun z => ?_))
  · unfold mX7_isIn_J24
    exact f_eq ⟨by omega, by omega⟩ z_in0 (fun _ => fin 0 0 (Or.inl z) ⟨by omega, by omega⟩ ⟨by omega, by omega⟩) (fun v => absurd z v)
  · have hp := wt.2.1 k hl z
    have hv := hD.at wo hp.1 hp.2.1
    have hb := g_op wf.2.1 wt hp.1 hp.2.1
    have hp1 := hp.1.1
    unfold mX7_isIn_J24
    exact f_gr km.1 km.r12 (f_ldv km.k12 hp1.1 (by omega) hv.2.1 fun _ => f_eq ⟨by omega, by omega⟩ z_in0 (fun v => absurd v z) (fun _ => f_gr km.1 km.r13 (f_ldv km.k13 hp1.1 (by omega) hv.2.2 fun _ => fin _ _ (Or.inr ⟨rfl, rfl⟩) ⟨by omega, by omega⟩ ⟨by omega, by omega⟩)))
theorem s_moves {Q : Zm → Prop} {i v gl e : Int} (km : kM h M) (h0 : 0 ≤ i) (h1 : i < 6) (hF : F (M + 13) i = v) (hv : 0 ≤ v ∧ v ≤ 255) (hg : 0 ≤ gl ∧ gl ≤ 255) (he : 0 ≤ e ∧ e ≤ 100) (q : Q (zwI h (up F (M + 13) i (mv v gl e)))) : mX7_moves M i gl e (zwI h F) Q := by
  unfold mX7_moves
  have hp := mv_p hv hg he
  have hm := mv_r hv hg he
  refine f_gr km.1 km.r14 (f_ldv km.k14 h0 (by omega) hF fun _ => f_gr km.1 km.r14 (f_ldv km.k14 h0 (by omega) hF fun _ => s_floor ⟨by omega, by omega⟩ ⟨by decide, by decide⟩ (f_st km.k14 h0 (by omega) ?_ q)))
  unfold mv at hm
  exact ⟨by omega, by omega⟩
theorem bu13 {F' : Nat → Int → Int} (hb : bu (M + 13) F F') (hS : RS F M S) : RS F' M S := fun j a b => by
  rw [hb _ _ (by omega)]
  exact hS j a b
theorem bu13D {F' : Nat → Int → Int} (hb : bu (M + 13) F F') (hD : LD F M S g) : LD F' M S g :=
  ⟨by rw [hb _ _ (by omega)]; exact hD.1, fun t a b => by rw [hb _ _ (by omega)]; exact hD.2.1 t a b, fun t a b c => by rw [hb _ _ (by omega), hb _ _ (by omega), hb _ _ (by omega)]; exact hD.2.2 t a b c⟩
theorem s_touches {Q : Zm → Prop} {k : Int} {T : Int → Int} (km : kM h M) (hS : RS F M S) (wf : WF S g c0) (hD : LD F M S g) (hl : live S k) (hn : nk S k ≠ 0) (hT : Tn F (M + 13) T) (ht : tb T) (q : ∀ F', bu (M + 13) F F' → Tn F' (M + 13) (pnt S (gop g (np S k)) k T) → Q (zwI h F')) : mX7_touches M k (zwI h F) Q := by
  unfold mX7_touches
  have wo := wf.2.2.2
  have wt := wf.2.2.1
  have hk := hl.1
  have hk0 : k ≠ 0 := fun e => hn (by rw [e]; exact wf.2.1.1.1)
  have hp := wt.2.1 k hl hk0
  have hv := hD.at wo hp.1 hp.2.1
  have he := (g_op wf.2.1 wt hp.1 hp.2.1).1
  have hp1 := hp.1.1
  refine f_gr km.1 km.r11 (f_rc km.1 (s_ofp km hS hk.1 hk.2 fun _ => f_ldv km.k11 hp1.1 (by omega) hv.1 fun _ => f_rc km.1 (s_ofk km hS hk.1 hk.2 fun hr => f_eq hr ⟨by decide, by decide⟩ (fun z => ?_) (fun z => ?_))))
  · have hb := wf.2.1.2.2.2.2.1 k hl z
    unfold mX7_touches_H24
    refine lfp1_up (h := h) 3 (fun i F' => bu (M + 13) F F' ∧ 0 ≤ i ∧ ∀ c, 0 ≤ c → c < 6 → F' (M + 13) c = if c < i then mv (T c) (nf S k (4 + c)) (gop g (np S k)) else if 3 ≤ c ∧ c < 3 + i then mv (T c) 0 (gop g (np S k)) else T c) (fun X i F' hi hI hX => ?_) 0 F (by decide) ⟨bu.rf, by decide, fun c a b => by rw [if_neg (by omega), if_neg (by omega)]; exact hT c a b⟩
    obtain ⟨g1, g2, g3⟩ := hI
    unfold mX7_touches_B24
    have hS' := bu13 g1 hS
    refine f_lt ⟨by omega, by omega⟩ ⟨by decide, by decide⟩ (fun y => ?_) (fun y => q F' g1 (fun c a b => ?_))
    · have hcol : 0 ≤ nf S k (4 + i) ∧ nf S k (4 + i) ≤ 255 := by
        rcases (show i = 0 ∨ i = 1 ∨ i = 2 by omega) with rfl | rfl | rfl
        · exact hb.1
        · exact hb.2.1
        · exact hb.2.2
      refine f_rc km.1 (s_off (w := 7 + i) (4 + i) (by omega) km hS' hk.1 hk.2 (by omega) (by omega) fun _ => f_rc km.1 (s_moves km (v := T i) g2 (by omega) ?_ (ht i g2 (by omega)) hcol he (f_rc km.1 (s_moves km (v := T (3 + i)) (by omega) (by omega) ?_ (ht _ (by omega) (by omega)) ⟨by decide, by decide⟩ he (hX y _ ⟨(g1.tr bu.up).tr bu.up, by omega, fun c a b => ?_⟩)))))
      · rw [g3 i g2 (by omega), if_neg (by omega), if_neg (by omega)]
      · rw [up_n (by omega), g3 _ (by omega) (by omega), if_neg (by omega), if_neg (by omega)]
      · rw [up_e, up_e]
        by_cases e1 : c = 3 + i
        · subst e1
          rw [if_pos ⟨rfl, rfl⟩, if_neg (by omega), if_pos (by omega)]
        · rw [if_neg (by omega)]
          by_cases e2 : c = i
          · subst e2
            rw [if_pos ⟨rfl, rfl⟩, if_pos (by omega)]
          · rw [if_neg (by omega), g3 c a b]
            by_cases e3 : c < i
            · rw [if_pos e3, if_pos (by omega)]
            · rw [if_neg e3, if_neg (show ¬ c < i + 1 by omega)]
              by_cases e4 : 3 ≤ c ∧ c < 3 + i
              · rw [if_pos e4, if_pos (by omega)]
              · rw [if_neg e4, if_neg (by omega)]
    · rw [g3 c a b]
      unfold pnt
      rw [if_pos z]
      by_cases e : c < 3
      · rw [if_pos (by omega), if_pos e]
      · rw [if_neg (by omega), if_pos (by omega), if_neg e]
  · have z2 : nk S k = 2 := by have := WF.nk2 wf.2.1 hl; omega
    have hb := wf.2.1.2.2.2.2.2 k hl z2
    refine f_rc km.1 (s_off (w := 7) 4 (by decide) km hS hk.1 hk.2 (by decide) (by decide) fun _ => f_rc km.1 (s_off (w := 8) 5 (by decide) km hS hk.1 hk.2 (by decide) (by decide) fun _ => f_rc km.1 (s_moves km (v := T (3 + nf S k 4)) (by omega) (by omega) (hT _ (by omega) (by omega)) (ht _ (by omega) (by omega)) hb.2 he ?_)))
    have h01 := wf.1.2.1 (nf S k 4) hb.1.1 (by omega)
    have t0 : Tn (up F (M + 13) (3 + nf S k 4) (mv (T (3 + nf S k 4)) (nf S k 5) (gop g (np S k)))) (M + 13) (fun c => if c = 3 + nf S k 4 then mv (T c) (nf S k 5) (gop g (np S k)) else T c) := fun c x w => by
      rw [up_e]
      by_cases w2 : c = 3 + nf S k 4
      · subst w2; simp
      · rw [if_neg (by omega)]
        show _ = if c = 3 + nf S k 4 then _ else _
        rw [if_neg w2]
        exact hT c x w
    have b0 : bu (M + 13) F (up F (M + 13) (3 + nf S k 4) (mv (T (3 + nf S k 4)) (nf S k 5) (gop g (np S k)))) := bu.up
    generalize up F (M + 13) (3 + nf S k 4) (mv (T (3 + nf S k 4)) (nf S k 5) (gop g (np S k))) = F1 at t0 b0 ⊢
    have ht0 : tb (fun c => if c = 3 + nf S k 4 then mv (T c) (nf S k 5) (gop g (np S k)) else T c) := fun c x w => by
      have hc := ht c x w
      show 0 ≤ (if c = _ then _ else _) ∧ (if c = _ then _ else _) ≤ 255
      split
      · exact mv_r hc hb.2 he
      · exact hc
    generalize hT0 : (fun c => if c = 3 + nf S k 4 then mv (T c) (nf S k 5) (gop g (np S k)) else T c) = T0 at t0 ht0
    have eT0 : ∀ c, T0 c = if c = 3 + nf S k 4 then mv (T c) (nf S k 5) (gop g (np S k)) else T c := fun c => by rw [← hT0]
    unfold mX7_touches_H88
    refine lfp1_up (h := h) 3 (fun i F' => bu (M + 13) F F' ∧ 0 ≤ i ∧ (i ≠ 0 → S (5 + nf S k 4) = 1) ∧ ∀ c, 0 ≤ c → c < 6 → F' (M + 13) c = if c < i then mv (T0 c) 255 (gop g (np S k)) else if (3 ≤ c ∧ c < 3 + i) ∧ c ≠ 3 + nf S k 4 then mv (T0 c) 0 (gop g (np S k)) else T0 c) (fun X i F' hi hI hX => ?_) 0 F1 (by decide) ⟨b0, by decide, fun a => absurd rfl a, fun c a b => by rw [if_neg (by omega), if_neg (by omega)]; exact t0 c a b⟩
    obtain ⟨g1, g2, g0, g3⟩ := hI
    unfold mX7_touches_B88
    have hS' := bu13 g1 hS
    refine f_lt ⟨by omega, by omega⟩ ⟨by decide, by decide⟩ (fun y => ?_) (fun y => q F' g1 (fun c a b => ?_))
    · refine r_ld km hS' (by omega) (by omega) fun hr5 => f_eq hr5 ⟨by decide, by decide⟩ (fun u => ?_) (fun u => q F' g1 (fun c a b => ?_))
      · refine f_rc km.1 (s_moves km (v := T0 i) g2 (by omega) (by rw [g3 i g2 (by omega), if_neg (by omega), if_neg (by omega)]) (ht0 i g2 (by omega)) ⟨by decide, by decide⟩ he (f_eq ⟨by omega, by omega⟩ ⟨by omega, by omega⟩ (fun v => ?_) (fun v => ?_)))
        · have hval : up F' (M + 13) i (mv (T0 i) 255 (gop g (np S k))) (M + 13) (3 + i) = T0 (3 + i) := by
            rw [up_n (by omega), g3 _ (by omega) (by omega), if_neg (by omega), if_neg (by omega)]
          refine f_gr km.1 km.r14 (f_ldv km.k14 (by omega) (by omega) hval fun _ => f_rc km.1 (s_moves km (v := T0 (3 + i)) (by omega) (by omega) hval (ht0 _ (by omega) (by omega)) (ht0 _ (by omega) (by omega)) he (hX y _ ⟨(g1.tr bu.up).tr bu.up, by omega, fun _ => u, fun c a b => ?_⟩)))
          rw [mv_self, up_e, up_e]
          by_cases e1 : c = 3 + i
          · subst e1
            rw [if_pos ⟨rfl, rfl⟩, if_neg (by omega), if_neg (by omega)]
          · rw [if_neg (by omega)]
            by_cases e2 : c = i
            · subst e2
              rw [if_pos ⟨rfl, rfl⟩, if_pos (by omega)]
            · rw [if_neg (by omega), g3 c a b]
              by_cases e3 : c < i
              · rw [if_pos e3, if_pos (by omega)]
              · rw [if_neg e3, if_neg (show ¬ c < i + 1 by omega)]
                by_cases e4 : (3 ≤ c ∧ c < 3 + i) ∧ c ≠ 3 + nf S k 4
                · rw [if_pos e4, if_pos (by omega)]
                · rw [if_neg e4, if_neg (by omega)]
        · have hval : up F' (M + 13) i (mv (T0 i) 255 (gop g (np S k))) (M + 13) (3 + i) = T0 (3 + i) := by
            rw [up_n (by omega), g3 _ (by omega) (by omega), if_neg (by omega), if_neg (by omega)]
          refine f_rc km.1 (s_moves km (v := T0 (3 + i)) (by omega) (by omega) hval (ht0 _ (by omega) (by omega)) ⟨by decide, by decide⟩ he (hX y _ ⟨(g1.tr bu.up).tr bu.up, by omega, fun _ => u, fun c a b => ?_⟩))
          rw [up_e, up_e]
          by_cases e1 : c = 3 + i
          · subst e1
            rw [if_pos ⟨rfl, rfl⟩, if_neg (by omega), if_pos (by omega)]
          · rw [if_neg (by omega)]
            by_cases e2 : c = i
            · subst e2
              rw [if_pos ⟨rfl, rfl⟩, if_pos (by omega)]
            · rw [if_neg (by omega), g3 c a b]
              by_cases e3 : c < i
              · rw [if_pos e3, if_pos (by omega)]
              · rw [if_neg e3, if_neg (show ¬ c < i + 1 by omega)]
                by_cases e4 : (3 ≤ c ∧ c < 3 + i) ∧ c ≠ 3 + nf S k 4
                · rw [if_pos e4, if_pos (by omega)]
                · rw [if_neg e4, if_neg (by omega)]
      · have hi0 : i = 0 := by
          rcases Int.lt_or_le 0 i with p | p
          · exact absurd (g0 (by omega)) u
          · omega
        subst hi0
        rw [g3 c a b, if_neg (by omega), if_neg (by omega), eT0]
        unfold pnt
        rw [if_neg z]
        by_cases e : c = 3 + nf S k 4
        · rw [if_pos e, if_pos e]
        · rw [if_neg e, if_neg e, if_neg u]
    · have hi3 : i = 3 := by omega
      subst hi3
      have u := g0 (by decide)
      rw [g3 c a b]
      unfold pnt
      rw [if_neg z]
      by_cases e : c = 3 + nf S k 4
      · rw [if_neg (by omega), if_neg (by omega), if_pos e, eT0, if_pos e]
      · rw [if_neg e, if_pos u]
        by_cases e2 : c < 3
        · rw [if_pos e2, if_pos e2, eT0, if_neg e]
        · rw [if_neg e2, if_pos (by omega), if_neg e2, eT0, if_neg e]
theorem s_renders {Q : Zm → Prop} {x y : Int} (km : kM h M) (hS : RS F M S) (wf : WF S g c0) (hD : LD F M S g) (hx : 0 ≤ x ∧ x < 12) (hy : 0 ≤ y ∧ y < 12) (q : ∀ F', bu (M + 13) F F' → Tn F' (M + 13) (rnd S g x y (gc g).toNat) → Q (zwI h F')) : mX7_renders M x y (zwI h F) Q := by
  unfold mX7_renders mX7_renders_H2
  have wo := wf.2.2.2
  have hc1 := wo.1.1
  refine lfp1_up (h := h) 6 (fun i F' => bu (M + 13) F F' ∧ 0 ≤ i ∧ ∀ c, 0 ≤ c → c < i → F' (M + 13) c = if c < 3 then 255 else 0) (fun X i F' hi hI hX => ?_) 0 F (by decide) ⟨bu.rf, by decide, fun c a b => by omega⟩
  obtain ⟨g1, g2, g3⟩ := hI
  unfold mX7_renders_B2
  refine f_lt ⟨by omega, by omega⟩ ⟨by decide, by decide⟩ (fun z => f_gr km.1 km.r14 (f_lt ⟨by omega, by omega⟩ ⟨by decide, by decide⟩ (fun z3 => f_st km.k14 g2 (by omega) ⟨by decide, by decide⟩ (hX z _ ⟨g1.tr bu.up, by omega, fun c a b => ?_⟩)) (fun z3 => f_st km.k14 g2 (by omega) ⟨by decide, by decide⟩ (hX z _ ⟨g1.tr bu.up, by omega, fun c a b => ?_⟩)))) (fun z => ?_)
  · rw [up_e]
    split
    · rename_i e
      rw [if_pos (by omega)]
    · exact g3 c a (by omega)
  · rw [up_e]
    split
    · rename_i e
      rw [if_neg (by omega)]
    · exact g3 c a (by omega)
  · have hD1 := bu13D g1 hD
    unfold mX7_renders_H34
    refine lfp1_up (h := h) (gc g) (fun t F'' => bu (M + 13) F F'' ∧ 0 ≤ t ∧ Tn F'' (M + 13) (rnd S g x y t.toNat)) (fun X t F'' ht hI hX => ?_) 0 F' (by omega) ⟨g1, by omega, fun c a b => g3 c a (by omega)⟩
    obtain ⟨j1, j2, j3⟩ := hI
    unfold mX7_renders_B34
    have hS2 := bu13 j1 hS
    have hD2 := bu13D j1 hD
    refine f_giv km.1 hD2.1 fun _ => f_lt ⟨by omega, by omega⟩ ⟨by omega, by omega⟩ (fun z2 => ?_) (fun z2 => ?_)
    · have hl := wo.2.1 t j2 z2
      have e1 : (t + 1).toNat = t.toNat + 1 := by omega
      have e2 : rnd S g x y (t.toNat + 1) = if inb S g (go g t) x y then pnt S (gop g (np S (go g t))) (go g t) (rnd S g x y t.toNat) else rnd S g x y t.toNat := by
        show (if inb S g (go g t.toNat) x y then _ else _) = _
        rw [Int.toNat_of_nonneg j2]
      refine f_gr km.1 km.r8 (f_ldv km.k8 j2 (by omega) (hD2.2.1 t j2 z2) fun _ => f_rc km.1 (s_isIn km hS2 wf hD2 hl hx hy (f_bi (fun zi => ?_) (fun zi => hX z2 _ ⟨j1, by omega, by rw [e1, e2, if_neg zi]; exact j3⟩))))
      refine f_gr km.1 km.r8 (f_ldv km.k8 j2 (by omega) (hD2.2.1 t j2 z2) fun _ => f_rc km.1 (s_touches km hS2 wf hD2 hl zi.1 j3 (rnd_r wf x y _ (by omega)) fun F3 b3 t3 => hX z2 _ ⟨j1.tr b3, by omega, by rw [e1, e2, if_pos zi]; exact t3⟩))
    · have : t = gc g := by omega
      subst this
      exact q F'' j1 j3
end RR
