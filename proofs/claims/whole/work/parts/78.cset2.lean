/-! points of curves: the class's calls -/
theorem cat_b {c : Int} {p q : Int → Int} {v k : Int} (hw : wfC c p q) (hv0 : 0 ≤ v) (h0 : 0 ≤ k) (h1 : k < c) (h2 : ∀ j, 0 ≤ j → j < k → p j < v) (h3 : v ≤ p k) : cat p q v k ≤ q k ∧ (1 ≤ k → q (k - 1) ≤ cat p q v k) := by
  unfold cat
  split
  · exact ⟨Int.le_refl _, fun z => hw.2.2.2.2.1 (k - 1) k (by omega) (by omega) h1⟩
  · rename_i e
    have hk0 : k ≠ 0 := fun z => by
      subst z
      have := hw.2.1
      omega
    have hk1 := hw.2.2.2.2.2 (k - 1) (by omega) (by omega)
    have ha := h2 (k - 1) (by omega) (by omega)
    have hq := hw.2.2.2.2.1 (k - 1) k (by omega) (by omega) h1
    have := div_part (a := q k - q (k - 1)) (b := v - p (k - 1)) (d := p k - p (k - 1)) (by omega) (by omega) (by omega) (by omega)
    exact ⟨by omega, fun _ => by omega⟩
theorem cval_mono {c : Int} {p q : Int → Int} {v v' : Int} (hw : wfC c p q) (hv0 : 0 ≤ v) (hvv : v ≤ v') (hv : v' ≤ 255) : cval p q v ≤ cval p q v' := by
  obtain ⟨k, h0, h1, h2, h3⟩ := c_place hw (show v ≤ 255 by omega)
  obtain ⟨k', g0, g1, g2, g3⟩ := c_place hw hv
  rw [cval_at hw h0 h1 h2 h3, cval_at hw g0 g1 g2 g3]
  have b1 := cat_b hw hv0 h0 h1 h2 h3
  have b2 := cat_b hw (by omega) g0 g1 g2 g3
  have hkk : k ≤ k' := by
    rcases Int.lt_or_le k' k with z | z
    · have := h2 k' g0 z; omega
    · exact z
  rcases Int.lt_or_le k k' with z | z
  · have h4 := hw.2.2.2.2.1 k (k' - 1) h0 (by omega) (by omega)
    have h5 := b2.2 (by omega)
    omega
  · have e : k' = k := by omega
    subst e
    by_cases e1 : p k' = v'
    · have : cat p q v' k' = q k' := if_pos e1
      omega
    · by_cases e2 : p k' = v
      · omega
      · unfold cat
        rw [if_neg e1, if_neg e2]
        have hk0 : k' ≠ 0 := fun z => by
          subst z
          have := hw.2.1
          omega
        have ha := h2 (k' - 1) (by omega) (by omega)
        have hq := hw.2.2.2.2.1 (k' - 1) k' (by omega) (by omega) h1
        have hd : 0 < p k' - p (k' - 1) := by omega
        have m1 : (q k' - q (k' - 1)) * (v - p (k' - 1)) ≤ (q k' - q (k' - 1)) * (v' - p (k' - 1)) := Int.mul_le_mul_of_nonneg_left (by omega) (by omega)
        have n1 : 0 ≤ (q k' - q (k' - 1)) * (v - p (k' - 1)) := Int.mul_nonneg (by omega) (by omega)
        rw [tdiv_pos n1, tdiv_pos (Int.le_trans n1 m1)]
        have := Int.ediv_le_ediv hd m1
        omega
theorem wfC_st {c : Int} {p q : Int → Int} (hw : wfC c p q) : wfC 4 stp (stq p q) := by
  refine ⟨by decide, rfl, rfl, fun i j a b d => ?_, fun i j a b d => ?_, fun i a b => ?_⟩
  · unfold stp; omega
  · unfold stq
    exact cval_mono hw (by omega) (by omega) (by omega)
  · unfold stp stq
    exact ⟨by omega, cval_r hw (by omega) (by omega)⟩
theorem wfC_rSim {S : Int → Int} {p : Int} (hw : wfC (cc S p) (cp S p) (cq S p)) : wfC (cc (rSim S p) p) (cp (rSim S p) p) (cq (rSim S p) p) := by
  rw [rSim_c]
  exact wfC_cg (wfC_st hw) (fun i a b => rSim_v a b)
def okP (p u v : Int) : Prop := (0 ≤ p ∧ p ≤ 6) ∧ (0 ≤ u ∧ u ≤ 255) ∧ (0 ≤ v ∧ v ≤ 255)
abbrev fPt (S : Int → Int) (p u v : Int) : Int := if (0 ≤ p ∧ p ≤ 6) ∧ (0 ≤ u ∧ u ≤ 255) ∧ (0 ≤ v ∧ v ≤ 255) then (if rsn (cc S p) (cp S p) (cq S p) (pl S p u) u v then (if cp S p (pl S p u) ≠ u ∧ cc S p = 8 then -3 else 0) else -2) else -1
def sPt (S : Int → Int) (p u v : Int) : Int → Int := if cp S p (pl S p u) = u then ru S (9 + 17 * p + 2 + 2 * pl S p u) v else rIns S p (pl S p u) u v
theorem sPt_ok {S : Int → Int} {g : Nat → Int → Int} {c p u v : Int} (w : WF S g c) (h : fPt S p u v = 0) : okP p u v ∧ crq p S (sPt S p u v) ∧ wfC (cc (sPt S p u v) p) (cp (sPt S p u v) p) (cq (sPt S p u v) p) ∧ (cp S p (pl S p u) ≠ u → cc S p < 8) := by
  unfold fPt at h
  by_cases a : (0 ≤ p ∧ p ≤ 6) ∧ (0 ≤ u ∧ u ≤ 255) ∧ (0 ≤ v ∧ v ≤ 255)
  · rw [if_pos a] at h
    have hw := w.1.2.2.2 p a.1.1 (by omega)
    have hp := pl_ok hw a.2.1.2
    have hw1 := hw.1
    have hp1 := hp.1
    by_cases b : rsn (cc S p) (cp S p) (cq S p) (pl S p u) u v
    · rw [if_pos b] at h
      by_cases d : cp S p (pl S p u) ≠ u ∧ cc S p = 8
      · rw [if_pos d] at h
        exact absurd h (by decide)
      · unfold sPt
        by_cases e : cp S p (pl S p u) = u
        · rw [if_pos e]
          refine ⟨a, ru_q hp.1.1 (by omega), ?_, fun y => absurd e y⟩
          rw [ru_c hp.1.1]
          exact wfC_cg (wfC_put1 hw hp.1 a.2.2 b.1 (b.2.1 e)) (fun i _ _ => ru_pv hp.1.1)
        · rw [if_neg e]
          have hc : cc S p < 8 := by
            have := hw.1.2
            rcases Int.lt_or_le (cc S p) 8 with z | z
            · exact z
            · exact absurd ⟨e, by omega⟩ d
          refine ⟨a, rIns_q hc hp.1.1 (by omega), ?_, fun _ => hc⟩
          rw [rIns_c]
          exact wfC_cg (wfC_ins hw hc hp e a.2.1 a.2.2 b.1 (b.2.2 e)) (fun i x y => rIns_v x y hp.1.1)
    · rw [if_neg b] at h
      exact absurd h (by decide)
  · rw [if_neg a] at h
    exact absurd h (by decide)
abbrev fRm (S : Int → Int) (p u : Int) : Int := if (0 ≤ p ∧ p ≤ 6) ∧ (1 ≤ u ∧ u ≤ 254) then (if cp S p (pl S p u) = u then 0 else -4) else -1
theorem rDel_ok {S : Int → Int} {g : Nat → Int → Int} {c p u : Int} (w : WF S g c) (h : fRm S p u = 0) : ((0 ≤ p ∧ p ≤ 6) ∧ (1 ≤ u ∧ u ≤ 254)) ∧ (0 < pl S p u ∧ pl S p u < cc S p - 1) ∧ cp S p (pl S p u) = u ∧ crq p S (rDel S p (pl S p u)) ∧ wfC (cc (rDel S p (pl S p u)) p) (cp (rDel S p (pl S p u)) p) (cq (rDel S p (pl S p u)) p) := by
  unfold fRm at h
  by_cases a : (0 ≤ p ∧ p ≤ 6) ∧ (1 ≤ u ∧ u ≤ 254)
  · rw [if_pos a] at h
    have hw := w.1.2.2.2 p a.1.1 (by omega)
    have hp := pl_ok hw (show u ≤ 255 by omega)
    by_cases e : cp S p (pl S p u) = u
    · have i0 : 0 < pl S p u := by
        rcases Int.lt_or_le 0 (pl S p u) with z | z
        · exact z
        · have h0 := hp.1.1
          have : pl S p u = 0 := by omega
          have h2 := hw.2.1
          rw [this, h2] at e
          omega
      have i1 : pl S p u < cc S p - 1 := by
        rcases Int.lt_or_le (pl S p u) (cc S p - 1) with z | z
        · exact z
        · have h0 := hp.1.2
          have : pl S p u = cc S p - 1 := by omega
          have h2 := hw.2.2.1
          rw [this, h2] at e
          omega
      refine ⟨a, ⟨i0, i1⟩, e, rDel_q hw.1.2 (by omega), ?_⟩
      rw [rDel_c]
      exact wfC_cg (wfC_del hw i0 i1) (fun i x y => rDel_v x y (by omega))
    · rw [if_neg e] at h
      exact absurd h (by decide)
  · rw [if_neg a] at h
    exact absurd h (by decide)
abbrev dfv (S S' : Int → Int) (p x : Int) : Int := if cval (cp S p) (cq S p) x - cval (cp S' p) (cq S' p) x < 0 then -(cval (cp S p) (cq S p) x - cval (cp S' p) (cq S' p) x) else cval (cp S p) (cq S p) x - cval (cp S' p) (cq S' p) x
def aSim (S : Int → Int) (p : Int) : Int := mxI (dfv S (rSim S p) p) 256
section CZ
variable {h : Zm} {F : Nat → Int → Int} {n : Nat} {S : Int → Int} {g : Nat → Int → Int} {c0 k : Int} {Hs : Int → Int → Int} {Hg : Int → Nat → Int → Int} {b : Int → Nat}
theorem s_setPoint6 {Q : Int → Zm → Prop} {p u v : Int} (ci : CI h F n S g Hs Hg b k) (w : WF S g c0) (hp : InR p) (hu : InR u) (hv : InR v) (t : fPt S p u v = 0 → ∀ h' F' b', sw n h h' → hf n F F' → CI h' F' n (sPt S p u v) g (pH Hs k S) (pH Hg k g) b' (pK k) → Q (cc (sPt S p u v) p) (zwI h' F')) (f : fPt S p u v ≠ 0 → Q (fPt S p u v) (zwI h F)) : mX6_setPoint n p u v (zwI h F) Q := by
  unfold mX6_setPoint
  have kd := ci.1
  have cs := ci.2.2.2.1
  have bad : ¬ ((0 ≤ p ∧ p ≤ 6) ∧ (0 ≤ u ∧ u ≤ 255) ∧ (0 ≤ v ∧ v ≤ 255)) → Q (-1) (zwI h F) := fun y => by
    have e : fPt S p u v = -1 := if_neg y
    rw [e] at f
    exact f (by decide)
  refine s_isPlate6 hp (f_bi (fun z => s_isPart6 hu (f_bi (fun z2 => s_isPart6 hv (f_bi (fun z3 => ?_) (fun z3 => bad (fun y => z3 y.2.2)))) (fun z2 => bad (fun y => z2 y.2.1)))) (fun z => bad (fun y => z y.1)))
  have a : (0 ≤ p ∧ p ≤ 6) ∧ (0 ≤ u ∧ u ≤ 255) ∧ (0 ≤ v ∧ v ≤ 255) := ⟨z, z2, z3⟩
  have hw := w.1.2.2.2 p z.1 (by omega)
  have hpl := pl_ok hw z2.2
  have hw1 := hw.1
  have hp1 := hpl.1
  have hc := kd.ks.2.2 p z.1 (by omega)
  have hcc := cs.2.2.1 p z.1 (by omega)
  refine f_gr kd.k kd.pg (f_gr kd.ks.1.1 kd.ks.1.2.2.2.1 (f_ldr kd.ks.1.2.2.2.2.2 (by decide) z.1 (by omega) hc.1 (f_rc hc.2.1 (s_keepsRising hc.2 hcc hw hpl hu hv (f_bi (fun r => f_rc hc.2.1 (s_indexOf hc.2 hcc hw hpl hu ?_)) (fun r => ?_))))))
  · by_cases e : cp S p (pl S p u) = u
    · rw [if_pos e]
      have f0 : fPt S p u v = 0 := by
        unfold fPt
        rw [if_pos a, if_pos r, if_neg (fun y => y.1 e)]
      have ok := sPt_ok w f0
      refine f_eq ⟨by omega, by omega⟩ ⟨by decide, by decide⟩ (fun y => by omega) (fun _ => f_rc kd.k (s_remember ci w fun h' F' b' s f' ci' => ?_))
      have kd' := ci'.1
      have cs' := ci'.2.2.2.1
      have hc' := kd'.ks.2.2 p z.1 (by omega)
      refine f_rc hc'.2.1 (s_putO hc'.2 (cs'.2.2.1 p z.1 (by omega)) hw hpl e hu hv fun F2 f2 c2 => ?_)
      have eS : sPt S p u v = ru S (9 + 17 * p + 2 + 2 * pl S p u) v := if_pos e
      rw [eS] at t ok
      have c3 : CC F2 (n + 1 + 31 + 3 * p.toNat) (cc (ru S (9 + 17 * p + 2 + 2 * pl S p u) v) p) (cp (ru S (9 + 17 * p + 2 + 2 * pl S p u) v) p) (cq (ru S (9 + 17 * p + 2 + 2 * pl S p u) v) p) := by
        rw [ru_c hpl.1.1]
        exact CC_cg c2 (fun i _ _ => ru_pv hpl.1.1)
      have f3 : fr (n + 1) (n + 52) F' F2 := f2.wd (by omega) (by omega)
      refine f_giv hc'.2.1 c3.1 fun _ => t f0 h' F2 b' s (f'.tr (f3.hf (by omega) (by omega))) (ci'.pg f3 (CS_cur ⟨z.1, by omega⟩ ok.2.1 w f2 cs' c3))
    · rw [if_neg e]
      refine f_eq ⟨by decide, by decide⟩ ⟨by decide, by decide⟩ (fun _ => f_giv hc.2.1 hcc.1 fun _ => f_lt ⟨by omega, by omega⟩ ⟨by decide, by decide⟩ (fun l => ?_) (fun l => ?_)) (fun y => absurd rfl y)
      · have f0 : fPt S p u v = 0 := by
          unfold fPt
          rw [if_pos a, if_pos r, if_neg (fun y => by omega)]
        have ok := sPt_ok w f0
        refine f_rc kd.k (s_remember ci w fun h' F' b' s f' ci' => ?_)
        have kd' := ci'.1
        have cs' := ci'.2.2.2.1
        have hc' := kd'.ks.2.2 p z.1 (by omega)
        refine f_rc hc'.2.1 (s_putN hc'.2 (cs'.2.2.1 p z.1 (by omega)) hw hpl e l hu hv fun F2 f2 c2 => ?_)
        have eS : sPt S p u v = rIns S p (pl S p u) u v := if_neg e
        rw [eS] at t ok
        have c3 : CC F2 (n + 1 + 31 + 3 * p.toNat) (cc (rIns S p (pl S p u) u v) p) (cp (rIns S p (pl S p u) u v) p) (cq (rIns S p (pl S p u) u v) p) := by
          rw [rIns_c]
          exact CC_cg c2 (fun i x y => rIns_v x y hpl.1.1)
        have f3 : fr (n + 1) (n + 52) F' F2 := f2.wd (by omega) (by omega)
        refine f_giv hc'.2.1 c3.1 fun _ => t f0 h' F2 b' s (f'.tr (f3.hf (by omega) (by omega))) (ci'.pg f3 (CS_cur ⟨z.1, by omega⟩ ok.2.1 w f2 cs' c3))
      · have f0 : fPt S p u v = -3 := by
          unfold fPt
          rw [if_pos a, if_pos r, if_pos ⟨e, by omega⟩]
        rw [f0] at f
        exact f (by decide)
  · have f0 : fPt S p u v = -2 := by
      unfold fPt
      rw [if_pos a, if_neg r]
    rw [f0] at f
    exact f (by decide)
theorem s_removePoint6 {Q : Int → Zm → Prop} {p u : Int} (ci : CI h F n S g Hs Hg b k) (w : WF S g c0) (hp : InR p) (hu : InR u) (t : fRm S p u = 0 → ∀ h' F' b', sw n h h' → hf n F F' → CI h' F' n (rDel S p (pl S p u)) g (pH Hs k S) (pH Hg k g) b' (pK k) → Q (cq S p (pl S p u)) (zwI h' F')) (f : fRm S p u ≠ 0 → Q (fRm S p u) (zwI h F)) : mX6_removePoint n p u (zwI h F) Q := by
  unfold mX6_removePoint
  have kd := ci.1
  have cs := ci.2.2.2.1
  have bad : ¬ ((0 ≤ p ∧ p ≤ 6) ∧ (1 ≤ u ∧ u ≤ 254)) → Q (-1) (zwI h F) := fun y => by
    have e : fRm S p u = -1 := if_neg y
    rw [e] at f
    exact f (by decide)
  refine s_isPlate6 hp (f_bi (fun z => s_within hu ⟨by decide, by decide⟩ ⟨by decide, by decide⟩ (f_bi (fun z2 => ?_) (fun z2 => bad (fun y => z2 y.2)))) (fun z => bad (fun y => z y.1)))
  have a : (0 ≤ p ∧ p ≤ 6) ∧ (1 ≤ u ∧ u ≤ 254) := ⟨z, z2⟩
  have hw := w.1.2.2.2 p z.1 (by omega)
  have hpl := pl_ok hw (show u ≤ 255 by omega)
  have hw1 := hw.1
  have hp1 := hpl.1
  have hc := kd.ks.2.2 p z.1 (by omega)
  have hcc := cs.2.2.1 p z.1 (by omega)
  refine f_gr kd.k kd.pg (f_gr kd.ks.1.1 kd.ks.1.2.2.2.1 (f_ldr kd.ks.1.2.2.2.2.2 (by decide) z.1 (by omega) hc.1 (f_rc hc.2.1 (s_indexOf hc.2 hcc hw hpl hu ?_))))
  by_cases e : cp S p (pl S p u) = u
  · rw [if_pos e]
    have f0 : fRm S p u = 0 := by
      unfold fRm
      rw [if_pos a, if_pos e]
    have ok := rDel_ok w f0
    refine f_eq ⟨by omega, by omega⟩ ⟨by decide, by decide⟩ (fun y => by omega) (fun _ => f_rc kd.k (s_remember ci w fun h' F' b' s f' ci' => ?_))
    have kd' := ci'.1
    have cs' := ci'.2.2.2.1
    have hc' := kd'.ks.2.2 p z.1 (by omega)
    refine f_rc hc'.2.1 (s_drop hc'.2 (cs'.2.2.1 p z.1 (by omega)) hw hpl.1 fun F2 f2 c2 => ?_)
    have c3 : CC F2 (n + 1 + 31 + 3 * p.toNat) (cc (rDel S p (pl S p u)) p) (cp (rDel S p (pl S p u)) p) (cq (rDel S p (pl S p u)) p) := by
      rw [rDel_c]
      exact CC_cg c2 (fun i x y => rDel_v x y hpl.1.1)
    have f3 : fr (n + 1) (n + 52) F' F2 := f2.wd (by omega) (by omega)
    exact t f0 h' F2 b' s (f'.tr (f3.hf (by omega) (by omega))) (ci'.pg f3 (CS_cur ⟨z.1, by omega⟩ ok.2.2.2.1 w f2 cs' c3))
  · rw [if_neg e]
    have f0 : fRm S p u = -4 := by
      unfold fRm
      rw [if_pos a, if_neg e]
    rw [f0] at f
    exact f_eq ⟨by decide, by decide⟩ ⟨by decide, by decide⟩ (fun _ => f (by decide)) (fun y => absurd rfl y)
theorem dfv_b {S S' : Int → Int} {p x : Int} (w : wfC (cc S p) (cp S p) (cq S p)) (w' : wfC (cc S' p) (cp S' p) (cq S' p)) (h0 : 0 ≤ x) (h1 : x ≤ 255) : 0 ≤ dfv S S' p x ∧ dfv S S' p x ≤ 255 := by
  have := cval_r w h0 h1
  have := cval_r w' h0 h1
  unfold dfv
  split <;> omega
theorem s_simplify6 {Q : Int → Zm → Prop} {p : Int} (ci : CI h F n S g Hs Hg b k) (w : WF S g c0) (hp : InR p) (t : 0 ≤ p ∧ p ≤ 6 → ∀ h' F' b', sw n h h' → hf n F F' → CI h' F' n (rSim S p) g (pH Hs k S) (pH Hg k g) b' (pK k) → Q (aSim S p) (zwI h' F')) (f : ¬ (0 ≤ p ∧ p ≤ 6) → Q (-1) (zwI h F)) : mX6_simplify n p (zwI h F) Q := by
  unfold mX6_simplify
  have kd := ci.1
  refine s_isPlate6 hp (f_bi (fun z => ?_) (fun z => f z))
  have hw := w.1.2.2.2 p z.1 (by omega)
  refine f_rc kd.k (s_remember ci w fun h' F' b' s f' ci' => ?_)
  have kd' := ci'.1
  have cs' := ci'.2.2.2.1
  have hc' := kd'.ks.2.2 p z.1 (by omega)
  refine f_gr kd'.k kd'.pg (f_gr kd'.ks.1.1 kd'.ks.1.2.2.2.1 (f_ldr kd'.ks.1.2.2.2.2.2 (by decide) z.1 (by omega) hc'.1 (f_rc hc'.2.1 (s_straighten hc'.2 (cs'.2.2.1 p z.1 (by omega)) hw fun F2 f2 c2 => ?_))))
  have hw' := wfC_rSim hw
  have c3 : CC F2 (n + 1 + 31 + 3 * p.toNat) (cc (rSim S p) p) (cp (rSim S p) p) (cq (rSim S p) p) := by
    rw [rSim_c]
    exact CC_cg c2 (fun i x y => rSim_v x y)
  have f3 : fr (n + 1) (n + 52) F' F2 := f2.wd (by omega) (by omega)
  have ci2 := ci'.pg f3 (CS_cur ⟨z.1, by omega⟩ rSim_q w f2 cs' c3)
  have hk := ci.2.2.1
  have hkr := pK_r hk.2.1 hk.2.2
  have hk1 : 1 ≤ pK k := by unfold pK; split <;> omega
  obtain ⟨hb1, j, j1, j2⟩ := ci2.2.1.1 (pK k - 1) (by omega) (by omega)
  have hks := ci2.2.1.ks kd' (i := pK k - 1) (by omega) (by omega)
  have csh := ci2.2.2.2.2 (pK k - 1) (by omega) (by omega)
  have eS : pH Hs k S (pK k - 1) = S := by
    unfold pH pK
    by_cases e : k < 5
    · rw [if_pos e, if_pos e, if_pos (by omega)]
    · rw [if_neg e, if_neg e, if_pos (by decide)]
  rw [eS] at csh
  have hch := hks.2.2 p z.1 (by omega)
  refine f_gr kd'.k kd'.hi (f_giv kd'.k ci2.2.2.1.1 fun _ => f_ldr kd'.2.1.1 (by decide) (by omega) (by omega) hb1 (f_gr hks.1.1 hks.1.2.2.2.1 (f_ldr hks.1.2.2.2.2.2 (by decide) z.1 (by omega) hch.1 ?_)))
  unfold mX6_greatestDifference mX6_greatestDifference_H4
  refine lfp2_up2 (h := h') 256 (fun d x F' => F' = F2 ∧ 0 ≤ x ∧ d = mxI (dfv S (rSim S p) p) x) (fun X d x F3 hx hI hX => ?_) 0 0 F2 (by decide) ⟨rfl, by decide, rfl⟩
  obtain ⟨rfl, x0, x1⟩ := hI
  unfold mX6_greatestDifference_B4
  have hd := mxI_b (f := dfv S (rSim S p) p) (m := 255) (k := x) (by decide) (fun i a b => dfv_b hw hw' a (by omega))
  refine f_le ⟨by omega, by omega⟩ ⟨by decide, by decide⟩ (fun u => ?_) (fun u => ?_)
  · have v1 := cval_r hw x0 u
    have v2 := cval_r hw' x0 u
    have vd := dfv_b hw hw' x0 u
    refine f_rc hch.2.1 (s_valueAt hch.2 (csh.2.2.1 p z.1 (by omega)) hw x0 u (f_rc hc'.2.1 (s_valueAt hc'.2 c3 hw' x0 u (s_abs ⟨by omega, by omega⟩ (s_max ⟨by omega, by omega⟩ ⟨by unfold dfv at vd; omega, by unfold dfv at vd; omega⟩ (hX (by omega) _ _ ⟨rfl, by omega, ?_⟩))))))
    rw [mxI_s _ x0, x1]
  · have e : x = 256 := by omega
    subst e
    rw [x1]
    exact t z h' F3 b' s (f'.tr (f3.hf (by omega) (by omega))) ci2
end CZ
