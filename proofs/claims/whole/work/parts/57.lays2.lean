/-! the reference's row of visits is the visiting order -/
def laid (M : Nat) (F F' : Nat → Int → Int) : Prop := ∀ b j, ¬ (M + 8 ≤ b ∧ b ≤ M + 12) → ¬ (b = M ∧ j = 9) → F' b j = F b j
theorem laid.rf {M : Nat} {F : Nat → Int → Int} : laid M F F := fun _ _ _ _ => rfl
theorem laid.up {M a : Nat} {F F' : Nat → Int → Int} {i v : Int} (h : laid M F F') (ha : (M + 8 ≤ a ∧ a ≤ M + 12) ∨ (a = M ∧ i = 9)) : laid M F (up F' a i v) := fun b j h1 h2 => by
  rw [up_n (fun q => ?_)]
  · exact h b j h1 h2
  · rcases ha with z | z
    · exact h1 (by rw [q.1]; exact z)
    · exact h2 ⟨q.1.trans z.1, q.2.trans z.2⟩
theorem laid.rs {M : Nat} {F F' : Nat → Int → Int} {S : Int → Int} (h : laid M F F') (hS : RS F M S) : RS F' M S := fun j a b => by
  rw [h (M + 1) j (by omega) (by omega)]
  exact hS j a b
def OV (F' : Nat → Int → Int) (M : Nat) (S : Int → Int) (g : Nat → Int → Int) (u : Int) : Prop := ∀ t, 0 ≤ t → t < u → nk S (go g t) = 0 → F' (M + 10) (go g t) = gop g (go g t) ∧ F' (M + 11) (go g t) = gox g (go g t) ∧ F' (M + 12) (go g t) = goy g (go g t)
def pend (S : Int → Int) (g : Nat → Int → Int) (v t : Int) : Prop := t = 0 ∨ ∃ j, (0 ≤ j ∧ j < v) ∧ j < t ∧ go g j = np S (go g t)
def LI (F F' : Nat → Int → Int) (M : Nat) (S : Int → Int) (g : Nat → Int → Int) (v u n : Int) (w : Int → Int) (miss : Int → Prop) : Prop :=
  laid M F F' ∧ ((0 ≤ v ∧ v ≤ gc g) ∧ F' M 9 = v) ∧ (∀ t, 0 ≤ t → t < v → F' (M + 8) t = go g t) ∧ OV F' M S g u ∧ 0 ≤ n ∧ (∀ i, 0 ≤ i → i < n → F' (M + 9) i = go g (w i) ∧ (v ≤ w i ∧ w i < gc g) ∧ w i + i ≤ 23) ∧ (∀ i j, 0 ≤ i → i < j → j < n → w j < w i) ∧ (∀ t, v ≤ t → t < gc g → pend S g v t → (∃ i, (0 ≤ i ∧ i < n) ∧ w i = t) ∨ miss t) ∧ (∀ i, 0 ≤ i → i < n → pend S g v (w i))
/-- what lays leaves -/
def LD (F : Nat → Int → Int) (M : Nat) (S : Int → Int) (g : Nat → Int → Int) : Prop := F M 9 = gc g ∧ (∀ t, 0 ≤ t → t < gc g → F (M + 8) t = go g t) ∧ OV F M S g (gc g)
theorem o_inj {S : Int → Int} {g : Nat → Int → Int} (w : WO S g) {i j : Int} (hi : 0 ≤ i) (hi2 : i < gc g) (hj : 0 ≤ j) (hj2 : j < gc g) (e : go g i = go g j) : i = j := by
  rcases Int.lt_or_le i j with h | h
  · exact absurd e (w.2.2.1 i j hi h hj2)
  · rcases Int.lt_or_le j i with h2 | h2
    · exact absurd e.symm (w.2.2.1 j i hj h2 hi2)
    · omega
section LZ
variable {h : Zm} {F : Nat → Int → Int} {M : Nat} {S : Int → Int} {g : Nat → Int → Int} {c0 : Int}
def missB (S : Int → Int) (g : Nat → Int → Int) (k B t : Int) : Prop := np S (go g t) = k ∧ no S (go g t) < B
/-- the children of k that are still wanting are pushed -/
theorem l_push {Q : Zm → Prop} {X14 : Int → Zm → Prop} {v : Int} (km : kM h M) (hS : RS F M S) (wf : WF S g c0) (hv0 : 0 ≤ v) (hv : v < gc g) (hc9 : c0 ≤ 1000) (hX14 : ∀ n w F', LI F F' M S g (v + 1) (v + 1) n w (fun _ => False) → X14 n (zwI h F')) :
    ∀ (n r : Int) (F' : Nat → Int → Int) (w : Int → Int) (B : Int), LI F F' M S g (v + 1) (v + 1) n w (missB S g (go g v) B) → (∀ i, 0 ≤ i → i < n → np S (go g (w i)) = go g v → B ≤ no S (go g (w i))) → LC S (go g v) B 24 r → mX7_lays_H199 X14 M n (go g v) r (zwI h F') Q := by
  intro n r F' w B hL hB hr
  have wo := wf.2.2.2
  have wt := wf.2.2.1
  have hlv := wo.2.1 v hv0 hv
  unfold mX7_lays_H199
  refine lfp2_i (fun x _ _ => (24 - x).toNat) (fun n r m => ∃ F' w B, m = zwI h F' ∧ LI F F' M S g (v + 1) (v + 1) n w (missB S g (go g v) B) ∧ (∀ i, 0 ≤ i → i < n → np S (go g (w i)) = go g v → B ≤ no S (go g (w i))) ∧ LC S (go g v) B 24 r) (fun X n r m hm hX => ?_) n r _ ⟨F', w, B, rfl, hL, hB, hr⟩
  clear hL hB hr F' w B
  obtain ⟨F', w, B, rfl, hL, hB, hr⟩ := hm
  unfold mX7_lays_B199
  obtain ⟨l1, l2, l3, l4, l5, l6, l7, l8, l9⟩ := hL
  have hS' := l1.rs hS
  have rr : InR r := by
    rcases hr with ⟨rfl, -⟩ | ⟨hc, -⟩
    · exact ⟨by decide, by decide⟩
    · have := hc.1.1
      exact ⟨by omega, by omega⟩
  refine f_lt rr z_in0 (fun z => ?_) (fun z => ?_)
  · refine hX14 n w F' ⟨l1, l2, l3, l4, l5, l6, l7, fun t h1 h2 h3 => ?_, l9⟩
    rcases l8 t h1 h2 h3 with h4 | h4
    · exact Or.inl h4
    · rcases hr with ⟨-, ha⟩ | ⟨hc, -⟩
      · have hlt := wo.2.1 t (by omega) h2
        have hne := o_pos wo (t := t) (by omega) h2
        have h5 := ha (go g t) hlt.1.2 ⟨hlt, by have := hlt.1; omega, h4.1⟩
        have := h4.2
        omega
      · have := hc.2.1
        omega
  · rcases hr with ⟨e, -⟩ | ⟨hc, hr24, hrB, hmax⟩
    · omega
    · obtain ⟨tr, ⟨ht0, ht1⟩, htr⟩ := wo.2.2.2.1 r hc.1
      have htr0 : tr ≠ 0 := fun q => by
        rw [q, wo.1.2] at htr
        have := hc.2.1
        omega
      obtain ⟨j, ⟨hj0, hj1⟩, hj2, hj3⟩ := wo.2.2.2.2.1 tr (by omega) ht1
      have hjv : j = v := o_inj wo hj0 (by omega) hv0 hv (by rw [hj2, htr, hc.2.2])
      subst hjv
      have hdr : gd g r = gd g (go g j) + 1 := by
        have := (wt.2.1 r hc.1 (by have := hc.2.1; omega)).2.2.1.1
        rw [hc.2.2] at this
        exact this
      have hlow : ∀ i, 0 ≤ i → i < n → tr < w i := by
        intro i h1 h2
        obtain ⟨a1, ⟨a2, a3⟩, a4⟩ := l6 i h1 h2
        rcases l9 i h1 h2 with e | ⟨jj, ⟨b1, b2⟩, b3, b4⟩
        · omega
        · by_cases e : jj = j
          · subst e
            have hno := hB i h1 h2 b4.symm
            rcases Int.lt_or_le tr (w i) with q | q
            · exact q
            · by_cases e2 : w i = tr
              · rw [e2, htr] at hno; omega
              · have := wo.2.2.2.2.2 (w i) tr (by omega) (by omega) ht1 (by rw [← b4, htr, hc.2.2])
                rw [htr] at this
                omega
          · obtain ⟨j2, ⟨c1, c2⟩, c3, c4⟩ := wo.2.2.2.2.1 (w i) (by omega) a3
            have : j2 = jj := o_inj wo c1 (by omega) b1 (by omega) (by rw [c3, b4])
            subst this
            have hd1 := c4 j (by omega) (by omega)
            rcases Int.lt_or_le tr (w i) with q | q
            · exact q
            · by_cases e2 : w i = tr
              · exfalso
                apply e
                exact o_inj wo b1 (by omega) hj0 (by omega) (by rw [c3, e2, htr, hc.2.2])
              · have := hj3 (w i) (by omega) (by omega)
                rw [htr] at this
                omega
      have hn23 : tr + n ≤ 23 := by
        by_cases e : n = 0
        · subst e
          have := wo.1.1
          omega
        · have h1 := hlow (n - 1) (by omega) (by omega)
          have h2 := (l6 (n - 1) (by omega) (by omega)).2.2
          omega
      have hst : InR r := rr
      refine f_gr km.1 km.r10 (f_st km.k10 l5 (by omega) hst (f_rc km.1 (s_ofo km (laid.rs (l1.up (Or.inl ⟨by omega, by omega⟩)) hS) hc.1.1.1 hc.1.1.2 fun hno => f_rc km.1 (s_lastChild km (laid.rs (l1.up (Or.inl ⟨by omega, by omega⟩)) hS) ⟨by have := hlv.1; omega, by have := hlv.1; omega⟩ hno fun r' hr' => ?_))))
      refine hX _ _ _ ⟨_, fun i => if i = n then tr else w i, no S r, rfl, ?_, ?_, hr'⟩ (by omega)
      · refine ⟨l1.up (Or.inl ⟨by omega, by omega⟩), ⟨l2.1, by rw [up_a (by omega)]; exact l2.2⟩, fun t h1 h2 => by rw [up_a (by omega)]; exact l3 t h1 h2, fun t h1 h2 h3 => by rw [up_a (by omega), up_a (by omega), up_a (by omega)]; exact l4 t h1 h2 h3, by omega, fun i h1 h2 => ?_, fun i i2 h1 h2 h3 => ?_, fun t h1 h2 h3 => ?_, fun i h1 h2 => ?_⟩
        · by_cases e : i = n
          · subst e
            rw [up_s]
            simp only [if_pos]
            exact ⟨htr.symm, ⟨by omega, ht1⟩, by omega⟩
          · rw [up_n (by omega)]
            simp only [if_neg e]
            exact l6 i h1 (by omega)
        · by_cases e : i2 = n
          · simp only [if_pos e, if_neg (show ¬ i = n by omega)]
            exact hlow i h1 (by omega)
          · simp only [if_neg e, if_neg (show ¬ i = n by omega)]
            exact l7 i i2 h1 h2 (by omega)
        · rcases l8 t h1 h2 h3 with ⟨i, ⟨h4, h5⟩, h6⟩ | h4
          · exact Or.inl ⟨i, ⟨h4, by omega⟩, by simp only [if_neg (show ¬ i = n by omega)]; exact h6⟩
          · by_cases e : t = tr
            · exact Or.inl ⟨n, ⟨l5, by omega⟩, by simp only [if_pos]; exact e.symm⟩
            · refine Or.inr ⟨h4.1, ?_⟩
              have hlt := wo.2.1 t (by omega) h2
              have hne := o_pos wo (t := t) (by omega) h2
              have h5 := hmax (go g t) hlt.1.2 ⟨hlt, by have := hlt.1; omega, h4.1⟩ h4.2
              have hpp : np S (go g t) = np S (go g tr) := by rw [h4.1, htr, hc.2.2]
              rcases Int.lt_or_le t tr with q | q
              · have := wo.2.2.2.2.2 t tr (by omega) q ht1 hpp
                rw [htr] at this
                exact this
              · have := wo.2.2.2.2.2 tr t (by omega) (by omega) h2 hpp.symm
                rw [htr] at this
                omega
        · by_cases e : i = n
          · simp only [if_pos e]
            exact Or.inr ⟨j, ⟨hj0, by omega⟩, by omega, hj2⟩
          · simp only [if_neg e]
            exact l9 i h1 (by omega)
      · intro i h1 h2 h3
        by_cases e : i = n
        · simp only [if_pos e] at h3 ⊢
          rw [htr]
          exact Int.le_refl _
        · simp only [if_neg e] at h3 ⊢
          have := hB i h1 (by omega) h3
          omega
end LZ
