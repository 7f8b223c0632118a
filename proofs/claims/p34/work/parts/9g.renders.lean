/-! the law's renders -/
theorem kLw.kd {h : Zm} {N : Nat} (k : kLw h N) : zkd h N = (1, 24) := k.1.1.1
theorem kLw.pa {h : Zm} {N : Nat} (k : kLw h N) : zkd h (N + 1) = (1, 24) := k.1.1.2
theorem kLw.cm {h : Zm} {N : Nat} (k : kLw h N) : zkd h (N + 2) = (1, 24) := k.1.2.1
theorem kLw.bx {h : Zm} {N : Nat} (k : kLw h N) : zkd h (N + 3) = (1, 24) := k.1.2.2.1
theorem kLw.ik {h : Zm} {N : Nat} (k : kLw h N) : zkd h (N + 4) = (1, 24) := k.1.2.2.2
theorem kLw.kn {h : Zm} {N : Nat} (k : kLw h N) : zkd h (N + 5) = (1, 3) := k.2.1.1
theorem kLw.st {h : Zm} {N : Nat} (k : kLw h N) : zkd h (N + 6) = (1, 3) := k.2.1.2
theorem kLw.px {h : Zm} {N : Nat} (k : kLw h N) : zkd h (N + 7) = (1, 6) := k.2.2.1
theorem kLw.ea {h : Zm} {N : Nat} (k : kLw h N) : zkd h (N + 8) = (1, 7) := k.2.2.2.1
theorem kLw.la {h : Zm} {N : Nat} (k : kLw h N) : zkd h (N + 9) = (1, 7) := k.2.2.2.2
theorem kLw.to {h h' : Zm} {N : Nat} (e : ∀ a, N ≤ a → a ≤ N + 9 → zkd h' a = zkd h a) (k : kLw h N) : kLw h' N := by
  obtain ⟨⟨⟨a, b⟩, c, d, f⟩, ⟨i, j⟩, l, m, n⟩ := k
  exact ⟨⟨⟨(e _ (by omega) (by omega)).trans a, (e _ (by omega) (by omega)).trans b⟩, (e _ (by omega) (by omega)).trans c, (e _ (by omega) (by omega)).trans d, (e _ (by omega) (by omega)).trans f⟩, ⟨(e _ (by omega) (by omega)).trans i, (e _ (by omega) (by omega)).trans j⟩, (e _ (by omega) (by omega)).trans l, (e _ (by omega) (by omega)).trans m, (e _ (by omega) (by omega)).trans n⟩
section RE
variable {h : Zm} {F : Nat → Int → Int} {S : Int → Int} {g : Nat → Int → Int} {c : Int} {N r : Nat} {X : Int → Int → Zm → Prop} {XI : Int → Zm → Prop} {Q : Int → Zm → Prop} {x y tc k e i : Int} {T : Int → Int}
theorem l_282 {P C : Prop} [Decidable P] [Decidable C] {x15 x16 s v1 v2 K I : Int} (kw : kLw h N) (kr : zkd h r = (1, 3)) (hr : N + 9 < r) (hk : 0 ≤ k ∧ k < 24) (hi : 0 ≤ i ∧ i < 3) (hK : F N k = K) (hI : F (N + 4) k = I) (hIr : 0 ≤ I ∧ I ≤ 2147483647) (he : F r 0 = e) (heb : 0 ≤ e ∧ e ≤ 100) (h1 : F (N + 7) i = v1) (h2 : F (N + 7) (3 + i) = v2) (b1 : 0 ≤ v1 ∧ v1 ≤ 255) (b2 : 0 ≤ v2 ∧ v2 ≤ 255) (hs : K = 1 → 0 ≤ s ∧ s ≤ 255) (o15 : x15 = bi P) (o16 : x16 = bi C) (q : XI (i + 1) (zwI h (up (up F (N + 7) i (mv v1 (if K = 1 then s else 255) (if K = 1 ∨ C then e else 0))) (N + 7) (3 + i) (mv v2 (if P then I % 256 else 0) (if P ∨ C then e else 0))))) : mL_renders_J282 X XI N (N + 1) (N + 2) (N + 3) (N + 4) (N + 5) x y (N + 7) r tc k i x15 x16 s (zwI h F) Q := by
  subst o15
  subst o16
  have hr0 : r ≠ N + 7 := by omega
  have f352 : ∀ (F1 : Nat → Int → Int) (t2 : Int), F1 r 0 = e → F1 (N + 7) (3 + i) = v2 → 0 ≤ t2 ∧ t2 ≤ 255 → XI (i + 1) (zwI h (up F1 (N + 7) (3 + i) (mv v2 t2 (if P ∨ C then e else 0)))) → mL_renders_J352 X XI N (N + 1) (N + 2) (N + 3) (N + 4) (N + 5) x y (N + 7) r tc k i (bi P) (bi C) (N + 7) (3 + i) t2 (zwI h F1) Q := by
    intro F1 t2 g1 g2 g3 g4
    unfold mL_renders_J352
    refine f_bi (fun p => ?_) (fun p => f_bi (fun c => ?_) (fun c => ?_))
    · rw [if_pos (Or.inl p)] at g4
      exact f_ldv kr (by decide) (by decide) g1 fun _ => l_moves kw.px (by omega) (by omega) g2 b2 g3 heb g4
    · rw [if_pos (Or.inr c)] at g4
      exact f_ldv kr (by decide) (by decide) g1 fun _ => l_moves kw.px (by omega) (by omega) g2 b2 g3 heb g4
    · rw [if_neg (fun z => z.elim p c)] at g4
      exact l_moves kw.px (by omega) (by omega) g2 b2 g3 ⟨by decide, by decide⟩ g4
  have f325 : ∀ t1 b : Int, 0 ≤ t1 ∧ t1 ≤ 255 → 0 ≤ b ∧ b ≤ 100 → XI (i + 1) (zwI h (up (up F (N + 7) i (mv v1 t1 b)) (N + 7) (3 + i) (mv v2 (if P then I % 256 else 0) (if P ∨ C then e else 0)))) → mL_renders_J325 X XI N (N + 1) (N + 2) (N + 3) (N + 4) (N + 5) x y (N + 7) r tc k i (bi P) (bi C) (N + 7) i t1 b (zwI h F) Q := by
    intro t1 b g1 g2 g3
    unfold mL_renders_J325
    have e1 : up F (N + 7) i (mv v1 t1 b) r 0 = e := by rw [up_a hr0]; exact he
    have e2 : up F (N + 7) i (mv v1 t1 b) (N + 7) (3 + i) = v2 := by rw [up_n (by omega)]; exact h2
    have e3 : up F (N + 7) i (mv v1 t1 b) (N + 4) k = I := by rw [up_a (by omega)]; exact hI
    refine l_moves kw.px (by omega) (by omega) h1 b1 g1 g2 (f_bi (fun p => ?_) (fun p => ?_))
    · rw [if_pos p] at g3
      exact f_ldv kw.ik (by omega) (by omega) e3 fun _ => f_remv (v := I % 256) hIr ⟨by decide, by decide⟩ rfl (f352 _ _ e1 e2 ⟨by omega, by omega⟩ g3)
    · rw [if_neg p] at g3
      exact f352 _ _ e1 e2 ⟨by decide, by decide⟩ g3
  unfold mL_renders_J282
  refine f_ldv kw.kd (by omega) (by omega) hK fun rK => f_eq rK ⟨by decide, by decide⟩ (fun z => ?_) (fun z => ?_)
  · unfold mL_renders_J304
    rw [if_pos z, if_pos (Or.inl z)] at q
    exact f_ldv kw.kd (by omega) (by omega) hK fun rK => f_eq rK ⟨by decide, by decide⟩ (fun _ => f_ldv kr (by decide) (by decide) he fun _ => f325 _ _ (hs z) heb q) (fun z2 => absurd z z2)
  · unfold mL_renders_J304
    rw [if_neg z] at q
    refine f_ldv kw.kd (by omega) (by omega) hK fun rK => f_eq rK ⟨by decide, by decide⟩ (fun z2 => absurd z2 z) (fun _ => f_bi (fun d => ?_) (fun d => ?_))
    · rw [if_pos (Or.inr d)] at q
      exact f_ldv kr (by decide) (by decide) he fun _ => f325 _ _ ⟨by decide, by decide⟩ heb q
    · rw [if_neg (fun v => v.elim z d)] at q
      exact f325 _ _ ⟨by decide, by decide⟩ ⟨by decide, by decide⟩ q
theorem l_233 {x15 s0 I : Int} (kw : kLw h N) (hk : 0 ≤ k ∧ k < 24) (hi : 0 ≤ i ∧ i < 3) (hI : F (N + 4) k = I) (hIr : 0 ≤ I ∧ I ≤ 2147483647) (q : ∀ s, s = (if i = 0 then I / 65536 else if i = 1 then I / 256 % 256 else I % 256) → mL_renders_J282 X XI N (N + 1) (N + 2) (N + 3) (N + 4) (N + 5) x y (N + 7) r tc k i x15 s0 s (zwI h F) Q) : mL_renders_J233 X XI N (N + 1) (N + 2) (N + 3) (N + 4) (N + 5) x y (N + 7) r tc k i x15 s0 (zwI h F) Q := by
  unfold mL_renders_J233
  refine f_eq ⟨by omega, by omega⟩ z_in0 (fun z => ?_) (fun z => f_eq ⟨by omega, by omega⟩ ⟨by decide, by decide⟩ (fun z2 => ?_) (fun z2 => ?_))
  · exact f_ldv kw.ik (by omega) (by omega) hI fun _ => f_divv (v := I / 65536) hIr ⟨by decide, by decide⟩ rfl (q _ (by rw [if_pos z]))
  · exact f_ldv kw.ik (by omega) (by omega) hI fun _ => f_divv (v := I / 256) hIr ⟨by decide, by decide⟩ rfl (f_remv (v := I / 256 % 256) ⟨by omega, by omega⟩ ⟨by decide, by decide⟩ rfl (q _ (by rw [if_neg z, if_pos z2])))
  · exact f_ldv kw.ik (by omega) (by omega) hI fun _ => f_remv (v := I % 256) hIr ⟨by decide, by decide⟩ rfl (q _ (by rw [if_neg z, if_neg z2]))
theorem l_pulls (kw : kLw h N) (kr : zkd h r = (1, 3)) (hr : N + 9 < r) (lt : LT F N S) (ls : LSt F N S) (w : WF S g c) (hl : live S k) (h0 : nk S k ≠ 0) (hk0 : k ≠ 0) (hT : Tn F (N + 7) T) (ht : tb T) (he : F r 0 = e) (heb : 0 ≤ e ∧ e ≤ 100) (q : ∀ F', bu (N + 7) F F' → Tn F' (N + 7) (pnt S e k T) → mL_renders_J379 X N (N + 1) (N + 2) (N + 3) (N + 4) (N + 5) x y (N + 7) r tc k (zwI h F') Q) : mL_renders_H167 X N (N + 1) (N + 2) (N + 3) (N + 4) (N + 5) x y (N + 7) r tc k 0 (zwI h F) Q := by
  unfold mL_renders_H167
  have hk := hl.1
  refine lfp1_up (h := h) 3 (fun i F' => bu (N + 7) F F' ∧ 0 ≤ i ∧ ∀ j, 0 ≤ j → j < 6 → F' (N + 7) j = if j < i ∨ (3 ≤ j ∧ j < 3 + i) then pnt S e k T j else T j) (fun X2 i F' hi hI hX => ?_) 0 F (by decide) ⟨bu.rf, by decide, fun j a b => by rw [if_neg (by omega)]; exact hT j a b⟩
  obtain ⟨g1, g2, g3⟩ := hI
  unfold mL_renders_B167
  refine f_lt ⟨by omega, by omega⟩ ⟨by decide, by decide⟩ (fun z => ?_) (fun z => q F' g1 (fun j a b => by rw [g3 j a b, if_pos (by omega)]))
  have step : ∀ A B, A = pnt S e k T i → B = pnt S e k T (3 + i) → X2 (i + 1) (zwI h (up (up F' (N + 7) i A) (N + 7) (3 + i) B)) := fun A B hA hB => by
    refine hX z _ ⟨(g1.tr bu.up).tr bu.up, by omega, fun j a b => ?_⟩
    rw [up_e]
    split
    · rename_i u
      rw [hB, u.2, if_pos (by omega)]
    · rename_i u
      rw [up_e]
      split
      · rename_i v
        rw [hA, v.2, if_pos (by omega)]
      · rename_i v
        rw [g3 j a b]
        by_cases o : j < i ∨ (3 ≤ j ∧ j < 3 + i)
        · rw [if_pos o, if_pos (by omega)]
        · rw [if_neg o, if_neg (fun n => ?_)]
          have : ¬ j = i := fun n2 => v ⟨rfl, n2⟩
          have : ¬ j = 3 + i := fun n2 => u ⟨rfl, n2⟩
          omega
  have eK : F' N k = nk S k := by rw [g1 _ _ (by omega)]; exact lt.1 k hk.1 hk.2
  have e0 : F' r 0 = e := by rw [g1 _ _ (by omega)]; exact he
  have v1 : F' (N + 7) i = T i := by rw [g3 _ g2 (by omega), if_neg (by omega)]
  have v2 : F' (N + 7) (3 + i) = T (3 + i) := by rw [g3 _ (by omega) (by omega), if_neg (by omega)]
  have r1 := ht i g2 (by omega)
  have r2 := ht (3 + i) (by omega) (by omega)
  have hii : 0 ≤ i ∧ i < 3 := ⟨g2, z⟩
  refine f_ldv kw.kd (by omega) (by omega) eK fun rK => f_eq rK ⟨by decide, by decide⟩ (fun k2 => ?_) (fun k2 => ?_)
  · -- a spot
    have hf := w.2.1.2.2.2.2.2 k hl k2
    have eI : F' (N + 4) k = 256 * nf S k 4 + nf S k 5 := by
      rw [g1 _ _ (by omega), lt.2.2.2.2 k hl hk0]
      unfold lik
      rw [if_neg (by omega), if_pos k2]
    have p5 : F' (N + 5) (nf S k 4) = S (5 + nf S k 4) := by rw [g1 _ _ (by omega)]; exact ls.1 _ hf.1.1 (by omega)
    have hkn := w.1.2.1 (nf S k 4) hf.1.1 (by omega)
    have go1 : ∀ x15, x15 = bi (nf S k 4 = i) → mL_renders_J200 X X2 N (N + 1) (N + 2) (N + 3) (N + 4) (N + 5) x y (N + 7) r tc k i x15 (zwI h F') Q := fun x15 o15 => by
      unfold mL_renders_J200
      have go2 : ∀ x16, x16 = bi (S (5 + nf S k 4) = 1) → mL_renders_J233 X X2 N (N + 1) (N + 2) (N + 3) (N + 4) (N + 5) x y (N + 7) r tc k i x15 x16 (zwI h F') Q := fun x16 o16 => by
        refine l_233 kw hk hii eI ⟨by omega, by omega⟩ (fun s _ => l_282 (P := nf S k 4 = i) (C := S (5 + nf S k 4) = 1) kw kr hr hk hii eK eI ⟨by omega, by omega⟩ e0 heb v1 v2 r1 r2 (fun z1 => by omega) o15 o16 (step _ _ ?_ ?_))
        · unfold pnt
          have n1 : ¬ nk S k = 1 := by omega
          rw [if_neg n1, if_neg n1, if_neg (show ¬ i = 3 + nf S k 4 by omega)]
          by_cases C : S (5 + nf S k 4) = 1
          · rw [if_pos (Or.inr C), if_pos C, if_pos z]
          · rw [if_neg (fun v => v.elim n1 C), if_neg C]
            unfold mv
            rw [Int.mul_zero]
            show T i + 0 = T i
            omega
        · unfold pnt
          rw [if_neg (show ¬ nk S k = 1 by omega)]
          by_cases P : nf S k 4 = i
          · rw [if_pos P, if_pos (Or.inl P), if_pos (by omega), show (256 * nf S k 4 + nf S k 5) % 256 = nf S k 5 by omega]
          · rw [if_neg P, if_neg (show ¬ 3 + i = 3 + nf S k 4 by omega)]
            by_cases C : S (5 + nf S k 4) = 1
            · rw [if_pos (Or.inr C), if_pos C, if_neg (by omega)]
            · rw [if_neg (fun v => v.elim P C), if_neg C]
              unfold mv
              rw [Int.mul_zero]
              show T (3 + i) + 0 = T (3 + i)
              omega
      refine f_ldv kw.kd (by omega) (by omega) eK fun rK => f_eq rK ⟨by decide, by decide⟩ (fun k1 => by omega) (fun _ => f_ldv kw.ik (by omega) (by omega) eI fun _ => f_divv (v := nf S k 4) ⟨by omega, by omega⟩ ⟨by decide, by decide⟩ (by omega) (f_remv (v := nf S k 4) ⟨by omega, by omega⟩ ⟨by decide, by decide⟩ (by omega) (f_ldv kw.kn (by omega) (by omega) p5 fun r5 => f_eq r5 ⟨by decide, by decide⟩ (fun C => go2 1 (bi_t C).symm) (fun C => go2 0 (bi_f C).symm))))
    refine f_ldv kw.ik (by omega) (by omega) eI fun _ => f_divv (v := nf S k 4) ⟨by omega, by omega⟩ ⟨by decide, by decide⟩ (by omega) (f_eq ⟨by omega, by omega⟩ ⟨by omega, by omega⟩ (fun P => go1 1 (bi_t P).symm) (fun P => go1 0 (bi_f P).symm))
  · -- a rectangle
    have k1 : nk S k = 1 := by
      have := WF.nk2 w.2.1 hl
      omega
    have hf := w.2.1.2.2.2.2.1 k hl k1
    have eI : F' (N + 4) k = 65536 * nf S k 4 + 256 * nf S k 5 + nf S k 6 := by
      rw [g1 _ _ (by omega), lt.2.2.2.2 k hl hk0]
      unfold lik
      rw [if_pos k1]
    unfold mL_renders_J200
    refine f_ldv kw.kd (by omega) (by omega) eK fun rK => f_eq rK ⟨by decide, by decide⟩ (fun _ => ?_) (fun n => absurd k1 n)
    refine l_233 kw hk hii eI ⟨by omega, by omega⟩ (fun s hs => l_282 (P := False) (C := True) kw kr hr hk hii eK eI ⟨by omega, by omega⟩ e0 heb v1 v2 r1 r2 (fun _ => ?_) (bi_f (fun v => v)).symm (bi_t trivial).symm (step _ _ ?_ ?_))
    · rw [hs]
      repeat' split
      all_goals omega
    · unfold pnt
      rw [if_pos k1, if_pos (Or.inl k1), if_pos k1, if_pos z]
      have : s = nf S k (4 + i) := by
        rw [hs]
        rcases (show i = 0 ∨ i = 1 ∨ i = 2 by omega) with rfl | rfl | rfl
        · rw [if_pos rfl]; show _ = nf S k 4; omega
        · rw [if_neg (by decide), if_pos rfl]; show _ = nf S k 5; omega
        · rw [if_neg (by decide), if_neg (by decide)]; show _ = nf S k 6; omega
      rw [this]
    · unfold pnt
      rw [if_neg (fun v => v), if_pos (Or.inr trivial), if_pos k1, if_neg (by omega)]
end RE
