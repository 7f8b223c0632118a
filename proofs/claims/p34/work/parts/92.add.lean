/-! a row with one node more -/
theorem smI_add (u v : Int → Int) (k : Int) : smI (fun i => u i + v i) k = smI u k + smI v k := by
  unfold smI
  induction k.toNat with
  | zero => rfl
  | succ b ih =>
    show sm _ b + (u b + v b) = sm u b + u b + (sm v b + v b)
    rw [ih]
    omega
def AR (S S' : Int → Int) (k K P : Int) : Prop := (∀ j, 0 ≤ j → j < 128 → j ≠ 8 → S' j = S j) ∧ S' 8 = S 8 + 1 ∧ (∀ x, 0 ≤ x → x < 24 → x ≠ k → ∀ j, 0 ≤ j → j < 10 → S' (128 + 10 * x + j) = S (128 + 10 * x + j)) ∧ nk S' k = K ∧ np S' k = P ∧ no S' k = S 8 + 1
def okN (S : Int → Int) (k : Int) : Prop := (nk S k = 0 → (0 ≤ nf S k 0 ∧ nf S k 0 ≤ 100) ∧ (-12 ≤ nf S k 1 ∧ nf S k 1 ≤ 12) ∧ (-12 ≤ nf S k 2 ∧ nf S k 2 ≤ 12)) ∧ (nk S k ≠ 0 → ((-12 ≤ nf S k 0 ∧ nf S k 0 ≤ 12) ∧ (-12 ≤ nf S k 1 ∧ nf S k 1 ≤ 12)) ∧ ((1 ≤ nf S k 2 ∧ nf S k 2 ≤ 12) ∧ (1 ≤ nf S k 3 ∧ nf S k 3 ≤ 12))) ∧ (nk S k = 1 → (0 ≤ nf S k 4 ∧ nf S k 4 ≤ 255) ∧ (0 ≤ nf S k 5 ∧ nf S k 5 ≤ 255) ∧ (0 ≤ nf S k 6 ∧ nf S k 6 ≤ 255)) ∧ (nk S k = 2 → (0 ≤ nf S k 4 ∧ nf S k 4 ≤ 2) ∧ (0 ≤ nf S k 5 ∧ nf S k 5 ≤ 255))
section ARS
variable {S S' : Int → Int} {g : Nat → Int → Int} {c k K P : Int}
theorem AR.kx (a : AR S S' k K P) {x : Int} (h0 : 0 ≤ x) (h1 : x < 24) (h : x ≠ k) : nk S' x = nk S x ∧ np S' x = np S x ∧ no S' x = no S x ∧ ∀ j, 0 ≤ j → j < 7 → nf S' x j = nf S x j := by
  have e := a.2.2.1 x h0 h1 h
  have e0 := e 0 (by decide) (by decide)
  rw [Int.add_zero] at e0
  exact ⟨e0, e 1 (by decide) (by decide), e 2 (by decide) (by decide), fun j x y => e (3 + j) (by omega) (by omega)⟩
theorem gc_23 (w : WF S g c) (hk : 0 ≤ k ∧ k < 24) (hn : ¬ live S k) : gc g + 1 ≤ 24 := by
  have wo := w.2.2.2
  have hc := wo.1.1
  have e1 : smI (fun i => bi (0 ≤ nk S i)) 24 = gc g := by
    rw [perm wo (fun k a b h => bi_f fun y => h ⟨⟨a, b⟩, y⟩)]
    have e2 : smI (fun i => bi (0 ≤ nk S (go g i))) (gc g) = smI (fun i => bi (0 ≤ i ∧ i < gc g)) (gc g) := smI_c fun i a b => by rw [bi_t (wo.2.1 i a b).2, bi_t ⟨a, b⟩]
    rw [e2, smI_iv (Int.le_refl _) (by omega) (Int.le_refl _)]
    omega
  have e3 := smI_iv (a := k) (b := k + 1) (n := 24) hk.1 (by omega) (by omega)
  have e4 := smI_add (fun i => bi (0 ≤ nk S i)) (fun i => bi (k ≤ i ∧ i < k + 1)) 24
  have e5 := smI_b (f := fun i => bi (0 ≤ nk S i) + bi (k ≤ i ∧ i < k + 1)) (m := 1) (k := 24) (by decide) (fun i a b => by
    have b1 := bi_b (0 ≤ nk S i)
    have b2 := bi_b (k ≤ i ∧ i < k + 1)
    by_cases e : k ≤ i ∧ i < k + 1
    · have : i = k := by omega
      have e6 : bi (0 ≤ nk S i) = 0 := bi_f fun y => hn ⟨hk, by rw [← this]; exact y⟩
      omega
    · have e6 : bi (k ≤ i ∧ i < k + 1) = 0 := bi_f e
      omega)
  omega
theorem WF_add (w : WF S g c) (a : AR S S' k K P) (hk : 1 ≤ k ∧ k < 24) (hn : nk S k < 0) (hP : live S P) (hP0 : nk S P = 0) (hd : gd g P < 4) (hK : 0 ≤ K ∧ K ≤ 2) (o : okN S' k) : WF S' (mkG S' (fun x => if x = k then gd g P + 1 else gd g x) (oin g (en g (pos g P)) 1 (fun _ => k)) (gc g + 1)) (c + 1) := by
  have wn := w.2.1
  have wt := w.2.2.1
  have nl : ¬ live S k := fun y => by have := y.2; omega
  have lk : ∀ x, live S x → x ≠ k := fun x h e => nl (by rw [← e]; exact h)
  have ak := fun x (h0 : 0 ≤ x) (h1 : x < 24) (h : x ≠ k) => a.kx h0 h1 h
  obtain ⟨a1, a2, -, a4, a5, a6⟩ := a
  have lv : ∀ x, live S' x ↔ live S x ∨ x = k := fun x => ⟨fun h => by
    by_cases e : x = k
    · exact Or.inr e
    · exact Or.inl ⟨h.1, by have := (ak x h.1.1 h.1.2 e).1; have := h.2; omega⟩, fun h => by
    rcases h with h | h
    · exact ⟨h.1, by have := (ak x h.1.1 h.1.2 (lk x h)).1; have := h.2; omega⟩
    · rw [h]; exact ⟨by omega, by omega⟩⟩
  have h8 := w.1.2.2.1
  have wn' : WN S' := by
    have r0 := ak 0 (by decide) (by decide) (by omega)
    refine ⟨?_, fun x p q => ?_, fun x h z => ?_, fun x h z => ?_, fun x h z => ?_, fun x h z => ?_⟩
    · rw [r0.1, r0.2.1, r0.2.2.2 0 (by decide) (by decide), r0.2.2.2 1 (by decide) (by decide), r0.2.2.2 2 (by decide) (by decide)]
      exact wn.1
    · by_cases e : x = k
      · rw [e, a4]; omega
      · rw [(ak x p q e).1]; exact wn.2.1 x p q
    · by_cases e : x = k
      · rw [e] at z ⊢; exact o.1 z
      · have e2 := ak x h.1.1 h.1.2 e
        rw [e2.1] at z
        rw [e2.2.2.2 0 (by decide) (by decide), e2.2.2.2 1 (by decide) (by decide), e2.2.2.2 2 (by decide) (by decide)]
        exact wn.2.2.1 x (((lv x).mp h).resolve_right e) z
    · by_cases e : x = k
      · rw [e] at z ⊢; exact o.2.1 z
      · have e2 := ak x h.1.1 h.1.2 e
        rw [e2.1] at z
        rw [e2.2.2.2 0 (by decide) (by decide), e2.2.2.2 1 (by decide) (by decide), e2.2.2.2 2 (by decide) (by decide), e2.2.2.2 3 (by decide) (by decide)]
        exact wn.2.2.2.1 x (((lv x).mp h).resolve_right e) z
    · by_cases e : x = k
      · rw [e] at z ⊢; exact o.2.2.1 z
      · have e2 := ak x h.1.1 h.1.2 e
        rw [e2.1] at z
        rw [e2.2.2.2 4 (by decide) (by decide), e2.2.2.2 5 (by decide) (by decide), e2.2.2.2 6 (by decide) (by decide)]
        exact wn.2.2.2.2.1 x (((lv x).mp h).resolve_right e) z
    · by_cases e : x = k
      · rw [e] at z ⊢; exact o.2.2.2 z
      · have e2 := ak x h.1.1 h.1.2 e
        rw [e2.1] at z
        rw [e2.2.2.2 4 (by decide) (by decide), e2.2.2.2 5 (by decide) (by decide)]
        exact wn.2.2.2.2.2 x (((lv x).mp h).resolve_right e) z
  have ws' : WS S' (c + 1) := by
    have ws0 : WS (ru S' 8 (S 8)) c := WS_cg (fun j p q => by
      by_cases e : j = 8
      · rw [e, ru_s]
      · rw [ru_n e]; exact a1 j p q e) w.1
    obtain ⟨⟨x0, x2⟩, y, z, ws⟩ := ws0
    have en : ∀ j, j ≠ 8 → ru S' 8 (S 8) j = S' j := fun j h => ru_n h
    refine ⟨⟨?_, ?_⟩, fun j p q => ?_, ?_, fun r p q => ?_⟩
    · rw [en 0 (by decide), en 1 (by decide)] at x0; exact x0
    · rw [en 2 (by decide), en 3 (by decide), en 4 (by decide)] at x2; exact x2
    · have := y j p q
      rw [en _ (by omega)] at this; exact this
    · omega
    · have w2 := ws r p q
      have e : cc (ru S' 8 (S 8)) r = cc S' r := en _ (by omega)
      rw [e] at w2
      exact wfC_cg w2 (fun i u v => ⟨(en _ (by omega)).symm, (en _ (by omega)).symm⟩)
  refine WF_ins w ⟨⟨⟨hP, hP0⟩, by decide, gc_23 w (by omega) nl⟩, ⟨fun t p q => ⟨⟨by show 0 ≤ k; omega, hk.2⟩, nl⟩, fun t u p q r => by omega⟩, fun x => ?_, fun x h => ?_, ⟨⟨a5, if_pos rfl⟩, fun x h h0 hp => ?_⟩, fun t p q => by omega, fun t u p q r => by omega, fun t p q => ⟨?_, by rw [a6]; omega, by rw [a6]; omega⟩, by omega⟩ wn' ws'
  · rw [lv x]
    constructor
    · rintro (h | h)
      · exact Or.inl h
      · exact Or.inr ⟨0, by decide, h.symm⟩
    · rintro (h | ⟨t, -, h⟩)
      · exact Or.inl h
      · exact Or.inr h.symm
  · have e := ak x h.1.1 h.1.2 (lk x h)
    exact ⟨e.1, e.2.1, e.2.2.1, if_neg (lk x h)⟩
  · have := (wt.2.1 x h h0).2.2.2.2
    show no S x < no S' k
    rw [a6]
    omega
  · show (if k = k then gd g P + 1 else gd g k) ≤ 4
    rw [if_pos rfl]
    omega
end ARS
