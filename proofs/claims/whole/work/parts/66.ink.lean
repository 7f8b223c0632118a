/-! the table of inks -/
def ffi (P : Int → Prop) [DecidablePred P] (n : Int) : Int := Nat.rec 0 (fun (i : Nat) (r : Int) => if r < (i : Int) then r else if P i then (i : Int) else (i : Int) + 1) n.toNat
theorem ffi_s (P : Int → Prop) [DecidablePred P] {n : Int} (hn : 0 ≤ n) : ffi P (n + 1) = if ffi P n < n then ffi P n else if P n then n else n + 1 := by
  unfold ffi
  rw [show (n + 1).toNat = n.toNat + 1 by omega]
  show (if _ < ((n.toNat : Nat) : Int) then _ else if P ((n.toNat : Nat) : Int) then ((n.toNat : Nat) : Int) else ((n.toNat : Nat) : Int) + 1) = _
  rw [Int.toNat_of_nonneg hn]
theorem ffi_n {P : Int → Prop} [DecidablePred P] {n : Int} (hn : 0 ≤ n) (h : ∀ c, 0 ≤ c → c < n → ¬ P c) : ffi P n = n := by
  have key : ∀ m : Nat, (m : Int) ≤ n → ffi P m = m := by
    intro m
    induction m with
    | zero => intro _; rfl
    | succ m ih =>
      intro hm
      rw [show ((m + 1 : Nat) : Int) = (m : Int) + 1 by omega, ffi_s P (by omega), ih (by omega), if_neg (by omega), if_neg (h _ (by omega) (by omega))]
  have := key n.toNat (by omega)
  rw [Int.toNat_of_nonneg hn] at this
  exact this
theorem ffi_f {P : Int → Prop} [DecidablePred P] {n i : Int} (h0 : 0 ≤ i) (h1 : i < n) (hi : P i) (h : ∀ c, 0 ≤ c → c < i → ¬ P c) : ffi P n = i := by
  have key : ∀ m : Nat, i + 1 + m ≤ n → ffi P (i + 1 + m) = i := by
    intro m
    induction m with
    | zero => intro _; rw [show i + 1 + ((0 : Nat) : Int) = i + 1 by omega, ffi_s P h0, ffi_n h0 h, if_neg (by omega), if_pos hi]
    | succ m ih =>
      intro hm
      rw [show i + 1 + ((m + 1 : Nat) : Int) = (i + 1 + (m : Int)) + 1 by omega, ffi_s P (by omega), ih (by omega), if_pos (by omega)]
  have := key (n - (i + 1)).toNat (by omega)
  rw [show i + 1 + (((n - (i + 1)).toNat : Nat) : Int) = n by omega] at this
  exact this
def nrow (A : Int → Int) (c : Int) : Int := if c < 7 then A c else if c = 7 then smI A 7 else 1
def tad (A : Int → Int) (T : Int × (Int → Int → Int)) : Int × (Int → Int → Int) :=
  if ffi (fun i => sm7 A (T.2 i)) T.1 < T.1 then (T.1, fun r c => if r = ffi (fun i => sm7 A (T.2 i)) T.1 ∧ c = 8 then T.2 r 8 + 1 else T.2 r c)
  else (T.1 + 1, fun r c => if r = T.1 then nrow A c else T.2 r c)
theorem tad_o {A : Int → Int} {T : Int × (Int → Int → Int)} {i : Int} (h0 : 0 ≤ i) (h1 : i < T.1) (hi : sm7 A (T.2 i)) (h : ∀ c, 0 ≤ c → c < i → ¬ sm7 A (T.2 c)) : tad A T = (T.1, fun r c => if r = i ∧ c = 8 then T.2 r 8 + 1 else T.2 r c) := by
  unfold tad
  have := ffi_f (P := fun i => sm7 A (T.2 i)) h0 h1 hi h
  rw [this, if_pos h1]
theorem tad_n {A : Int → Int} {T : Int × (Int → Int → Int)} (h0 : 0 ≤ T.1) (h : ∀ c, 0 ≤ c → c < T.1 → ¬ sm7 A (T.2 c)) : tad A T = (T.1 + 1, fun r c => if r = T.1 then nrow A c else T.2 r c) := by
  unfold tad
  have := ffi_n (P := fun i => sm7 A (T.2 i)) h0 h
  rw [this, if_neg (by omega)]
/-- the table after k pixels -/
def TI (k : Int) (T : Int × (Int → Int → Int)) : Prop := (0 ≤ T.1 ∧ T.1 ≤ k) ∧ (∀ r, 0 ≤ r → r < T.1 → r7 (T.2 r) ∧ (0 ≤ T.2 r 7 ∧ T.2 r 7 ≤ 12495) ∧ (1 ≤ T.2 r 8 ∧ T.2 r 8 ≤ k)) ∧ ∀ r s, 0 ≤ r → r < s → s < T.1 → ¬ sm7 (T.2 r) (T.2 s)
theorem TI.add {k : Int} {T : Int × (Int → Int → Int)} {A : Int → Int} (h : TI k T) (hA : r7 A) (hk : 0 ≤ k) : TI (k + 1) (tad A T) := by
  obtain ⟨h1, h2, h3⟩ := h
  by_cases e : ∃ i, (0 ≤ i ∧ i < T.1) ∧ sm7 A (T.2 i)
  · have hlt : ffi (fun i => sm7 A (T.2 i)) T.1 < T.1 := by
      obtain ⟨i, ⟨i0, i1⟩, i2⟩ := e
      rcases Int.lt_or_le (ffi (fun i => sm7 A (T.2 i)) T.1) T.1 with z | z
      · exact z
      · exfalso
        have key : ∀ m : Nat, i < m → ffi (fun i => sm7 A (T.2 i)) m < m := by
          intro m
          induction m with
          | zero => intro q; omega
          | succ m ih =>
            intro q
            rw [show ((m + 1 : Nat) : Int) = (m : Int) + 1 by omega, ffi_s _ (by omega)]
            split
            · omega
            · rename_i nlt
              have : i = m := by
                rcases Int.lt_or_le i m with y | y
                · exact absurd (ih y) nlt
                · omega
              rw [← this, if_pos i2]
              omega
        have := key T.1.toNat (by omega)
        rw [Int.toNat_of_nonneg h1.1] at this
        omega
    unfold tad
    rw [if_pos hlt]
    generalize ffi (fun i => sm7 A (T.2 i)) T.1 = i
    have e7 : ∀ r c, c < 7 → (if r = i ∧ c = 8 then T.2 r 8 + 1 else T.2 r c) = T.2 r c := fun r c hc => if_neg (by omega)
    refine ⟨⟨h1.1, by show T.1 ≤ _; omega⟩, fun r r0 r1 => ?_, fun r s a b c d => h3 r s a b c ?_⟩
    · have := h2 r r0 r1
      refine ⟨fun c c0 c1 => ?_, ?_, ?_⟩
      · show 0 ≤ (if r = i ∧ c = 8 then _ else _) ∧ (if r = i ∧ c = 8 then _ else _) ≤ 1785
        rw [e7 r c c1]
        exact this.1 c c0 c1
      · show 0 ≤ (if r = i ∧ (7 : Int) = 8 then _ else T.2 r 7) ∧ (if r = i ∧ (7 : Int) = 8 then _ else T.2 r 7) ≤ 12495
        rw [if_neg (by omega)]
        exact this.2.1
      · show 1 ≤ (if r = i ∧ (8 : Int) = 8 then _ else T.2 r 8) ∧ (if r = i ∧ (8 : Int) = 8 then _ else T.2 r 8) ≤ k + 1
        split <;> omega
    · rw [sm7_i] at d ⊢
      intro j j0 j1
      have := d j j0 j1
      dsimp only at this
      rw [e7 _ _ j1, e7 _ _ j1] at this
      exact this
  · have hn : ∀ c, 0 ≤ c → c < T.1 → ¬ sm7 A (T.2 c) := fun c a b d => e ⟨c, ⟨a, b⟩, d⟩
    rw [tad_n h1.1 hn]
    have hr7 : ∀ c, c < 7 → nrow A c = A c := fun c hc => if_pos hc
    refine ⟨⟨by show 0 ≤ T.1 + 1; omega, by show T.1 + 1 ≤ _; omega⟩, fun r r0 r1 => ?_, fun r s a b c d => ?_⟩
    · have r1 : r < T.1 + 1 := r1
      show r7 (fun c => if r = T.1 then nrow A c else T.2 r c) ∧ (0 ≤ (if r = T.1 then nrow A 7 else T.2 r 7) ∧ (if r = T.1 then nrow A 7 else T.2 r 7) ≤ 12495) ∧ (1 ≤ (if r = T.1 then nrow A 8 else T.2 r 8) ∧ (if r = T.1 then nrow A 8 else T.2 r 8) ≤ k + 1)
      by_cases er : r = T.1
      · have hs := smI_b (f := A) (m := 1785) (k := 7) (by decide) hA
        have e7 : nrow A 7 = smI A 7 := by unfold nrow; rw [if_neg (by decide), if_pos rfl]
        have e8 : nrow A 8 = 1 := by unfold nrow; rw [if_neg (by decide), if_neg (by decide)]
        rw [if_pos er, if_pos er, e7, e8]
        refine ⟨fun c c0 c1 => ?_, by omega, by omega⟩
        show 0 ≤ (if r = T.1 then nrow A c else T.2 r c) ∧ (if r = T.1 then nrow A c else T.2 r c) ≤ 1785
        rw [if_pos er, hr7 c c1]
        exact hA c c0 c1
      · have := h2 r r0 (by omega)
        rw [if_neg er, if_neg er]
        refine ⟨fun c c0 c1 => ?_, this.2.1, by omega⟩
        show 0 ≤ (if r = T.1 then nrow A c else T.2 r c) ∧ (if r = T.1 then nrow A c else T.2 r c) ≤ 1785
        rw [if_neg er]
        exact this.1 c c0 c1
    · have c : s < T.1 + 1 := c
      rw [sm7_i] at d
      by_cases es : s = T.1
      · refine hn r a (by omega) (sm7_i.mpr fun j j0 j1 => ?_)
        have := d j j0 j1
        dsimp only at this
        rw [if_neg (by omega), if_pos es, hr7 j j1] at this
        exact this.symm
      · refine h3 r s a b (by omega) (sm7_i.mpr fun j j0 j1 => ?_)
        have := d j j0 j1
        dsimp only at this
        rw [if_neg (by omega), if_neg es] at this
        exact this
def tab (S : Int → Int) (g : Nat → Int → Int) (k : Int) : Int × (Int → Int → Int) := Nat.rec (0, fun _ _ => 0) (fun (i : Nat) r => tad (pA S g (S 2) i) r) k.toNat
theorem tab_s (S : Int → Int) (g : Nat → Int → Int) {k : Int} (hk : 0 ≤ k) : tab S g (k + 1) = tad (pA S g (S 2) k) (tab S g k) := by
  unfold tab
  rw [show (k + 1).toNat = k.toNat + 1 by omega]
  show tad (pA S g (S 2) ((k.toNat : Nat) : Int)) _ = _
  rw [Int.toNat_of_nonneg hk]
theorem tab_TI {S : Int → Int} {g : Nat → Int → Int} {c0 : Int} (w : WF S g c0) {k : Int} (hk : 0 ≤ k) : TI k (tab S g k) := by
  have key : ∀ m : Nat, TI m (tab S g m) := by
    intro m
    induction m with
    | zero => exact ⟨⟨Int.le_refl _, Int.le_refl _⟩, fun r a b => absurd (show r < 0 from b) (by omega), fun r s a b c => absurd (show s < 0 from c) (by omega)⟩
    | succ m ih =>
      rw [show ((m + 1 : Nat) : Int) = (m : Int) + 1 by omega, tab_s _ _ (by omega)]
      exact ih.add (pA_r w w.1.1.2.1 _) (by omega)
  have := key k.toNat
  rw [Int.toNat_of_nonneg hk] at this
  exact this
/-! the order of the inks -/
abbrev lx (a b : Int) (P : Prop) : Prop := a < b ∨ (a = b ∧ P)
theorem lx_tr {a b c : Int} {P R S : Prop} (h1 : lx a b P) (h2 : lx b c R) (h : P → R → S) : lx a c S := by
  rcases h1 with x | ⟨x, p⟩ <;> rcases h2 with y | ⟨y, r⟩
  · exact Or.inl (by omega)
  · exact Or.inl (by omega)
  · exact Or.inl (by omega)
  · exact Or.inr ⟨by omega, h p r⟩
theorem lx_rt {a b c : Int} {P R S : Prop} (h1 : lx b a P) (h2 : lx c b R) (h : P → R → S) : lx c a S := lx_tr h2 h1 (fun r p => h p r)
theorem lx_ir {a : Int} {P : Prop} (h : ¬ P) : ¬ lx a a P := fun x => by
  rcases x with y | y
  · omega
  · exact h y.2
theorem lx_cm {a b : Int} {P R : Prop} (h : a = b → P ∨ R) : lx a b P ∨ lx b a R := by
  rcases Int.lt_trichotomy a b with x | x | x
  · exact Or.inl (Or.inl x)
  · rcases h x with y | y
    · exact Or.inl (Or.inr ⟨x, y⟩)
    · exact Or.inr (Or.inr ⟨x.symm, y⟩)
  · exact Or.inr (Or.inl x)
abbrev lex7 (A B : Int → Int) : Prop := lx (A 0) (B 0) (lx (A 1) (B 1) (lx (A 2) (B 2) (lx (A 3) (B 3) (lx (A 4) (B 4) (lx (A 5) (B 5) (A 6 < B 6))))))
theorem lex_at {A B : Int → Int} {i : Int} (h0 : 0 ≤ i) (h1 : i < 7) (he : ∀ c, 0 ≤ c → c < i → A c = B c) (hn : A i ≠ B i) : lex7 A B ↔ A i < B i := by
  have e : ∀ c, 0 ≤ c → c < 7 → c < i → A c = B c := fun c a _ b => he c a b
  have e0 := e 0 (by decide) (by decide)
  have e1 := e 1 (by decide) (by decide)
  have e2 := e 2 (by decide) (by decide)
  have e3 := e 3 (by decide) (by decide)
  have e4 := e 4 (by decide) (by decide)
  have e5 := e 5 (by decide) (by decide)
  have t : ∀ {a b : Int} {P : Prop}, a = b → (lx a b P ↔ P) := fun h => ⟨fun x => by rcases x with y | y; omega; exact y.2, fun x => Or.inr ⟨h, x⟩⟩
  have f : ∀ {a b : Int} {P : Prop}, a ≠ b → (lx a b P ↔ a < b) := fun h => ⟨fun x => by rcases x with y | y; exact y; exact absurd y.1 h, fun x => Or.inl x⟩
  rcases (show i = 0 ∨ i = 1 ∨ i = 2 ∨ i = 3 ∨ i = 4 ∨ i = 5 ∨ i = 6 by omega) with rfl | rfl | rfl | rfl | rfl | rfl | rfl
  · exact f hn
  · exact (t (e0 (by decide))).trans (f hn)
  · exact (t (e0 (by decide))).trans ((t (e1 (by decide))).trans (f hn))
  · exact (t (e0 (by decide))).trans ((t (e1 (by decide))).trans ((t (e2 (by decide))).trans (f hn)))
  · exact (t (e0 (by decide))).trans ((t (e1 (by decide))).trans ((t (e2 (by decide))).trans ((t (e3 (by decide))).trans (f hn))))
  · exact (t (e0 (by decide))).trans ((t (e1 (by decide))).trans ((t (e2 (by decide))).trans ((t (e3 (by decide))).trans ((t (e4 (by decide))).trans (f hn)))))
  · exact (t (e0 (by decide))).trans ((t (e1 (by decide))).trans ((t (e2 (by decide))).trans ((t (e3 (by decide))).trans ((t (e4 (by decide))).trans (t (e5 (by decide)))))))
theorem lex_ir (A : Int → Int) : ¬ lex7 A A := lx_ir (lx_ir (lx_ir (lx_ir (lx_ir (lx_ir (Int.lt_irrefl _))))))
theorem lex_eq {A B : Int → Int} (h : sm7 A B) : ¬ lex7 A B := by
  obtain ⟨a0, a1, a2, a3, a4, a5, a6⟩ := h
  unfold lex7
  rw [a0, a1, a2, a3, a4, a5, a6]
  exact lex_ir B
abbrev cb (R : Int → Int → Int) (i j : Int) : Prop := lx (R j 8) (R i 8) (lx (R i 7) (R j 7) (lex7 (R i) (R j)))
theorem cb_tr {R : Int → Int → Int} {i j k : Int} (h1 : cb R i j) (h2 : cb R j k) : cb R i k :=
  lx_rt h1 h2 fun a b => lx_tr a b fun a b => lx_tr a b fun a b => lx_tr a b fun a b => lx_tr a b fun a b => lx_tr a b fun a b => lx_tr a b fun a b => lx_tr a b fun a b => Int.lt_trans a b
theorem cb_inj {k : Int} {T : Int × (Int → Int → Int)} (h : TI k T) {a b : Int} (ha : 0 ≤ a ∧ a < T.1) (hb : 0 ≤ b ∧ b < T.1) (e : rk (cb T.2) T.1 a = rk (cb T.2) T.1 b) : a = b := by
  refine rk_inj (cb T.2) h.1.1 (fun i => lx_ir (lx_ir (lex_ir _))) (fun i j k x y => cb_tr x y) (fun i j i0 i1 j0 j1 ne => ?_) ha hb e
  have hns : ¬ sm7 (T.2 i) (T.2 j) := by
    rcases Int.lt_or_le i j with y | y
    · exact h.2.2 i j i0 y j1
    · intro z
      refine h.2.2 j i j0 (by omega) i1 (sm7_i.mpr fun c c0 c1 => (sm7_i.mp z c c0 c1).symm)
  refine (lx_cm fun e8 => ?_).symm
  refine (lx_cm fun e7 => ?_).symm
  refine (lx_cm fun e0 => lx_cm fun e1 => lx_cm fun e2 => lx_cm fun e3 => lx_cm fun e4 => lx_cm fun e5 => ?_)
  rcases Int.lt_trichotomy (T.2 i 6) (T.2 j 6) with x | x | x
  · exact Or.inl x
  · exact absurd ⟨e0, e1, e2, e3, e4, e5, x⟩ hns
  · exact Or.inr x
def aInks (S : Int → Int) (g : Nat → Int → Int) : Int := (tab S g (S 0 * S 1)).1
def tat (T : Int × (Int → Int → Int)) (p w : Int) : Int := if fnd (rk (cb T.2) T.1) p T.1 = -4 then -4 else T.2 (fnd (rk (cb T.2) T.1) p T.1) w
def aInkAt (S : Int → Int) (g : Nat → Int → Int) (p w : Int) : Int := if 0 ≤ p ∧ (0 ≤ w ∧ w ≤ 8) then tat (tab S g (S 0 * S 1)) p w else -1
