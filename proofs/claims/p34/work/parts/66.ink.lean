/-! the table of inks -/
def ffi (P : Int → Prop) [DecidablePred P] (n : Int) : Int := Nat.rec 0 (fun (i : Nat) (r : Int) => if r < (i : Int) then r else if P i then (i : Int) else (i : Int) + 1) n.toNat
theorem ffi_s (P : Int → Prop) [DecidablePred P] {n : Int} (hn : 0 ≤ n) : ffi P (n + 1) = if ffi P n < n then ffi P n else if P n then n else n + 1 := by
  unfold ffi
  rw [show (n + 1).toNat = n.toNat + 1 by omega]
  show (if _ < ((n.toNat : Nat) : Int) then _ else if P ((n.toNat : Nat) : Int) then ((n.toNat : Nat) : Int) else ((n.toNat : Nat) : Int) + 1) = _
  rw [Int.toNat_of_nonneg hn]
theorem ffi_n {P : Int → Prop} [DecidablePred P] {n : Int} (hn : 0 ≤ n) (h : ∀ c, 0 ≤ c → c < n → ¬ P c) : ffi P n = n := by
  have key : ∀ m : Nat, (m : Int) ≤ n → ffi P m = m := by
    intro m
    induction m with
    | zero => intro _; rfl
    | succ m ih =>
      intro hm
      rw [show ((m + 1 : Nat) : Int) = (m : Int) + 1 by omega, ffi_s P (by omega), ih (by omega), if_neg (by omega), if_neg (h _ (by omega) (by omega))]
  have := key n.toNat (by omega)
  rw [Int.toNat_of_nonneg hn] at this
  exact this
theorem ffi_f {P : Int → Prop} [DecidablePred P] {n i : Int} (h0 : 0 ≤ i) (h1 : i < n) (hi : P i) (h : ∀ c, 0 ≤ c → c < i → ¬ P c) : ffi P n = i := by
  have key : ∀ m : Nat, i + 1 + m ≤ n → ffi P (i + 1 + m) = i := by
    intro m
    induction m with
    | zero => intro _; rw [show i + 1 + ((0 : Nat) : Int) = i + 1 by omega, ffi_s P h0, ffi_n h0 h, if_neg (by omega), if_pos hi]
    | succ m ih =>
      intro hm
      rw [show i + 1 + ((m + 1 : Nat) : Int) = (i + 1 + (m : Int)) + 1 by omega, ffi_s P (by omega), ih (by omega), if_pos (by omega)]
  have := key (n - (i + 1)).toNat (by omega)
  rw [show i + 1 + (((n - (i + 1)).toNat : Nat) : Int) = n by omega] at this
  exact this
/-- the table after k pixels -/
def TI (k : Int) (T : Int × (Int → Int → Int)) : Prop := (0 ≤ T.1 ∧ T.1 ≤ k) ∧ (∀ r, 0 ≤ r → r < T.1 → r7 (T.2 r) ∧ (0 ≤ T.2 r 7 ∧ T.2 r 7 ≤ 12495) ∧ (1 ≤ T.2 r 8 ∧ T.2 r 8 ≤ k)) ∧ ∀ r s, 0 ≤ r → r < s → s < T.1 → ¬ sm7 (T.2 r) (T.2 s)
/-! the order of the inks -/
