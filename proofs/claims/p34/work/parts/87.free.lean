/-! the number a new node gets -/
def fre (S : Int → Int) : Int := ffi (fun i => nk S (i + 1) < 0) 23 + 1
def fNb (S : Int → Int) (g : Nat → Int → Int) (P : Int) : Int := if isN S P then (if nk S P = 0 ∧ gd g P < 4 then (if fre S < 24 then fre S else -3) else -2) else -1
theorem ffi_le (P : Int → Prop) [DecidablePred P] {n : Int} (hn : 0 ≤ n) : 0 ≤ ffi P n ∧ ffi P n ≤ n := by
  have key : ∀ m : Nat, 0 ≤ ffi P m ∧ ffi P m ≤ m := by
    intro m
    induction m with
    | zero => exact ⟨Int.le_refl _, Int.le_refl _⟩
    | succ m ih =>
      rw [show ((m + 1 : Nat) : Int) = (m : Int) + 1 by omega, ffi_s P (by omega)]
      split
      · omega
      · split <;> omega
  have := key n.toNat
  rw [Int.toNat_of_nonneg hn] at this
  exact this
theorem fre_b (S : Int → Int) : 1 ≤ fre S ∧ fre S ≤ 24 := by
  have := ffi_le (fun i => nk S (i + 1) < 0) (n := 23) (by decide)
  unfold fre
  omega
theorem fre_f {S : Int → Int} {k : Int} (h0 : 1 ≤ k) (h1 : k < 24) (hk : nk S k < 0) (h : ∀ c, 1 ≤ c → c < k → 0 ≤ nk S c) : fre S = k := by
  have := ffi_f (P := fun i => nk S (i + 1) < 0) (n := 23) (i := k - 1) (by omega) (by omega) (by rw [show k - 1 + 1 = k by omega]; exact hk) (fun c a b => by have := h (c + 1) (by omega) (by omega); omega)
  unfold fre
  omega
theorem fre_n {S : Int → Int} (h : ∀ c, 1 ≤ c → c < 24 → 0 ≤ nk S c) : fre S = 24 := by
  have := ffi_n (P := fun i => nk S (i + 1) < 0) (n := 23) (by decide) (fun c a b => by have := h (c + 1) (by omega) (by omega); omega)
  unfold fre
  omega
section FN
variable {h : Zm} {F : Nat → Int → Int} {A n M : Nat} {S : Int → Int} {g : Nat → Int → Int} {c0 : Int}
theorem s_freeNumber {Q : Int → Zm → Prop} (kt : kT h A) (cs : CS F A S g) (wn : WN S) (q : Q (if fre S < 24 then fre S else -1) (zwI h F)) : mX5_freeNumber (A + 2) (zwI h F) Q := by
  unfold mX5_freeNumber mX5_freeNumber_H2
  obtain ⟨⟨k1, k2, k3, k4⟩, ⟨k5, k6, k7⟩, k8⟩ := kt
  refine lfp1_up (h := h) 24 (fun i F' => F' = F ∧ 1 ≤ i ∧ ∀ c, 1 ≤ c → c < i → 0 ≤ nk S c) (fun X i F' hi hI hX => ?_) 1 F (by decide) ⟨rfl, by decide, fun c a b => by omega⟩
  obtain ⟨rfl, i0, i1⟩ := hI
  unfold mX5_freeNumber_B2
  refine f_lt ⟨by omega, by omega⟩ ⟨by decide, by decide⟩ (fun z => ?_) (fun z => ?_)
  · have h8 := k8 i (by omega) z
    have hr := wn.2.1 i (by omega) z
    refine f_gr k1 k2 (f_ldr k5 (by decide) (by omega) (by omega) h8.1 (f_giv h8.2 (cs.2.2.2.2 i (by omega) z).1.1 fun r => f_eq r ⟨by decide, by decide⟩ (fun e => ?_) (fun e => hX z _ ⟨rfl, by omega, fun c a b => ?_⟩)))
    · have := fre_f i0 z (by omega) i1
      rw [this, if_pos z] at q
      exact q
    · by_cases ec : c = i
      · rw [ec]; omega
      · exact i1 c a (by omega)
  · have := fre_n (S := S) (fun c a b => i1 c a (by omega))
    rw [this, if_neg (by decide)] at q
    exact q
theorem s_numberBelow {Q : Int → Zm → Prop} {P : Int} (kd : kD h n) (cs : CS F (n + 1) S g) (w : WF S g c0) (hP : InR P) (q : Q (fNb S g P) (zwI h F)) : mX6_numberBelow n P (zwI h F) Q := by
  unfold mX6_numberBelow
  unfold fNb at q
  have k1 := kd.ks.2.1.1.1
  have k8 := kd.ks.2.1.2.2
  refine f_gr kd.k kd.pg (f_gr kd.ks.1.1 kd.ks.1.2.2.1 (f_rc k1 (s_has kd.ks.2.1 cs w.2.1 hP (f_bi (fun z => ?_) (fun z => ?_)))))
  · rw [if_pos z] at q
    have hl : live S P := z
    have ns := cs.2.2.2.2 P z.1.1 z.1.2
    have hd := gd_b w hl
    refine f_gr kd.k kd.pg (f_gr kd.ks.1.1 kd.ks.1.2.2.1 (f_rc k1 (s_nodeAt kd.ks.2.1 z.1.1 z.1.2 (f_giv (k8 P z.1.1 z.1.2).2 ns.1.1 fun r => f_eq r z_in0 (fun e => f_giv (k8 P z.1.1 z.1.2).2 (ns.2 z.2).1.2 fun r2 => f_lt r2 ⟨by decide, by decide⟩ (fun e2 => ?_) (fun e2 => ?_)) (fun e => ?_)))))
    · rw [if_pos ⟨e, e2⟩] at q
      refine f_gr kd.k kd.pg (f_gr kd.ks.1.1 kd.ks.1.2.2.1 (f_rc k1 (s_freeNumber kd.ks.2.1 cs w.2.1 ?_)))
      have hb := fre_b S
      by_cases l : fre S < 24
      · rw [if_pos l] at q ⊢
        exact f_eq ⟨by omega, by omega⟩ ⟨by decide, by decide⟩ (fun y => by omega) (fun _ => q)
      · rw [if_neg l] at q ⊢
        exact f_eq ⟨by decide, by decide⟩ ⟨by decide, by decide⟩ (fun _ => q) (fun y => absurd rfl y)
    · rw [if_neg (fun y => by omega)] at q; exact q
    · rw [if_neg (fun y => e y.1)] at q; exact q
  · rw [if_neg z] at q; exact q
end FN
