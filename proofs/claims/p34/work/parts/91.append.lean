/-! the class appends a node -/
def BS0 (F : Nat → Int → Int) (A : Nat) (S : Int → Int) : Prop := (∀ j, 0 ≤ j → j < 5 → F A j = S j) ∧ (∀ j, 0 ≤ j → j < 3 → F (A + 1) j = S (5 + j)) ∧ (∀ p, 0 ≤ p → p < 7 → CC F (A + 31 + 3 * p.toNat) (cc S p) (cp S p) (cq S p)) ∧ (∀ k, 0 ≤ k → k < 24 → NB F (A + 4 + k.toNat) S k) ∧ (F (A + 4) 2 = 0 ∧ F (A + 4) 6 = 100 ∧ F (A + 4) 7 = 0 ∧ F (A + 4) 8 = 0)
section AP
variable {h : Zm} {F : Nat → Int → Int} {A : Nat} {S S' : Int → Int} {g : Nat → Int → Int} {c0 c1 : Int} {d : Int → Int}
theorem s_append {Q : Zm → Prop} {k K P : Int} (kt : kT h A) (os : OS F A S g) (w : WF S g c0) (w' : WF S' (mkG S' d (oin g (en g (pos g P)) 1 (fun _ => k)) (gc g + 1)) c1) (hP : live S P) (hk : 1 ≤ k ∧ k < 24) (h24 : gc g + 1 ≤ 24) (hK : InR K) (bs : ∀ F', (∀ b j, b ≠ A + 28 → b ≠ A + 29 → ¬ (b = A + 2 ∧ j = 3) → ¬ (b = A + 4 + k.toNat ∧ (j = 0 ∨ j = 1)) → F' b j = F b j) → F' (A + 4 + k.toNat) 0 = K → F' (A + 4 + k.toNat) 1 = P → BS0 F' A S') (q : ∀ F', fr (A + 2) (A + 29) F F' → CS F' A S' (mkG S' d (oin g (en g (pos g P)) 1 (fun _ => k)) (gc g + 1)) → Q (zwI h F')) : mX5_append (A + 2) k K P (zwI h F) Q := by
  unfold mX5_append
  obtain ⟨⟨k1, k2, k3, k4⟩, ⟨k5, k6, k7⟩, k8⟩ := id kt
  have hk8 := (k8 k (by omega) hk.2).2
  refine f_rc k1 (s_nodeAt kt (by omega) hk.2 (f_pi hk8 hK (f_gr k1 k4 (f_st k7 (by decide) (by decide) ⟨by omega, by omega⟩ (f_rc k1 ?_)))))
  have fF : ∀ b j, b ≠ A + 29 → ¬ (b = A + 4 + k.toNat ∧ j = 0) → up (up F (A + 4 + k.toNat) 0 K) (A + 29) 0 k b j = F b j := fun b j x y => by rw [up_a x, up_n y]
  have f0 : up (up F (A + 4 + k.toNat) 0 K) (A + 29) 0 k (A + 4 + k.toNat) 0 = K := by rw [up_a (by omega)]; exact up_s _ _ _ _
  have f29 : up (up F (A + 4 + k.toNat) 0 K) (A + 29) 0 k (A + 29) 0 = k := up_s _ _ _ _
  generalize up (up F (A + 4 + k.toNat) 0 K) (A + 29) 0 k = F2 at fF f0 f29 ⊢
  have os2 : OS F2 A S g := ⟨by rw [fF _ _ (by omega) (by omega)]; exact os.1, fun t a b => by rw [fF _ _ (by omega) (by omega)]; exact os.2.1 t a b, fun x hl => by have := hl.1; rw [fF _ _ (by omega) (by omega)]; exact os.2.2 x hl⟩
  refine s_putIn (L := 1) (qs := fun _ => k) kt os2 w hP ⟨by decide, h24⟩ (fun t a b => by rw [show t = 0 by omega]; exact f29) ⟨by show 0 ≤ k; omega, hk.2⟩ (fun F3 f3 n3 o3 p3 => ?_)
  have b0 := bs F3 (fun b j x y z u => by rw [f3 b j x y z (fun e => u ⟨e.1, Or.inr e.2⟩)]; exact fF b j y (fun e => u ⟨e.1, Or.inl e.2⟩)) (by rw [f3 _ _ (by omega) (by omega) (by omega) (fun e => by have := e.2; omega)]; exact f0) p3
  refine s_settleB kt w' ⟨b0.1, b0.2.1, b0.2.2.1, ⟨n3, o3⟩, b0.2.2.2.1, b0.2.2.2.2⟩ (fun F4 f4 c4 => q F4 (fun b j x => ?_) c4)
  rw [f4 _ _ (by omega), f3 _ _ (by omega) (by omega) (by omega) (fun e => by have := e.1; omega)]
  exact fF _ _ (by omega) (by omega)
end AP
