/-! the class puts the carried ones in -/
section PI
variable {h : Zm} {F : Nat → Int → Int} {A : Nat} {S : Int → Int} {g : Nat → Int → Int} {c0 : Int}
/-- the order with q put in at e -/
def oin (g : Nat → Int → Int) (e L : Int) (q : Int → Int) (t : Int) : Int := if t < e then go g t else if t < e + L then q (t - e) else go g (t - L)
theorem s_putIn {Q : Zm → Prop} {P L : Int} {qs : Int → Int} (kt : kT h A) (os : OS F A S g) (w : WF S g c0) (hP : live S P) (hL : 1 ≤ L ∧ gc g + L ≤ 24) (hq : ∀ t, 0 ≤ t → t < L → F (A + 29) t = qs t) (q0 : 0 ≤ qs 0 ∧ qs 0 < 24) (K : ∀ F', (∀ b j, b ≠ A + 28 → b ≠ A + 29 → ¬ (b = A + 2 ∧ j = 3) → ¬ (b = A + 4 + (qs 0).toNat ∧ j = 1) → F' b j = F b j) → F' (A + 2) 3 = gc g + L → (∀ t, 0 ≤ t → t < gc g + L → F' (A + 28) t = oin g (en g (pos g P)) L qs t) → F' (A + 4 + (qs 0).toNat) 1 = P → mX5_settle (A + 2) (zwI h F') Q) : mX5_putIn (A + 2) L P (zwI h F) Q := by
  unfold mX5_putIn
  obtain ⟨⟨k1, k2, k3, k4⟩, ⟨k5, k6, k7⟩, k8⟩ := id kt
  have wo := w.2.2.2
  have hc := wo.1.1
  have hPr := hP.1
  obtain ⟨⟨p0, p1⟩, p2⟩ := pos_ok wo hP
  have he := (en_SE p0 p1).1
  refine f_lt ⟨by omega, by omega⟩ ⟨by decide, by decide⟩ (fun z => by omega) (fun _ => f_giv (v := gc g) k1 os.1 fun _ => f_le ⟨by omega, by omega⟩ ⟨by decide, by decide⟩ (fun _ => f_rc k1 (s_endOfO kt os w hP (f_giv (v := gc g) k1 os.1 fun _ => ?_))) (fun z => by omega))
  generalize en g (pos g P) = e at he K ⊢
  unfold mX5_putIn_H31
  refine lfp1_i (fun x _ => (x + 1).toNat) (fun x m => ∃ F', m = zwI h F' ∧ bu (A + 28) F F' ∧ (e - 1 ≤ x ∧ x ≤ gc g - 1) ∧ (∀ t, 0 ≤ t → t ≤ x → F' (A + 28) t = go g t) ∧ ∀ t, x + L < t → t < gc g + L → F' (A + 28) t = go g (t - L)) (fun X x m hI hX => ?_) (gc g - 1) _ ⟨F, rfl, bu.rf, by omega, fun t a b => os.2.1 t a (by omega), fun t a b => by omega⟩
  obtain ⟨F', rfl, f1, xr, x1, x2⟩ := hI
  unfold mX5_putIn_B31
  refine f_lt ⟨by omega, by omega⟩ ⟨by omega, by omega⟩ (fun z => ?_) (fun z => ?_)
  · have ex : x = e - 1 := by omega
    subst ex
    unfold mX5_putIn_H62
    refine lfp1_up (h := h) L (fun i F2 => bu (A + 28) F F2 ∧ 0 ≤ i ∧ ∀ t, 0 ≤ t → t < gc g + L → (t < e ∨ e + L ≤ t ∨ t < e + i) → F2 (A + 28) t = oin g e L qs t) (fun X2 i F2 hi hI hX2 => ?_) 0 F' (by omega) ⟨f1, Int.le_refl _, fun t a b y => ?_⟩
    · obtain ⟨f2, i0, i1⟩ := hI
      unfold mX5_putIn_B62
      refine f_lt ⟨by omega, by omega⟩ ⟨by omega, by omega⟩ (fun u => ?_) (fun u => ?_)
      · refine f_gr k1 k3 (f_gr k1 k4 (f_ldv (v := qs i) k7 i0 (by omega) (by rw [f2 _ _ (by omega)]; exact hq i i0 u) fun r => f_st k6 (by omega) (by omega) r (hX2 u _ ⟨f2.tr bu.up, by omega, fun t a b y => ?_⟩)))
        rw [up_e]
        by_cases et : t = e + i
        · rw [if_pos ⟨rfl, et⟩]
          unfold oin
          rw [if_neg (by omega), if_pos (by omega)]
          congr 1
          omega
        · rw [if_neg (fun y => et y.2)]
          exact i1 t a b (by omega)
      · have h3 : F2 (A + 2) 3 = gc g := by rw [f2 _ _ (by omega)]; exact os.1
        have hk0 := (k8 _ q0.1 q0.2).2
        refine f_giv (v := gc g) k1 h3 fun _ => f_pi k1 ⟨by omega, by omega⟩ (f_gr k1 k4 (f_ldv (v := qs 0) k7 (by decide) (by decide) (by rw [up_a (by omega), f2 _ _ (by omega)]; exact hq 0 (by decide) (by omega)) fun _ => f_rc k1 (s_nodeAt kt q0.1 q0.2 (f_pi hk0 ⟨by omega, by omega⟩ (f_rc k1 (K _ (fun b j y1 y2 y3 y4 => ?_) ?_ (fun t a b => ?_) (up_s _ _ _ _)))))))
        · rw [up_n y4, up_n y3]
          exact f2 _ _ y1
        · rw [up_a (by omega)]
          exact up_s _ _ _ _
        · rw [up_a (by omega), up_a (by omega)]
          exact i1 t a b (by omega)
    · unfold oin
      by_cases e1 : t < e
      · rw [if_pos e1]; exact x1 t a (by omega)
      · rw [if_neg e1, if_neg (by omega)]; exact x2 t (by omega) b
  · refine f_gr k1 k3 (f_gr k1 k3 (f_ldv (v := go g x) k6 (by omega) (by omega) (x1 x (by omega) (Int.le_refl _)) fun r => f_st k6 (by omega) (by omega) r (hX _ _ ⟨_, rfl, f1.tr bu.up, by omega, fun t a b => ?_, fun t a b => ?_⟩ (by omega))))
    · rw [up_n (by omega)]
      exact x1 t a (by omega)
    · rw [up_e]
      by_cases et : t = x + L
      · rw [if_pos ⟨rfl, et⟩]
        congr 1
        omega
      · rw [if_neg (fun y => et y.2)]
        exact x2 t (by omega) b
end PI
/-! ghosts from depths -/
def gopF (S : Int → Int) : Nat → Int → Int
  | 0, _ => 100
  | n + 1, k => gopF S n (np S k) * nf S k 0 / 100
def goxF (S : Int → Int) : Nat → Int → Int
  | 0, _ => 0
  | n + 1, k => goxF S n (np S k) + nf S k 1
def goyF (S : Int → Int) : Nat → Int → Int
  | 0, _ => 0
  | n + 1, k => goyF S n (np S k) + nf S k 2
def mkG (S : Int → Int) (d o : Int → Int) (c : Int) : Nat → Int → Int
  | 0 => d
  | 1 => fun k => gopF S (d k).toNat k
  | 2 => fun k => goxF S (d k).toNat k
  | 3 => fun k => goyF S (d k).toNat k
  | 4 => o
  | _ => fun _ => c
theorem mkG_WT {S d o : Int → Int} {c : Int} (h0 : d 0 = 0) (h1 : ∀ k, live S k → k ≠ 0 → live S (np S k) ∧ nk S (np S k) = 0 ∧ (d k = d (np S k) + 1 ∧ d k ≤ 4) ∧ 1 ≤ no S k ∧ no S k ≤ S 8) (h2 : ∀ k, live S k → 0 ≤ d k) : WT S (mkG S d o c) := by
  have e0 : (d 0).toNat = 0 := by rw [h0]; rfl
  refine ⟨⟨h0, ?_, ?_, ?_⟩, h1, h2, fun k hl hk h3 => ?_⟩
  · show gopF S (d 0).toNat 0 = 100
    rw [e0]; rfl
  · show goxF S (d 0).toNat 0 = 0
    rw [e0]; rfl
  · show goyF S (d 0).toNat 0 = 0
    rw [e0]; rfl
  · have a := h1 k hl hk
    have b := h2 _ a.1
    have e : (d k).toNat = (d (np S k)).toNat + 1 := by omega
    refine ⟨?_, ?_, ?_⟩
    · show gopF S (d k).toNat k = gopF S (d (np S k)).toNat (np S k) * nf S k 0 / 100
      rw [e]; rfl
    · show goxF S (d k).toNat k = goxF S (d (np S k)).toNat (np S k) + nf S k 1
      rw [e]; rfl
    · show goyF S (d k).toNat k = goyF S (d (np S k)).toNat (np S k) + nf S k 2
      rw [e]; rfl
