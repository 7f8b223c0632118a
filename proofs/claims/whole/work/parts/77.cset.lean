/-! points of curves: rows and blocks -/
theorem wfC_cg {c : Int} {p q p' q' : Int → Int} (w : wfC c p q) (e : ∀ i, 0 ≤ i → i < c → p' i = p i ∧ q' i = q i) : wfC c p' q' := by
  obtain ⟨w1, w2, w3, w4, w5, w6⟩ := w
  refine ⟨w1, by rw [(e 0 (by decide) (by omega)).1]; exact w2, by rw [(e (c - 1) (by omega) (by omega)).1]; exact w3, fun i j x y z => by rw [(e i x (by omega)).1, (e j (by omega) z).1]; exact w4 i j x y z, fun i j x y z => by rw [(e i x (by omega)).2, (e j (by omega) z).2]; exact w5 i j x y z, fun i x y => by rw [(e i x y).1, (e i x y).2]; exact w6 i x y⟩
theorem CC_cg {F : Nat → Int → Int} {C : Nat} {c : Int} {p q p' q' : Int → Int} (k : CC F C c p q) (e : ∀ i, 0 ≤ i → i < c → p' i = p i ∧ q' i = q i) : CC F C c p' q' :=
  ⟨k.1, fun i x y => by rw [(e i x y).1, (e i x y).2]; exact k.2 i x y⟩
def crq (p : Int) (S S' : Int → Int) : Prop := ∀ j, (j < 9 + 17 * p ∨ 9 + 17 * p + 17 ≤ j) → S' j = S j
theorem crq.o {p r : Int} {S S' : Int → Int} (h : crq p S S') (hr : r ≠ p) : cc S' r = cc S r ∧ ∀ i, 0 ≤ i → i < 8 → cp S' r i = cp S r i ∧ cq S' r i = cq S r i := by
  refine ⟨h _ (by omega), fun i a b => ⟨h _ (by omega), h _ (by omega)⟩⟩
theorem WF_cur {p : Int} {S S' : Int → Int} {g : Nat → Int → Int} {c : Int} (hp : 0 ≤ p ∧ p < 7) (h : crq p S S') (hw : wfC (cc S' p) (cp S' p) (cq S' p)) (w : WF S g c) : WF S' g c := by
  have e : ∀ j, j < 9 → S' j = S j := fun j a => h j (by omega)
  obtain ⟨⟨a0, a2⟩, b, d, ws⟩ := w.1
  refine w.of_nq (fun j a b => h j (by omega)) (e 8 (by decide)) ⟨⟨?_, ?_⟩, fun j x y => ?_, ?_, fun r x y => ?_⟩
  · rw [e 0 (by decide), e 1 (by decide)]; exact a0
  · rw [e 2 (by decide), e 3 (by decide), e 4 (by decide)]; exact a2
  · rw [e (5 + j) (by omega)]; exact b j x y
  · rw [e 8 (by decide)]; exact d
  · by_cases er : r = p
    · rw [er]; exact hw
    · have := h.o er
      have w2 := ws r x y
      rw [this.1]
      exact wfC_cg w2 (fun i u v => this.2 i u (by have := w2.1; omega))
theorem CS_cur {p : Int} {F F' : Nat → Int → Int} {A : Nat} {S S' : Int → Int} {g : Nat → Int → Int} {c : Int} (hp : 0 ≤ p ∧ p < 7) (h : crq p S S') (w : WF S g c) (f : fr (A + 31 + 3 * p.toNat) (A + 31 + 3 * p.toNat + 2) F F') (cs : CS F A S g) (k : CC F' (A + 31 + 3 * p.toNat) (cc S' p) (cp S' p) (cq S' p)) : CS F' A S' g := by
  refine cs.of_nq (fun j a b => h j (by omega)) (fun b j x y => f _ _ (by omega)) (fun j x y => ?_) (fun j x y => ?_) (fun r x y => ?_)
  · rw [f _ _ (by omega), h j (by omega)]; exact cs.1 j x y
  · rw [f _ _ (by omega), h (5 + j) (by omega)]; exact cs.2.1 j x y
  · by_cases er : r = p
    · rw [er]; exact k
    · have := h.o er
      rw [this.1]
      exact CC_cg ((cs.2.2.1 r x y).keep fun b j u v => f _ _ (by omega)) (fun i u v => this.2 i u (by have := (w.1.2.2.2 r x y).1; omega))
def rIns (S : Int → Int) (p i u v : Int) : Int → Int := fun j => if j = 9 + 17 * p then S j + 1 else if j = 9 + 17 * p + 1 + 2 * i then u else if j = 9 + 17 * p + 2 + 2 * i then v else if 9 + 17 * p + 2 + 2 * i < j ∧ j ≤ 9 + 17 * p + 2 + 2 * cc S p then S (j - 2) else S j
def rDel (S : Int → Int) (p i : Int) : Int → Int := fun j => if j = 9 + 17 * p then S j - 1 else if 9 + 17 * p + 1 + 2 * i ≤ j ∧ j ≤ 9 + 17 * p + 2 * (cc S p - 1) then S (j + 2) else S j
def rSim (S : Int → Int) (p : Int) : Int → Int := fun j => if j = 9 + 17 * p then 4 else if 9 + 17 * p < j ∧ j ≤ 9 + 17 * p + 8 then (if (j - (9 + 17 * p)) % 2 = 1 then 85 * ((j - (9 + 17 * p) - 1) / 2) else cval (cp S p) (cq S p) (85 * ((j - (9 + 17 * p) - 2) / 2))) else S j
section RR2
variable {S : Int → Int} {p i u v : Int}
theorem rIns_c : cc (rIns S p i u v) p = cc S p + 1 := if_pos rfl
theorem rIns_v {j : Int} (h0 : 0 ≤ j) (h1 : j < cc S p + 1) (hi : 0 ≤ i) : cp (rIns S p i u v) p j = ins (cp S p) i u j ∧ cq (rIns S p i u v) p j = ins (cq S p) i v j := by
  have e : ∀ x, rIns S p i u v x = if x = 9 + 17 * p then S x + 1 else if x = 9 + 17 * p + 1 + 2 * i then u else if x = 9 + 17 * p + 2 + 2 * i then v else if 9 + 17 * p + 2 + 2 * i < x ∧ x ≤ 9 + 17 * p + 2 + 2 * cc S p then S (x - 2) else S x := fun _ => rfl
  constructor
  · show rIns S p i u v (9 + 17 * p + 1 + 2 * j) = if j < i then S (9 + 17 * p + 1 + 2 * j) else if j = i then u else S (9 + 17 * p + 1 + 2 * (j - 1))
    rw [e, if_neg (by omega)]
    by_cases a : j = i
    · rw [if_pos (by omega), if_neg (by omega), if_pos a]
    · rw [if_neg (by omega), if_neg (by omega)]
      by_cases b : j < i
      · rw [if_neg (by omega), if_pos b]
      · rw [if_pos (by omega), if_neg b, if_neg a]
        congr 1
        omega
  · show rIns S p i u v (9 + 17 * p + 2 + 2 * j) = if j < i then S (9 + 17 * p + 2 + 2 * j) else if j = i then v else S (9 + 17 * p + 2 + 2 * (j - 1))
    rw [e, if_neg (by omega), if_neg (by omega)]
    by_cases a : j = i
    · rw [if_pos (by omega), if_neg (by omega), if_pos a]
    · rw [if_neg (by omega)]
      by_cases b : j < i
      · rw [if_neg (by omega), if_pos b]
      · rw [if_pos (by omega), if_neg b, if_neg a]
        congr 1
        omega
theorem rIns_q (hc : cc S p < 8) (h0 : 0 ≤ i) (h1 : i < 8) : crq p S (rIns S p i u v) := fun j h => by
  show (if j = 9 + 17 * p then S j + 1 else if j = 9 + 17 * p + 1 + 2 * i then u else if j = 9 + 17 * p + 2 + 2 * i then v else if 9 + 17 * p + 2 + 2 * i < j ∧ j ≤ 9 + 17 * p + 2 + 2 * cc S p then S (j - 2) else S j) = _
  rw [if_neg (by omega), if_neg (by omega), if_neg (by omega), if_neg (by omega)]
theorem rDel_c : cc (rDel S p i) p = cc S p - 1 := if_pos rfl
theorem rDel_v {j : Int} (h0 : 0 ≤ j) (h1 : j < cc S p - 1) (hi : 0 ≤ i) : cp (rDel S p i) p j = del (cp S p) i j ∧ cq (rDel S p i) p j = del (cq S p) i j := by
  have e : ∀ x, rDel S p i x = if x = 9 + 17 * p then S x - 1 else if 9 + 17 * p + 1 + 2 * i ≤ x ∧ x ≤ 9 + 17 * p + 2 * (cc S p - 1) then S (x + 2) else S x := fun _ => rfl
  constructor
  · show rDel S p i (9 + 17 * p + 1 + 2 * j) = if j < i then S (9 + 17 * p + 1 + 2 * j) else S (9 + 17 * p + 1 + 2 * (j + 1))
    rw [e, if_neg (by omega)]
    by_cases b : j < i
    · rw [if_neg (by omega), if_pos b]
    · rw [if_pos (by omega), if_neg b]
      congr 1
      omega
  · show rDel S p i (9 + 17 * p + 2 + 2 * j) = if j < i then S (9 + 17 * p + 2 + 2 * j) else S (9 + 17 * p + 2 + 2 * (j + 1))
    rw [e, if_neg (by omega)]
    by_cases b : j < i
    · rw [if_neg (by omega), if_pos b]
    · rw [if_pos (by omega), if_neg b]
      congr 1
      omega
theorem rDel_q (hc : cc S p ≤ 8) (h0 : 0 ≤ i) : crq p S (rDel S p i) := fun j h => by
  show (if j = 9 + 17 * p then S j - 1 else if 9 + 17 * p + 1 + 2 * i ≤ j ∧ j ≤ 9 + 17 * p + 2 * (cc S p - 1) then S (j + 2) else S j) = _
  rw [if_neg (by omega), if_neg (by omega)]
theorem rSim_c : cc (rSim S p) p = 4 := if_pos rfl
theorem rSim_v {j : Int} (h0 : 0 ≤ j) (h1 : j < 4) : cp (rSim S p) p j = stp j ∧ cq (rSim S p) p j = stq (cp S p) (cq S p) j := by
  have e : ∀ x, rSim S p x = if x = 9 + 17 * p then 4 else if 9 + 17 * p < x ∧ x ≤ 9 + 17 * p + 8 then (if (x - (9 + 17 * p)) % 2 = 1 then 85 * ((x - (9 + 17 * p) - 1) / 2) else cval (cp S p) (cq S p) (85 * ((x - (9 + 17 * p) - 2) / 2))) else S x := fun _ => rfl
  constructor
  · show rSim S p (9 + 17 * p + 1 + 2 * j) = 85 * j
    rw [e, if_neg (by omega), if_pos (by omega), if_pos (by omega)]
    congr 1
    omega
  · show rSim S p (9 + 17 * p + 2 + 2 * j) = cval (cp S p) (cq S p) (85 * j)
    rw [e, if_neg (by omega), if_pos (by omega), if_neg (by omega)]
    congr 2
    omega
theorem rSim_q : crq p S (rSim S p) := fun j h => by
  show (if j = 9 + 17 * p then 4 else if 9 + 17 * p < j ∧ j ≤ 9 + 17 * p + 8 then _ else S j) = _
  rw [if_neg (by omega), if_neg (by omega)]
theorem ru_q (h0 : 0 ≤ i) (h1 : i < 8) : crq p S (ru S (9 + 17 * p + 2 + 2 * i) v) := fun j h => ru_n (by omega)
theorem ru_c (h0 : 0 ≤ i) : cc (ru S (9 + 17 * p + 2 + 2 * i) v) p = cc S p := ru_n (by omega)
theorem ru_pv {j : Int} (h0 : 0 ≤ i) : cp (ru S (9 + 17 * p + 2 + 2 * i) v) p j = cp S p j ∧ cq (ru S (9 + 17 * p + 2 + 2 * i) v) p j = put1 (cq S p) i v j := by
  refine ⟨ru_n (by omega), ?_⟩
  show (if 9 + 17 * p + 2 + 2 * j = 9 + 17 * p + 2 + 2 * i then v else _) = if j = i then v else S (9 + 17 * p + 2 + 2 * j)
  by_cases e : j = i
  · rw [if_pos (by omega), if_pos e]
  · rw [if_neg (by omega), if_neg e]
end RR2
def pl (S : Int → Int) (p u : Int) : Int := ffi (fun i => u ≤ cp S p i) (cc S p)
theorem pl_ok {S : Int → Int} {p u : Int} (w : wfC (cc S p) (cp S p) (cq S p)) (hu : u ≤ 255) : plc (cc S p) (cp S p) u (pl S p u) := by
  obtain ⟨i, h0, h1, h2, h3⟩ := c_place w hu
  have : pl S p u = i := ffi_f h0 h1 h3 (fun c a b => by have := h2 c a b; omega)
  rw [this]
  exact ⟨⟨h0, h1⟩, h2, h3⟩
