/-! one row an instruction, over the small machine -/
theorem InR.to {x : Int} (h : InR x) : (Int32.ofInt x).toInt = x := Int32.toInt_ofInt_of_le (by omega) (by omega)
theorem z_eq {a b : Int} (ha : InR a) (hb : InR b) : Int32.ofInt a = Int32.ofInt b ↔ a = b := by
  rw [← Int32.toInt_inj, ha.to, hb.to]
theorem z_lt {a b : Int} (ha : InR a) (hb : InR b) : Int32.ofInt a < Int32.ofInt b ↔ a < b := by
  rw [Int32.lt_iff_toInt_lt, ha.to, hb.to]
theorem z_le {a b : Int} (ha : InR a) (hb : InR b) : Int32.ofInt a ≤ Int32.ofInt b ↔ a ≤ b := by
  rw [Int32.le_iff_toInt_le, ha.to, hb.to]
theorem z_in0 : InR 0 := ⟨by decide, by decide⟩
theorem z_0 : (0 : Int32) = Int32.ofInt 0 := by decide
theorem z_clamp {i : Int} (h0 : 0 ≤ i) (h1 : i < 2147483648) : (Int32.ofInt i).toNatClampNeg = i.toNat := Int32.toNatClampNeg_ofInt_of_le (by omega) (by omega)
theorem z_vpin {i : Int} {n : Nat} (h0 : 0 ≤ i) (h1 : i < (n : Int)) (hn : n < 2147483648) : ¬ (Int32.ofInt i < 0 ∨ n ≤ (Int32.ofInt i).toNatClampNeg) := by
  rw [z_clamp h0 (by omega)]
  rintro (h | h)
  · rw [z_0, z_lt ⟨by omega, by omega⟩ z_in0] at h
    omega
  · omega
def cLt (a b : Int) (A B : Prop) : Prop := (InR a ∧ InR b) ∧ (a < b → A) ∧ (¬ a < b → B)
def cLe (a b : Int) (A B : Prop) : Prop := (InR a ∧ InR b) ∧ (a ≤ b → A) ∧ (¬ a ≤ b → B)
def cEq (a b : Int) (A B : Prop) : Prop := (InR a ∧ InR b) ∧ (a = b → A) ∧ (¬ a = b → B)
def cDiv (a b : Int) (Q : Int → Prop) : Prop := InR a ∧ (0 < b ∧ b ≤ 2147483647) ∧ Q (a.tdiv b)
def cRem (a b : Int) (Q : Int → Prop) : Prop := InR a ∧ (0 < b ∧ b ≤ 2147483647) ∧ Q (a.tmod b)
def cAnd (a n : Int) (Q : Int → Prop) : Prop := InR a ∧ Q (a % n)
def cShr (a n : Int) (Q : Int → Prop) : Prop := InR a ∧ Q (a / n)
def cXor (a b : Int) (Q : Int → Prop) : Prop := (InR a ∧ InR b) ∧ ∀ w : Int, InR w → (w < 0 ↔ ¬ (a < 0 ↔ b < 0)) → Q w
def cLd (h : Zm) (t a : Nat) (i : Int) (Q : Int → Prop) : Prop := ((zkd h a).1 = t ∧ 0 ≤ i ∧ i < ((zkd h a).2 : Int)) ∧ (InR (zI h a i) → Q (zI h a i))
def cSt (h : Zm) (a : Nat) (i v : Int) (Q : Zm → Prop) : Prop := ((zkd h a).1 = 1 ∧ 0 ≤ i ∧ i < ((zkd h a).2 : Int)) ∧ InR v ∧ Q (zsI h a i v)
def cStZ (h : Zm) (a : Nat) (i v : Int) (Q : Zm → Prop) : Prop := ((zkd h a).1 = 2 ∧ 0 ≤ i ∧ i < ((zkd h a).2 : Int)) ∧ (v = 0 ∨ v = 1) ∧ Q (zsI h a i v)
def cLdR (h : Zm) (a : Nat) (i : Int) (Q : Nat → Prop) : Prop := ((4 ≤ (zkd h a).1 ∧ (zkd h a).1 ≤ 7) ∧ 0 ≤ i ∧ i < ((zkd h a).2 : Int)) ∧ Q (zR h a i)
def cStR (h : Zm) (t d a : Nat) (i : Int) (v : Nat) (Q : Zm → Prop) : Prop := ((zkd h a).1 = t ∧ 0 ≤ i ∧ i < ((zkd h a).2 : Int)) ∧ (zkd h v).1 = d ∧ Q (zsR h a i v)
def cLen (h : Zm) (a : Nat) (Q : Int → Prop) : Prop := ((zkd h a).1 = 1 ∨ (zkd h a).1 = 2) ∧ Q ((zkd h a).2 : Int)
def cGi (h : Zm) (d a : Nat) (k : Int) (Q : Int → Prop) : Prop := (zkd h a).1 = d ∧ (InR (zI h a k) → Q (zI h a k))
def cGr (h : Zm) (d a : Nat) (k : Int) (Q : Nat → Prop) : Prop := (zkd h a).1 = d ∧ Q (zR h a k)
def cPi (h : Zm) (d a : Nat) (k v : Int) (Q : Zm → Prop) : Prop := (zkd h a).1 = d ∧ InR v ∧ Q (zsI h a k v)
def cPr (h : Zm) (d a : Nat) (k : Int) (v : Nat) (Q : Zm → Prop) : Prop := (zkd h a).1 = d ∧ Q (zsR h a k v)
def cRc (h : Zm) (d a : Nat) (P : Prop) : Prop := (zkd h a).1 = d ∧ P
def cNw (h : Zm) (t n : Nat) (Q : Nat → Zm → Prop) : Prop := Q h.1.2 (zal h t n)
def cBr (v : Int) (P : Prop) : Prop := (v = 0 ∨ v = 1) ∧ P
section ZO
variable {p : Program} {l : Launch} {e : Env} {R : Room} {s : State} {m : MethodId} {args : Array Value} {below : List Frame} {meth : Method} {c : Code} {D : Zd} {base nL : Nat} {Qf : State → Prop} {cells slots pc : Nat} {ρ : List (Option Zv)} {st : List Zv} {h : Zm} {cc : ByteArray} {own : String} {ret : Option FieldType}
theorem z_iinc (hc : zOk p s m args meth c D cc nL own ret) {i : Nat} {n x : Int} (hd : decode cc pc = .ok (.iinc i n, 3)) (hi : i < nL) (hx : ρ[i]? = some (some (.inl x))) {ρ' : List (Option Zv)} (hρ : ρ.set i (some (.inl (x + n))) = ρ') (hp : zpv ρ i = true) (k : zW p l e R s m args below meth c D base nL Qf cells slots (pc + 3) ρ' st h) : zW p l e R s m args below meth c D base nL Qf cells slots pc ρ st h := by
  intro H locs ls h1 h2 h3 h4
  have hm : (i, zen (.inl x)) ∈ zl ρ := zl_mem.mpr ⟨_, hx, rfl⟩
  obtain ⟨j, hj⟩ := List.getElem?_of_mem hm
  refine lv_iinc (k := j) (x := Int32.ofInt x) (v := Int32.ofInt (x + n)) hc.1 hc.2.1 hd h4.has hj (Int32.ofInt_add x n).symm hi rfl (fun ls' h' => k H locs ls' h1 h2 h3 (hρ ▸ zL.stored hp (v := .inl (x + n)) h'))
theorem z_iadd (hc : zOk p s m args meth c D cc nL own ret) {x y : Int} (hd : decode cc pc = .ok (.iadd, 1)) (k : zW p l e R s m args below meth c D base nL Qf cells slots (pc + 1) ρ (.inl (x + y) :: st) h) : zW p l e R s m args below meth c D base nL Qf cells slots pc ρ (.inl y :: .inl x :: st) h :=
  fun H locs ls h1 h2 h3 h4 => lv_iadd hc.1 hc.2.1 hd (by rw [← Int32.ofInt_add]; exact k H locs ls h1 h2 h3 h4)
theorem z_isub (hc : zOk p s m args meth c D cc nL own ret) {x y : Int} (hd : decode cc pc = .ok (.isub, 1)) (k : zW p l e R s m args below meth c D base nL Qf cells slots (pc + 1) ρ (.inl (x - y) :: st) h) : zW p l e R s m args below meth c D base nL Qf cells slots pc ρ (.inl y :: .inl x :: st) h :=
  fun H locs ls h1 h2 h3 h4 => lv_isub hc.1 hc.2.1 hd (by rw [← Int32.ofInt_sub]; exact k H locs ls h1 h2 h3 h4)
theorem z_imul (hc : zOk p s m args meth c D cc nL own ret) {x y : Int} (hd : decode cc pc = .ok (.imul, 1)) (k : zW p l e R s m args below meth c D base nL Qf cells slots (pc + 1) ρ (.inl (x * y) :: st) h) : zW p l e R s m args below meth c D base nL Qf cells slots pc ρ (.inl y :: .inl x :: st) h :=
  fun H locs ls h1 h2 h3 h4 => lv_imul hc.1 hc.2.1 hd (by rw [← Int32.ofInt_mul]; exact k H locs ls h1 h2 h3 h4)
theorem z_ineg (hc : zOk p s m args meth c D cc nL own ret) {x : Int} (hd : decode cc pc = .ok (.ineg, 1)) (k : zW p l e R s m args below meth c D base nL Qf cells slots (pc + 1) ρ (.inl (-x) :: st) h) : zW p l e R s m args below meth c D base nL Qf cells slots pc ρ (.inl x :: st) h :=
  fun H locs ls h1 h2 h3 h4 => lv_ineg hc.1 hc.2.1 hd (by rw [← Int32.ofInt_neg]; exact k H locs ls h1 h2 h3 h4)
theorem z_pos_ne {y : Int} (h : 0 < y ∧ y ≤ 2147483647) : ¬ Int32.ofInt y = 0 := by
  rw [z_0, z_eq ⟨by omega, by omega⟩ z_in0]
  omega
theorem z_divI {x y : Int} (hx : InR x) (hy : 0 < y ∧ y ≤ 2147483647) : Int32.ofInt x / Int32.ofInt y = Int32.ofInt (x.tdiv y) := by
  have hY : InR y := ⟨by omega, by omega⟩
  have hn : Int32.ofInt y ≠ -1 := by
    intro q
    have := hY.to
    rw [q] at this
    rw [show (-1 : Int32).toInt = -1 from by decide] at this
    omega
  have h1 := Int32.toInt_div_of_ne_right (Int32.ofInt x) (Int32.ofInt y) hn
  rw [hx.to, hY.to] at h1
  rw [← h1, Int32.ofInt_toInt]
theorem z_remI {x y : Int} (hx : InR x) (hy : 0 < y ∧ y ≤ 2147483647) : Int32.ofInt x - Int32.ofInt x / Int32.ofInt y * Int32.ofInt y = Int32.ofInt (x.tmod y) := by
  have hY : InR y := ⟨by omega, by omega⟩
  have h1 := rem_toInt (Int32.ofInt x) (Int32.ofInt y)
  rw [hx.to, hY.to] at h1
  rw [← h1, Int32.ofInt_toInt]
theorem z_idiv (hc : zOk p s m args meth c D cc nL own ret) {x y : Int} {Q : Int → Prop} (hd : decode cc pc = .ok (.idiv, 1)) (H : cDiv x y Q) (k : ∀ v : Int, Q v → zW p l e R s m args below meth c D base nL Qf cells slots (pc + 1) ρ (.inl v :: st) h) : zW p l e R s m args below meth c D base nL Qf cells slots pc ρ (.inl y :: .inl x :: st) h :=
  fun Hp locs ls h1 h2 h3 h4 => lv_idiv hc.1 hc.2.1 hd (z_pos_ne H.2.1) (by rw [z_divI H.1 H.2.1]; exact k _ H.2.2 Hp locs ls h1 h2 h3 h4)
theorem z_irem (hc : zOk p s m args meth c D cc nL own ret) {x y : Int} {Q : Int → Prop} (hd : decode cc pc = .ok (.irem, 1)) (H : cRem x y Q) (k : ∀ v : Int, Q v → zW p l e R s m args below meth c D base nL Qf cells slots (pc + 1) ρ (.inl v :: st) h) : zW p l e R s m args below meth c D base nL Qf cells slots pc ρ (.inl y :: .inl x :: st) h :=
  fun Hp locs ls h1 h2 h3 h4 => lv_irem hc.1 hc.2.1 hd (z_pos_ne H.2.1) (by rw [z_remI H.1 H.2.1]; exact k _ H.2.2 Hp locs ls h1 h2 h3 h4)
theorem z_andI {x : Int} {m0 : Int} (k : Nat) (hk : k ≤ 31) (hx : InR x) (hm : (Int32.ofInt m0).toBitVec.toNat = 2 ^ k - 1) : Int32.ofInt x &&& Int32.ofInt m0 = Int32.ofInt (x % (2 ^ k : Nat)) := by
  rw [pk_and _ k hm]
  have h1 : ((Int32.ofInt x).toBitVec.toNat : Int) % (2 ^ k : Nat) = x % (2 ^ k : Nat) := by
    have h2 : (Int32.ofInt x).toBitVec.toInt = x := by rw [Int32.toInt_toBitVec]; exact hx.to
    rw [BitVec.toInt_eq_toNat_cond] at h2
    have hdvd : ((2 ^ k : Nat) : Int) ∣ ((2 ^ 32 : Nat) : Int) := by
      refine Int.ofNat_dvd.mpr (Nat.pow_dvd_pow 2 (by omega))
    generalize (Int32.ofInt x).toBitVec.toNat = w at h2 ⊢
    split at h2
    · rw [h2]
    · rw [← h2]
      obtain ⟨q, hq⟩ := hdvd
      rw [hq, Int.sub_mul_emod_self_left]
  have h3 : x % (2 ^ k : Nat) = (((Int32.ofInt x).toBitVec.toNat % 2 ^ k : Nat) : Int) := by
    rw [← h1]
    rfl
  rw [h3, Int32.ofInt_eq_ofNat]
  rfl
theorem z_iand (hc : zOk p s m args meth c D cc nL own ret) {x m0 n : Int} {Q : Int → Prop} (k0 : Nat) (hk : k0 ≤ 31) (hn : n = ((2 ^ k0 : Nat) : Int)) (hm : (Int32.ofInt m0).toBitVec.toNat = 2 ^ k0 - 1) (hd : decode cc pc = .ok (.iand, 1)) (H : cAnd x n Q) (k : ∀ v : Int, Q v → zW p l e R s m args below meth c D base nL Qf cells slots (pc + 1) ρ (.inl v :: st) h) : zW p l e R s m args below meth c D base nL Qf cells slots pc ρ (.inl m0 :: .inl x :: st) h := by
  subst hn
  exact fun Hp locs ls h1 h2 h3 h4 => lv_iand hc.1 hc.2.1 hd (by rw [z_andI k0 hk H.1 hm]; exact k _ H.2 Hp locs ls h1 h2 h3 h4)
theorem z_shrI {x sh : Int} (k : Nat) (hx : InR x) (hs : ((Int32.ofInt sh &&& 31).toBitVec.smod 32).toNat = k) : Int32.ofInt x >>> (Int32.ofInt sh &&& 31) = Int32.ofInt (x / ((2 ^ k : Nat) : Int)) := by
  have h1 := pk_shr (Int32.ofInt x) (Int32.ofInt sh &&& 31) k hs
  rw [hx.to, Int.shiftRight_eq_div_pow] at h1
  rw [← h1, Int32.ofInt_toInt]
theorem z_ishr (hc : zOk p s m args meth c D cc nL own ret) {x sh n : Int} {Q : Int → Prop} (k0 : Nat) (hn : n = ((2 ^ k0 : Nat) : Int)) (hs : ((Int32.ofInt sh &&& 31).toBitVec.smod 32).toNat = k0) (hd : decode cc pc = .ok (.ishr, 1)) (H : cShr x n Q) (k : ∀ v : Int, Q v → zW p l e R s m args below meth c D base nL Qf cells slots (pc + 1) ρ (.inl v :: st) h) : zW p l e R s m args below meth c D base nL Qf cells slots pc ρ (.inl sh :: .inl x :: st) h := by
  subst hn
  exact fun Hp locs ls h1 h2 h3 h4 => lv_ishr hc.1 hc.2.1 hd (by rw [z_shrI k0 H.1 hs]; exact k _ H.2 Hp locs ls h1 h2 h3 h4)
theorem z_ixor (hc : zOk p s m args meth c D cc nL own ret) {x y : Int} {Q : Int → Prop} (hd : decode cc pc = .ok (.ixor, 1)) (H : cXor x y Q) (k : ∀ w, Q w → zW p l e R s m args below meth c D base nL Qf cells slots (pc + 1) ρ (.inl w :: st) h) : zW p l e R s m args below meth c D base nL Qf cells slots pc ρ (.inl y :: .inl x :: st) h := by
  intro Hp locs ls h1 h2 h3 h4
  refine lv_ixor hc.1 hc.2.1 hd ?_
  have h5 : Int32.ofInt x ^^^ Int32.ofInt y = Int32.ofInt (Int32.ofInt x ^^^ Int32.ofInt y).toInt := (Int32.ofInt_toInt _).symm
  rw [h5]
  refine k _ (H.2 _ ⟨by have := Int32.le_toInt (Int32.ofInt x ^^^ Int32.ofInt y); omega, by have := Int32.toInt_lt (Int32.ofInt x ^^^ Int32.ofInt y); omega⟩ ?_) Hp locs ls h1 h2 h3 h4
  have key : ∀ z : Int32, z.toInt < 0 ↔ z.toBitVec.msb = true := fun z => by
    rw [← Int32.toInt_toBitVec, BitVec.msb_eq_toInt]
    simp
  have hx : x < 0 ↔ (Int32.ofInt x).toBitVec.msb = true := by rw [← key, H.1.1.to]
  have hy : y < 0 ↔ (Int32.ofInt y).toBitVec.msb = true := by rw [← key, H.1.2.to]
  rw [key, hx, hy, Int32.toBitVec_xor, BitVec.msb_xor]
  cases (Int32.ofInt x).toBitVec.msb <;> cases (Int32.ofInt y).toBitVec.msb <;> simp
theorem z_dup (hc : zOk p s m args meth c D cc nL own ret) {x : Zv} (hd : decode cc pc = .ok (.dup, 1)) (hz : zc x = 1) (k : zW p l e R s m args below meth c D base nL Qf cells slots (pc + 1) ρ (x :: x :: st) h) : zW p l e R s m args below meth c D base nL Qf cells slots pc ρ (x :: st) h :=
  fun H locs ls h1 h2 h3 h4 => lv_dup hc.1 hc.2.1 hd ((zen_cat x).trans hz) (k H locs ls h1 h2 h3 h4)
theorem z_dup2 (hc : zOk p s m args meth c D cc nL own ret) {x y : Zv} (hd : decode cc pc = .ok (.dup2, 1)) (hz : zc x = 1) (hz2 : zc y = 1) (k : zW p l e R s m args below meth c D base nL Qf cells slots (pc + 1) ρ (x :: y :: x :: y :: st) h) : zW p l e R s m args below meth c D base nL Qf cells slots pc ρ (x :: y :: st) h :=
  fun H locs ls h1 h2 h3 h4 => lv_dup2_11 hc.1 hc.2.1 hd ((zen_cat x).trans hz) ((zen_cat y).trans hz2) (k H locs ls h1 h2 h3 h4)
theorem z_goto (hc : zOk p s m args meth c D cc nL own ret) {off : Int} {tgt : Nat} (hd : decode cc pc = .ok (.goto off, 3)) (ht : (pc : Int) + off = (tgt : Int)) (k : zW p l e R s m args below meth c D base nL Qf cells slots tgt ρ st h) : zW p l e R s m args below meth c D base nL Qf cells slots pc ρ st h :=
  fun H locs ls h1 h2 h3 h4 => lv_goto hc.1 hc.2.1 hd ht (k H locs ls h1 h2 h3 h4)
section ZB
variable {x y off : Int} {tgt : Nat} {A B : Prop}
theorem z_icmp_lt (hc : zOk p s m args meth c D cc nL own ret) (hd : decode cc pc = .ok (.if_icmp .lt off, 3)) (ht : (pc : Int) + off = (tgt : Int)) (H : cLt x y A B) (kt : A → zW p l e R s m args below meth c D base nL Qf cells slots tgt ρ st h) (kf : B → zW p l e R s m args below meth c D base nL Qf cells slots (pc + 3) ρ st h) : zW p l e R s m args below meth c D base nL Qf cells slots pc ρ (.inl y :: .inl x :: st) h :=
  fun Hp locs ls h1 h2 h3 h4 => lv_icmp_lt hc.1 hc.2.1 hd ht (fun q => kt (H.2.1 ((z_lt H.1.1 H.1.2).mp q)) Hp locs ls h1 h2 h3 h4) (fun q => kf (H.2.2 (fun z => q ((z_lt H.1.1 H.1.2).mpr z))) Hp locs ls h1 h2 h3 h4)
theorem z_icmp_ge (hc : zOk p s m args meth c D cc nL own ret) (hd : decode cc pc = .ok (.if_icmp .ge off, 3)) (ht : (pc : Int) + off = (tgt : Int)) (H : cLt x y A B) (kt : A → zW p l e R s m args below meth c D base nL Qf cells slots (pc + 3) ρ st h) (kf : B → zW p l e R s m args below meth c D base nL Qf cells slots tgt ρ st h) : zW p l e R s m args below meth c D base nL Qf cells slots pc ρ (.inl y :: .inl x :: st) h :=
  fun Hp locs ls h1 h2 h3 h4 => lv_icmp_ge hc.1 hc.2.1 hd ht (fun q => kf (H.2.2 (fun z => by have q2 : Int32.ofInt y ≤ Int32.ofInt x := q; rw [z_le H.1.2 H.1.1] at q2; omega)) Hp locs ls h1 h2 h3 h4) (fun q => kt (H.2.1 (by have q2 : ¬ Int32.ofInt y ≤ Int32.ofInt x := q; rw [z_le H.1.2 H.1.1] at q2; omega)) Hp locs ls h1 h2 h3 h4)
theorem z_icmp_le (hc : zOk p s m args meth c D cc nL own ret) (hd : decode cc pc = .ok (.if_icmp .le off, 3)) (ht : (pc : Int) + off = (tgt : Int)) (H : cLe x y A B) (kt : A → zW p l e R s m args below meth c D base nL Qf cells slots tgt ρ st h) (kf : B → zW p l e R s m args below meth c D base nL Qf cells slots (pc + 3) ρ st h) : zW p l e R s m args below meth c D base nL Qf cells slots pc ρ (.inl y :: .inl x :: st) h :=
  fun Hp locs ls h1 h2 h3 h4 => lv_icmp_le hc.1 hc.2.1 hd ht (fun q => kt (H.2.1 ((z_le H.1.1 H.1.2).mp q)) Hp locs ls h1 h2 h3 h4) (fun q => kf (H.2.2 (fun z => q ((z_le H.1.1 H.1.2).mpr z))) Hp locs ls h1 h2 h3 h4)
theorem z_icmp_gt (hc : zOk p s m args meth c D cc nL own ret) (hd : decode cc pc = .ok (.if_icmp .gt off, 3)) (ht : (pc : Int) + off = (tgt : Int)) (H : cLe x y A B) (kt : A → zW p l e R s m args below meth c D base nL Qf cells slots (pc + 3) ρ st h) (kf : B → zW p l e R s m args below meth c D base nL Qf cells slots tgt ρ st h) : zW p l e R s m args below meth c D base nL Qf cells slots pc ρ (.inl y :: .inl x :: st) h :=
  fun Hp locs ls h1 h2 h3 h4 => lv_icmp_gt hc.1 hc.2.1 hd ht (fun q => kf (H.2.2 (fun z => by have q2 : Int32.ofInt y < Int32.ofInt x := q; rw [z_lt H.1.2 H.1.1] at q2; omega)) Hp locs ls h1 h2 h3 h4) (fun q => kt (H.2.1 (by have q2 : ¬ Int32.ofInt y < Int32.ofInt x := q; rw [z_lt H.1.2 H.1.1] at q2; omega)) Hp locs ls h1 h2 h3 h4)
theorem z_icmp_eq (hc : zOk p s m args meth c D cc nL own ret) (hd : decode cc pc = .ok (.if_icmp .eq off, 3)) (ht : (pc : Int) + off = (tgt : Int)) (H : cEq x y A B) (kt : A → zW p l e R s m args below meth c D base nL Qf cells slots tgt ρ st h) (kf : B → zW p l e R s m args below meth c D base nL Qf cells slots (pc + 3) ρ st h) : zW p l e R s m args below meth c D base nL Qf cells slots pc ρ (.inl y :: .inl x :: st) h :=
  fun Hp locs ls h1 h2 h3 h4 => lv_icmp_eq hc.1 hc.2.1 hd ht (fun q => kt (H.2.1 ((z_eq H.1.1 H.1.2).mp q)) Hp locs ls h1 h2 h3 h4) (fun q => kf (H.2.2 (fun z => q ((z_eq H.1.1 H.1.2).mpr z))) Hp locs ls h1 h2 h3 h4)
theorem z_icmp_ne (hc : zOk p s m args meth c D cc nL own ret) (hd : decode cc pc = .ok (.if_icmp .ne off, 3)) (ht : (pc : Int) + off = (tgt : Int)) (H : cEq x y A B) (kt : A → zW p l e R s m args below meth c D base nL Qf cells slots (pc + 3) ρ st h) (kf : B → zW p l e R s m args below meth c D base nL Qf cells slots tgt ρ st h) : zW p l e R s m args below meth c D base nL Qf cells slots pc ρ (.inl y :: .inl x :: st) h :=
  fun Hp locs ls h1 h2 h3 h4 => lv_icmp_ne hc.1 hc.2.1 hd ht (fun q => kf (H.2.2 (fun z => q ((z_eq H.1.1 H.1.2).mpr z))) Hp locs ls h1 h2 h3 h4) (fun q => kt (H.2.1 ((z_eq H.1.1 H.1.2).mp q)) Hp locs ls h1 h2 h3 h4)
theorem z_if_lt (hc : zOk p s m args meth c D cc nL own ret) (hd : decode cc pc = .ok (.ifCond .lt off, 3)) (ht : (pc : Int) + off = (tgt : Int)) (H : cLt x 0 A B) (kt : A → zW p l e R s m args below meth c D base nL Qf cells slots tgt ρ st h) (kf : B → zW p l e R s m args below meth c D base nL Qf cells slots (pc + 3) ρ st h) : zW p l e R s m args below meth c D base nL Qf cells slots pc ρ (.inl x :: st) h :=
  fun Hp locs ls h1 h2 h3 h4 => lv_if_lt hc.1 hc.2.1 hd ht (fun q => kt (H.2.1 ((z_lt H.1.1 H.1.2).mp (z_0 ▸ q))) Hp locs ls h1 h2 h3 h4) (fun q => kf (H.2.2 (fun z => q (z_0.symm ▸ (z_lt H.1.1 H.1.2).mpr z))) Hp locs ls h1 h2 h3 h4)
theorem z_if_ge (hc : zOk p s m args meth c D cc nL own ret) (hd : decode cc pc = .ok (.ifCond .ge off, 3)) (ht : (pc : Int) + off = (tgt : Int)) (H : cLt x 0 A B) (kt : A → zW p l e R s m args below meth c D base nL Qf cells slots (pc + 3) ρ st h) (kf : B → zW p l e R s m args below meth c D base nL Qf cells slots tgt ρ st h) : zW p l e R s m args below meth c D base nL Qf cells slots pc ρ (.inl x :: st) h :=
  fun Hp locs ls h1 h2 h3 h4 => lv_if_ge hc.1 hc.2.1 hd ht (fun q => kf (H.2.2 (fun z => by have q2 : (0 : Int32) ≤ Int32.ofInt x := q; rw [z_0, z_le H.1.2 H.1.1] at q2; omega)) Hp locs ls h1 h2 h3 h4) (fun q => kt (H.2.1 (by have q2 : ¬ (0 : Int32) ≤ Int32.ofInt x := q; rw [z_0, z_le H.1.2 H.1.1] at q2; omega)) Hp locs ls h1 h2 h3 h4)
theorem z_if_le (hc : zOk p s m args meth c D cc nL own ret) (hd : decode cc pc = .ok (.ifCond .le off, 3)) (ht : (pc : Int) + off = (tgt : Int)) (H : cLe x 0 A B) (kt : A → zW p l e R s m args below meth c D base nL Qf cells slots tgt ρ st h) (kf : B → zW p l e R s m args below meth c D base nL Qf cells slots (pc + 3) ρ st h) : zW p l e R s m args below meth c D base nL Qf cells slots pc ρ (.inl x :: st) h :=
  fun Hp locs ls h1 h2 h3 h4 => lv_if_le hc.1 hc.2.1 hd ht (fun q => kt (H.2.1 ((z_le H.1.1 H.1.2).mp (z_0 ▸ q))) Hp locs ls h1 h2 h3 h4) (fun q => kf (H.2.2 (fun z => q (z_0.symm ▸ (z_le H.1.1 H.1.2).mpr z))) Hp locs ls h1 h2 h3 h4)
theorem z_if_gt (hc : zOk p s m args meth c D cc nL own ret) (hd : decode cc pc = .ok (.ifCond .gt off, 3)) (ht : (pc : Int) + off = (tgt : Int)) (H : cLe x 0 A B) (kt : A → zW p l e R s m args below meth c D base nL Qf cells slots (pc + 3) ρ st h) (kf : B → zW p l e R s m args below meth c D base nL Qf cells slots tgt ρ st h) : zW p l e R s m args below meth c D base nL Qf cells slots pc ρ (.inl x :: st) h :=
  fun Hp locs ls h1 h2 h3 h4 => lv_if_gt hc.1 hc.2.1 hd ht (fun q => kf (H.2.2 (fun z => by have q2 : (0 : Int32) < Int32.ofInt x := q; rw [z_0, z_lt H.1.2 H.1.1] at q2; omega)) Hp locs ls h1 h2 h3 h4) (fun q => kt (H.2.1 (by have q2 : ¬ (0 : Int32) < Int32.ofInt x := q; rw [z_0, z_lt H.1.2 H.1.1] at q2; omega)) Hp locs ls h1 h2 h3 h4)
theorem z_if_eq (hc : zOk p s m args meth c D cc nL own ret) (hd : decode cc pc = .ok (.ifCond .eq off, 3)) (ht : (pc : Int) + off = (tgt : Int)) (H : cEq x 0 A B) (kt : A → zW p l e R s m args below meth c D base nL Qf cells slots tgt ρ st h) (kf : B → zW p l e R s m args below meth c D base nL Qf cells slots (pc + 3) ρ st h) : zW p l e R s m args below meth c D base nL Qf cells slots pc ρ (.inl x :: st) h :=
  fun Hp locs ls h1 h2 h3 h4 => lv_if_eq hc.1 hc.2.1 hd ht (fun q => kt (H.2.1 ((z_eq H.1.1 H.1.2).mp (z_0 ▸ q))) Hp locs ls h1 h2 h3 h4) (fun q => kf (H.2.2 (fun z => q (z_0.symm ▸ (z_eq H.1.1 H.1.2).mpr z))) Hp locs ls h1 h2 h3 h4)
theorem z_if_ne (hc : zOk p s m args meth c D cc nL own ret) (hd : decode cc pc = .ok (.ifCond .ne off, 3)) (ht : (pc : Int) + off = (tgt : Int)) (H : cEq x 0 A B) (kt : A → zW p l e R s m args below meth c D base nL Qf cells slots (pc + 3) ρ st h) (kf : B → zW p l e R s m args below meth c D base nL Qf cells slots tgt ρ st h) : zW p l e R s m args below meth c D base nL Qf cells slots pc ρ (.inl x :: st) h :=
  fun Hp locs ls h1 h2 h3 h4 => lv_if_ne hc.1 hc.2.1 hd ht (fun q => kf (H.2.2 (fun z => q (z_0.symm ▸ (z_eq H.1.1 H.1.2).mpr z))) Hp locs ls h1 h2 h3 h4) (fun q => kt (H.2.1 ((z_eq H.1.1 H.1.2).mp (z_0 ▸ q))) Hp locs ls h1 h2 h3 h4)
theorem z_icmp_geF (hc : zOk p s m args meth c D cc nL own ret) (hd : decode cc pc = .ok (.if_icmp .ge off, 3)) (ht : (pc : Int) + off = (tgt : Int)) (H : cLt x y A B) (kt : x < y → A → zW p l e R s m args below meth c D base nL Qf cells slots (pc + 3) ρ st h) (kf : ¬ x < y → B → zW p l e R s m args below meth c D base nL Qf cells slots tgt ρ st h) : zW p l e R s m args below meth c D base nL Qf cells slots pc ρ (.inl y :: .inl x :: st) h :=
  fun Hp locs ls h1 h2 h3 h4 => lv_icmp_ge hc.1 hc.2.1 hd ht (fun q => by
    have q2 : Int32.ofInt y ≤ Int32.ofInt x := q
    rw [z_le H.1.2 H.1.1] at q2
    have q3 : ¬ x < y := by omega
    exact kf q3 (H.2.2 q3) Hp locs ls h1 h2 h3 h4) (fun q => by
    have q2 : ¬ Int32.ofInt y ≤ Int32.ofInt x := q
    rw [z_le H.1.2 H.1.1] at q2
    have q3 : x < y := by omega
    exact kt q3 (H.2.1 q3) Hp locs ls h1 h2 h3 h4)
end ZB
end ZO
