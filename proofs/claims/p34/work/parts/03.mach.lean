/-! THE SMALL MACHINE: values are whole numbers and references (0: null, k+1: the cell k), the memory is two tables of numbers and of references by address and place, and the kinds of the addresses. zW: the machine at a place of a method, its memory seen so. -/
/-- the tables' words that stay true -/
def zT : List Cond := lw_tbl.filter goodWord
theorem zT_mem {w : Cond} (i : Nat) (h : lw_tbl[i]? = some w) (g : goodWord w = true) : w ∈ zT := List.mem_filter.mpr ⟨List.mem_of_getElem? h, g⟩
theorem zT_0 {w : Cond} (i : Nat) (h : (k2_sels lw_privs)[i]? = some w) (g : goodWord w = true) : w ∈ zT := List.mem_filter.mpr ⟨List.mem_append_left _ (List.mem_of_getElem? h), g⟩
theorem zT_1 {w : Cond} (i : Nat) (h : tables_1_1[i]? = some w) (g : goodWord w = true) : w ∈ zT := List.mem_filter.mpr ⟨List.mem_append_right _ (List.mem_append_left _ (List.mem_of_getElem? h)), g⟩
theorem zT_2 {w : Cond} (i : Nat) (h : tables_1_2[i]? = some w) (g : goodWord w = true) : w ∈ zT := List.mem_filter.mpr ⟨List.mem_append_right _ (List.mem_append_right _ (List.mem_append_left _ (List.mem_of_getElem? h))), g⟩
theorem zT_3 {w : Cond} (i : Nat) (h : tables_1_3[i]? = some w) (g : goodWord w = true) : w ∈ zT := List.mem_filter.mpr ⟨List.mem_append_right _ (List.mem_append_right _ (List.mem_append_right _ (List.mem_of_getElem? h))), g⟩
theorem zT_in {w : Cond} (h : w ∈ zT) : w ∈ lw_tbl := (List.mem_filter.mp h).1
theorem z_good : ∀ w ∈ zT, goodWord w = true := fun _ h => (List.mem_filter.mp h).2
abbrev Zv : Type := Int ⊕ (Nat ⊕ Int)
abbrev Zm : Type := ((Nat → Nat × Nat) × Nat) × ((Nat → Int → Int) × (Nat → Int → Nat))
abbrev Zd : Type := va_G × (Nat → ClassId)
abbrev InR (x : Int) : Prop := -2147483648 ≤ x ∧ x ≤ 2147483647
def zrf (a : Nat) : Value := match a with
  | 0 => .null
  | k + 1 => .ref k
def zen (v : Zv) : Value := match v with
  | .inl x => .int (Int32.ofInt x)
  | .inr (.inl a) => zrf a
  | .inr (.inr x) => .long (Int64.ofInt x)
def zkd (h : Zm) (a : Nat) : Nat × Nat := h.1.1 a
def zI (h : Zm) (a : Nat) (j : Int) : Int := h.2.1 a j
def zR (h : Zm) (a : Nat) (j : Int) : Nat := h.2.2 a j
def zsI (h : Zm) (a : Nat) (j v : Int) : Zm := (h.1, (fun b k => if b = a ∧ k = j then v else h.2.1 b k), h.2.2)
def zsR (h : Zm) (a : Nat) (j : Int) (v : Nat) : Zm := (h.1, h.2.1, (fun b k => if b = a ∧ k = j then v else h.2.2 b k))
/-- a new cell of kind t with n places at the next address: all 0 -/
def zal (h : Zm) (t n : Nat) : Zm := (((fun b => if b = h.1.2 then (t, n) else h.1.1 b), h.1.2 + 1), (fun b k => if b = h.1.2 then 0 else h.2.1 b k), (fun b k => if b = h.1.2 then 0 else h.2.2 b k))
def zty (c : Nat) : Nat → FieldType := match c with
  | 0 => tyX0
  | 1 => tyX1
  | 2 => tyX2
  | 3 => tyX3
  | 4 => tyX4
  | 5 => tyX5
  | 6 => tyX6
  | _ => tyX7
def zN (c : Nat) : Nat := match c with
  | 0 => 3
  | 1 => 2
  | 2 => 18
  | 3 => 3
  | 4 => 8
  | 5 => 4
  | 6 => 8
  | _ => 0
def zaty (t : Nat) : FieldType := match t with
  | 1 => .int
  | 2 => .int
  | 4 => .object RX0
  | 5 => .object RX2
  | 6 => .object RX4
  | _ => .array .int
def zF (c k : Nat) (i : Int) (r : Nat) : Value := if (zty c k).isReference = true then zrf r else .int (Int32.ofInt i)
def zCl (D : Zd) (s : State) (c : Nat) : Prop := ∀ q : vw_C, vwCl[c]? = some q → u_Kn s q.1 q.2.1 q.2.2 (D.1.1 c) (D.1.2 c)
def zKn (D : Zd) (s : State) : Prop := (∀ c : Nat, zCl D s c) ∧ ∀ t : Nat, 1 ≤ t → t ≤ 7 → ArrOfT s (D.2 t) (zaty t) ∧ va_RA s (D.2 t) (zaty t)
/-- the links from one class to another's private methods -/
def zNl : List (String × Nat × MethodName × String) := [(RX5, 42, yX6_within, "SeparationDesk"), (RX2, 73, yX6_within, "SeparationDesk"), (RX3, 88, yX6_within, "SeparationDesk"), (RX3, 134, yX6_sumOf, "SeparationDesk")]
theorem z_aoa {u U : State} (hvm : u.vm.Alike U.vm) (h : (Cond.arrayOver (.array .int)).before #[] u = true) : (Cond.arrayOver (.array .int)).before #[] U = true := by
  have e : (Cond.arrayOver (.array .int)).before #[] U = (Cond.arrayOver (.array .int)).before #[] (u.setVm U.vm) := rfl
  rw [e, Cond.arrayOver_setVmC (args := #[]) (s := u) hvm (.array .int)]
  exact h
def zAoc : List String := [RX0, RX2, RX4]
/-- links from one class to another's private methods, and what the tables say of arrays over our classes -/
def zNs (s : State) : Prop := (∀ q ∈ zNl, va_Nw (.methodLinkNest q.1 q.2.1 q.2.2.1 q.2.2.2) s) ∧ (∀ C ∈ zAoc, va_AO C s) ∧ (Cond.arrayOver (.array .int)).before #[] s = true
theorem zNs.warm {s U : State} (hW : s.WarmedH U.vm) (h : zNs s) : zNs U := ⟨fun q hq => va_Nw.warmM hW (h.1 q hq), fun C hC => va_AO.moved hW.alike (h.2.1 C hC), z_aoa hW.alike h.2.2⟩
theorem zNs.same {s U : State} (hW : s.vm = U.vm) (h : zNs s) : zNs U := ⟨fun q hq => va_Nw.same rfl hW (h.1 q hq), fun C hC => va_AO.moved (by rw [hW]; exact Vm.Alike.refl _) (h.2.1 C hC), z_aoa (by rw [hW]; exact Vm.Alike.refl _) h.2.2⟩
theorem zNl_in : ∀ q ∈ zNl, Cond.methodLinkNest q.1 q.2.1 q.2.2.1 q.2.2.2 ∈ lw_tbl := by
  have h : zNl.map (fun q => Cond.methodLinkNest q.1 q.2.1 q.2.2.1 q.2.2.2) = [329, 334, 354, 390].filterMap (fun i => lw_tbl[i]?) := by decide +kernel
  intro q hq
  have h2 := List.mem_map_of_mem (f := fun q : String × Nat × MethodName × String => Cond.methodLinkNest q.1 q.2.1 q.2.2.1 q.2.2.2) hq
  rw [h] at h2
  obtain ⟨i, -, hi⟩ := List.mem_filterMap.mp h2
  exact List.mem_of_getElem? hi
theorem zKn.moved {D : Zd} {u U : State} (hvm : u.vm.Alike U.vm) (h : zKn D u) : zKn D U := ⟨fun c q hq => u_Kn_moved hvm (h.1 c q hq), fun t h1 h2 => ⟨arrOfT_moved hvm (h.2 t h1 h2).1, (h.2 t h1 h2).2.moved hvm⟩⟩
/-- what the cell behind an address is, by its kind: 1, 2 an array of ints, of booleans; 4 to 7 one of references; 10 + c an object of class c -/
def zAt (D : Zd) (h : Zm) (a : Nat) (H : Heap) : Prop :=
  (((zkd h a).1 = 1 ∨ (zkd h a).1 = 2) → H[a - 1]? = some (arrV (D.2 (zkd h a).1) (zkd h a).2 (fun j => .int (Int32.ofInt (zI h a j)))) ∧ (zkd h a).2 < 2147483648) ∧
  ((4 ≤ (zkd h a).1 ∧ (zkd h a).1 ≤ 7) → H[a - 1]? = some (arrV (D.2 (zkd h a).1) (zkd h a).2 (fun j => zrf (zR h a j))) ∧ (zkd h a).2 < 2147483648) ∧
  (10 ≤ (zkd h a).1 → (zkd h a).1 < 18 ∧ t_OB (a - 1) (D.1.1 ((zkd h a).1 - 10)) (zN ((zkd h a).1 - 10)) (D.1.2 ((zkd h a).1 - 10)) H (fun k => zF ((zkd h a).1 - 10) k (zI h a k) (zR h a k)))
def zRep (D : Zd) (base : Nat) (h : Zm) (H : Heap) : Prop :=
  (H.size + 1 = h.1.2 ∧ base ≤ h.1.2) ∧ (∀ a, (zkd h a).1 ≠ 0 → 1 ≤ a ∧ base ≤ a ∧ a < h.1.2) ∧ (∀ a j, InR (zI h a j)) ∧ ∀ a, zAt D h a H
theorem zAt.kept {D : Zd} {h h' : Zm} {a : Nat} {H H' : Heap} (x : zAt D h a H) (hk : zkd h' a = zkd h a) (hi : ∀ j, zI h' a j = zI h a j) (hr : ∀ j, zR h' a j = zR h a j) (hH : H'[a - 1]? = H[a - 1]?) : zAt D h' a H' := by
  obtain ⟨x1, x2, x3⟩ := x
  unfold zAt
  rw [hk, hH]
  simp only [hi, hr]
  exact ⟨x1, x2, fun q => ⟨(x3 q).1, (x3 q).2.kept hH⟩⟩
/-- how many places a value takes -/
def zc (v : Zv) : Nat := match v with
  | .inr (.inr _) => 2
  | _ => 1
def zlen (st : List Zv) : Nat := (st.map zc).sum
theorem zen_cat (v : Zv) : (zen v).category = zc v := by
  match v with
  | .inl x => rfl
  | .inr (.inl a) => cases a <;> rfl
  | .inr (.inr x) => rfl
def zpv (ρ : List (Option Zv)) (i : Nat) : Bool := match i with
  | 0 => true
  | k + 1 => match ρ[k]? with
    | some (some w) => zc w == 1
    | _ => true
/-- the locals, by their places -/
def zL (ls : Array Slot) (nL : Nat) (ρ : List (Option Zv)) : Prop := ls.size = nL ∧ lv_wf ls ∧ ∀ (i : Nat) (v : Zv), ρ[i]? = some (some v) → ls[i]? = some (.val (zen v))
def zl (ρ : List (Option Zv)) : List (Nat × Value) := (List.range ρ.length).filterMap fun i => (ρ.getD i none).map fun v => (i, zen v)
theorem zl_mem {ρ : List (Option Zv)} {q : Nat × Value} : q ∈ zl ρ ↔ ∃ v : Zv, ρ[q.1]? = some (some v) ∧ q.2 = zen v := by
  unfold zl
  rw [List.mem_filterMap]
  constructor
  · rintro ⟨i, hi, e⟩
    rw [List.mem_range] at hi
    rw [Option.map_eq_some_iff] at e
    obtain ⟨v, e1, e2⟩ := e
    subst e2
    refine ⟨v, ?_, rfl⟩
    simp only [List.getD_eq_getElem?_getD] at e1
    cases hq : ρ[i]? with
    | none => rw [hq] at e1; cases e1
    | some w => rw [hq] at e1; simp at e1; rw [e1]
  · rintro ⟨v, e1, e2⟩
    have hi : q.1 < ρ.length := (List.getElem?_eq_some_iff.mp e1).1
    refine ⟨q.1, List.mem_range.mpr hi, ?_⟩
    simp only [List.getD_eq_getElem?_getD, e1, Option.getD_some, Option.map_some]
    rw [← e2]
theorem zL.has {ls : Array Slot} {nL : Nat} {ρ : List (Option Zv)} (h : zL ls nL ρ) : lv_has ls nL (zl ρ) := ⟨h.1, h.2.1, fun q hq => by
  obtain ⟨v, e1, e2⟩ := zl_mem.mp hq
  rw [e2]
  exact h.2.2 q.1 v e1⟩
theorem zpv_at {ρ : List (Option Zv)} {i j : Nat} {w : Zv} (hp : zpv ρ i = true) (hj : ρ[j]? = some (some w)) : j + 1 = i → ¬ zc w = 2 := fun q => by
  subst q
  have h9 : zpv ρ (j + 1) = true := hp
  unfold zpv at h9
  simp only [hj] at h9
  have := beq_iff_eq.mp h9
  omega
theorem zL.stored {ls' : Array Slot} {nL i : Nat} {v : Zv} {ρ : List (Option Zv)} (hp : zpv ρ i = true) (h : lv_has ls' nL ((i, zen v) :: (zl ρ).filter (fun q => !(q.1 == i) && !(q.1 + 1 == i && q.2.category == 2)))) : zL ls' nL (ρ.set i (some v)) := by
  refine ⟨h.1, h.2.1, fun j w hj => ?_⟩
  by_cases e : j = i
  · subst e
    have hl : j < ρ.length := by
      have := (List.getElem?_eq_some_iff.mp hj).1
      simpa using this
    rw [List.getElem?_set_self hl] at hj
    cases hj
    exact h.2.2 (j, zen v) List.mem_cons_self
  · rw [List.getElem?_set_ne (fun q => e q.symm)] at hj
    refine h.2.2 (j, zen w) (List.mem_cons_of_mem _ (List.mem_filter.mpr ⟨zl_mem.mpr ⟨w, hj, rfl⟩, ?_⟩))
    have hc := zen_cat w
    have hz := zpv_at hp hj
    simp [e, hc]
    by_cases z : j + 1 = i
    · exact Or.inr (hz z)
    · exact Or.inl z
theorem zL.storedL {ls' : Array Slot} {nL i : Nat} {v : Zv} {ρ : List (Option Zv)} (hp : zpv ρ i = true) (h : lv_has ls' nL ((i, zen v) :: (zl ρ).filter (fun q => !(q.1 == i) && (!(q.1 == i + 1) && !(q.1 + 1 == i && q.2.category == 2))))) : zL ls' nL ((ρ.set i (some v)).set (i + 1) none) := by
  refine ⟨h.1, h.2.1, fun j w hj => ?_⟩
  by_cases e1 : j = i + 1
  · subst e1
    have hl : i + 1 < ρ.length := by
      have := (List.getElem?_eq_some_iff.mp hj).1
      simpa using this
    rw [List.getElem?_set_self (by simpa using hl)] at hj
    cases hj
  rw [List.getElem?_set_ne (fun q => e1 q.symm)] at hj
  by_cases e : j = i
  · subst e
    have hl : j < ρ.length := by
      have := (List.getElem?_eq_some_iff.mp hj).1
      simpa using this
    rw [List.getElem?_set_self hl] at hj
    cases hj
    exact h.2.2 (j, zen v) List.mem_cons_self
  · rw [List.getElem?_set_ne (fun q => e q.symm)] at hj
    refine h.2.2 (j, zen w) (List.mem_cons_of_mem _ (List.mem_filter.mpr ⟨zl_mem.mpr ⟨w, hj, rfl⟩, ?_⟩))
    have hc := zen_cat w
    have hz := zpv_at hp hj
    simp [e, e1, hc]
    by_cases z : j + 1 = i
    · exact Or.inr (hz z)
    · exact Or.inl z
def zmask : List Bool → List (Option Zv) → List (Option Zv)
  | b :: bs, x :: xs => (if b = true then x else none) :: zmask bs xs
  | _, _ => []
theorem zL.mask {ls : Array Slot} {nL : Nat} : ∀ {ρ : List (Option Zv)} (bs : List Bool) {k : Nat}, (∀ (i : Nat) (v : Zv), ρ[i]? = some (some v) → ls[k + i]? = some (.val (zen v))) → ∀ (i : Nat) (v : Zv), (zmask bs ρ)[i]? = some (some v) → ls[k + i]? = some (.val (zen v))
  | [], bs, k, _ => by
    intro i v hi
    cases bs <;> simp [zmask] at hi
  | x :: xs, [], k, _ => by
    intro i v hi
    simp [zmask] at hi
  | x :: xs, b :: bs, k, h => by
    intro i v hi
    cases i with
    | zero =>
      simp only [zmask, List.getElem?_cons_zero, Option.some.injEq] at hi
      by_cases hb : b = true
      · rw [if_pos hb] at hi
        exact h 0 v (by simp [hi])
      · rw [if_neg hb] at hi
        cases hi
    | succ j =>
      have := zL.mask (ls := ls) (nL := nL) (ρ := xs) bs (k := k + 1) (fun i v hv => by
        have := h (i + 1) v (by simpa using hv)
        rw [show k + 1 + i = k + (i + 1) by omega]
        exact this) j v (by simpa [zmask] using hi)
      rw [show k + (j + 1) = k + 1 + j by omega]
      exact this
section ZW
variable {p : Program} {l : Launch} {e : Env} {R : Room} {s : State} {m : MethodId} {args : Array Value} {below : List Frame} {meth : Method} {c : Code} {D : Zd} {base nL : Nat} {Qf : State → Prop} {cells slots pc pc' : Nat} {ρ : List (Option Zv)} {st : List Zv} {h : Zm} {cc : ByteArray} {own : String} {ret : Option FieldType}
/-- the machine at place pc of a method, with locals ρ, stack st and memory h, comes to an end with Qf -/
def zW (p : Program) (l : Launch) (e : Env) (R : Room) (s : State) (m : MethodId) (args : Array Value) (below : List Frame) (meth : Method) (c : Code) (D : Zd) (base nL : Nat) (Qf : State → Prop) (cells slots pc : Nat) (ρ : List (Option Zv)) (st : List Zv) (h : Zm) : Prop :=
  ∀ (H : Heap) (locs : List Loc) (ls : Array Slot), zRep D base h H → (∀ q : Nat, q + 1 < base → H[q]? = s.heap[q]?) → (∀ q ∈ locs, base ≤ q.base + 1) → zL ls nL ρ → W p l e R s m args below meth c H locs cells slots Qf (F0 m pc ls (st.map zen))
/-- what stays true of a method's run -/
def zOk (p : Program) (s : State) (m : MethodId) (args : Array Value) (meth : Method) (c : Code) (D : Zd) (cc : ByteArray) (nL : Nat) (own : String) (ret : Option FieldType) : Prop :=
  p.tables.exec = Jvm.exec ∧ c.code = cc ∧ c.maxLocals = nL ∧ s.vm.findClass own = some m.cls ∧ (∀ w ∈ zT, w.before args s = true) ∧ (meth.locks = false ∧ zNs s) ∧ meth.sig.returnType = ret ∧ zKn D s
theorem z_mask (bs : List Bool) {ρ' : List (Option Zv)} (hρ : zmask bs ρ = ρ') (k : zW p l e R s m args below meth c D base nL Qf cells slots pc ρ' st h) : zW p l e R s m args below meth c D base nL Qf cells slots pc ρ st h := by
  subst hρ
  intro H locs ls h1 h2 h3 h4
  refine k H locs ls h1 h2 h3 ⟨h4.1, h4.2.1, fun i v hi => ?_⟩
  have := zL.mask (ls := ls) (nL := nL) bs (k := 0) (fun i v hv => by rw [Nat.zero_add]; exact h4.2.2 i v hv) i v hi
  rwa [Nat.zero_add] at this
theorem z_cells {cells' slots' : Nat} (h1 : cells = cells') (h2 : slots = slots') (k : zW p l e R s m args below meth c D base nL Qf cells' slots' pc ρ st h) : zW p l e R s m args below meth c D base nL Qf cells slots pc ρ st h := by
  subst h1
  subst h2
  exact k
theorem z_iconst (hc : zOk p s m args meth c D cc nL own ret) {n : Int} (hd : decode cc pc = .ok (.iconst n, 1)) (k : zW p l e R s m args below meth c D base nL Qf cells slots (pc + 1) ρ (.inl n :: st) h) : zW p l e R s m args below meth c D base nL Qf cells slots pc ρ st h :=
  fun H locs ls h1 h2 h3 h4 => lv_iconst hc.1 hc.2.1 hd rfl (k H locs ls h1 h2 h3 h4)
theorem z_bipush (hc : zOk p s m args meth c D cc nL own ret) {n : Int} (hd : decode cc pc = .ok (.bipush n, 2)) (hv : (Int8.ofInt n).toInt32 = Int32.ofInt n) (k : zW p l e R s m args below meth c D base nL Qf cells slots (pc + 2) ρ (.inl n :: st) h) : zW p l e R s m args below meth c D base nL Qf cells slots pc ρ st h :=
  fun H locs ls h1 h2 h3 h4 => lv_bipush hc.1 hc.2.1 hd hv (k H locs ls h1 h2 h3 h4)
theorem z_sipush (hc : zOk p s m args meth c D cc nL own ret) {n : Int} (hd : decode cc pc = .ok (.sipush n, 3)) (hv : (Int16.ofInt n).toInt32 = Int32.ofInt n) (k : zW p l e R s m args below meth c D base nL Qf cells slots (pc + 3) ρ (.inl n :: st) h) : zW p l e R s m args below meth c D base nL Qf cells slots pc ρ st h :=
  fun H locs ls h1 h2 h3 h4 => lv_sipush hc.1 hc.2.1 hd hv (k H locs ls h1 h2 h3 h4)
theorem z_ldc (hc : zOk p s m args meth c D cc nL own ret) {n : Int} {x : Nat} (hd : decode cc pc = .ok (.ldc x, 2)) (hw : Cond.constant own x (Int32.ofInt n) ∈ zT) (k : zW p l e R s m args below meth c D base nL Qf cells slots (pc + 2) ρ (.inl n :: st) h) : zW p l e R s m args below meth c D base nL Qf cells slots pc ρ st h :=
  fun H locs ls h1 h2 h3 h4 => lv_ldc hc.1 hc.2.1 hc.2.2.2.1 (hc.2.2.2.2.1 _ hw) hd (k H locs ls h1 h2 h3 h4)
theorem z_iload_n (hc : zOk p s m args meth c D cc nL own ret) {i : Fin 4} {x : Int} (hd : decode cc pc = .ok (.iload_n i, 1)) (hx : ρ[(i : Nat)]? = some (some (.inl x))) (k : zW p l e R s m args below meth c D base nL Qf cells slots (pc + 1) ρ (.inl x :: st) h) : zW p l e R s m args below meth c D base nL Qf cells slots pc ρ st h :=
  fun H locs ls h1 h2 h3 h4 => lv_iload_n hc.1 hc.2.1 hd rfl (h4.2.2 _ _ hx) (k H locs ls h1 h2 h3 h4)
theorem z_iload (hc : zOk p s m args meth c D cc nL own ret) {i : Nat} {x : Int} (hd : decode cc pc = .ok (.iload i, 2)) (hx : ρ[i]? = some (some (.inl x))) (k : zW p l e R s m args below meth c D base nL Qf cells slots (pc + 2) ρ (.inl x :: st) h) : zW p l e R s m args below meth c D base nL Qf cells slots pc ρ st h :=
  fun H locs ls h1 h2 h3 h4 => lv_iload hc.1 hc.2.1 hd (h4.2.2 _ _ hx) (k H locs ls h1 h2 h3 h4)
theorem z_aload_n (hc : zOk p s m args meth c D cc nL own ret) {i : Fin 4} {x : Nat} (hd : decode cc pc = .ok (.aload_n i, 1)) (hx : ρ[(i : Nat)]? = some (some (.inr (.inl x)))) (k : zW p l e R s m args below meth c D base nL Qf cells slots (pc + 1) ρ (.inr (.inl x) :: st) h) : zW p l e R s m args below meth c D base nL Qf cells slots pc ρ st h := by
  intro H locs ls h1 h2 h3 h4
  have h5 := k H locs ls h1 h2 h3 h4
  have h6 := h4.2.2 _ _ hx
  cases x with
  | zero => exact lv_aload_nN hc.1 hc.2.1 hd rfl h6 h5
  | succ x => exact lv_aload_n hc.1 hc.2.1 hd rfl h6 h5
theorem z_aload (hc : zOk p s m args meth c D cc nL own ret) {i x : Nat} (hd : decode cc pc = .ok (.aload i, 2)) (hx : ρ[i]? = some (some (.inr (.inl x)))) (k : zW p l e R s m args below meth c D base nL Qf cells slots (pc + 2) ρ (.inr (.inl x) :: st) h) : zW p l e R s m args below meth c D base nL Qf cells slots pc ρ st h := by
  intro H locs ls h1 h2 h3 h4
  have h5 := k H locs ls h1 h2 h3 h4
  have h6 := h4.2.2 _ _ hx
  cases x with
  | zero => exact lv_aloadN hc.1 hc.2.1 hd h6 h5
  | succ x => exact lv_aload hc.1 hc.2.1 hd h6 h5
theorem z_istore_n (hc : zOk p s m args meth c D cc nL own ret) {i : Fin 4} {x : Int} (hd : decode cc pc = .ok (.istore_n i, 1)) (hi : (i : Nat) < nL) {ρ' : List (Option Zv)} (hρ : ρ.set (i : Nat) (some (.inl x)) = ρ') (hp : zpv ρ i = true) (k : zW p l e R s m args below meth c D base nL Qf cells slots (pc + 1) ρ' st h) : zW p l e R s m args below meth c D base nL Qf cells slots pc ρ (.inl x :: st) h :=
  fun H locs ls h1 h2 h3 h4 => lv_istore_n hc.1 hc.2.1 hd rfl h4.has hi rfl (fun ls' h' => k H locs ls' h1 h2 h3 (hρ ▸ zL.stored hp (v := .inl x) h'))
theorem z_istore (hc : zOk p s m args meth c D cc nL own ret) {i : Nat} {x : Int} (hd : decode cc pc = .ok (.istore i, 2)) (hi : i < nL) {ρ' : List (Option Zv)} (hρ : ρ.set i (some (.inl x)) = ρ') (hp : zpv ρ i = true) (k : zW p l e R s m args below meth c D base nL Qf cells slots (pc + 2) ρ' st h) : zW p l e R s m args below meth c D base nL Qf cells slots pc ρ (.inl x :: st) h :=
  fun H locs ls h1 h2 h3 h4 => lv_istore hc.1 hc.2.1 hd h4.has hi rfl (fun ls' h' => k H locs ls' h1 h2 h3 (hρ ▸ zL.stored hp (v := .inl x) h'))
theorem z_astore_n (hc : zOk p s m args meth c D cc nL own ret) {i : Fin 4} {x : Nat} (hd : decode cc pc = .ok (.astore_n i, 1)) (hi : (i : Nat) < nL) {ρ' : List (Option Zv)} (hρ : ρ.set (i : Nat) (some (.inr (.inl x))) = ρ') (hp : zpv ρ i = true) (k : zW p l e R s m args below meth c D base nL Qf cells slots (pc + 1) ρ' st h) : zW p l e R s m args below meth c D base nL Qf cells slots pc ρ (.inr (.inl x) :: st) h := by
  intro H locs ls h1 h2 h3 h4
  cases x with
  | zero => exact lv_astore_nN hc.1 hc.2.1 hd rfl h4.has hi rfl (fun ls' h' => k H locs ls' h1 h2 h3 (hρ ▸ zL.stored hp (v := .inr (.inl 0)) h'))
  | succ x => exact lv_astore_n hc.1 hc.2.1 hd rfl h4.has hi rfl (fun ls' h' => k H locs ls' h1 h2 h3 (hρ ▸ zL.stored hp (v := .inr (.inl (x + 1))) h'))
theorem z_astore (hc : zOk p s m args meth c D cc nL own ret) {i x : Nat} (hd : decode cc pc = .ok (.astore i, 2)) (hi : i < nL) {ρ' : List (Option Zv)} (hρ : ρ.set i (some (.inr (.inl x))) = ρ') (hp : zpv ρ i = true) (k : zW p l e R s m args below meth c D base nL Qf cells slots (pc + 2) ρ' st h) : zW p l e R s m args below meth c D base nL Qf cells slots pc ρ (.inr (.inl x) :: st) h := by
  intro H locs ls h1 h2 h3 h4
  cases x with
  | zero => exact lv_astoreN hc.1 hc.2.1 hd h4.has hi rfl (fun ls' h' => k H locs ls' h1 h2 h3 (hρ ▸ zL.stored hp (v := .inr (.inl 0)) h'))
  | succ x => exact lv_astore hc.1 hc.2.1 hd h4.has hi rfl (fun ls' h' => k H locs ls' h1 h2 h3 (hρ ▸ zL.stored hp (v := .inr (.inl (x + 1))) h'))
end ZW
