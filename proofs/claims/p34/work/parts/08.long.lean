/-! whole numbers of 64 bits, calls that make cells, the script in a method of its own -/
abbrev InL (x : Int) : Prop := -9223372036854775808 ≤ x ∧ x ≤ 9223372036854775807
theorem InL.to {x : Int} (h : InL x) : (Int64.ofInt x).toInt = x := Int64.toInt_ofInt_of_le (by omega) (by omega)
theorem zl_eq {a b : Int} (ha : InL a) (hb : InL b) : Int64.ofInt a = Int64.ofInt b ↔ a = b := by
  rw [← Int64.toInt_inj, ha.to, hb.to]
theorem zl_lt {a b : Int} (ha : InL a) (hb : InL b) : Int64.ofInt a < Int64.ofInt b ↔ a < b := by
  rw [Int64.lt_iff_toInt_lt, ha.to, hb.to]
def cI2l (x : Int) (Q : Int → Prop) : Prop := InR x ∧ Q x
def cLcmp (x y : Int) (Q : Int → Prop) : Prop := (InL x ∧ InL y) ∧ Q (if y < x then 1 else if x = y then 0 else -1)
def cShv (Q : Int → Prop) : Prop := ∀ w, InR w → Q w
theorem zl_cmp {x y : Int} (hx : InL x) (hy : InL y) : lg_cmp (Int64.ofInt x) (Int64.ofInt y) = Int32.ofInt (if y < x then 1 else if x = y then 0 else -1) := by
  unfold lg_cmp
  by_cases h : y < x
  · rw [if_pos h, if_pos (show Int64.ofInt x > Int64.ofInt y from (zl_lt hy hx).mpr h)]; rfl
  · rw [if_neg h, if_neg (show ¬ Int64.ofInt x > Int64.ofInt y from fun q => h ((zl_lt hy hx).mp q))]
    by_cases h2 : x = y
    · rw [if_pos h2, if_pos ((zl_eq hx hy).mpr h2)]; rfl
    · rw [if_neg h2, if_neg (fun q => h2 ((zl_eq hx hy).mp q))]; rfl
section ZLo
variable {p : Program} {l : Launch} {e : Env} {R : Room} {s : State} {m : MethodId} {args : Array Value} {below : List Frame} {meth : Method} {c : Code} {D : Zd} {base nL : Nat} {Qf : State → Prop} {cells slots pc : Nat} {ρ : List (Option Zv)} {st : List Zv} {h : Zm} {cc : ByteArray} {own : String} {ret : Option FieldType}
theorem z_lconst (hc : zOk p s m args meth c D cc nL own ret) {n : Fin 2} {v : Int} (hd : decode cc pc = .ok (.lconst n, 1)) (hv : Int64.ofNat (n : Nat) = Int64.ofInt v) (k : zW p l e R s m args below meth c D base nL Qf cells slots (pc + 1) ρ (.inr (.inr v) :: st) h) : zW p l e R s m args below meth c D base nL Qf cells slots pc ρ st h :=
  fun H locs ls h1 h2 h3 h4 => lv_lconst hc.1 hc.2.1 hd hv (k H locs ls h1 h2 h3 h4)
theorem z_lload_n (hc : zOk p s m args meth c D cc nL own ret) {i : Fin 4} {x : Int} (hd : decode cc pc = .ok (.lload_n i, 1)) (hx : ρ[(i : Nat)]? = some (some (.inr (.inr x)))) (k : zW p l e R s m args below meth c D base nL Qf cells slots (pc + 1) ρ (.inr (.inr x) :: st) h) : zW p l e R s m args below meth c D base nL Qf cells slots pc ρ st h :=
  fun H locs ls h1 h2 h3 h4 => lv_lload_n hc.1 hc.2.1 hd rfl (h4.2.2 _ _ hx) (k H locs ls h1 h2 h3 h4)
theorem z_lload (hc : zOk p s m args meth c D cc nL own ret) {i : Nat} {x : Int} (hd : decode cc pc = .ok (.lload i, 2)) (hx : ρ[i]? = some (some (.inr (.inr x)))) (k : zW p l e R s m args below meth c D base nL Qf cells slots (pc + 2) ρ (.inr (.inr x) :: st) h) : zW p l e R s m args below meth c D base nL Qf cells slots pc ρ st h :=
  fun H locs ls h1 h2 h3 h4 => lv_lload hc.1 hc.2.1 hd (h4.2.2 _ _ hx) (k H locs ls h1 h2 h3 h4)
theorem z_lstore_n (hc : zOk p s m args meth c D cc nL own ret) {i : Fin 4} {x : Int} (hd : decode cc pc = .ok (.lstore_n i, 1)) (hi : (i : Nat) + 1 < nL) {ρ' : List (Option Zv)} (hρ : (ρ.set (i : Nat) (some (.inr (.inr x)))).set ((i : Nat) + 1) none = ρ') (hp : zpv ρ (i : Nat) = true) (k : zW p l e R s m args below meth c D base nL Qf cells slots (pc + 1) ρ' st h) : zW p l e R s m args below meth c D base nL Qf cells slots pc ρ (.inr (.inr x) :: st) h :=
  fun H locs ls h1 h2 h3 h4 => lv_lstore_n hc.1 hc.2.1 hd rfl h4.has hi rfl (fun ls' h' => k H locs ls' h1 h2 h3 (hρ ▸ zL.storedL hp (v := .inr (.inr x)) h'))
theorem z_lstore (hc : zOk p s m args meth c D cc nL own ret) {i : Nat} {x : Int} (hd : decode cc pc = .ok (.lstore i, 2)) (hi : i + 1 < nL) {ρ' : List (Option Zv)} (hρ : (ρ.set i (some (.inr (.inr x)))).set (i + 1) none = ρ') (hp : zpv ρ i = true) (k : zW p l e R s m args below meth c D base nL Qf cells slots (pc + 2) ρ' st h) : zW p l e R s m args below meth c D base nL Qf cells slots pc ρ (.inr (.inr x) :: st) h :=
  fun H locs ls h1 h2 h3 h4 => lv_lstore hc.1 hc.2.1 hd h4.has hi rfl (fun ls' h' => k H locs ls' h1 h2 h3 (hρ ▸ zL.storedL hp (v := .inr (.inr x)) h'))
theorem z_i2l (hc : zOk p s m args meth c D cc nL own ret) {x : Int} {Q : Int → Prop} (hd : decode cc pc = .ok (.i2l, 1)) (H : cI2l x Q) (kk : ∀ v : Int, Q v → zW p l e R s m args below meth c D base nL Qf cells slots (pc + 1) ρ (.inr (.inr v) :: st) h) : zW p l e R s m args below meth c D base nL Qf cells slots pc ρ (.inl x :: st) h :=
  fun Hp locs ls h1 h2 h3 h4 => lv_i2l (v := Int64.ofInt x) hc.1 hc.2.1 hd (by rw [← Int64.toInt_inj, Int32.toInt_toInt64, H.1.to, InL.to ⟨by have := H.1; omega, by have := H.1; omega⟩]) (kk x H.2 Hp locs ls h1 h2 h3 h4)
theorem z_ladd (hc : zOk p s m args meth c D cc nL own ret) {x y : Int} (hd : decode cc pc = .ok (.ladd, 1)) (k : zW p l e R s m args below meth c D base nL Qf cells slots (pc + 1) ρ (.inr (.inr (x + y)) :: st) h) : zW p l e R s m args below meth c D base nL Qf cells slots pc ρ (.inr (.inr y) :: .inr (.inr x) :: st) h :=
  fun H locs ls h1 h2 h3 h4 => lv_ladd hc.1 hc.2.1 hd (by rw [← Int64.ofInt_add]; exact k H locs ls h1 h2 h3 h4)
theorem z_lmul (hc : zOk p s m args meth c D cc nL own ret) {x y : Int} (hd : decode cc pc = .ok (.lmul, 1)) (k : zW p l e R s m args below meth c D base nL Qf cells slots (pc + 1) ρ (.inr (.inr (x * y)) :: st) h) : zW p l e R s m args below meth c D base nL Qf cells slots pc ρ (.inr (.inr y) :: .inr (.inr x) :: st) h :=
  fun H locs ls h1 h2 h3 h4 => lv_lmul hc.1 hc.2.1 hd (by rw [← Int64.ofInt_mul]; exact k H locs ls h1 h2 h3 h4)
theorem z_ldc2 (hc : zOk p s m args meth c D cc nL own ret) {n : Int} {x : Nat} (hd : decode cc pc = .ok (.ldc2_w x, 3)) (hw : Cond.constantLong own x (Int64.ofInt n) ∈ zT) (k : zW p l e R s m args below meth c D base nL Qf cells slots (pc + 3) ρ (.inr (.inr n) :: st) h) : zW p l e R s m args below meth c D base nL Qf cells slots pc ρ st h :=
  fun H locs ls h1 h2 h3 h4 => lv_ldc2 hc.1 hc.2.1 hc.2.2.2.1 (hc.2.2.2.2.1 _ hw) hd (k H locs ls h1 h2 h3 h4)
theorem z_lcmp (hc : zOk p s m args meth c D cc nL own ret) {x y : Int} {Q : Int → Prop} (hd : decode cc pc = .ok (.lcmp, 1)) (H : cLcmp x y Q) (kk : ∀ v : Int, Q v → zW p l e R s m args below meth c D base nL Qf cells slots (pc + 1) ρ (.inl v :: st) h) : zW p l e R s m args below meth c D base nL Qf cells slots pc ρ (.inr (.inr y) :: .inr (.inr x) :: st) h :=
  fun Hp locs ls h1 h2 h3 h4 => W.lcmp hc.1 hc.2.1 hd (by rw [zl_cmp H.1.1 H.1.2]; exact kk _ H.2 Hp locs ls h1 h2 h3 h4)
theorem z_ishrv (hc : zOk p s m args meth c D cc nL own ret) {x y : Int} {Q : Int → Prop} (hd : decode cc pc = .ok (.ishr, 1)) (H : cShv Q) (kk : ∀ v : Int, Q v → zW p l e R s m args below meth c D base nL Qf cells slots (pc + 1) ρ (.inl v :: st) h) : zW p l e R s m args below meth c D base nL Qf cells slots pc ρ (.inl y :: .inl x :: st) h := by
  intro Hp locs ls h1 h2 h3 h4
  refine lv_ishr hc.1 hc.2.1 hd ?_
  have h5 : Int32.ofInt x >>> (Int32.ofInt y &&& 31) = Int32.ofInt (Int32.ofInt x >>> (Int32.ofInt y &&& 31)).toInt := (Int32.ofInt_toInt _).symm
  rw [h5]
  exact kk _ (H _ ⟨by have := Int32.le_toInt (Int32.ofInt x >>> (Int32.ofInt y &&& 31)); omega, by have := Int32.toInt_lt (Int32.ofInt x >>> (Int32.ofInt y &&& 31)); omega⟩) Hp locs ls h1 h2 h3 h4
theorem z_widen {cells' slots' : Nat} (h1 : cells ≤ cells') (h2 : slots ≤ slots') (k : zW p l e R s m args below meth c D base nL Qf cells' slots' pc ρ st h) : zW p l e R s m args below meth c D base nL Qf cells slots pc ρ st h :=
  fun H locs ls a1 a2 a3 a4 => W.widen h1 h2 (k H locs ls a1 a2 a3 a4)
/-- a long as an answer -/
def zQl (D : Zd) (base : Nat) (Q : Int → Zm → Prop) : Array Value → State → Outcome → State → Prop := fun _ st o t => (∃ (v : Int) (h' : Zm), o = .returned (some (.long (Int64.ofInt v))) ∧ Q v h' ∧ zRep D base h' t.heap) ∧ zOld base st t
theorem z_lreturn (hc : zOk p s m args meth c D cc nL own (some .long)) {v : Int} {Q : Int → Zm → Prop} (hd : decode cc pc = .ok (.lreturn, 1)) (H : Q v h) : zW p l e R s m args below meth c D base nL (MQ below (zQl D base Q) args s cells slots (zFree base)) cells slots pc ρ [.inr (.inr v)] h := by
  intro Hp locs ls h1 h2 h3 h4
  exact W.lret (v := Int64.ofInt v) hc.1 hc.2.1 hc.2.2.2.2.2.2.1 (fun t ht hW => ⟨⟨v, h, rfl, H, by rw [ht]; exact h1⟩, fun q hq => by rw [ht]; exact h2 q hq⟩) h3 hd (hlocks := hc.2.2.2.2.2.1.1)
theorem z_calL {rm : Room} {sts : List Value} {stk : List Zv} {a : Array Value} {Q : Int → Zm → Prop} (hr : ∀ (H : Heap) (locs : List Loc) (ls : Array Slot), zRep D base h H → zL ls nL ρ → va_Run p l e R s m args below meth c H locs cells slots rm.cells rm.slots (F0 m pc ls sts) (st.map zen) (zQl D base Q a) (zFree base)) (hst : stk.map zen = sts) (hz : rm.cells = 0 ∧ rm.slots = 0) (k : ∀ r h', Q r h' → zW p l e R s m args below meth c D base nL Qf cells slots (pc + 3) ρ (.inr (.inr r) :: st) h') : zW p l e R s m args below meth c D base nL Qf cells slots pc ρ stk h := by
  unfold zW
  rw [hst]
  refine z_ran (P := fun v h' => ∃ r : Int, v = some (.long (Int64.ofInt r)) ∧ Q r h') hr (fun u v t hq => ?_) (fun v h' hP H locs ls h1 h2 h3 h4 => ?_)
  · obtain ⟨⟨r, h', e1, e2, e3⟩, e4⟩ := hq
    cases e1
    exact ⟨h', ⟨r, rfl, e2⟩, e3, e4⟩
  · obtain ⟨r, rfl, hq⟩ := hP
    rw [hz.1, hz.2]
    exact k r h' hq H locs ls h1 h2 h3 h4
theorem z_calIc {rm : Room} {sts : List Value} {stk : List Zv} {a : Array Value} {Q : Int → Zm → Prop} {mc ms : Nat} (hr : ∀ (H : Heap) (locs : List Loc) (ls : Array Slot), zRep D base h H → zL ls nL ρ → va_Run p l e R s m args below meth c H locs cells slots rm.cells rm.slots (F0 m pc ls sts) (st.map zen) (zQi D base Q a) (zFree base)) (hst : stk.map zen = sts) (hz : rm.cells = mc ∧ rm.slots = ms) (k : ∀ r h', Q r h' → zW p l e R s m args below meth c D base nL Qf (cells + mc) (slots + ms) (pc + 3) ρ (.inl r :: st) h') : zW p l e R s m args below meth c D base nL Qf cells slots pc ρ stk h := by
  unfold zW
  rw [hst]
  refine z_ran (P := fun v h' => ∃ r : Int, v = some (.int (Int32.ofInt r)) ∧ Q r h') hr (fun u v t hq => ?_) (fun v h' hP H locs ls h1 h2 h3 h4 => ?_)
  · obtain ⟨⟨r, h', e1, e2, e3⟩, e4⟩ := hq
    cases e1
    exact ⟨h', ⟨r, rfl, e2⟩, e3, e4⟩
  · obtain ⟨r, rfl, hq⟩ := hP
    rw [hz.1, hz.2]
    exact k r h' hq H locs ls h1 h2 h3 h4
/-- a contract of a method that reads the script -/
def zPcX (D : Zd) (base L : Nat) (sc : Int → Int) (a0 : Nat) (av : List Zv) (h : Zm) : Array Value → State → Prop := fun a U => zPc D base av h a U ∧ zScr U base L sc a0
def zMetX (l : Launch) (D : Zd) (base L : Nat) (sc : Int → Int) (a0 : Nat) (y : MethodName) (b : ByteArray) (n : Nat) (ret : Option FieldType) (rm : Room) (av : List Zv) (h : Zm) (Qc : Array Value → State → Outcome → State → Prop) : Prop :=
  Met l y (Cond.code y b n ret :: zT) rm (zPcX D base L sc a0 av h) Qc rm.cells rm.slots (zFree base)
theorem zScr.to {s U : State} {base L : Nat} {sc : Int → Int} {a0 : Nat} (hX : zScr s base L sc a0) (hW : s.vm.Alike U.vm) (hH : ∀ q : Nat, q + 1 < base → U.heap[q]? = s.heap[q]?) : zScr U base L sc a0 := by
  obtain ⟨b, xs, x1, x2, x3, x4, x5⟩ := hX
  exact ⟨b, xs, x1, x2, va_X.moved hW (va_X.kept x3 (hH b x4)), x4, x5⟩
theorem zPcX_blind {D : Zd} {base L : Nat} {sc : Int → Int} {a0 : Nat} {av : List Zv} {h : Zm} : FrameBlind (zPcX D base L sc a0 av h) := fun a U g mk q => ⟨zPc_blind a U g mk q.1, zScr.to (s := U) (U := U.calling g mk a) q.2 (Vm.Alike.refl _) (fun _ _ => rfl)⟩
theorem z_metX {y : MethodName} {b : ByteArray} {n L : Nat} {sc : Int → Int} {a0 : Nat} {rm : Room} {av : List Zv} {Qc : Array Value → State → Outcome → State → Prop} (hy : plainFor y = true) (hb : zlen av ≤ n) (hz : zfl av = true)
    (body : ∀ (p : Program) (e : Env) (s : State) (m : MethodId) (args : Array Value) (below : List Frame) (meth : Method) (c : Code), zOk p s m args meth c D b n y.cls ret → zScr s base L sc a0 → zW p l e rm s m args below meth c D base n (MQ below Qc args s rm.cells rm.slots (zFree base)) 0 0 0 (av.map some ++ List.replicate (n - av.length) none) [] h) : zMetX l D base L sc a0 y b n ret rm av h Qc := by
  refine va_MetF (cc := b) (maxL := n) (ret := ret) hy rfl ?_
  intro p e s m args below meth c s₁ B hml hv
  obtain ⟨⟨rfl, ⟨hK, hN⟩, hR⟩, hX⟩ := hv
  have hts := atoms_spec (ws := Cond.code y b n ret :: zT) B.pre
  have hk : zOk p s m (av.map zen).toArray meth c D b n y.cls ret := ⟨B.exec, B.bytes, hml, findClass_of_methodNamed B.named, fun w hw => hts w (List.mem_cons_of_mem _ hw), ⟨B.notSynchronized, hN⟩, B.returns, hK⟩
  have hbd := body p e s m _ below meth c hk hX
  rw [lg_entry_eq]
  have hl := lv_entry (av.map zen) (n := n) (by rw [z_sl]; exact hb)
  refine hbd s.heap [] _ hR (fun q hq => rfl) (fun q hq => by cases hq) ⟨hl.1, hl.2.1, fun i v hi => ?_⟩
  have hi2 : av[i]? = some v := by
    by_cases hlt : i < av.length
    · rw [List.getElem?_append_left (by simpa using hlt), List.getElem?_map] at hi
      cases hq : av[i]? with
      | none => rw [hq] at hi; cases hi
      | some w => rw [hq] at hi; simp at hi; rw [hi]
    · rw [List.getElem?_append_right (by simpa using hlt)] at hi
      have := List.mem_of_getElem? hi
      rw [List.mem_replicate] at this
      cases this.2
  have := z_args av 0 i v hz hi2
  rw [Nat.zero_add] at this
  exact hl.2.2 _ this
theorem z_runX (hc : zOk p s m args meth c D cc nL own ret) {x n k L : Nat} {sc : Int → Int} {a0 : Nat} (hX : zScr s base L sc a0) {y : MethodName} {b : ByteArray} {rt : Option FieldType} {rm : Room} {av : List Zv} {Qc : Array Value → State → Outcome → State → Prop} (hd : decode cc pc = .ok (.invokestatic x, 3)) (hw : zCs own x y b n rt k) (hM : zMetX l D base L sc a0 y b n rt rm av h Qc) (hk : av.length = k) (h8 : zlen st ≤ 8) (hR : zRoom rm R n) (hf : cells + rm.cells ≤ R.cells ∧ slots + rm.slots ≤ R.slots) : ∀ (H : Heap) (locs : List Loc) (ls : Array Slot), zRep D base h H → (∀ q : Nat, q + 1 < base → H[q]? = s.heap[q]?) → zL ls nL ρ → va_Run p l e R s m args below meth c H locs cells slots rm.cells rm.slots (F0 m pc ls ((av.map zen).reverse ++ st.map zen)) (st.map zen) (Qc (av.map zen).toArray) (zFree base) := by
  intro H locs ls h1 h2 h4
  obtain ⟨⟨w1, w2, w3, w4⟩, w5⟩ := hw
  exact va_runS (As := av.map zen) (rest := st.map zen) ⟨hc.1, hc.2.1, hc.2.2.1, hc.2.2.2.1, hc.2.2.2.2.1⟩ hM ⟨callB_of k hc.2.2.2.2.1 (zGoodIn w4) rfl rfl rfl (hc.2.2.2.2.1 _ w3) (hc.2.2.2.2.1 _ w1) w5 hR, hc.2.2.2.2.1 _ w2⟩ ⟨zPcX_blind, fun U hU hW => ⟨z_pre hc.2.2.2.2.2.2.2 hc.2.2.2.2.2.1.2 h1 U hU hW, hX.to hW.alike (fun q hq => by rw [hU]; exact h2 q hq)⟩⟩ rfl (by rw [List.length_map]; exact hk) h4.1 rfl (lv_room (z_cat8 h8)) hd hf
theorem z_calIX {rm : Room} {sts : List Value} {stk : List Zv} {a : Array Value} {Q : Int → Zm → Prop} (hr : ∀ (H : Heap) (locs : List Loc) (ls : Array Slot), zRep D base h H → (∀ q : Nat, q + 1 < base → H[q]? = s.heap[q]?) → zL ls nL ρ → va_Run p l e R s m args below meth c H locs cells slots rm.cells rm.slots (F0 m pc ls sts) (st.map zen) (zQi D base Q a) (zFree base)) (hst : stk.map zen = sts) (hz : rm.cells = 0 ∧ rm.slots = 0) (k : ∀ r h', Q r h' → zW p l e R s m args below meth c D base nL Qf cells slots (pc + 3) ρ (.inl r :: st) h') : zW p l e R s m args below meth c D base nL Qf cells slots pc ρ stk h := by
  unfold zW
  rw [hst]
  intro H locs ls h1 h2 h3 h4 T hT X
  obtain ⟨v, st₀, t, T', L, h0, X', hL, e1, e2, hq, stp⟩ := hr H locs ls h1 h2 h4 T hT X
  obtain ⟨⟨r, h', g1, g2, g3⟩, g4⟩ := hq
  cases g1
  rw [hz.1, hz.2] at X'
  obtain ⟨t2, a1, b1⟩ := k r h' g2 T'.heap (locs ++ L) ls (by rw [e1]; exact g3) (fun q hq => by rw [e1, g4 q hq, h0]; exact h2 q hq) (fun q hq => by
    rcases List.mem_append.mp hq with h9 | h9
    · exact h3 q h9
    · exact hL q h9) h4 T' rfl X'
  exact ⟨t2, stp t2 a1, b1⟩
/-- loops with five numbers -/
def lfp5 (F : (Int → Int → Int → Int → Int → Zm → Prop) → Int → Int → Int → Int → Int → Zm → Prop) (x y z w u : Int) (h : Zm) : Prop := ∀ X : Int → Int → Int → Int → Int → Zm → Prop, (∀ x y z w u h, F X x y z w u h → X x y z w u h) → X x y z w u h
end ZLo
