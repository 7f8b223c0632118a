/-! calls as steps, a method's contract out of its walk, new int[n][k], a switch, the script -/
section ZS
variable {p : Program} {l : Launch} {e : Env} {R : Room} {s : State} {m : MethodId} {args : Array Value} {below : List Frame} {meth : Method} {c : Code} {D : Zd} {base nL : Nat} {Qf : State → Prop} {cells slots pc : Nat} {ρ : List (Option Zv)} {st : List Zv} {h : Zm} {cc : ByteArray} {own : String} {ret : Option FieldType}
theorem z_calI {rm : Room} {sts : List Value} {stk : List Zv} {a : Array Value} {Q : Int → Zm → Prop} (hr : ∀ (H : Heap) (locs : List Loc) (ls : Array Slot), zRep D base h H → zL ls nL ρ → va_Run p l e R s m args below meth c H locs cells slots rm.cells rm.slots (F0 m pc ls sts) (st.map zen) (zQi D base Q a) (zFree base)) (hst : stk.map zen = sts) (hz : rm.cells = 0 ∧ rm.slots = 0) (k : ∀ r h', Q r h' → zW p l e R s m args below meth c D base nL Qf cells slots (pc + 3) ρ (.inl r :: st) h') : zW p l e R s m args below meth c D base nL Qf cells slots pc ρ stk h := by
  unfold zW
  rw [hst]
  refine z_ran (P := fun v h' => ∃ r : Int, v = some (.int (Int32.ofInt r)) ∧ Q r h') hr (fun u v t hq => ?_) (fun v h' hP H locs ls h1 h2 h3 h4 => ?_)
  · obtain ⟨⟨r, h', e1, e2, e3⟩, e4⟩ := hq
    cases e1
    exact ⟨h', ⟨r, rfl, e2⟩, e3, e4⟩
  · obtain ⟨r, rfl, hq⟩ := hP
    rw [hz.1, hz.2]
    exact k r h' hq H locs ls h1 h2 h3 h4
theorem z_calR {rm : Room} {sts : List Value} {stk : List Zv} {a : Array Value} {Q : Nat → Zm → Prop} (hr : ∀ (H : Heap) (locs : List Loc) (ls : Array Slot), zRep D base h H → zL ls nL ρ → va_Run p l e R s m args below meth c H locs cells slots rm.cells rm.slots (F0 m pc ls sts) (st.map zen) (zQr D base Q a) (zFree base)) (hst : stk.map zen = sts) (hz : rm.cells = 0 ∧ rm.slots = 0) (k : ∀ r h', Q r h' → zW p l e R s m args below meth c D base nL Qf cells slots (pc + 3) ρ (.inr (.inl r) :: st) h') : zW p l e R s m args below meth c D base nL Qf cells slots pc ρ stk h := by
  unfold zW
  rw [hst]
  refine z_ran (P := fun v h' => ∃ r : Nat, v = some (zrf r) ∧ Q r h') hr (fun u v t hq => ?_) (fun v h' hP H locs ls h1 h2 h3 h4 => ?_)
  · obtain ⟨⟨r, h', e1, e2, e3⟩, e4⟩ := hq
    cases e1
    exact ⟨h', ⟨r, rfl, e2⟩, e3, e4⟩
  · obtain ⟨r, rfl, hq⟩ := hP
    rw [hz.1, hz.2]
    exact k r h' hq H locs ls h1 h2 h3 h4
theorem z_calV {rm : Room} {sts : List Value} {stk : List Zv} {a : Array Value} {Q : Zm → Prop} {mc ms : Nat} (hr : ∀ (H : Heap) (locs : List Loc) (ls : Array Slot), zRep D base h H → zL ls nL ρ → va_Run p l e R s m args below meth c H locs cells slots rm.cells rm.slots (F0 m pc ls sts) (st.map zen) (zQv D base Q a) (zFree base)) (hst : stk.map zen = sts) (hz : rm.cells = mc ∧ rm.slots = ms) (k : ∀ h', Q h' → zW p l e R s m args below meth c D base nL Qf (cells + mc) (slots + ms) (pc + 3) ρ st h') : zW p l e R s m args below meth c D base nL Qf cells slots pc ρ stk h := by
  unfold zW
  rw [hst]
  refine z_ran (P := fun v h' => v = none ∧ Q h') hr (fun u v t hq => ?_) (fun v h' hP H locs ls h1 h2 h3 h4 => ?_)
  · obtain ⟨⟨h', e1, e2, e3⟩, e4⟩ := hq
    cases e1
    exact ⟨h', ⟨rfl, e2⟩, e3, e4⟩
  · obtain ⟨rfl, hq⟩ := hP
    rw [hz.1, hz.2]
    exact k h' hq H locs ls h1 h2 h3 h4
theorem z_calV0 {rm : Room} {sts : List Value} {stk : List Zv} {a : Array Value} {Q : Zm → Prop} (hr : ∀ (H : Heap) (locs : List Loc) (ls : Array Slot), zRep D base h H → zL ls nL ρ → va_Run p l e R s m args below meth c H locs cells slots rm.cells rm.slots (F0 m pc ls sts) (st.map zen) (zQv D base Q a) (zFree base)) (hst : stk.map zen = sts) (hz : rm.cells = 0 ∧ rm.slots = 0) (k : ∀ h', Q h' → zW p l e R s m args below meth c D base nL Qf cells slots (pc + 3) ρ st h') : zW p l e R s m args below meth c D base nL Qf cells slots pc ρ stk h := z_calV hr hst hz k
def lfp0 (F : (Zm → Prop) → Zm → Prop) (h : Zm) : Prop := ∀ X : Zm → Prop, (∀ h, F X h → X h) → X h
def lfp1 (F : (Int → Zm → Prop) → Int → Zm → Prop) (x : Int) (h : Zm) : Prop := ∀ X : Int → Zm → Prop, (∀ x h, F X x h → X x h) → X x h
def lfp2 (F : (Int → Int → Zm → Prop) → Int → Int → Zm → Prop) (x y : Int) (h : Zm) : Prop := ∀ X : Int → Int → Zm → Prop, (∀ x y h, F X x y h → X x y h) → X x y h
def lfp3 (F : (Int → Int → Int → Zm → Prop) → Int → Int → Int → Zm → Prop) (x y z : Int) (h : Zm) : Prop := ∀ X : Int → Int → Int → Zm → Prop, (∀ x y z h, F X x y z h → X x y z h) → X x y z h
def lfp4 (F : (Int → Int → Int → Int → Zm → Prop) → Int → Int → Int → Int → Zm → Prop) (x y z w : Int) (h : Zm) : Prop := ∀ X : Int → Int → Int → Int → Zm → Prop, (∀ x y z w h, F X x y z w h → X x y z w h) → X x y z w h
theorem zc_or (v : Zv) : zc v = 1 ∨ zc v = 2 := by
  match v with
  | .inl x => exact Or.inl rfl
  | .inr (.inl a) => exact Or.inl rfl
  | .inr (.inr x) => exact Or.inr rfl
theorem z_sl : ∀ av : List Zv, (lg_sl (av.map zen)).length = zlen av
  | [] => rfl
  | v :: vs => by
    have ih := z_sl vs
    unfold lg_sl at ih ⊢
    rw [List.map_cons, List.flatMap_cons, List.length_append, ih, zen_cat]
    show _ = zc v + zlen vs
    rcases zc_or v with q | q
    · rw [q, if_neg (by decide)]; rfl
    · rw [q, if_pos rfl]; rfl
/-- all but the last take one place -/
def zfl : List Zv → Bool
  | [] => true
  | [_] => true
  | v :: w :: vs => (zc v == 1) && zfl (w :: vs)
theorem z_args : ∀ (av : List Zv) (k i : Nat) (v : Zv), zfl av = true → av[i]? = some v → (k + i, zen v) ∈ lv_args k (av.map zen)
  | [], k, i, v, _, h => by simp at h
  | x :: xs, k, 0, v, _, h => by
    rw [List.map_cons]
    unfold lv_args
    simp at h
    subst h
    exact List.mem_cons_self
  | [x], k, j + 1, v, _, h => by simp at h
  | x :: y :: ys, k, j + 1, v, hz, h => by
    rw [List.map_cons]
    unfold lv_args
    have hz2 : (zc x == 1) = true ∧ zfl (y :: ys) = true := by
      rw [← Bool.and_eq_true]; exact hz
    rw [zen_cat, beq_iff_eq.mp hz2.1, if_neg (by decide)]
    have := z_args (y :: ys) (k + 1) j v hz2.2 (by simpa using h)
    rw [show k + (j + 1) = k + 1 + j by omega]
    exact List.mem_cons_of_mem _ this
theorem z_met {y : MethodName} {b : ByteArray} {n : Nat} {rm : Room} {av : List Zv} {Qc : Array Value → State → Outcome → State → Prop} (hy : plainFor y = true) (hb : zlen av ≤ n) (hz : zfl av = true)
    (body : ∀ (p : Program) (e : Env) (s : State) (m : MethodId) (args : Array Value) (below : List Frame) (meth : Method) (c : Code), zOk p s m args meth c D b n y.cls ret → meth.name = y.name → zW p l e rm s m args below meth c D base n (MQ below Qc args s rm.cells rm.slots (zFree base)) 0 0 0 (av.map some ++ List.replicate (n - av.length) none) [] h) : zMet l D base y b n ret rm av h Qc := by
  refine va_MetF (cc := b) (maxL := n) (ret := ret) hy rfl ?_
  intro p e s m args below meth c s₁ B hml hv
  obtain ⟨rfl, ⟨hK, hN⟩, hR⟩ := hv
  have hts := atoms_spec (ws := Cond.code y b n ret :: zT) B.pre
  have hk : zOk p s m (av.map zen).toArray meth c D b n y.cls ret := ⟨B.exec, B.bytes, hml, findClass_of_methodNamed B.named, fun w hw => hts w (List.mem_cons_of_mem _ hw), ⟨B.notSynchronized, hN⟩, B.returns, hK⟩
  have hbd := body p e s m _ below meth c hk (name_of_methodNamed B.named B.method).1
  rw [lg_entry_eq]
  have hl := lv_entry (av.map zen) (n := n) (by rw [z_sl]; exact hb)
  refine hbd s.heap [] _ hR (fun q hq => rfl) (fun q hq => by cases hq) ⟨hl.1, hl.2.1, fun i v hi => ?_⟩
  have hi2 : av[i]? = some v := by
    by_cases hlt : i < av.length
    · rw [List.getElem?_append_left (by simpa using hlt), List.getElem?_map] at hi
      cases hq : av[i]? with
      | none => rw [hq] at hi; cases hi
      | some w => rw [hq] at hi; simp at hi; rw [hi]
    · rw [List.getElem?_append_right (by simpa using hlt)] at hi
      have := List.mem_of_getElem? hi
      rw [List.mem_replicate] at this
      cases this.2
  have := z_args av 0 i v hz hi2
  rw [Nat.zero_add] at this
  exact hl.2.2 _ this
def zSw (G : Nat → Prop) (x : Int) : Int → List Nat → Prop
  | _, [] => True
  | lo, t :: ts => (x = lo → G t) ∧ zSw G x (lo + 1) ts
theorem zSw.at {G : Nat → Prop} {x : Int} : ∀ {lo : Int} {ts : List Nat} {j t : Nat}, zSw G x lo ts → ts[j]? = some t → x = lo + j → G t
  | lo, [], j, t, _, h, _ => by simp at h
  | lo, u :: us, 0, t, hz, h, e => by
    simp at h
    subst h
    exact hz.1 (by simpa using e)
  | lo, u :: us, j + 1, t, hz, h, e => zSw.at (lo := lo + 1) (j := j) hz.2 (by simpa using h) (by rw [e]; simp; omega)
theorem z_switch (hc : zOk p s m args meth c D cc nL own ret) {dflt lo hi : Int} {offs : Array Int} {len td : Nat} {x : Int} {tgts : List Nat} (hd : decode cc pc = .ok (.tableswitch dflt lo hi offs, len)) (hx : InR x) (htd : (pc : Int) + dflt = (td : Int)) (hn : hi - lo + 1 = (tgts.length : Int)) (ht : offs.toList.map (fun o => (pc : Int) + o) = tgts.map (fun t : Nat => (t : Int))) (kd : (x < lo ∨ hi < x) → zW p l e R s m args below meth c D base nL Qf cells slots td ρ st h) (kk : zSw (fun t => zW p l e R s m args below meth c D base nL Qf cells slots t ρ st h) x lo tgts) : zW p l e R s m args below meth c D base nL Qf cells slots pc ρ (.inl x :: st) h := by
  intro Hp locs ls h1 h2 h3 h4
  show W p l e R s m args below meth c Hp locs cells slots Qf (F0 m pc ls (.int (Int32.ofInt x) :: st.map zen))
  have hxt := hx.to
  by_cases hq : x < lo ∨ hi < x
  · exact lv_tableOut hc.1 hc.2.1 hd (by rw [hxt]; exact hq) htd (kd hq Hp locs ls h1 h2 h3 h4)
  · have hj : (x - lo).toNat < tgts.length := by omega
    obtain ⟨t, ht2⟩ : ∃ t, tgts[(x - lo).toNat]? = some t := ⟨_, List.getElem?_eq_getElem hj⟩
    have h5 := (zSw.at kk ht2 (by omega)) Hp locs ls h1 h2 h3 h4
    have h6 : (offs.toList.map (fun o => (pc : Int) + o))[(x - lo).toNat]? = some (t : Int) := by
      rw [ht, List.getElem?_map, ht2]
      rfl
    rw [List.getElem?_map] at h6
    cases ho : offs.toList[(x - lo).toNat]? with
    | none => rw [ho] at h6; cases h6
    | some off =>
      rw [ho] at h6
      simp at h6
      exact lv_tableIn (off := off) hc.1 hc.2.1 hd (by rw [hxt]; omega) (by rw [hxt]; omega) (by rw [hxt, ← Array.getElem?_toList]; exact ho) h6 h5
def cSld (L : Nat) (sc : Int → Int) (i : Int) (Q : Int → Prop) : Prop := (0 ≤ i ∧ i < (L : Int)) ∧ Q (sc i)
/-- the law's script: L ints sc, at the reference a0, below base -/
def zScr (s : State) (base L : Nat) (sc : Int → Int) (a0 : Nat) : Prop := ∃ (b : Nat) (xs : Nat → Int32), a0 = b + 1 ∧ (∀ i : Int, sc i = (xs i.toNat).toInt) ∧ va_X b L xs s s.heap ∧ b + 1 < base ∧ L < 2147483648
theorem z_sld (hc : zOk p s m args meth c D cc nL own ret) {a0 L : Nat} {sc : Int → Int} {i : Int} {Q : Int → Prop} (hX : zScr s base L sc a0) (hd : decode cc pc = .ok (.iaload, 1)) (H : cSld L sc i Q) (kk : ∀ v : Int, Q v → zW p l e R s m args below meth c D base nL Qf cells slots (pc + 1) ρ (.inl v :: st) h) : zW p l e R s m args below meth c D base nL Qf cells slots pc ρ (.inl i :: .inr (.inl a0) :: st) h := by
  intro Hp locs ls h1 h2 h3 h4
  obtain ⟨⟨g2, g3⟩, g4⟩ := H
  have h5 := kk _ g4 Hp locs ls h1 h2 h3 h4
  obtain ⟨b, xs, rfl, hsc, ⟨scr, x1, x2, x3, x4, x5⟩, hb, hL⟩ := hX
  show W p l e R s m args below meth c Hp locs cells slots Qf (F0 m pc ls (.int (Int32.ofInt i) :: .ref b :: st.map zen))
  refine W.iald (v := .int (xs i.toNat)) hc.1 hc.2.1 (by rw [h2 b hb]; exact x1) x2 x3 (by rw [x4]; exact z_vpin g2 g3 hL) ?_ rfl rfl hd ?_
  · rw [z_clamp g2 (by omega)]
    exact x5 _ (by omega)
  · have e0 : Value.int (xs i.toNat) = zen (.inl (sc i)) := by
      show _ = Value.int (Int32.ofInt _)
      rw [hsc, Int32.ofInt_toInt]
    rw [e0]
    exact h5
theorem z_slen (hc : zOk p s m args meth c D cc nL own ret) {a0 L : Nat} {sc : Int → Int} (hX : zScr s base L sc a0) (hd : decode cc pc = .ok (.arraylength, 1)) (kk : zW p l e R s m args below meth c D base nL Qf cells slots (pc + 1) ρ (.inl (L : Int) :: st) h) : zW p l e R s m args below meth c D base nL Qf cells slots pc ρ (.inr (.inl a0) :: st) h := by
  intro Hp locs ls h1 h2 h3 h4
  have h5 := kk Hp locs ls h1 h2 h3 h4
  obtain ⟨b, xs, rfl, -, ⟨scr, x1, x2, x3, x4, x5⟩, hb, hL⟩ := hX
  show W p l e R s m args below meth c Hp locs cells slots Qf (F0 m pc ls (.ref b :: st.map zen))
  exact W.alen (n := Int32.ofInt (L : Int)) hc.1 hc.2.1 (by rw [h2 b hb]; exact x1) x2 (by rw [x4]; exact (Int32.ofInt_eq_ofNat).symm) rfl rfl hd h5
/-- new int[n][k]: the outer row, then its rows -/
def zal2 (h : Zm) (n k : Nat) : Zm := (((fun b => if b = h.1.2 then (7, n) else if h.1.2 < b ∧ b ≤ h.1.2 + n then (1, k) else h.1.1 b), h.1.2 + 1 + n), (fun b j => if h.1.2 ≤ b ∧ b ≤ h.1.2 + n then 0 else h.2.1 b j), (fun b j => if b = h.1.2 then (if j.toNat < n then h.1.2 + 1 + j.toNat else 0) else if h.1.2 < b ∧ b ≤ h.1.2 + n then 0 else h.2.2 b j))
theorem z_outer (c : ClassId) (N h0 : Nat) : ∀ i : Nat, Jvm.Free.Multi.outerC c N h0 i = arrV c N (fun j => if j < i then .ref (h0 + 1 + j) else .null)
  | 0 => by
    show ({ cls := c, slots := Array.replicate N .null, vm := .none } : Cell) = _
    rw [arrV_new]
    rfl
  | i + 1 => by
    show (Jvm.Free.Multi.outerC c N h0 i).setSlot i (.ref (h0 + 1 + i)) = _
    rw [z_outer c N h0 i, arrV_store]
    refine congrArg (arrV c N) (z_upd ?_ ?_)
    · rw [if_pos (by omega)]
    · intro j hj
      by_cases q : j < i
      · rw [if_pos q, if_pos (by omega)]
      · rw [if_neg q, if_neg (by omega)]
def cNw2 (h : Zm) (n k : Nat) (Q : Nat → Zm → Prop) : Prop := Q h.1.2 (zal2 h n k)
theorem z_mna (hc : zOk p s m args meth c D cc nL own ret) {x n k : Nat} (hd : decode cc pc = .ok (.multianewarray x 2, 4)) (hw1 : Cond.classLink own x ("[" ++ (FieldType.array .int).toString) ∈ zT) (hw3 : Cond.arrayClass .int ∈ zT) (hn : n < 1000000) (hk : k < 1000000) (hcells : cells + (1 + n) ≤ R.cells) (hslots : slots + (n + n * k) ≤ R.slots) {Q : Nat → Zm → Prop} (H0 : cNw2 h n k Q) (kk : ∀ (a : Nat) (h' : Zm), Q a h' → zW p l e R s m args below meth c D base nL Qf (cells + 1 + n) (slots + n + n * k) (pc + 4) ρ (.inr (.inl a) :: st) h') : zW p l e R s m args below meth c D base nL Qf cells slots pc ρ (.inl (k : Int) :: .inl (n : Int) :: st) h := by
  intro H locs ls h1 h2 h3 h4 T hT Xs
  have hN : ∀ q : Nat, q < 1000000 → (Int32.ofInt (q : Int)).toNatClampNeg = q := fun q hq => by
    rw [z_clamp (by omega) (by omega)]
    rfl
  have hneg : ∀ q : Nat, q < 1000000 → ¬ Int32.ofInt (q : Int) < 0 := fun q hq => by
    rw [z_0, z_lt ⟨by omega, by omega⟩ z_in0]
    omega
  obtain ⟨vm₁, cA, comp, -, fA, fC, hO, -, X', step⟩ := Xs.multianewarray2F (ty := .int) hc.1 hc.2.2.2.1 (hc.2.2.2.2.1 _ hw1) hc.2.2.2.2.2.1.2.2.2 (hc.2.2.2.2.1 _ hw3) (g := F0 m pc ls ((.inl (k : Int) :: .inl (n : Int) :: st).map zen)) rfl (by rw [hc.2.1]; exact hd) (n := Int32.ofInt (n : Int)) (k := Int32.ofInt (k : Int)) rfl (hneg n hn) (hneg k hk) (by rw [hN n hn]; omega) (by rw [hN k hk]; show k * 4 ≤ _; omega) (by rw [hN k hk]; omega) rfl rfl (by rw [hN n hn]; exact hcells) (by rw [hN n hn, hN k hk]; exact hslots)
  rw [hN n hn, hN k hk] at X' step
  have hs := h1.1.1
  have hK := hc.2.2.2.2.2.2.2
  have ec : comp = D.2 1 := by
    have : s.vm.findClass ("[" ++ (zaty 1).toString) = some (D.2 1) := (hK.2 1 (by omega) (by omega)).2
    exact Option.some.inj (fC.symm.trans this)
  have ea : cA = D.2 7 := by
    have : s.vm.findClass ("[" ++ (zaty 7).toString) = some (D.2 7) := (hK.2 7 (by omega) (by omega)).2
    exact Option.some.inj (fA.symm.trans this)
  subst ec ea
  generalize hF : Jvm.Free.Multi.fill (T.setVm vm₁) (D.2 7) (D.2 1) n k (defaultValue .int) n = F at X' step
  have hTh : (T.setVm vm₁).heap = H := hT
  obtain ⟨f1, f2, -, -⟩ := Jvm.Free.Multi.fill_facts (T.setVm vm₁) (D.2 7) (D.2 1) n k (defaultValue .int) n
  rw [hF, hTh] at f1 f2
  have hold : ∀ x : Nat, x < H.size → F.heap[x]? = H[x]? := fun x hx => by
    have := Jvm.Free.Multi.fill_old (T.setVm vm₁) (D.2 7) (D.2 1) n k (defaultValue .int) (a := x) (by rw [hTh]; exact hx) n
    rw [hF, hTh] at this
    exact this
  have hrow : ∀ j : Nat, j < n → F.heap[H.size + 1 + j]? = some (arrV (D.2 1) k (fun _ => .int 0)) := fun j hj => by
    have := Jvm.Free.Multi.fill_inner (T.setVm vm₁) (D.2 7) (D.2 1) n k (defaultValue .int) n j hj
    rw [hF, hTh] at this
    rw [this, ← arrV_new]
    rfl
  rw [z_outer] at f2
  have hkd : ∀ b, zkd (zal2 h n k) b = if b = h.1.2 then (7, n) else if h.1.2 < b ∧ b ≤ h.1.2 + n then (1, k) else zkd h b := fun b => rfl
  have hI : ∀ b j, zI (zal2 h n k) b j = if h.1.2 ≤ b ∧ b ≤ h.1.2 + n then 0 else zI h b j := fun b j => rfl
  have hRr : ∀ b j, zR (zal2 h n k) b j = if b = h.1.2 then (if j.toNat < n then h.1.2 + 1 + j.toNat else 0) else if h.1.2 < b ∧ b ≤ h.1.2 + n then 0 else zR h b j := fun b j => rfl
  have hRep : zRep D base (zal2 h n k) F.heap := by
    obtain ⟨⟨r1, r0⟩, r2, r3, r4⟩ := h1
    refine ⟨⟨by rw [f1]; show _ = h.1.2 + 1 + n; omega, by show base ≤ h.1.2 + 1 + n; omega⟩, fun b hb => ?_, fun b j => ?_, fun b => ?_⟩
    · show 1 ≤ b ∧ base ≤ b ∧ b < h.1.2 + 1 + n
      by_cases e1 : b = h.1.2
      · omega
      · by_cases e2 : h.1.2 < b ∧ b ≤ h.1.2 + n
        · omega
        · rw [hkd, if_neg e1, if_neg e2] at hb
          have := r2 b hb
          omega
    · rw [hI]
      split
      · exact z_in0
      · exact r3 b j
    · by_cases e1 : b = h.1.2
      · subst e1
        have ek : zkd (zal2 h n k) h.1.2 = (7, n) := by rw [hkd, if_pos rfl]
        refine ⟨fun q => by rw [ek] at q; omega, fun _ => ⟨?_, by rw [ek]; show n < _; omega⟩, fun q => by rw [ek] at q; omega⟩
        rw [ek, show h.1.2 - 1 = H.size by omega, f2]
        refine congrArg (fun z => some (arrV _ _ z)) (funext fun j => ?_)
        rw [hRr, if_pos rfl, Int.toNat_natCast]
        by_cases hj : j < n
        · rw [if_pos hj, if_pos hj]
          show Value.ref (H.size + 1 + j) = _
          rw [show h.1.2 + 1 + j = (H.size + 1 + j) + 1 by omega]
          rfl
        · rw [if_neg hj, if_neg hj]
          rfl
      · by_cases e2 : h.1.2 < b ∧ b ≤ h.1.2 + n
        · have ek : zkd (zal2 h n k) b = (1, k) := by rw [hkd, if_neg e1, if_pos e2]
          refine ⟨fun _ => ⟨?_, by rw [ek]; show k < _; omega⟩, fun q => by rw [ek] at q; omega, fun q => by rw [ek] at q; omega⟩
          rw [ek, show b - 1 = H.size + 1 + (b - 1 - (H.size + 1)) by omega, hrow _ (by omega)]
          refine congrArg (fun z => some (arrV _ _ z)) (funext fun j => ?_)
          rw [hI, if_pos (by omega)]
          rfl
        · have ek : zkd (zal2 h n k) b = zkd h b := by rw [hkd, if_neg e1, if_neg e2]
          by_cases q : (zkd h b).1 = 0
          · exact zAt_none (by rw [ek]; exact q)
          · have := r2 b q
            exact (r4 b).kept ek (fun j => by rw [hI, if_neg (by omega)]) (fun j => by rw [hRr, if_neg e1, if_neg e2]) (hold _ (by omega))
  obtain ⟨t, a1, b1⟩ := kk _ _ H0 F.heap locs ls hRep (fun q hq => by rw [hold q (by have := h1.1.2; omega)]; exact h2 q hq) h3 h4 F rfl X'
  refine ⟨t, step t ?_, b1⟩
  have e2 : (Value.ref T.heap.size : Value) = zen (.inr (.inl h.1.2)) := by
    show _ = zrf h.1.2
    rw [← hs, hT]
    rfl
  rw [e2]
  exact a1
end ZS
