/-! new cells, returns, calls, contracts -/
theorem zGoodIn {y : MethodName} {b : ByteArray} {n : Nat} {ret : Option FieldType} (h : Cond.code y b n ret ∈ zT) : GoodIn zT (Cond.code y b n ret :: zT) := by
  intro w hw
  rcases List.mem_cons.mp hw with rfl | h1
  · exact ⟨h, good_of_word (z_good _ h)⟩
  · exact ⟨h1, good_of_word (z_good _ h1)⟩
def zPc (D : Zd) (base : Nat) (av : List Zv) (h : Zm) : Array Value → State → Prop := fun a U => a = (av.map zen).toArray ∧ (zKn D U ∧ zNs U) ∧ zRep D base h U.heap
def zOld (base : Nat) (st t : State) : Prop := ∀ q : Nat, q + 1 < base → t.heap[q]? = st.heap[q]?
def zQi (D : Zd) (base : Nat) (Q : Int → Zm → Prop) : Array Value → State → Outcome → State → Prop := fun _ st o t => (∃ (v : Int) (h' : Zm), o = .returned (some (.int (Int32.ofInt v))) ∧ Q v h' ∧ zRep D base h' t.heap) ∧ zOld base st t
def zQr (D : Zd) (base : Nat) (Q : Nat → Zm → Prop) : Array Value → State → Outcome → State → Prop := fun _ st o t => (∃ (v : Nat) (h' : Zm), o = .returned (some (zrf v)) ∧ Q v h' ∧ zRep D base h' t.heap) ∧ zOld base st t
def zQv (D : Zd) (base : Nat) (Q : Zm → Prop) : Array Value → State → Outcome → State → Prop := fun _ st o t => (∃ h' : Zm, o = .returned none ∧ Q h' ∧ zRep D base h' t.heap) ∧ zOld base st t
def zFree (base : Nat) : Addr → Prop := fun q => base ≤ q + 1
/-- a method's contract over the small machine -/
def zMet (l : Launch) (D : Zd) (base : Nat) (y : MethodName) (b : ByteArray) (n : Nat) (ret : Option FieldType) (rm : Room) (av : List Zv) (h : Zm) (Qc : Array Value → State → Outcome → State → Prop) : Prop :=
  Met l y (Cond.code y b n ret :: zT) rm (zPc D base av h) Qc rm.cells rm.slots (zFree base)
theorem zPc_blind {D : Zd} {base : Nat} {av : List Zv} {h : Zm} : FrameBlind (zPc D base av h) := fun a U g mk q => ⟨q.1, ⟨zKn.moved (u := U) (U := U.calling g mk a) (Vm.Alike.refl _) q.2.1.1, zNs.same (s := U) (U := U.calling g mk a) rfl q.2.1.2⟩, q.2.2⟩
theorem zRep.new {D : Zd} {base t n : Nat} {h : Zm} {H H' : Heap} (hR : zRep D base h H) (hz : H'.size = H.size + 1) (ho : ∀ q : Nat, q < H.size → H'[q]? = H[q]?) (ha : zAt D (zal h t n) h.1.2 H') : zRep D base (zal h t n) H' := by
  obtain ⟨⟨r1, r0⟩, r2, r3, r4⟩ := hR
  have hne : ∀ b, b ≠ h.1.2 → zkd (zal h t n) b = zkd h b := fun b hb => if_neg hb
  refine ⟨⟨by rw [hz]; show _ = h.1.2 + 1; omega, by show base ≤ h.1.2 + 1; omega⟩, fun b hb => ?_, fun b j => ?_, fun b => ?_⟩
  · show 1 ≤ b ∧ base ≤ b ∧ b < h.1.2 + 1
    by_cases e : b = h.1.2
    · omega
    · rw [hne b e] at hb
      have := r2 b hb
      omega
  · show InR (if b = h.1.2 then 0 else h.2.1 b j)
    split
    · exact z_in0
    · exact r3 b j
  · by_cases e : b = h.1.2
    · subst e
      exact ha
    · by_cases q : (zkd h b).1 = 0
      · exact zAt_none (by rw [hne b e]; exact q)
      · have := r2 b q
        refine (r4 b).kept (hne b e) (fun j => if_neg e) (fun j => if_neg e) (ho _ ?_)
        omega
theorem zal_kd {h : Zm} {t n : Nat} : zkd (zal h t n) h.1.2 = (t, n) := if_pos rfl
theorem zal_I {h : Zm} {t n : Nat} {j : Int} : zI (zal h t n) h.1.2 j = 0 := if_pos rfl
theorem zal_R {h : Zm} {t n : Nat} {j : Int} : zR (zal h t n) h.1.2 j = 0 := if_pos rfl
section ZC
variable {p : Program} {l : Launch} {e : Env} {R : Room} {s : State} {m : MethodId} {args : Array Value} {below : List Frame} {meth : Method} {c : Code} {D : Zd} {base nL : Nat} {Qf : State → Prop} {cells slots pc : Nat} {ρ : List (Option Zv)} {st : List Zv} {h : Zm} {cc : ByteArray} {own : String} {ret : Option FieldType}
theorem z_new (hc : zOk p s m args meth c D cc nL own ret) {x ci N : Nat} {C : String} {T : u_T} (hd : decode cc pc = .ok (.new x, 3)) (hC : zCf ci C T N) (hdf : ∀ k, k < N → defaultValue (zty ci k) = zF ci k 0 0) (hw1 : Cond.classLink own x C ∈ zT) (hw2 : Cond.instantiable C N ∈ zT) (hw3 : Cond.initialized C ∈ zT) (hcells : cells + 1 ≤ R.cells) (hslots : slots + N ≤ R.slots) {Q : Nat → Zm → Prop} (H : cNw h (10 + ci) N Q) (kk : ∀ (a : Nat) (h' : Zm), Q a h' → zW p l e R s m args below meth c D base nL Qf (cells + 1) (slots + N) (pc + 3) ρ (.inr (.inl a) :: st) h') : zW p l e R s m args below meth c D base nL Qf cells slots pc ρ st h := by
  intro Hp locs ls h1 h2 h3 h4
  have hKn : u_Kn s C T N (D.1.1 ci) (D.1.2 ci) := hc.2.2.2.2.2.2.2.1 ci _ hC.1
  refine W.newcK hc.1 hc.2.1 hc.2.2.2.1 (hc.2.2.2.2.1 _ hw1) (hc.2.2.2.2.1 _ hw2) (hc.2.2.2.2.1 _ hw3) rfl hd hcells hslots hKn.2.1 rfl fun H1 kC hkC e1 z1 o1 => ?_
  have hs := h1.1.1
  have hb := u_born (zty ci) hc.2.2.2.2.1 hC.2.2.1 hKn hkC e1 hC.2.2.2.1
  have h5 := kk _ _ H H1 locs ls (h1.new z1 o1 ?_) (fun q hq => by rw [o1 q (by have := h1.1.2; omega)]; exact h2 q hq) h3 h4
  · have e2 : (Value.ref Hp.size : Value) = zen (.inr (.inl h.1.2)) := by
      show _ = zrf h.1.2
      rw [← hs]
      rfl
    show W p l e R s m args below meth c H1 locs (cells + 1) (slots + N) Qf (F0 m (pc + 3) ls (.ref Hp.size :: st.map zen))
    rw [e2]
    exact h5
  · refine ⟨fun q => by rw [zal_kd] at q; omega, fun q => by rw [zal_kd] at q; omega, fun q => ⟨by rw [zal_kd]; have := z_ci hC; show 10 + ci < 18; omega, ?_⟩⟩
    rw [zal_kd]
    show t_OB (h.1.2 - 1) (D.1.1 (10 + ci - 10)) (zN (10 + ci - 10)) (D.1.2 (10 + ci - 10)) H1 _
    rw [show 10 + ci - 10 = ci by omega, hC.2.1, show h.1.2 - 1 = Hp.size by omega]
    refine hb.to fun k hk => ?_
    rw [hdf k hk, zal_I, zal_R]
theorem z_newarr (hc : zOk p s m args meth c D cc nL own ret) {at0 : ArrayType} {t n : Nat} (hd : decode cc pc = .ok (.newarray at0, 2)) (ht : t = 1 ∨ t = 2) (hty : newarray.typeOf at0 = zaty t) (hw : Cond.arrayClass (zaty t) ∈ zT) (hn : n < 1000000) (hcells : cells + 1 ≤ R.cells) (hslots : slots + n ≤ R.slots) {Q : Nat → Zm → Prop} (H : cNw h t n Q) (kk : ∀ (a : Nat) (h' : Zm), Q a h' → zW p l e R s m args below meth c D base nL Qf (cells + 1) (slots + n) (pc + 2) ρ (.inr (.inl a) :: st) h') : zW p l e R s m args below meth c D base nL Qf cells slots pc ρ (.inl (n : Int) :: st) h := by
  intro Hp locs ls h1 h2 h3 h4
  have hN : (Int32.ofInt (n : Int)).toNatClampNeg = n := by
    rw [z_clamp (by omega) (by omega)]
    rfl
  have hneg : ¬ Int32.ofInt (n : Int) < 0 := by
    rw [z_0, z_lt ⟨by omega, by omega⟩ z_in0]
    omega
  have hcb : componentBytes (newarray.typeOf at0) ≤ 4 := by
    rw [hty]
    rcases ht with rfl | rfl <;> decide
  have hby : n * componentBytes (newarray.typeOf at0) ≤ 536870912 := Nat.le_trans (Nat.mul_le_mul_left n hcb) (by omega)
  refine va_newaK hc.1 hc.2.1 (by rw [hty]; exact hc.2.2.2.2.1 _ hw) rfl hd rfl hneg hN hby hcells hslots rfl fun H1 cA e1 z1 o1 hAr hNm => ?_
  have hs := h1.1.1
  have hcA : cA = D.2 t := by
    have hRA := (hc.2.2.2.2.2.2.2.2 t (by omega) (by omega)).2
    rw [hty] at hNm
    have : s.vm.findClass ("[" ++ (zaty t).toString) = some (D.2 t) := by
      rcases ht with rfl | rfl <;> exact hRA
    exact Option.some.inj (hNm.symm.trans this)
  subst hcA
  have h5 := kk _ _ H H1 locs ls (h1.new z1 o1 ?_) (fun q hq => by rw [o1 q (by have := h1.1.2; omega)]; exact h2 q hq) h3 h4
  · have e2 : (Value.ref Hp.size : Value) = zen (.inr (.inl h.1.2)) := by
      show _ = zrf h.1.2
      rw [← hs]
      rfl
    show W p l e R s m args below meth c H1 locs (cells + 1) (slots + n) Qf (F0 m (pc + 2) ls (.ref Hp.size :: st.map zen))
    rw [e2]
    exact h5
  · refine ⟨fun q => ⟨?_, by rw [zal_kd]; show n < _; omega⟩, fun q => by rw [zal_kd] at q; omega, fun q => by rw [zal_kd] at q; omega⟩
    rw [zal_kd, show h.1.2 - 1 = Hp.size by omega, e1, hty]
    refine congrArg (fun z => some (arrV _ _ z)) (funext fun j => ?_)
    rw [zal_I]
    rcases ht with rfl | rfl <;> rfl
theorem z_anew (hc : zOk p s m args meth c D cc nL own ret) {x t n : Nat} {C : String} (hd : decode cc pc = .ok (.anewarray x, 3)) (ht : 4 ≤ t ∧ t ≤ 6) (hty : zaty t = .object C) (hw1 : Cond.classLink own x C ∈ zT) (hw2 : C ∈ zAoc) (hn : n < 1000000) (hcells : cells + 1 ≤ R.cells) (hslots : slots + n ≤ R.slots) {Q : Nat → Zm → Prop} (H : cNw h t n Q) (kk : ∀ (a : Nat) (h' : Zm), Q a h' → zW p l e R s m args below meth c D base nL Qf (cells + 1) (slots + n) (pc + 3) ρ (.inr (.inl a) :: st) h') : zW p l e R s m args below meth c D base nL Qf cells slots pc ρ (.inl (n : Int) :: st) h := by
  intro Hp locs ls h1 h2 h3 h4
  have hN : (Int32.ofInt (n : Int)).toNatClampNeg = n := by
    rw [z_clamp (by omega) (by omega)]
    rfl
  have hneg : ¬ Int32.ofInt (n : Int) < 0 := by
    rw [z_0, z_lt ⟨by omega, by omega⟩ z_in0]
    omega
  refine W.anew hc.1 hc.2.1 hc.2.2.2.1 (hc.2.2.2.2.1 _ hw1) (va_AO.use (hc.2.2.2.2.2.1.2.2.1 _ hw2)) rfl hd rfl hneg (by rw [hN]; omega) hcells (by rw [hN]; exact hslots) fun cA kA comp f1 f2 f3 f4 => ?_
  rw [hN]
  generalize hH1 : Hp.push ({ cls := cA, slots := Array.replicate n .null, vm := .none } : Cell) = H1
  have z1 : H1.size = Hp.size + 1 := by rw [← hH1, Array.size_push]
  have e1 : H1[Hp.size]? = some (arrV cA n (fun _ => .null)) := by rw [← hH1, Array.getElem?_push_size, ← arrV_new]
  have o1 : ∀ q : Nat, q < Hp.size → H1[q]? = Hp[q]? := fun q hq => by rw [← hH1, Array.getElem?_push, if_neg (Nat.ne_of_lt hq)]
  have hs := h1.1.1
  have hcA : cA = D.2 t := by
    have hRA := (hc.2.2.2.2.2.2.2.2 t (by omega) (by omega)).2
    rw [hty] at hRA
    obtain ⟨_, _, _, _, _, h9⟩ := hRA
    exact Option.some.inj (f1.symm.trans h9)
  subst hcA
  have h5 := kk _ _ H H1 locs ls (h1.new z1 o1 ?_) (fun q hq => by rw [o1 q (by have := h1.1.2; omega)]; exact h2 q hq) h3 h4
  · have e2 : (Value.ref Hp.size : Value) = zen (.inr (.inl h.1.2)) := by
      show _ = zrf h.1.2
      rw [← hs]
      rfl
    show W p l e R s m args below meth c H1 locs (cells + 1) (slots + n) Qf (F0 m (pc + 3) ls (.ref Hp.size :: st.map zen))
    rw [e2]
    exact h5
  · refine ⟨fun q => by rw [zal_kd] at q; omega, fun q => ⟨?_, by rw [zal_kd]; show n < _; omega⟩, fun q => by rw [zal_kd] at q; omega⟩
    rw [zal_kd, show h.1.2 - 1 = Hp.size by omega, e1]
    refine congrArg (fun z => some (arrV _ _ z)) (funext fun j => ?_)
    rw [zal_R]
    rfl
theorem z_objInit (hc : zOk p s m args meth c D cc nL own ret) {x a : Nat} (hd : decode cc pc = .ok (.invokespecial x, 3)) (hw1 : Cond.methodLink own x objectInit ∈ zT) (hw2 : Cond.instanceMethod objectInit ∈ zT) (hw3 : Cond.code objectInit ⟨#[0xb1]⟩ 1 none ∈ zT) (hfr : 1 ≤ R.frames) (hlo : 20 ≤ R.locals) (h8 : zlen st ≤ 8) {d : Nat} (hd0 : 1 ≤ d) {P : Prop} (H : cRc h d a P) (kk : P → zW p l e R s m args below meth c D base nL Qf cells slots (pc + 3) ρ st h) : zW p l e R s m args below meth c D base nL Qf cells slots pc ρ (.inr (.inl a) :: st) h := by
  intro Hp locs ls h1 h2 h3 h4
  have h5 := kk H.2 Hp locs ls h1 h2 h3 h4
  have ha : 1 ≤ a := (h1.2.1 a (by rw [H.1]; omega)).1
  show W p l e R s m args below meth c Hp locs cells slots Qf (F0 m pc ls (zrf a :: st.map zen))
  rw [zrf_pos ha]
  have hcat : ((st.map zen).map fun v => v.category).sum ≤ 8 := by
    have : ∀ z : List Zv, ((z.map zen).map fun v => v.category).sum = zlen z := fun z => by
      induction z with
      | nil => rfl
      | cons x xs ih =>
        rw [List.map_cons, List.map_cons, List.sum_cons, ih, zen_cat]
        rfl
    rw [this]
    exact h8
  exact W.objInit hc.1 hc.2.1 hc.2.2.2.1 (hc.2.2.2.2.1 _ hw1) (hc.2.2.2.2.1 _ hw2) (hc.2.2.2.2.1 _ hw3) rfl (by rw [hc.2.2.1]; exact h4.1) rfl hd hfr (by have := lv_room (m := m) (pc := pc) (ls := ls) (rest := Value.ref (a - 1) :: st.map zen) (st := st.map zen) hcat; omega) h5
theorem z_ireturn (hc : zOk p s m args meth c D cc nL own (some .int)) {v : Int} {Q : Int → Zm → Prop} (hd : decode cc pc = .ok (.ireturn, 1)) (H : Q v h) : zW p l e R s m args below meth c D base nL (MQ below (zQi D base Q) args s cells slots (zFree base)) cells slots pc ρ [.inl v] h := by
  intro Hp locs ls h1 h2 h3 h4
  exact W.iret (v := Int32.ofInt v) hc.1 hc.2.1 hc.2.2.2.2.2.2.1 (fun t ht hW => ⟨⟨v, h, rfl, H, by rw [ht]; exact h1⟩, fun q hq => by rw [ht]; exact h2 q hq⟩) h3 hd (hlocks := hc.2.2.2.2.2.1.1)
theorem z_zreturn (hc : zOk p s m args meth c D cc nL own (some .boolean)) {v : Int} {Q : Int → Zm → Prop} (hd : decode cc pc = .ok (.ireturn, 1)) (H : cBr v (Q v h)) : zW p l e R s m args below meth c D base nL (MQ below (zQi D base Q) args s cells slots (zFree base)) cells slots pc ρ [.inl v] h := by
  intro Hp locs ls h1 h2 h3 h4
  have hn : narrow .boolean (.int (Int32.ofInt v)) = .int (Int32.ofInt v) := by
    rcases H.1 with rfl | rfl
    · exact narrow_b0
    · exact narrow_b1
  exact W.zret (v := Int32.ofInt v) hc.1 hc.2.1 hc.2.2.2.2.2.2.1 hn (fun t ht hW => ⟨⟨v, h, rfl, H.2, by rw [ht]; exact h1⟩, fun q hq => by rw [ht]; exact h2 q hq⟩) h3 hd (hlocks := hc.2.2.2.2.2.1.1)
theorem z_areturn {rt : FieldType} (hc : zOk p s m args meth c D cc nL own (some rt)) {v : Nat} {Q : Nat → Zm → Prop} (hrt : (∃ n, rt = .object n) ∨ ∃ t, rt = .array t) (hd : decode cc pc = .ok (.areturn, 1)) (H : Q v h) : zW p l e R s m args below meth c D base nL (MQ below (zQr D base Q) args s cells slots (zFree base)) cells slots pc ρ [.inr (.inl v)] h := by
  intro Hp locs ls h1 h2 h3 h4
  exact W.aret (v := zrf v) hc.1 hc.2.1 hc.2.2.2.2.2.2.1 hrt (by cases v; exact Or.inl rfl; exact Or.inr ⟨_, rfl⟩) (fun t ht hW => ⟨⟨v, h, rfl, H, by rw [ht]; exact h1⟩, fun q hq => by rw [ht]; exact h2 q hq⟩) h3 hd (hlocks := hc.2.2.2.2.2.1.1)
theorem z_return (hc : zOk p s m args meth c D cc nL own none) {Q : Zm → Prop} (hd : decode cc pc = .ok (.return_, 1)) (H : Q h) : zW p l e R s m args below meth c D base nL (MQ below (zQv D base Q) args s cells slots (zFree base)) cells slots pc ρ [] h := by
  intro Hp locs ls h1 h2 h3 h4
  exact W.vret hc.1 hc.2.1 hc.2.2.2.2.2.2.1 (fun t ht hW => ⟨⟨h, rfl, H, by rw [ht]; exact h1⟩, fun q hq => by rw [ht]; exact h2 q hq⟩) h3 hd (hlocks := hc.2.2.2.2.2.1.1)
/-- behind a call -/
theorem z_ran {Qc : Array Value → State → Outcome → State → Prop} {a : Array Value} {mc ms : Nat} {sts : List Value} {P : Option Value → Zm → Prop} (hr : ∀ (H : Heap) (locs : List Loc) (ls : Array Slot), zRep D base h H → zL ls nL ρ → va_Run p l e R s m args below meth c H locs cells slots mc ms (F0 m pc ls sts) (st.map zen) (Qc a) (zFree base))
    (hQ : ∀ (u : State) (v : Option Value) (t : State), Qc a u (.returned v) t → ∃ h' : Zm, P v h' ∧ zRep D base h' t.heap ∧ zOld base u t)
    (k : ∀ (v : Option Value) (h' : Zm), P v h' → ∀ (H : Heap) (locs : List Loc) (ls : Array Slot), zRep D base h' H → (∀ q : Nat, q + 1 < base → H[q]? = s.heap[q]?) → (∀ q ∈ locs, base ≤ q.base + 1) → zL ls nL ρ → W p l e R s m args below meth c H locs (cells + mc) (slots + ms) Qf (F0 m (pc + 3) ls (v.toList ++ st.map zen))) :
    ∀ (H : Heap) (locs : List Loc) (ls : Array Slot), zRep D base h H → (∀ q : Nat, q + 1 < base → H[q]? = s.heap[q]?) → (∀ q ∈ locs, base ≤ q.base + 1) → zL ls nL ρ → W p l e R s m args below meth c H locs cells slots Qf (F0 m pc ls sts) := by
  intro H locs ls h1 h2 h3 h4 T hT X
  obtain ⟨v, st₀, t, T', L, h0, X', hL, e1, e2, hq, stp⟩ := hr H locs ls h1 h4 T hT X
  obtain ⟨h', hP, hR', hO⟩ := hQ st₀ v t hq
  obtain ⟨t2, a1, b1⟩ := k v h' hP T'.heap (locs ++ L) ls (by rw [e1]; exact hR') (fun q hq => by rw [e1, hO q hq, h0]; exact h2 q hq) (fun q hq => by
    rcases List.mem_append.mp hq with h9 | h9
    · exact h3 q h9
    · exact hL q h9) h4 T' rfl X'
  exact ⟨t2, stp t2 a1, b1⟩
theorem z_pre {D : Zd} {base : Nat} {av : List Zv} {h : Zm} {H : Heap} (hK : zKn D s) (hN : zNs s) (hR : zRep D base h H) : ∀ U : State, U.heap = H → s.WarmedH U.vm → zPc D base av h (av.map zen).toArray U := fun U hU hW => ⟨rfl, ⟨hK.moved hW.alike, hN.warm hW⟩, by rw [hU]; exact hR⟩
theorem z_cat8 (h8 : zlen st ≤ 8) : ((st.map zen).map fun v => v.category).sum ≤ 8 := by
  have : ∀ z : List Zv, ((z.map zen).map fun v => v.category).sum = zlen z := fun z => by
    induction z with
    | nil => rfl
    | cons x xs ih =>
      rw [List.map_cons, List.map_cons, List.sum_cons, ih, zen_cat]
      rfl
  rw [this]
  exact h8
def zCs (own : String) (x : Nat) (y : MethodName) (b : ByteArray) (n : Nat) (ret : Option FieldType) (k : Nat) : Prop := (Cond.methodLink own x y ∈ zT ∧ Cond.static y ∈ zT ∧ Cond.initialized y.cls ∈ zT ∧ Cond.code y b n ret ∈ zT) ∧ y.cls ≠ "java/lang/invoke/MethodHandle" ∧ y.cls ≠ "java/lang/invoke/VarHandle" ∧ (parseMethodDescriptor y.desc).map (fun d => d.parameters.length) = some k
def zCn (own : String) (x : Nat) (y : MethodName) (host : String) (b : ByteArray) (n : Nat) (ret : Option FieldType) (k : Nat) : Prop := ((own, x, y, host) ∈ zNl ∧ Cond.static y ∈ zT ∧ Cond.initialized y.cls ∈ zT ∧ Cond.code y b n ret ∈ zT) ∧ y.cls ≠ "java/lang/invoke/MethodHandle" ∧ y.cls ≠ "java/lang/invoke/VarHandle" ∧ (parseMethodDescriptor y.desc).map (fun d => d.parameters.length) = some k
def zCv (own : String) (x : Nat) (y : MethodName) (b : ByteArray) (n : Nat) (ret : Option FieldType) (k : Nat) : Prop := (Cond.methodLink own x y ∈ zT ∧ Cond.instanceMethod y ∈ zT ∧ Cond.selects y.cls y y ∈ zT ∧ Cond.initialized y.cls ∈ zT ∧ Cond.code y b n ret ∈ zT) ∧ y.cls ≠ "java/lang/invoke/MethodHandle" ∧ y.cls ≠ "java/lang/invoke/VarHandle" ∧ (parseMethodDescriptor y.desc).map (fun d => d.parameters.length) = some k
def zCi (own : String) (x : Nat) (y : MethodName) (b : ByteArray) (n : Nat) (k : Nat) : Prop := (Cond.methodLink own x y ∈ zT ∧ Cond.instanceMethod y ∈ zT ∧ y.name = "<init>" ∧ Cond.initialized y.cls ∈ zT ∧ Cond.code y b n none ∈ zT) ∧ y.cls ≠ "java/lang/invoke/MethodHandle" ∧ y.cls ≠ "java/lang/invoke/VarHandle" ∧ (parseMethodDescriptor y.desc).map (fun d => d.parameters.length) = some k
def zRoom (rm R : Room) (n : Nat) : Prop := rm.frames + 1 ≤ R.frames ∧ 8 + (n + 11) + rm.locals ≤ R.locals
theorem z_runS (hc : zOk p s m args meth c D cc nL own ret) {x n k : Nat} {y : MethodName} {b : ByteArray} {rt : Option FieldType} {rm : Room} {av : List Zv} {Qc : Array Value → State → Outcome → State → Prop} (hd : decode cc pc = .ok (.invokestatic x, 3)) (hw : zCs own x y b n rt k) (hM : zMet l D base y b n rt rm av h Qc) (hk : av.length = k) (h8 : zlen st ≤ 8) (hR : zRoom rm R n) (hf : cells + rm.cells ≤ R.cells ∧ slots + rm.slots ≤ R.slots) : ∀ (H : Heap) (locs : List Loc) (ls : Array Slot), zRep D base h H → zL ls nL ρ → va_Run p l e R s m args below meth c H locs cells slots rm.cells rm.slots (F0 m pc ls ((av.map zen).reverse ++ st.map zen)) (st.map zen) (Qc (av.map zen).toArray) (zFree base) := by
  intro H locs ls h1 h4
  obtain ⟨⟨w1, w2, w3, w4⟩, w5⟩ := hw
  exact va_runS (As := av.map zen) (rest := st.map zen) ⟨hc.1, hc.2.1, hc.2.2.1, hc.2.2.2.1, hc.2.2.2.2.1⟩ hM ⟨callB_of k hc.2.2.2.2.1 (zGoodIn w4) rfl rfl rfl (hc.2.2.2.2.1 _ w3) (hc.2.2.2.2.1 _ w1) w5 hR, hc.2.2.2.2.1 _ w2⟩ ⟨zPc_blind, z_pre hc.2.2.2.2.2.2.2 hc.2.2.2.2.2.1.2 h1⟩ rfl (by rw [List.length_map]; exact hk) h4.1 rfl (lv_room (z_cat8 h8)) hd hf
theorem z_runN (hc : zOk p s m args meth c D cc nL own ret) {x n k : Nat} {y : MethodName} {host : String} {b : ByteArray} {rt : Option FieldType} {rm : Room} {av : List Zv} {Qc : Array Value → State → Outcome → State → Prop} (hd : decode cc pc = .ok (.invokestatic x, 3)) (hw : zCn own x y host b n rt k) (hM : zMet l D base y b n rt rm av h Qc) (hk : av.length = k) (h8 : zlen st ≤ 8) (hR : zRoom rm R n) (hf : cells + rm.cells ≤ R.cells ∧ slots + rm.slots ≤ R.slots) : ∀ (H : Heap) (locs : List Loc) (ls : Array Slot), zRep D base h H → zL ls nL ρ → va_Run p l e R s m args below meth c H locs cells slots rm.cells rm.slots (F0 m pc ls ((av.map zen).reverse ++ st.map zen)) (st.map zen) (Qc (av.map zen).toArray) (zFree base) := by
  intro H locs ls h1 h4
  obtain ⟨⟨w1, w2, w3, w4⟩, w5⟩ := hw
  exact va_runSN (As := av.map zen) (rest := st.map zen) ⟨hc.1, hc.2.1, hc.2.2.1, hc.2.2.2.1, hc.2.2.2.2.1⟩ hM ⟨va_cnB k hc.2.2.2.2.1 (zGoodIn w4) rfl rfl rfl (hc.2.2.2.2.2.1.2.1 _ w1) (hc.2.2.2.2.1 _ w3) w5 hR, hc.2.2.2.2.1 _ w2, trivial⟩ ⟨zPc_blind, z_pre hc.2.2.2.2.2.2.2 hc.2.2.2.2.2.1.2 h1⟩ rfl (by rw [List.length_map]; exact hk) h4.1 rfl (lv_room (z_cat8 h8)) hd hf
theorem z_runV (hc : zOk p s m args meth c D cc nL own ret) {x n k a ci N : Nat} {T : u_T} {y : MethodName} {b : ByteArray} {rt : Option FieldType} {rm : Room} {av : List Zv} {Qc : Array Value → State → Outcome → State → Prop} (hd : decode cc pc = .ok (.invokevirtual x, 3)) (hw : zCv own x y b n rt k) (hM : zMet l D base y b n rt rm (.inr (.inl a) :: av) h Qc) (hk : av.length = k) (h8 : zlen st ≤ 8) (hR : zRoom rm R n) (hf : cells + rm.cells ≤ R.cells ∧ slots + rm.slots ≤ R.slots) (hcl : vwCl[ci]? = some (y.cls, T, N)) (ha : (zkd h a).1 = 10 + ci) : ∀ (H : Heap) (locs : List Loc) (ls : Array Slot), zRep D base h H → zL ls nL ρ → va_Run p l e R s m args below meth c H locs cells slots rm.cells rm.slots (F0 m pc ls ((av.map zen).reverse ++ zrf a :: st.map zen)) (st.map zen) (Qc ((.inr (.inl a) :: av).map zen).toArray) (zFree base) := by
  intro H locs ls h1 h4
  obtain ⟨⟨w1, w2, w3, w4, w6⟩, w5⟩ := hw
  obtain ⟨ha1, -, -⟩ := h1.2.1 a (by omega)
  obtain ⟨-, cellB, r1, r2, r3, -⟩ := (h1.2.2.2 a).2.2 (by omega)
  rw [ha, show 10 + ci - 10 = ci by omega] at r2
  have hcls := hc.2.2.2.2.2.2.2.1 ci _ hcl
  have hfc : s.vm.findClass y.cls = some cellB.cls := by rw [r2]; exact hcls.2.1
  have e0 : (Qc ((.inr (.inl a) :: av).map zen).toArray) = Qc (Value.ref (a - 1) :: av.map zen).toArray := by
    rw [List.map_cons]
    show Qc (zrf a :: av.map zen).toArray = _
    rw [zrf_pos ha1]
  have hpre : ∀ U : State, U.heap = H → s.WarmedH U.vm → zPc D base (.inr (.inl a) :: av) h (Value.ref (a - 1) :: av.map zen).toArray U := fun U hU hW => by
    have := z_pre (s := s) (av := .inr (.inl a) :: av) hc.2.2.2.2.2.2.2 hc.2.2.2.2.2.1.2 h1 U hU hW
    rw [List.map_cons] at this
    have e : zen (.inr (.inl a)) = Value.ref (a - 1) := zrf_pos ha1
    rw [e] at this
    exact this
  rw [e0, zrf_pos ha1]
  exact va_runV (As := av.map zen) (rest := st.map zen) (C := y.cls) ⟨hc.1, hc.2.1, hc.2.2.1, hc.2.2.2.1, hc.2.2.2.2.1⟩ hM ⟨callB_of k hc.2.2.2.2.1 (zGoodIn w6) rfl rfl rfl (hc.2.2.2.2.1 _ w4) (hc.2.2.2.2.1 _ w1) w5 hR, hc.2.2.2.2.1 _ w2, hc.2.2.2.2.1 _ w3⟩ ⟨zPc_blind, ⟨cellB, r1, by rw [r3]; rfl, hfc⟩, hpre⟩ rfl (by rw [List.length_map]; exact hk) h4.1 rfl (lv_room (z_cat8 h8)) hd hf
theorem z_runI (hc : zOk p s m args meth c D cc nL own ret) {x n k a : Nat} {y : MethodName} {b : ByteArray} {rm : Room} {av : List Zv} {Qc : Array Value → State → Outcome → State → Prop} (hd : decode cc pc = .ok (.invokespecial x, 3)) (hw : zCi own x y b n k) (hM : zMet l D base y b n none rm (.inr (.inl a) :: av) h Qc) (hk : av.length = k) (h8 : zlen st ≤ 8) (hR : zRoom rm R n) (hf : cells + rm.cells ≤ R.cells ∧ slots + rm.slots ≤ R.slots) {d : Nat} (hd0 : 1 ≤ d) (ha0 : (zkd h a).1 = d) : ∀ (H : Heap) (locs : List Loc) (ls : Array Slot), zRep D base h H → zL ls nL ρ → va_Run p l e R s m args below meth c H locs cells slots rm.cells rm.slots (F0 m pc ls ((av.map zen).reverse ++ zrf a :: st.map zen)) (st.map zen) (Qc ((.inr (.inl a) :: av).map zen).toArray) (zFree base) := by
  intro H locs ls h1 h4
  have ha : 1 ≤ a := (h1.2.1 a (by rw [ha0]; omega)).1
  obtain ⟨⟨w1, w2, w3, w4, w6⟩, w5⟩ := hw
  have e0 : (Qc ((.inr (.inl a) :: av).map zen).toArray) = Qc (Value.ref (a - 1) :: av.map zen).toArray := by
    rw [List.map_cons]
    show Qc (zrf a :: av.map zen).toArray = _
    rw [zrf_pos ha]
  have hpre : ∀ U : State, U.heap = H → s.WarmedH U.vm → zPc D base (.inr (.inl a) :: av) h (Value.ref (a - 1) :: av.map zen).toArray U := fun U hU hW => by
    have := z_pre (s := s) (av := .inr (.inl a) :: av) hc.2.2.2.2.2.2.2 hc.2.2.2.2.2.1.2 h1 U hU hW
    rw [List.map_cons] at this
    have e : zen (.inr (.inl a)) = Value.ref (a - 1) := zrf_pos ha
    rw [e] at this
    exact this
  rw [e0, zrf_pos ha]
  exact va_runI (As := av.map zen) (rest := st.map zen) ⟨hc.1, hc.2.1, hc.2.2.1, hc.2.2.2.1, hc.2.2.2.2.1⟩ hM ⟨callB_of k hc.2.2.2.2.1 (zGoodIn w6) rfl rfl rfl (hc.2.2.2.2.1 _ w4) (hc.2.2.2.2.1 _ w1) w5 hR, w3, hc.2.2.2.2.1 _ w2⟩ ⟨zPc_blind, hpre⟩ rfl (by rw [List.length_map]; exact hk) h4.1 rfl (lv_room (z_cat8 h8)) hd hf
end ZC
