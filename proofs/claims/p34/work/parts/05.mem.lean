/-! memory: fields, arrays, new cells -/
def zCf (ci : Nat) (C : String) (T : u_T) (N : Nat) : Prop := vwCl[ci]? = some (C, T, N) ∧ zN ci = N ∧ (∀ w ∈ u_ws C T N, w ∈ zT) ∧ (∀ k, k < N → parseFieldDescriptor (T k).2.2.1 = some (zty ci k)) ∧ (∀ a, a < N → ∀ b, b < N → a ≠ b → (T a).2.1 ≠ (T b).2.1)
def zFl (own : String) (x ci k : Nat) (fin : Bool) : Prop := ∃ (C : String) (T : u_T) (N : Nat), zCf ci C T N ∧ k < N ∧ (T k).1 = C ∧ (T k).2.2.2 = fin ∧ Cond.fieldLink own x C (T k).2.1 (T k).2.2.1 ∈ zT
theorem z_sub {ws : List Cond} (ps : List Nat) (hp : ws = ps.filterMap (fun i => lw_tbl[i]?)) (hg : ws.all goodWord = true) : ∀ w ∈ ws, w ∈ zT := by
  intro w hw
  have h2 := List.all_eq_true.mp hg w hw
  rw [hp] at hw
  obtain ⟨i, -, hi⟩ := List.mem_filterMap.mp hw
  exact zT_mem i hi h2
theorem zAt_none {D : Zd} {h : Zm} {a : Nat} {H : Heap} (x : (zkd h a).1 = 0) : zAt D h a H := by
  refine ⟨fun q => ?_, fun q => ?_, fun q => ?_⟩ <;> omega
theorem zrf_pos {a : Nat} (h : 1 ≤ a) : zrf a = .ref (a - 1) := by
  cases a with
  | zero => omega
  | succ k => rfl
theorem zkd_sI {h : Zm} {a b : Nat} {j v : Int} : zkd (zsI h a j v) b = zkd h b := rfl
theorem zkd_sR {h : Zm} {a b v : Nat} {j : Int} : zkd (zsR h a j v) b = zkd h b := rfl
theorem zR_sI {h : Zm} {a b : Nat} {i j v : Int} : zR (zsI h a j v) b i = zR h b i := rfl
theorem zI_sR {h : Zm} {a b v : Nat} {i j : Int} : zI (zsR h a j v) b i = zI h b i := rfl
theorem zI_sI {h : Zm} {a b : Nat} {i j v : Int} : zI (zsI h a j v) b i = if b = a ∧ i = j then v else zI h b i := rfl
theorem zR_sR {h : Zm} {a b v : Nat} {i j : Int} : zR (zsR h a j v) b i = if b = a ∧ i = j then v else zR h b i := rfl
theorem zRep.set {D : Zd} {base a : Nat} {h h' : Zm} {H H' : Heap} (hR : zRep D base h H) (h1 : h'.1 = h.1) (hv : ∀ b j, InR (zI h' b j)) (hb : ∀ b, b ≠ a → (∀ j, zI h' b j = zI h b j) ∧ (∀ j, zR h' b j = zR h b j)) (hz : H'.size = H.size) (ho : ∀ q : Nat, q ≠ a - 1 → H'[q]? = H[q]?) (h0 : 1 ≤ a) (ha : zAt D h' a H') : zRep D base h' H' := by
  have hk : ∀ b, zkd h' b = zkd h b := fun b => by unfold zkd; rw [h1]
  refine ⟨by rw [hz, h1]; exact hR.1, fun b hb => ?_, hv, fun b => ?_⟩
  · rw [h1]
    rw [hk] at hb
    exact hR.2.1 b hb
  · by_cases e : b = a
    · subst e
      exact ha
    · by_cases q : (zkd h b).1 = 0
      · exact zAt_none (by rw [hk]; exact q)
      · have := (hR.2.1 b q).1
        exact (hR.2.2.2 b).kept (hk b) (hb b e).1 (hb b e).2 (ho _ (by omega))
theorem zRep.inI {D : Zd} {base a : Nat} {h : Zm} {H : Heap} {i v : Int} (hR : zRep D base h H) (hv : InR v) : ∀ b j, InR (zI (zsI h a i v) b j) := by
  intro b j
  rw [zI_sI]
  split
  · exact hv
  · exact hR.2.2.1 b j
section ZM
variable {p : Program} {l : Launch} {e : Env} {R : Room} {s : State} {m : MethodId} {args : Array Value} {below : List Frame} {meth : Method} {c : Code} {D : Zd} {base nL : Nat} {Qf : State → Prop} {cells slots pc : Nat} {ρ : List (Option Zv)} {st : List Zv} {h : Zm} {cc : ByteArray} {own : String} {ret : Option FieldType}
theorem z_field (hc : zOk p s m args meth c D cc nL own ret) {x ci k d a : Nat} {fin : Bool} (hf : zFl own x ci k fin) (hk : (zkd h a).1 = d) (hd0 : d = 10 + ci) {H : Heap} (hR : zRep D base h H) : 1 ≤ a ∧ base ≤ a ∧ ∃ (C : String) (T : u_T) (N cf i : Nat) (kf : Class) (f : Field) (cell : Cell), zCf ci C T N ∧ k < N ∧ (T k).1 = C ∧ (T k).2.2.2 = fin ∧ (Cond.fieldLink own x C (T k).2.1 (T k).2.2.1).before args s = true ∧ s.fieldFound? C (T k).2.1 (T k).2.2.1 = some (cf, kf, i, f) ∧ f.slot = D.1.2 ci k ∧ f.isStatic = false ∧ H[a - 1]? = some cell ∧ cell.cls = D.1.1 ci ∧ cell.vm = .none ∧ (∀ j, j < N → cell.slots[D.1.2 ci j]? = some (zF ci j (zI h a j) (zR h a j))) ∧ (∃ kC : Class, s.vm.findClass C = some (D.1.1 ci) ∧ s.vm.classes[D.1.1 ci]? = some kC ∧ kC.kind = .ordinary) ∧ (∀ x y, x < N → y < N → x ≠ y → D.1.2 ci x ≠ D.1.2 ci y) := by
  subst hd0
  obtain ⟨C, T, N, hC, hkN, hT, hfin, hw⟩ := hf
  obtain ⟨hb1, hb2, -⟩ := hR.2.1 a (by omega)
  obtain ⟨hlt, cell, q1, q2, q3, q4⟩ := (hR.2.2.2 a).2.2 (by omega)
  have e0 : (zkd h a).1 - 10 = ci := by omega
  rw [e0] at q2 q4
  rw [hC.2.1] at q4
  have hKn : u_Kn s C T N (D.1.1 ci) (D.1.2 ci) := hc.2.2.2.2.2.2.2.1 ci _ hC.1
  obtain ⟨cf, kf, i, f, hi, hsl⟩ := hKn.1 k hkN
  obtain ⟨hfc, kC, hkC, hkind⟩ := hKn.2
  rw [hT] at hi
  refine ⟨hb1, hb2, C, T, N, cf, i, kf, f, cell, hC, hkN, hT, hfin, hc.2.2.2.2.1 _ hw, hi, hsl, ?_, q1, q2, q3, q4, ⟨kC, hfc, hkC, hkind⟩, ?_⟩
  · have hlay := u_lays hc.2.2.2.2.1 hC.2.2.1 hkN
    rw [hT] at hlay
    exact (u_facts hfc hkC hlay hi).1
  · exact va_apart (D := D.1) (cl := vwCl) (tys := []) (own := own) hc.2.2.2.2.1 hC.2.2.1 (zty ci) hC.2.2.2.1 hC.2.2.2.2 ⟨fun c q hq => hc.2.2.2.2.2.2.2.1 c q hq, fun k q h => by simp at h⟩ hC.1
theorem z_getI (hc : zOk p s m args meth c D cc nL own ret) {x ci k d a : Nat} {kI : Int} {fin : Bool} {Q : Int → Prop} (hd : decode cc pc = .ok (.getfield x, 3)) (hf : zFl own x ci k fin) (hd0 : d = 10 + ci) (hkI : kI = (k : Int)) (ht : (zty ci k).isReference = false) (H : cGi h d a kI Q) (kk : ∀ v : Int, Q v → zW p l e R s m args below meth c D base nL Qf cells slots (pc + 3) ρ (.inl v :: st) h) : zW p l e R s m args below meth c D base nL Qf cells slots pc ρ (.inr (.inl a) :: st) h := by
  intro Hp locs ls h1 h2 h3 h4
  obtain ⟨ha, -, C, T, N, cf, i, kf, f, cell, hC, hkN, hT, hfin, hl, hi, hsl, hst, q1, q2, q3, q4, -, -⟩ := z_field hc hf H.1 hd0 h1
  have h5 := kk _ (H.2 (h1.2.2.1 _ _)) Hp locs ls h1 h2 h3 h4
  show W p l e R s m args below meth c Hp locs cells slots Qf (F0 m pc ls (zrf a :: st.map zen))
  rw [zrf_pos ha]
  refine W.getf hc.1 hc.2.1 hc.2.2.2.1 hl hi hst q1 (by rw [q3]; exact fun h => by cases h) (v := .int (Int32.ofInt (zI h a kI))) ?_ rfl rfl hd h5
  rw [hsl, q4 k hkN, hkI]
  unfold zF
  rw [if_neg (by rw [ht]; decide)]
theorem z_getR (hc : zOk p s m args meth c D cc nL own ret) {x ci k d a : Nat} {kI : Int} {fin : Bool} {Q : Nat → Prop} (hd : decode cc pc = .ok (.getfield x, 3)) (hf : zFl own x ci k fin) (hd0 : d = 10 + ci) (hkI : kI = (k : Int)) (ht : (zty ci k).isReference = true) (H : cGr h d a kI Q) (kk : ∀ v : Nat, Q v → zW p l e R s m args below meth c D base nL Qf cells slots (pc + 3) ρ (.inr (.inl v) :: st) h) : zW p l e R s m args below meth c D base nL Qf cells slots pc ρ (.inr (.inl a) :: st) h := by
  intro Hp locs ls h1 h2 h3 h4
  obtain ⟨ha, -, C, T, N, cf, i, kf, f, cell, hC, hkN, hT, hfin, hl, hi, hsl, hst, q1, q2, q3, q4, -, -⟩ := z_field hc hf H.1 hd0 h1
  have h5 := kk _ H.2 Hp locs ls h1 h2 h3 h4
  show W p l e R s m args below meth c Hp locs cells slots Qf (F0 m pc ls (zrf a :: st.map zen))
  rw [zrf_pos ha]
  refine W.getf hc.1 hc.2.1 hc.2.2.2.1 hl hi hst q1 (by rw [q3]; exact fun h => by cases h) (v := zrf (zR h a kI)) ?_ rfl rfl hd h5
  rw [hsl, q4 k hkN, hkI]
  unfold zF
  rw [if_pos ht]
theorem z_objSet {ci k a : Nat} {N : Nat} {h' : Zm} {H' : Heap} {cell : Cell} (hN : zN ci = N) (hci : ci < 8) (hk : (zkd h' a).1 = 10 + ci) (hkN : k < N) (hap : ∀ x y, x < N → y < N → x ≠ y → D.1.2 ci x ≠ D.1.2 ci y) (e1 : H'[a - 1]? = some (cell.setSlot (D.1.2 ci k) (zF ci k (zI h' a k) (zR h' a k)))) (q2 : cell.cls = D.1.1 ci) (q3 : cell.vm = .none) (q4 : ∀ j, j < N → cell.slots[D.1.2 ci j]? = some (zF ci j (zI h a j) (zR h a j))) (ho : ∀ j : Nat, j ≠ k → zI h' a j = zI h a j ∧ zR h' a j = zR h a j) : zAt D h' a H' := by
  refine ⟨fun q => by omega, fun q => by omega, fun _ => ⟨by omega, ?_⟩⟩
  rw [hk, show 10 + ci - 10 = ci by omega, hN]
  refine ⟨_, e1, q2, q3, fun j hj => ?_⟩
  rw [t_set q4 hap hkN _ j hj]
  unfold updV
  by_cases e : j = k
  · subst e
    rw [if_pos rfl]
  · rw [if_neg e]
    show some (zF ci j (zI h a j) (zR h a j)) = some (zF ci j (zI h' a j) (zR h' a j))
    rw [(ho j e).1, (ho j e).2]
theorem z_ci {ci : Nat} {C : String} {T : u_T} {N : Nat} (h : zCf ci C T N) : ci < 8 := by
  have h7 := (List.getElem?_eq_some_iff.mp h.1).1
  have e : vwCl.length = 7 := rfl
  omega
theorem z_fitI {ci k : Nat} (h : zty ci k = .int) (v : Int) : narrow (zty ci k) (.int (Int32.ofInt v)) = .int (Int32.ofInt v) ∧ fits (zty ci k) (.int (Int32.ofInt v)) = true := by
  rw [h]
  exact ⟨rfl, rfl⟩
theorem z_fitR {t : FieldType} (h : t.isReference = true) (v : Nat) : narrow t (zrf v) = zrf v ∧ fits t (zrf v) = true := by
  cases t <;> first | (cases h; done) | (cases v <;> exact ⟨rfl, rfl⟩)
theorem z_putI (hc : zOk p s m args meth c D cc nL own ret) {x ci k d a : Nat} {kI v : Int} {Q : Zm → Prop} (hd : decode cc pc = .ok (.putfield x, 3)) (hf : zFl own x ci k false) (hd0 : d = 10 + ci) (hkI : kI = (k : Int)) (ht : zty ci k = .int) (H : cPi h d a kI v Q) (kk : ∀ h' : Zm, Q h' → zW p l e R s m args below meth c D base nL Qf cells slots (pc + 3) ρ st h') : zW p l e R s m args below meth c D base nL Qf cells slots pc ρ (.inl v :: .inr (.inl a) :: st) h := by
  intro Hp locs ls h1 h2 h3 h4
  obtain ⟨ha, hbs, C, T, N, cf, i, kf, f, cell, hC, hkN, hT, hfin, hl, hi, hsl, hst, q1, q2, q3, q4, ⟨kC, hfc, hkC, hkind⟩, hap⟩ := z_field hc hf H.1 hd0 h1
  have h5 := kk _ H.2.2
  have hlay := hc.2.2.2.2.1 _ (hC.2.2.1 _ (u_in_lay hkN))
  unfold u_lay at hlay
  rw [if_neg (by rw [hfin]; decide), hT] at hlay
  obtain ⟨n1, n2⟩ := z_fitI ht v
  have h6 := u_store hfc hkC hkind hlay hi (hC.2.2.2.1 k hkN) n1 n2
  show W p l e R s m args below meth c Hp locs cells slots Qf (F0 m pc ls (.int (Int32.ofInt v) :: zrf a :: st.map zen))
  rw [zrf_pos ha]
  refine W.putK hc.1 hc.2.1 (f := f) ⟨hc.2.2.2.1, hl, ⟨_, _, _, hi⟩, hst⟩ (by rw [q2]; exact h6) q1 q3 (by rw [hsl]; exact k2_hasslot (q4 k hkN)) rfl rfl hd fun H' e1 e2 e3 => ?_
  rw [hsl] at e1
  subst hkI
  refine h5 H' _ ls (h1.set rfl (h1.inI H.2.1) (fun b hb => ⟨fun j => by rw [zI_sI, if_neg (fun q => hb q.1)], fun j => rfl⟩) e2 e3 ha ?_) (fun q hq => by rw [e3 q (Nat.ne_of_lt (show (q : Nat) < a - 1 by omega))]; exact h2 q hq) (fun q hq => ?_) h4
  · refine z_objSet (h := h) (k := k) hC.2.1 (z_ci hC) (H.1.trans hd0) hkN hap ?_ q2 q3 q4 (fun j hj => ⟨by rw [zI_sI, if_neg (fun q => hj (by have := q.2; omega))], rfl⟩)
    rw [e1, zI_sI, if_pos ⟨rfl, rfl⟩]
    unfold zF
    rw [if_neg (by rw [ht]; decide)]
  · rcases List.mem_append.mp hq with h9 | h9
    · exact h3 q h9
    · rw [List.mem_singleton.mp h9]
      show base ≤ a - 1 + 1
      omega
theorem z_putR (hc : zOk p s m args meth c D cc nL own ret) {x ci k d a v : Nat} {kI : Int} {Q : Zm → Prop} (hd : decode cc pc = .ok (.putfield x, 3)) (hf : zFl own x ci k true) (hd0 : d = 10 + ci) (hkI : kI = (k : Int)) (ht : (zty ci k).isReference = true) (hin : meth.name = "<init>") (ho : ∀ C T N, vwCl[ci]? = some (C, T, N) → C = own) (H : cPr h d a kI v Q) (kk : ∀ h' : Zm, Q h' → zW p l e R s m args below meth c D base nL Qf cells slots (pc + 3) ρ st h') : zW p l e R s m args below meth c D base nL Qf cells slots pc ρ (.inr (.inl v) :: .inr (.inl a) :: st) h := by
  intro Hp locs ls h1 h2 h3 h4
  obtain ⟨ha, hbs, C, T, N, cf, i, kf, f, cell, hC, hkN, hT, hfin, hl, hi, hsl, hst, q1, q2, q3, q4, ⟨kC, hfc, hkC, hkind⟩, hap⟩ := z_field hc hf H.1 hd0 h1
  have h5 := kk _ H.2
  have hlay := hc.2.2.2.2.1 _ (hC.2.2.1 _ (u_in_lay hkN))
  unfold u_lay at hlay
  rw [if_pos hfin, hT] at hlay
  have hcf : m.cls = cf := by
    obtain ⟨_, _, c', _, _, _, -, -, hf', -, -, -, hown2, -⟩ := Cond.laysFinal_spec hlay
    have e1 : c' = cf := by have := hi.symm.trans hf'; simp at this; exact this.1.symm
    rw [ho C T N hC.1] at hown2
    rw [← e1]; exact Option.some.inj (hc.2.2.2.1.symm.trans hown2)
  obtain ⟨n1, n2⟩ := z_fitR ht v
  have h6 := u_fits hfc hkC hkind (Or.inr hlay) hi (hC.2.2.2.1 k hkN) n1 n2
  show W p l e R s m args below meth c Hp locs cells slots Qf (F0 m pc ls (zrf v :: zrf a :: st.map zen))
  rw [zrf_pos ha]
  refine W.putFinK hc.1 hc.2.1 hc.2.2.2.1 hl hi hst hcf hin (by rw [q2]; exact h6) q1 q3 (by rw [hsl]; exact k2_hasslot (q4 k hkN)) rfl rfl hd fun H' e1 e2 e3 => ?_
  rw [hsl] at e1
  subst hkI
  refine h5 H' _ ls (h1.set rfl (fun b j => h1.2.2.1 b j) (fun b hb => ⟨fun j => rfl, fun j => by rw [zR_sR, if_neg (fun q => hb q.1)]⟩) e2 e3 ha ?_) (fun q hq => by rw [e3 q (Nat.ne_of_lt (show (q : Nat) < a - 1 by omega))]; exact h2 q hq) (fun q hq => ?_) h4
  · refine z_objSet (h := h) (k := k) hC.2.1 (z_ci hC) (H.1.trans hd0) hkN hap ?_ q2 q3 q4 (fun j hj => ⟨rfl, by rw [zR_sR, if_neg (fun q => hj (by have := q.2; omega))]⟩)
    rw [e1, zR_sR, if_pos ⟨rfl, rfl⟩]
    unfold zF
    rw [if_pos ht]
  · rcases List.mem_append.mp hq with h9 | h9
    · exact h3 q h9
    · rw [List.mem_singleton.mp h9]
      show base ≤ a - 1 + 1
      omega
theorem z_arrOf (hc : zOk p s m args meth c D cc nL own ret) {t : Nat} (h1 : 1 ≤ t) (h2 : t ≤ 7) (n : Nat) (z : Nat → Value) : s.isArrayOf (arrV (D.2 t) n z) (zaty t) := (hc.2.2.2.2.2.2.2.2 t h1 h2).1 n z
theorem z_iaload (hc : zOk p s m args meth c D cc nL own ret) {a : Nat} {i : Int} {Q : Int → Prop} (hd : decode cc pc = .ok (.iaload, 1)) (H : cLd h 1 a i Q) (kk : ∀ v : Int, Q v → zW p l e R s m args below meth c D base nL Qf cells slots (pc + 1) ρ (.inl v :: st) h) : zW p l e R s m args below meth c D base nL Qf cells slots pc ρ (.inl i :: .inr (.inl a) :: st) h := by
  intro Hp locs ls h1 h2 h3 h4
  obtain ⟨⟨g1, g2, g3⟩, g4⟩ := H
  obtain ⟨ha, -, -⟩ := h1.2.1 a (by omega)
  obtain ⟨q1, q2⟩ := (h1.2.2.2 a).1 (Or.inl g1)
  have h5 := kk _ (g4 (h1.2.2.1 _ _)) Hp locs ls h1 h2 h3 h4
  show W p l e R s m args below meth c Hp locs cells slots Qf (F0 m pc ls (.int (Int32.ofInt i) :: zrf a :: st.map zen))
  rw [zrf_pos ha]
  rw [g1] at q1
  refine W.iald (v := .int (Int32.ofInt (zI h a i))) hc.1 hc.2.1 q1 (z_arrOf hc (t := 1) (by omega) (by omega) _ _) (fun q => by cases q) (by show ¬ (_ ∨ (arrV _ _ _).slots.size ≤ _); rw [arrV_size]; exact z_vpin g2 g3 q2) ?_ rfl rfl hd h5
  show (arrV _ _ _).slots[_]? = _
  rw [z_clamp g2 (by omega), arrV_read _ _ (by omega), Int.toNat_of_nonneg g2]
theorem z_aaload (hc : zOk p s m args meth c D cc nL own ret) {a : Nat} {i : Int} {Q : Nat → Prop} (hd : decode cc pc = .ok (.aaload, 1)) (H : cLdR h a i Q) (kk : ∀ v : Nat, Q v → zW p l e R s m args below meth c D base nL Qf cells slots (pc + 1) ρ (.inr (.inl v) :: st) h) : zW p l e R s m args below meth c D base nL Qf cells slots pc ρ (.inl i :: .inr (.inl a) :: st) h := by
  intro Hp locs ls h1 h2 h3 h4
  obtain ⟨⟨g1, g2, g3⟩, g4⟩ := H
  obtain ⟨ha, -, -⟩ := h1.2.1 a (by omega)
  obtain ⟨q1, q2⟩ := (h1.2.2.2 a).2.1 g1
  have h5 := kk _ g4 Hp locs ls h1 h2 h3 h4
  show W p l e R s m args below meth c Hp locs cells slots Qf (F0 m pc ls (.int (Int32.ofInt i) :: zrf a :: st.map zen))
  rw [zrf_pos ha]
  have hr : (zaty (zkd h a).1).isReference = true := by
    have h7 := g1
    generalize (zkd h a).1 = t at h7
    rcases (show t = 4 ∨ t = 5 ∨ t = 6 ∨ t = 7 by omega) with rfl | rfl | rfl | rfl <;> rfl
  refine W.aald (v := zrf (zR h a i)) hc.1 hc.2.1 q1 (z_arrOf hc (by omega) g1.2 _ _) hr (fun q => by cases q) (by show ¬ (_ ∨ (arrV _ _ _).slots.size ≤ _); rw [arrV_size]; exact z_vpin g2 g3 q2) ?_ rfl rfl hd h5
  show (arrV _ _ _).slots[_]? = _
  rw [z_clamp g2 (by omega), arrV_read _ _ (by omega), Int.toNat_of_nonneg g2]
theorem z_alen (hc : zOk p s m args meth c D cc nL own ret) {a : Nat} {Q : Int → Prop} (hd : decode cc pc = .ok (.arraylength, 1)) (H : cLen h a Q) (kk : ∀ v : Int, Q v → zW p l e R s m args below meth c D base nL Qf cells slots (pc + 1) ρ (.inl v :: st) h) : zW p l e R s m args below meth c D base nL Qf cells slots pc ρ (.inr (.inl a) :: st) h := by
  intro Hp locs ls h1 h2 h3 h4
  obtain ⟨g1, g4⟩ := H
  obtain ⟨ha, -, -⟩ := h1.2.1 a (by omega)
  obtain ⟨q1, q2⟩ := (h1.2.2.2 a).1 g1
  have h5 := kk _ g4 Hp locs ls h1 h2 h3 h4
  show W p l e R s m args below meth c Hp locs cells slots Qf (F0 m pc ls (zrf a :: st.map zen))
  rw [zrf_pos ha]
  refine W.alen (n := Int32.ofInt ((zkd h a).2 : Int)) hc.1 hc.2.1 q1 (z_arrOf hc (by omega) (by omega) _ _) (by rw [arrV_size]; exact (Int32.ofInt_eq_ofNat).symm) rfl rfl hd h5
theorem z_upd {f : Nat → Value} {k : Nat} {g : Nat → Value} {v : Value} (h1 : g k = v) (h2 : ∀ j, j ≠ k → g j = f j) : updV f k v = g := by
  funext j
  unfold updV
  by_cases e : j = k
  · subst e
    rw [if_pos rfl, h1]
  · rw [if_neg e, h2 j e]
theorem z_iastore (hc : zOk p s m args meth c D cc nL own ret) {a : Nat} {i v : Int} {Q : Zm → Prop} (hd : decode cc pc = .ok (.iastore, 1)) (H : cSt h a i v Q) (kk : ∀ h' : Zm, Q h' → zW p l e R s m args below meth c D base nL Qf cells slots (pc + 1) ρ st h') : zW p l e R s m args below meth c D base nL Qf cells slots pc ρ (.inl v :: .inl i :: .inr (.inl a) :: st) h := by
  intro Hp locs ls h1 h2 h3 h4
  obtain ⟨⟨g1, g2, g3⟩, hv, g4⟩ := H
  obtain ⟨ha, hbs, -⟩ := h1.2.1 a (by omega)
  obtain ⟨q1, q2⟩ := (h1.2.2.2 a).1 (Or.inl g1)
  have h5 := kk _ g4
  show W p l e R s m args below meth c Hp locs cells slots Qf (F0 m pc ls (.int (Int32.ofInt v) :: .int (Int32.ofInt i) :: zrf a :: st.map zen))
  rw [zrf_pos ha]
  rw [g1] at q1
  refine W.iast hc.1 hc.2.1 q1 (z_arrOf hc (t := 1) (by omega) (by omega) _ _) (fun q => by cases q) (by show ¬ (_ ∨ (arrV _ _ _).slots.size ≤ _); rw [arrV_size]; exact z_vpin g2 g3 q2) rfl rfl hd fun H' e1 e2 e3 => ?_
  refine h5 H' _ ls (h1.set rfl (h1.inI hv) (fun b hb => ⟨fun j => by rw [zI_sI, if_neg (fun q => hb q.1)], fun j => rfl⟩) e2 e3 ha ?_) (fun q hq => by rw [e3 q (Nat.ne_of_lt (show (q : Nat) < a - 1 by omega))]; exact h2 q hq) (fun q hq => ?_) h4
  · refine ⟨fun _ => ⟨?_, q2⟩, fun q => by rw [zkd_sI] at q; omega, fun q => by rw [zkd_sI] at q; omega⟩
    rw [e1, zkd_sI, g1, arrV_store, z_clamp g2 (by omega)]
    refine congrArg (fun z => some (arrV _ _ z)) (z_upd ?_ ?_)
    · show Value.int _ = _
      rw [zI_sI, Int.toNat_of_nonneg g2, if_pos ⟨rfl, rfl⟩]
    · intro j hj
      show Value.int _ = _
      rw [zI_sI, if_neg (fun q => hj (by omega))]
  · rcases List.mem_append.mp hq with h9 | h9
    · exact h3 q h9
    · rw [List.mem_singleton.mp h9]
      show base ≤ a - 1 + 1
      omega
theorem z_aastore (hc : zOk p s m args meth c D cc nL own ret) {t d ci a v : Nat} {C : String} {T : u_T} {N : Nat} {i : Int} {Q : Zm → Prop} (hd : decode cc pc = .ok (.aastore, 1)) (ht : 4 ≤ t ∧ t ≤ 7) (hd0 : d = 10 + ci) (hcl : vwCl[ci]? = some (C, T, N)) (hta : zaty t = .object C) (H : cStR h t d a i v Q) (kk : ∀ h' : Zm, Q h' → zW p l e R s m args below meth c D base nL Qf cells slots (pc + 1) ρ st h') : zW p l e R s m args below meth c D base nL Qf cells slots pc ρ (.inr (.inl v) :: .inl i :: .inr (.inl a) :: st) h := by
  intro Hp locs ls h1 h2 h3 h4
  obtain ⟨⟨g1, g2, g3⟩, hv, g4⟩ := H
  obtain ⟨ha, hbs, -⟩ := h1.2.1 a (by omega)
  obtain ⟨hav, -, -⟩ := h1.2.1 v (by omega)
  obtain ⟨q1, q2⟩ := (h1.2.2.2 a).2.1 (by omega)
  obtain ⟨-, cellV, r1, r2, r3, -⟩ := (h1.2.2.2 v).2.2 (by omega)
  have h5 := kk _ g4
  show W p l e R s m args below meth c Hp locs cells slots Qf (F0 m pc ls (zrf v :: .int (Int32.ofInt i) :: zrf a :: st.map zen))
  rw [zrf_pos ha, zrf_pos hav]
  have e0 : (zkd h v).1 - 10 = ci := by omega
  rw [e0] at r2
  have hcls : ClassAt s C (D.1.1 ci) := (hc.2.2.2.2.2.2.2.1 ci _ hcl).2
  have hRA := (hc.2.2.2.2.2.2.2.2 t (by omega) (by omega)).2
  rw [hta] at hRA
  obtain ⟨kA, comp, k1, k2, k3, -⟩ := hRA
  have hcomp : comp = D.1.1 ci := Option.some.inj (k3.symm.trans hcls.1)
  subst hcomp
  obtain ⟨kC, hkC, -⟩ := hcls.2
  rw [g1] at q1
  refine W.aast hc.1 hc.2.1 q1 (fun q h => by cases h) (fun h => by cases h) k1 k2 rfl hkC ⟨?_, by show _ < (arrV _ _ _).slots.size; rw [arrV_size, z_clamp g2 (by omega)]; omega⟩ r1 (fun q h => by rw [r3] at h; cases h) (by rw [r2]; exact hkC) (by rw [r2]; exact va_assign hcls) rfl rfl hd fun H' e1 e2 e3 => ?_
  · rw [z_0, z_lt ⟨by omega, by omega⟩ z_in0]
    omega
  refine h5 H' _ ls (h1.set rfl (fun b j => h1.2.2.1 b j) (fun b hb => ⟨fun j => rfl, fun j => by rw [zR_sR, if_neg (fun q => hb q.1)]⟩) e2 e3 ha ?_) (fun q hq => by rw [e3 q (Nat.ne_of_lt (show (q : Nat) < a - 1 by omega))]; exact h2 q hq) (fun q hq => ?_) h4
  · refine ⟨fun q => by rw [zkd_sR] at q; omega, fun _ => ⟨?_, q2⟩, fun q => by rw [zkd_sR] at q; omega⟩
    rw [e1, zkd_sR, g1, arrV_store, z_clamp g2 (by omega)]
    refine congrArg (fun z => some (arrV _ _ z)) (z_upd ?_ ?_)
    · show zrf _ = _
      rw [zR_sR, Int.toNat_of_nonneg g2, if_pos ⟨rfl, rfl⟩, zrf_pos hav]
    · intro j hj
      show zrf _ = _
      rw [zR_sR, if_neg (fun q => hj (by omega))]
  · rcases List.mem_append.mp hq with h9 | h9
    · exact h3 q h9
    · rw [List.mem_singleton.mp h9]
      show base ≤ a - 1 + 1
      omega
end ZM
