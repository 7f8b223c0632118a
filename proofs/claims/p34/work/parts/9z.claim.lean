/-! the claim out of law_ok -/
theorem z_init {D : Zd} {H : Heap} : zRep D (H.size + 1) (zh0 (H.size + 1)) H :=
  ⟨⟨rfl, Nat.le_refl _⟩, fun a h => absurd rfl h, fun _ _ => z_in0, fun a => zAt_none rfl⟩
theorem z_kn {args : Array Value} {s : State} (hts : ∀ w ∈ zT, w.before args s = true) (hlw : ∀ w ∈ lw_tbl, w.before args s = true) : ∃ D : Zd, zKn D s := by
  have hcl : ∀ c : Nat, ∃ q : ClassId × (Nat → Nat), ∀ x : vw_C, vwCl[c]? = some x → u_Kn s x.1 x.2.1 x.2.2 q.1 q.2 := by
    intro c
    have mk : ∀ {C : String} {T : u_T} {N n : Nat}, (∀ w ∈ u_ws C T N, w ∈ zT) → (Cond.instantiable C n).before args s = true → vwCl[c]? = some (C, T, N) → ∃ q : ClassId × (Nat → Nat), ∀ x : vw_C, vwCl[c]? = some x → u_Kn s x.1 x.2.1 x.2.2 q.1 q.2 := by
      intro C T N n h1 h2 h3
      obtain ⟨cC, iS, hK⟩ := u_known hts h1 h2
      refine ⟨(cC, iS), fun x hx => ?_⟩
      rw [h3] at hx
      cases hx
      exact hK
    by_cases h : c < 7
    · rcases (show c = 0 ∨ c = 1 ∨ c = 2 ∨ c = 3 ∨ c = 4 ∨ c = 5 ∨ c = 6 by omega) with rfl | rfl | rfl | rfl | rfl | rfl | rfl
      · exact mk zc0.2.2.1 (hlw (.instantiable RX0 3) (List.mem_of_getElem? (i := 149) (by decide +kernel))) rfl
      · exact mk zc1.2.2.1 (hlw (.instantiable RX1 2) (List.mem_of_getElem? (i := 224) (by decide +kernel))) rfl
      · exact mk zc2.2.2.1 (hlw (.instantiable RX2 18) (List.mem_of_getElem? (i := 36) (by decide +kernel))) rfl
      · exact mk zc3.2.2.1 (hlw (.instantiable RX3 3) (List.mem_of_getElem? (i := 205) (by decide +kernel))) rfl
      · exact mk zc4.2.2.1 (hlw (.instantiable RX4 8) (List.mem_of_getElem? (i := 23) (by decide +kernel))) rfl
      · exact mk zc5.2.2.1 (hlw (.instantiable RX5 4) (List.mem_of_getElem? (i := 29) (by decide +kernel))) rfl
      · exact mk zc6.2.2.1 (hlw (.instantiable RX6 8) (List.mem_of_getElem? (i := 15) (by decide +kernel))) rfl
    · exact ⟨(0, fun _ => 0), fun x hx => absurd (List.getElem?_eq_some_iff.mp hx).1 h⟩
  have harr : ∀ t : Nat, ∃ cA : ClassId, 1 ≤ t → t ≤ 7 → ArrOfT s cA (zaty t) ∧ va_RA s cA (zaty t) := by
    intro t
    have prim : ∀ {ty : FieldType}, (∀ C, ty ≠ .object C) → (Cond.arrayClass ty).before args s = true → ∃ cA : ClassId, ArrOfT s cA ty ∧ va_RA s cA ty := by
      intro ty hne h
      obtain ⟨cA, kA, comp, h1, h2, h3⟩ := Cond.arrayClass_spec h
      refine ⟨cA, fun n z => ⟨(fun q h => by cases h), kA, h2, comp, h3⟩, ?_⟩
      cases ty <;> first | exact h1 | exact absurd rfl (hne _)
    have obj : ∀ {C : String}, (Cond.arrayOver (.object C)).before args s = true → ∃ cA : ClassId, ArrOfT s cA (.object C) ∧ va_RA s cA (.object C) := by
      intro C h
      obtain ⟨comp, cA, kA, h1, h2, h3, h4, h5⟩ := Cond.arrayOver_spec h
      exact ⟨cA, fun n z => ⟨(fun q h => by cases h), kA, h3, comp, h4⟩, kA, comp, h3, h4, h1, h5⟩
    have arr : (Cond.arrayOver (.array .int)).before args s = true → ∃ cA : ClassId, ArrOfT s cA (.array .int) ∧ va_RA s cA (.array .int) := by
      intro h
      obtain ⟨comp, cA, kA, h1, h2, h3, h4, h5⟩ := arrayOverA_spec h
      exact ⟨cA, fun n z => ⟨(fun q h => by cases h), kA, h3, comp, h4⟩, h5⟩
    have aa := arr (hlw (.arrayOver (.array .int)) (List.mem_of_getElem? (i := 230) (by decide +kernel)))
    by_cases h : 1 ≤ t ∧ t ≤ 7
    · rcases (show t = 1 ∨ t = 2 ∨ t = 3 ∨ t = 4 ∨ t = 5 ∨ t = 6 ∨ t = 7 by omega) with rfl | rfl | rfl | rfl | rfl | rfl | rfl
      · obtain ⟨cA, h1⟩ := prim (ty := .int) (fun C q => by cases q) (hlw _ (List.mem_of_getElem? (i := 129) (by decide +kernel)))
        exact ⟨cA, fun _ _ => h1⟩
      · obtain ⟨cA, h1⟩ := prim (ty := .int) (fun C q => by cases q) (hlw _ (List.mem_of_getElem? (i := 129) (by decide +kernel)))
        exact ⟨cA, fun _ _ => h1⟩
      · obtain ⟨cA, h1⟩ := aa
        exact ⟨cA, fun _ _ => h1⟩
      · obtain ⟨cA, h1⟩ := obj (C := RX0) (hlw _ (List.mem_of_getElem? (i := 148) (by decide +kernel)))
        exact ⟨cA, fun _ _ => h1⟩
      · obtain ⟨cA, h1⟩ := obj (C := RX2) (hlw _ (List.mem_of_getElem? (i := 35) (by decide +kernel)))
        exact ⟨cA, fun _ _ => h1⟩
      · obtain ⟨cA, h1⟩ := obj (C := RX4) (hlw _ (List.mem_of_getElem? (i := 201) (by decide +kernel)))
        exact ⟨cA, fun _ _ => h1⟩
      · obtain ⟨cA, h1⟩ := aa
        exact ⟨cA, fun _ _ => h1⟩
    · exact ⟨0, fun h1 h2 => absurd ⟨h1, h2⟩ h⟩
  exact ⟨((fun c => (Classical.choose (hcl c)).1, fun c => (Classical.choose (hcl c)).2), fun t => Classical.choose (harr t)), fun c q hq => Classical.choose_spec (hcl c) q hq, fun t h1 h2 => Classical.choose_spec (harr t) h1 h2⟩
theorem z_ns {args : Array Value} {s : State} (hlw : ∀ w ∈ lw_tbl, w.before args s = true) : zNs s := by
  refine ⟨fun q hq => va_Nw.of rfl (hlw _ (zNl_in q hq)), fun C hC => ?_, hlw (.arrayOver (.array .int)) (List.mem_of_getElem? (i := 230) (by decide +kernel))⟩
  rcases List.mem_cons.mp hC with rfl | hC
  · exact va_AO.of (hlw _ (List.mem_of_getElem? (i := 148) (by decide +kernel)))
  rcases List.mem_cons.mp hC with rfl | hC
  · exact va_AO.of (hlw _ (List.mem_of_getElem? (i := 35) (by decide +kernel)))
  rcases List.mem_cons.mp hC with rfl | hC
  · exact va_AO.of (hlw _ (List.mem_of_getElem? (i := 201) (by decide +kernel)))
  cases hC
set_option maxHeartbeats 4000000 in
set_option maxRecDepth 100000 in
/-- the law, from its entry -/
theorem whole_start {p : Program} {e : Env} {s : State} {m : MethodId} {below : List Frame} {meth : Method} {c : Code} (l : Launch) (hflags : l.flags = flags0) {b L : Nat} {xs : Nat → Int32} (hL : L ≤ 260) (C0 : lw_At p s m meth c b L xs) : W p l e room_1 s m #[Value.ref b] below meth c s.heap [] 0 0 (lw_Z below #[Value.ref b] s) (entryFrame m ([Value.ref b] : List Value).toArray 25) := by
  obtain ⟨hx, hb, hr, hml, hown, hlw, hX, hbl, hlocks, hgv⟩ := id C0
  have hts : ∀ w ∈ zT, w.before #[Value.ref b] s = true := fun w hw => hlw w (zT_in hw)
  obtain ⟨D, hK⟩ := z_kn hts hlw
  have hc : zOk p s m #[Value.ref b] meth c D cL_law 25 RL (some .boolean) := ⟨hx, hb, hml, hown, hts, ⟨hlocks, z_ns hlw⟩, hr, hK⟩
  have hscr : zScr s (s.heap.size + 1) L (fun i => (xs i.toNat).toInt) (b + 1) := ⟨b, xs, rfl, fun _ => rfl, hX, by omega, by omega⟩
  have hok := law_ok L (fun i => (xs i.toNat).toInt) (b + 1) (s.heap.size + 1) hL (fun i => ⟨by have := Int32.le_toInt (xs i.toNat); omega, by have := Int32.toInt_lt (xs i.toNat); omega⟩) (by omega)
  have hW := rL_law (p := p) (l := l) (e := e) (s := s) (below := below) (c := c) (D := D) (base := s.heap.size + 1) (Qf := lw_Z below #[Value.ref b] s) hc hscr (fun pc ρ v h hd hv => by
    intro H locs ls h1 h2 h3 h4
    have hv1 : v = 1 := hv
    subst hv1
    refine va_forget (fun q hq => by have := h3 q hq; omega) ?_
    refine W.widen (k := 1137197) (n := 5690656) (by omega) (by omega) ?_
    exact lw_ret hx hb hr hlocks hd) hok
  rw [lg_entry_eq]
  have hl := lv_entry ([zen (.inr (.inl (b + 1)))]) (n := 25) (Nat.le_of_ble_eq_true rfl)
  refine hW s.heap [] _ z_init (fun q hq => rfl) (fun q hq => by cases hq) ⟨hl.1, hl.2.1, fun i v hi => ?_⟩
  have hi2 : (some (Sum.inr (Sum.inl (b + 1))) :: List.replicate 24 none : List (Option Zv))[i]? = some (some v) := hi
  cases i with
  | zero =>
    cases hi2
    exact hl.2.2 (0, zen (.inr (.inl (b + 1)))) List.mem_cons_self
  | succ i =>
    rw [List.getElem?_cons_succ] at hi2
    have := List.mem_of_getElem? hi2
    rw [List.mem_replicate] at this
    cases this.2
set_option maxHeartbeats 4000000 in
theorem lw_walk (l : Launch) (hflags : l.flags = flags0) (b : Addr) (xs : List Int32) : MetFree l x (headSpec (Jvm.Cond.code x code maxLocals ret :: tables_1) room_1) (lw_P b xs) (fun _ _ _ _ _ => True) lw_Q := by
  refine MetFree.of_bodyS (code := code) (maxLocals := maxLocals) (ret := ret) (by decide) ?_ ?_
  · intro args s m h hn
    obtain ⟨meth, c, h1, h2, h3, h4, h5, h6, -, -⟩ := Cond.code_spec hn (atoms_spec (ws := Jvm.Cond.code x code maxLocals ret :: tables_1) h _ List.mem_cons_self)
    exact ⟨meth, c, h1, h2, h3, h4, h5, h6⟩
  · intro p e s m args below meth c s₁ B hml0 hP _
    obtain ⟨rfl, hx, hbd, hgv⟩ := hP
    obtain ⟨scr, harrAt, hlist, hof, hsmall⟩ := hx
    obtain ⟨hcb, hkn, -, -⟩ := State.arrayAt?_spec harrAt
    have hown : s.vm.findClass R_law = some m.cls := findClass_of_methodNamed B.named
    have hts0 : ∀ c ∈ (Jvm.Cond.code x code maxLocals ret :: tables_1), c.before #[Value.ref b] s = true := atoms_spec (ws := Jvm.Cond.code x code maxLocals ret :: tables_1) B.pre
    have hts : ∀ w ∈ lw_tbl, w.before #[Value.ref b] s = true := k2_hts_sels lw_privs (fun w hw => hts0 w (List.mem_cons_of_mem _ hw)) lw_privs_ok
    have hml : c.maxLocals = 25 := B.maxLocals_eq (hts0 _ List.mem_cons_self)
    have X₀ : Stand p l e room_1 s m #[Value.ref b] below meth c s₁ [] 0 0 := Stand.of_body B
    have hh0 : s₁.heap = s.heap := by rw [B.state]; rfl
    have hsz : scr.slots.size = xs.length := by rw [← Array.length_toList, hlist, List.length_map]
    have hval : ∀ j : Nat, j < xs.length → scr.slots[j]? = some (.int (xs.getD j 0)) := fun j hj => by
      rw [← Array.getElem?_toList, hlist]
      simp [hj]
    have hbl : b < s.heap.size := (Array.getElem?_eq_some_iff.mp hcb).1
    have hX : va_X b xs.length (fun j => xs.getD j 0) s s.heap := ⟨scr, hcb, hof, hkn, hsz, hval⟩
    have K : W p l e room_1 s m #[Value.ref b] below meth c s₁.heap [] 0 0 (lw_Z below #[Value.ref b] s) (entryFrame m ([Value.ref b] : List Value).toArray 25) := by
      rw [hh0]
      exact whole_start l hflags hbd ⟨B.exec, B.bytes, B.returns, hml, hown, hts, hX, hbl, B.notSynchronized, hgv⟩
    obtain ⟨t, a1, o, b1, b2, b3⟩ := K s₁ rfl X₀
    exact ⟨t, o, a1, b1, b2, b3⟩
theorem lw_pre_spec {args : Array Value} {s : State} (h : (Jvm.Cond.and given_1 narrow_1).before args s = true) (hr : rest_1_c.before args s = true) : ∃ (b : Addr) (xs : List Int32), lw_P b xs args s := by
  have hs := flat_of_before _ h
  have hq := flat_of_before _ hr
  have hc : (Cond.count 1).before args s = true := hs _ (by decide +kernel)
  have harr : (Cond.arrayOf (.arg 0) .int).before args s = true := hs _ (by decide +kernel)
  have hle : (Cond.le (.length (.arg 0)) (.int 260)).before args s = true := hs _ (by decide +kernel)
  have hlen : (Cond.isInt (.length (.arg 0))).before args s = true := hq _ (by decide +kernel)
  have hall : (Cond.all (.arg 0) (.isInt (.elem (.arg 0) (.index 0)))).before args s = true := hq _ (by decide +kernel)
  obtain ⟨b, xs, hb, hx⟩ := State.ints_of_pre rfl harr hlen hall
  have hsm : xs.length < 2 ^ 31 := hx.choose_spec.2.2.2
  have hev : (Term.length (.arg 0)).eval args s none [] s = some (.int xs.length.toInt32) := hx.length_eval hb
  have hv := Cond.le_ints hev (show (Term.int 260).eval args s none [] s = some (.int 260) from rfl)
  have hd : xs.length.toInt32 ≤ 260 := by
    simpa [Cond.before, Cond.holds, hv] using hle
  have hN : xs.length ≤ 260 := (Int32.ofNat_le_ofNat hsm (by decide)).mp (show Int32.ofNat xs.length ≤ Int32.ofNat 260 from hd)
  exact ⟨b, xs, Cond.one_arg hc (show args[0]? = some (.ref b) from hb), hx, hN, h⟩
theorem lw_comes (l : Launch) (hflags : l.flags = flags0) : Comes l x (Jvm.Cond.code x code maxLocals ret :: tables_1) room_1 (fun tb e args s => Calls_1 tb e args s ∧ rest_1 tb e args s ∧ Pre_1 tb e args s)
    (fun _ _ args s o t => lw_Q args s o t) := by
  intro p e ha hc hk s m args below hf hfit hheap happ hpre
  obtain ⟨b, xs, hP⟩ := lw_pre_spec hpre.2.2 hpre.2.1
  obtain ⟨k, o, h1, h2, h3, hQ⟩ := lw_walk l hflags b xs p e ha hc hk s m args below hf ((Spec.applies_iff_loose hf).mp happ).1 hP trivial
  exact ⟨k, o, h1, h2, h3, hQ⟩
theorem lw_frame {s t : State} {o : Outcome} {args : Array Value} (h : Framed s o t [] 1137197 5690656) :
    Framed s o t (fieldLocs frame_1_writes args s ++ arrayLocs frame_1_arrays args s ++ staticLocs frame_1_statics s) 1137197 5690656 := h
theorem lw_limb (L : Cond) (hL : ∀ (args : Array Value) (s t : State), L.after args s (.returned (some (.int 1))) t = true) :
    ArmFor flags0 classFile x code maxLocals ret World_1 tables_1 room_1 Calls_1 rest_1 Pre_1
      (fun tb e a s o t => postC L tb e a s o t ∧ Framed s o t (fieldLocs frame_1_writes a s ++ arrayLocs frame_1_arrays a s ++ staticLocs frame_1_statics s) 1137197 5690656) := by
  intro l hflags _ _ p e ha hc hk s m args below hf hfit hheap happ hpre
  obtain ⟨k, o, h1, h2, h3, rfl, hF⟩ := lw_comes l hflags p e ha hc hk s m args below hf hfit hheap happ hpre
  exact ⟨k, _, h1, h2, h3, hL args s _, lw_frame hF⟩
theorem i_vc : Claimed_1_1 ∧ Claimed_1_2 := ⟨lw_limb limb_1_1 (fun args s t => by simp [limb_1_1, Cond.after, Cond.holds, Cond.value]), lw_limb limb_1_2 (fun args s t => Cond.after_iff.mpr (by
  first | (rw [show limb_1_2 = Cond.eq .result (.int 1) from rfl, Cond.eq_ints (x := 1) (y := 1) rfl rfl]; simp; done) | (simp [limb_1_2, Cond.value, Term.eval]; done)))⟩
