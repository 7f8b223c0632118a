/-! printed by gen.py: X0_init X0_copyFrom X0_indexOf X0_keepsRising X0_openGap X0_put X0_drop X0_between X0_valueAt X0_straighten X1_init X6_sameValues X6_sumOf X1_add X1_comesBefore X1_inksBefore X1_rowAt X1_valueOf X2_init X2_takeBox X2_takeColor -/
def zrX0_init : Room := { frames := 1, cells := 2, slots := 16, locals := 20 }
def mX0_init (a0 : Nat) (h : Zm) (Q : Zm → Prop) : Prop :=
  cRc h 10 a0 <| cNw h 1 8 fun r1 h2 => cPr h2 10 a0 0 r1 fun h3 => cNw h3 1 8 fun r4 h5 => cPr h5 10 a0 1 r4 fun h6 => cGr h6 10 a0 0 fun r7 => cSt h6 r7 1 255 fun h8 => cGr h8 10 a0 1 fun r9 => cSt h8 r9 1 255 fun h10 => cPi h10 10 a0 2 2 fun h11 => Q h11
section
variable {p : Program} {l : Launch} {e : Env} {s : State} {m : MethodId} {args : Array Value} {below : List Frame} {meth : Method} {c : Code} {D : Zd} {base : Nat}
set_option maxRecDepth 100000 in
set_option maxHeartbeats 4000000 in
theorem rX0_init (hc : zOk p s m args meth c D cX0_init 1 RX0 none) (hin : meth.name = "<init>") {a0 : Nat} {h : Zm} {Q : Zm → Prop} (H : mX0_init a0 h Q) : zW p l e zrX0_init s m args below meth c D base 1 (MQ below (zQv D base Q) args s 2 16 (zFree base)) 0 0 0 [some (.inr a0)] [] h := by
  unfold mX0_init at H
  refine z_aload_n (pc := 0) hc dX0_init_0 rfl ?_
  refine z_objInit (pc := 1) hc dX0_init_1 (zT_mem 189 (by decide +kernel) rfl) (zT_mem 56 (by decide +kernel) rfl) (zT_mem 57 (by decide +kernel) rfl) (by decide) (by decide) (by decide) (d := 10) (by decide) H (fun H => ?_)
  refine z_aload_n (pc := 4) hc dX0_init_4 rfl ?_
  refine z_bipush (pc := 5) hc dX0_init_5 (by decide) ?_
  refine z_newarr (pc := 7) (t := 1) (n := 8) hc dX0_init_7 (by decide) rfl (zT_mem 165 (by decide +kernel) rfl) (by decide) (by exact Nat.le_of_ble_eq_true rfl) (by exact Nat.le_of_ble_eq_true rfl) H (fun r1 h2 H => ?_)
  refine z_putR (pc := 9) hc dX0_init_9 zf_RX0_9 rfl rfl rfl hin (fun C T N q => by cases q; rfl) H (fun h3 H => ?_)
  refine z_aload_n (pc := 12) hc dX0_init_12 rfl ?_
  refine z_bipush (pc := 13) hc dX0_init_13 (by decide) ?_
  refine z_newarr (pc := 15) (t := 1) (n := 8) hc dX0_init_15 (by decide) rfl (zT_mem 165 (by decide +kernel) rfl) (by decide) (by exact Nat.le_of_ble_eq_true rfl) (by exact Nat.le_of_ble_eq_true rfl) H (fun r4 h5 H => ?_)
  refine z_putR (pc := 17) hc dX0_init_17 zf_RX0_15 rfl rfl rfl hin (fun C T N q => by cases q; rfl) H (fun h6 H => ?_)
  refine z_aload_n (pc := 20) hc dX0_init_20 rfl ?_
  refine z_getR (pc := 21) hc dX0_init_21 zf_RX0_9 rfl rfl rfl H (fun r7 H => ?_)
  refine z_iconst (pc := 24) hc dX0_init_24 ?_
  refine z_sipush (pc := 25) hc dX0_init_25 (by decide) ?_
  refine z_iastore (pc := 28) hc dX0_init_28 H (fun h8 H => ?_)
  refine z_aload_n (pc := 29) hc dX0_init_29 rfl ?_
  refine z_getR (pc := 30) hc dX0_init_30 zf_RX0_15 rfl rfl rfl H (fun r9 H => ?_)
  refine z_iconst (pc := 33) hc dX0_init_33 ?_
  refine z_sipush (pc := 34) hc dX0_init_34 (by decide) ?_
  refine z_iastore (pc := 37) hc dX0_init_37 H (fun h10 H => ?_)
  refine z_aload_n (pc := 38) hc dX0_init_38 rfl ?_
  refine z_iconst (pc := 39) hc dX0_init_39 ?_
  refine z_putI (pc := 40) hc dX0_init_40 zf_RX0_18 rfl rfl rfl H (fun h11 H => ?_)
  refine z_cells (cells' := 2) (slots' := 16) (by omega) (by omega) ?_
  exact z_return (pc := 43) hc dX0_init_43 H
end
theorem metX0_init (l : Launch) (D : Zd) (base : Nat) {a0 : Nat} {h : Zm} {Q : Zm → Prop} (H : mX0_init a0 h Q) : zMet l D base yX0_init cX0_init 1 none zrX0_init [.inr a0] h (zQv D base Q) :=
  z_met (by decide +kernel) (Nat.le_of_ble_eq_true rfl) (fun p e s m args below meth c hc hn => rX0_init hc hn H)
def zrX0_copyFrom : Room := { frames := 0, cells := 0, slots := 0, locals := 0 }
def mX0_copyFrom_B2 (X2 : Int → Zm → Prop) (a0 : Nat) (a1 : Nat) (x2 : Int) (h : Zm) (Q : Zm → Prop) : Prop :=
  cLt x2 8
  (cGr h 10 a0 0 fun r3 => cGr h 10 a1 0 fun r4 => cLd h 1 r4 x2 fun v5 => cSt h r3 x2 v5 fun h6 => cGr h6 10 a0 1 fun r7 => cGr h6 10 a1 1 fun r8 => cLd h6 1 r8 x2 fun v9 => cSt h6 r7 x2 v9 fun h10 => X2 (x2 + 1) h10)
  (cGi h 10 a1 2 fun v1 => cPi h 10 a0 2 v1 fun h2 => Q h2)
def mX0_copyFrom_H2  (a0 : Nat) (a1 : Nat) (x2 : Int) (h : Zm) (Q : Zm → Prop) : Prop :=
  lfp1 (fun X2 x2 h => mX0_copyFrom_B2 X2 a0 a1 x2 h Q) x2 h
def mX0_copyFrom (a0 : Nat) (a1 : Nat) (h : Zm) (Q : Zm → Prop) : Prop :=
  mX0_copyFrom_H2  a0 a1 0 h Q
section
variable {p : Program} {l : Launch} {e : Env} {s : State} {m : MethodId} {args : Array Value} {below : List Frame} {meth : Method} {c : Code} {D : Zd} {base : Nat}
set_option maxRecDepth 100000 in
set_option maxHeartbeats 4000000 in
theorem rX0_copyFrom_B2 (hc : zOk p s m args meth c D cX0_copyFrom 3 RX0 none) {X2 : Int → Zm → Prop} {a0 : Nat} {a1 : Nat} {x2 : Int} {h : Zm} {Q : Zm → Prop} (hX2 : ∀ (x2 : Int) (h : Zm), X2 x2 h → zW p l e zrX0_copyFrom s m args below meth c D base 3 (MQ below (zQv D base Q) args s 0 0 (zFree base)) 0 0 2 [some (.inr a0), some (.inr a1), some (.inl x2)] [] h) (H : mX0_copyFrom_B2 X2 a0 a1 x2 h Q) : zW p l e zrX0_copyFrom s m args below meth c D base 3 (MQ below (zQv D base Q) args s 0 0 (zFree base)) 0 0 2 [some (.inr a0), some (.inr a1), some (.inl x2)] [] h := by
  unfold mX0_copyFrom_B2 at H
  refine z_iload_n (pc := 2) hc dX0_copyFrom_2 rfl ?_
  refine z_bipush (pc := 3) hc dX0_copyFrom_3 (by decide) ?_
  refine z_icmp_ge (tgt := 38) (pc := 5) hc dX0_copyFrom_5 rfl H (fun H => ?_) (fun H => ?_)
  · refine z_aload_n (pc := 8) hc dX0_copyFrom_8 rfl ?_
    refine z_getR (pc := 9) hc dX0_copyFrom_9 zf_RX0_9 rfl rfl rfl H (fun r3 H => ?_)
    refine z_iload_n (pc := 12) hc dX0_copyFrom_12 rfl ?_
    refine z_aload_n (pc := 13) hc dX0_copyFrom_13 rfl ?_
    refine z_getR (pc := 14) hc dX0_copyFrom_14 zf_RX0_9 rfl rfl rfl H (fun r4 H => ?_)
    refine z_iload_n (pc := 17) hc dX0_copyFrom_17 rfl ?_
    refine z_iaload (pc := 18) hc dX0_copyFrom_18 H (fun v5 H => ?_)
    refine z_iastore (pc := 19) hc dX0_copyFrom_19 H (fun h6 H => ?_)
    refine z_aload_n (pc := 20) hc dX0_copyFrom_20 rfl ?_
    refine z_getR (pc := 21) hc dX0_copyFrom_21 zf_RX0_15 rfl rfl rfl H (fun r7 H => ?_)
    refine z_iload_n (pc := 24) hc dX0_copyFrom_24 rfl ?_
    refine z_aload_n (pc := 25) hc dX0_copyFrom_25 rfl ?_
    refine z_getR (pc := 26) hc dX0_copyFrom_26 zf_RX0_15 rfl rfl rfl H (fun r8 H => ?_)
    refine z_iload_n (pc := 29) hc dX0_copyFrom_29 rfl ?_
    refine z_iaload (pc := 30) hc dX0_copyFrom_30 H (fun v9 H => ?_)
    refine z_iastore (pc := 31) hc dX0_copyFrom_31 H (fun h10 H => ?_)
    refine z_iinc (pc := 32) hc dX0_copyFrom_32 (by decide) rfl (ρ' := [some (.inr a0), some (.inr a1), some (.inl (x2 + 1))]) rfl ?_
    refine z_goto (tgt := 2) (pc := 35) hc dX0_copyFrom_35 rfl ?_
    exact hX2 _ _ H
  · refine z_aload_n (pc := 38) hc dX0_copyFrom_38 rfl ?_
    refine z_aload_n (pc := 39) hc dX0_copyFrom_39 rfl ?_
    refine z_getI (pc := 40) hc dX0_copyFrom_40 zf_RX0_18 rfl rfl rfl H (fun v1 H => ?_)
    refine z_putI (pc := 43) hc dX0_copyFrom_43 zf_RX0_18 rfl rfl rfl H (fun h2 H => ?_)
    exact z_return (pc := 46) hc dX0_copyFrom_46 H
theorem rX0_copyFrom_H2 (hc : zOk p s m args meth c D cX0_copyFrom 3 RX0 none)  {a0 : Nat} {a1 : Nat} {x2 : Int} {h : Zm} {Q : Zm → Prop}  (H : mX0_copyFrom_H2  a0 a1 x2 h Q) : zW p l e zrX0_copyFrom s m args below meth c D base 3 (MQ below (zQv D base Q) args s 0 0 (zFree base)) 0 0 2 [some (.inr a0), some (.inr a1), some (.inl x2)] [] h :=
  H (fun x2 h => zW p l e zrX0_copyFrom s m args below meth c D base 3 (MQ below (zQv D base Q) args s 0 0 (zFree base)) 0 0 2 [some (.inr a0), some (.inr a1), some (.inl x2)] [] h) (fun x2 h H => rX0_copyFrom_B2 hc (fun _ _ q => q) H)
set_option maxRecDepth 100000 in
set_option maxHeartbeats 4000000 in
theorem rX0_copyFrom (hc : zOk p s m args meth c D cX0_copyFrom 3 RX0 none) {a0 : Nat} {a1 : Nat} {h : Zm} {Q : Zm → Prop} (H : mX0_copyFrom a0 a1 h Q) : zW p l e zrX0_copyFrom s m args below meth c D base 3 (MQ below (zQv D base Q) args s 0 0 (zFree base)) 0 0 0 [some (.inr a0), some (.inr a1), none] [] h := by
  unfold mX0_copyFrom at H
  refine z_iconst (pc := 0) hc dX0_copyFrom_0 ?_
  refine z_istore_n (pc := 1) hc dX0_copyFrom_1 (by decide) (ρ' := [some (.inr a0), some (.inr a1), some (.inl 0)]) rfl ?_
  exact rX0_copyFrom_H2 hc H
end
theorem metX0_copyFrom (l : Launch) (D : Zd) (base : Nat) {a0 : Nat} {a1 : Nat} {h : Zm} {Q : Zm → Prop} (H : mX0_copyFrom a0 a1 h Q) : zMet l D base yX0_copyFrom cX0_copyFrom 3 none zrX0_copyFrom [.inr a0, .inr a1] h (zQv D base Q) :=
  z_met (by decide +kernel) (Nat.le_of_ble_eq_true rfl) (fun p e s m args below meth c hc hn => rX0_copyFrom hc H)
def zrX0_indexOf : Room := { frames := 0, cells := 0, slots := 0, locals := 0 }
def mX0_indexOf_B2 (X2 : Int → Zm → Prop) (a0 : Nat) (x1 : Int) (x2 : Int) (h : Zm) (Q : Int → Zm → Prop) : Prop :=
  cGi h 10 a0 2 fun v1 => cLt x2 v1
  (cGr h 10 a0 0 fun r2 => cLd h 1 r2 x2 fun v3 => cEq v3 x1
    (Q x2 h)
    (X2 (x2 + 1) h))
  (Q (-1) h)
def mX0_indexOf_H2  (a0 : Nat) (x1 : Int) (x2 : Int) (h : Zm) (Q : Int → Zm → Prop) : Prop :=
  lfp1 (fun X2 x2 h => mX0_indexOf_B2 X2 a0 x1 x2 h Q) x2 h
def mX0_indexOf (a0 : Nat) (x1 : Int) (h : Zm) (Q : Int → Zm → Prop) : Prop :=
  mX0_indexOf_H2  a0 x1 0 h Q
section
variable {p : Program} {l : Launch} {e : Env} {s : State} {m : MethodId} {args : Array Value} {below : List Frame} {meth : Method} {c : Code} {D : Zd} {base : Nat}
set_option maxRecDepth 100000 in
set_option maxHeartbeats 4000000 in
theorem rX0_indexOf_B2 (hc : zOk p s m args meth c D cX0_indexOf 3 RX0 (some .int)) {X2 : Int → Zm → Prop} {a0 : Nat} {x1 : Int} {x2 : Int} {h : Zm} {Q : Int → Zm → Prop} (hX2 : ∀ (x2 : Int) (h : Zm), X2 x2 h → zW p l e zrX0_indexOf s m args below meth c D base 3 (MQ below (zQi D base Q) args s 0 0 (zFree base)) 0 0 2 [some (.inr a0), some (.inl x1), some (.inl x2)] [] h) (H : mX0_indexOf_B2 X2 a0 x1 x2 h Q) : zW p l e zrX0_indexOf s m args below meth c D base 3 (MQ below (zQi D base Q) args s 0 0 (zFree base)) 0 0 2 [some (.inr a0), some (.inl x1), some (.inl x2)] [] h := by
  unfold mX0_indexOf_B2 at H
  refine z_iload_n (pc := 2) hc dX0_indexOf_2 rfl ?_
  refine z_aload_n (pc := 3) hc dX0_indexOf_3 rfl ?_
  refine z_getI (pc := 4) hc dX0_indexOf_4 zf_RX0_18 rfl rfl rfl H (fun v1 H => ?_)
  refine z_icmp_ge (tgt := 28) (pc := 7) hc dX0_indexOf_7 rfl H (fun H => ?_) (fun H => ?_)
  · refine z_aload_n (pc := 10) hc dX0_indexOf_10 rfl ?_
    refine z_getR (pc := 11) hc dX0_indexOf_11 zf_RX0_9 rfl rfl rfl H (fun r2 H => ?_)
    refine z_iload_n (pc := 14) hc dX0_indexOf_14 rfl ?_
    refine z_iaload (pc := 15) hc dX0_indexOf_15 H (fun v3 H => ?_)
    refine z_iload_n (pc := 16) hc dX0_indexOf_16 rfl ?_
    refine z_icmp_ne (tgt := 22) (pc := 17) hc dX0_indexOf_17 rfl H (fun H => ?_) (fun H => ?_)
    · refine z_iload_n (pc := 20) hc dX0_indexOf_20 rfl ?_
      exact z_ireturn (pc := 21) hc dX0_indexOf_21 H
    · refine z_iinc (pc := 22) hc dX0_indexOf_22 (by decide) rfl (ρ' := [some (.inr a0), some (.inl x1), some (.inl (x2 + 1))]) rfl ?_
      refine z_goto (tgt := 2) (pc := 25) hc dX0_indexOf_25 rfl ?_
      exact hX2 _ _ H
  · refine z_iconst (pc := 28) hc dX0_indexOf_28 ?_
    exact z_ireturn (pc := 29) hc dX0_indexOf_29 H
theorem rX0_indexOf_H2 (hc : zOk p s m args meth c D cX0_indexOf 3 RX0 (some .int))  {a0 : Nat} {x1 : Int} {x2 : Int} {h : Zm} {Q : Int → Zm → Prop}  (H : mX0_indexOf_H2  a0 x1 x2 h Q) : zW p l e zrX0_indexOf s m args below meth c D base 3 (MQ below (zQi D base Q) args s 0 0 (zFree base)) 0 0 2 [some (.inr a0), some (.inl x1), some (.inl x2)] [] h :=
  H (fun x2 h => zW p l e zrX0_indexOf s m args below meth c D base 3 (MQ below (zQi D base Q) args s 0 0 (zFree base)) 0 0 2 [some (.inr a0), some (.inl x1), some (.inl x2)] [] h) (fun x2 h H => rX0_indexOf_B2 hc (fun _ _ q => q) H)
set_option maxRecDepth 100000 in
set_option maxHeartbeats 4000000 in
theorem rX0_indexOf (hc : zOk p s m args meth c D cX0_indexOf 3 RX0 (some .int)) {a0 : Nat} {x1 : Int} {h : Zm} {Q : Int → Zm → Prop} (H : mX0_indexOf a0 x1 h Q) : zW p l e zrX0_indexOf s m args below meth c D base 3 (MQ below (zQi D base Q) args s 0 0 (zFree base)) 0 0 0 [some (.inr a0), some (.inl x1), none] [] h := by
  unfold mX0_indexOf at H
  refine z_iconst (pc := 0) hc dX0_indexOf_0 ?_
  refine z_istore_n (pc := 1) hc dX0_indexOf_1 (by decide) (ρ' := [some (.inr a0), some (.inl x1), some (.inl 0)]) rfl ?_
  exact rX0_indexOf_H2 hc H
end
theorem metX0_indexOf (l : Launch) (D : Zd) (base : Nat) {a0 : Nat} {x1 : Int} {h : Zm} {Q : Int → Zm → Prop} (H : mX0_indexOf a0 x1 h Q) : zMet l D base yX0_indexOf cX0_indexOf 3 (some .int) zrX0_indexOf [.inr a0, .inl x1] h (zQi D base Q) :=
  z_met (by decide +kernel) (Nat.le_of_ble_eq_true rfl) (fun p e s m args below meth c hc hn => rX0_indexOf hc H)
def zrX0_keepsRising : Room := { frames := 0, cells := 0, slots := 0, locals := 0 }
def mX0_keepsRising_J32 (X2 : Int → Zm → Prop) (a0 : Nat) (x1 : Int) (x2 : Int) (x3 : Int) (h : Zm) (Q : Int → Zm → Prop) : Prop :=
  cGr h 10 a0 0 fun r6 => cLd h 1 r6 x3 fun v7 => cLe v7 x1
  (X2 (x3 + 1) h)
  (cGr h 10 a0 1 fun r8 => cLd h 1 r8 x3 fun v9 => cLt v9 x2
    (Q 0 h)
    (X2 (x3 + 1) h))
def mX0_keepsRising_B2 (X2 : Int → Zm → Prop) (a0 : Nat) (x1 : Int) (x2 : Int) (x3 : Int) (h : Zm) (Q : Int → Zm → Prop) : Prop :=
  cGi h 10 a0 2 fun v1 => cLt x3 v1
  (cGr h 10 a0 0 fun r2 => cLd h 1 r2 x3 fun v3 => cLt v3 x1
    (cGr h 10 a0 1 fun r4 => cLd h 1 r4 x3 fun v5 => cLe v5 x2
      (mX0_keepsRising_J32 X2 a0 x1 x2 x3 h Q)
      (Q 0 h))
    (mX0_keepsRising_J32 X2 a0 x1 x2 x3 h Q))
  (Q 1 h)
def mX0_keepsRising_H2  (a0 : Nat) (x1 : Int) (x2 : Int) (x3 : Int) (h : Zm) (Q : Int → Zm → Prop) : Prop :=
  lfp1 (fun X2 x3 h => mX0_keepsRising_B2 X2 a0 x1 x2 x3 h Q) x3 h
def mX0_keepsRising (a0 : Nat) (x1 : Int) (x2 : Int) (h : Zm) (Q : Int → Zm → Prop) : Prop :=
  mX0_keepsRising_H2  a0 x1 x2 0 h Q
section
variable {p : Program} {l : Launch} {e : Env} {s : State} {m : MethodId} {args : Array Value} {below : List Frame} {meth : Method} {c : Code} {D : Zd} {base : Nat}
set_option maxRecDepth 100000 in
set_option maxHeartbeats 4000000 in
theorem rX0_keepsRising_J32 (hc : zOk p s m args meth c D cX0_keepsRising 4 RX0 (some .boolean)) {X2 : Int → Zm → Prop} {a0 : Nat} {x1 : Int} {x2 : Int} {x3 : Int} {h : Zm} {Q : Int → Zm → Prop} (hX2 : ∀ (x3 : Int) (h : Zm), X2 x3 h → zW p l e zrX0_keepsRising s m args below meth c D base 4 (MQ below (zQi D base Q) args s 0 0 (zFree base)) 0 0 2 [some (.inr a0), some (.inl x1), some (.inl x2), some (.inl x3)] [] h) (H : mX0_keepsRising_J32 X2 a0 x1 x2 x3 h Q) : zW p l e zrX0_keepsRising s m args below meth c D base 4 (MQ below (zQi D base Q) args s 0 0 (zFree base)) 0 0 32 [some (.inr a0), some (.inl x1), some (.inl x2), some (.inl x3)] [] h := by
  unfold mX0_keepsRising_J32 at H
  refine z_aload_n (pc := 32) hc dX0_keepsRising_32 rfl ?_
  refine z_getR (pc := 33) hc dX0_keepsRising_33 zf_RX0_9 rfl rfl rfl H (fun r6 H => ?_)
  refine z_iload_n (pc := 36) hc dX0_keepsRising_36 rfl ?_
  refine z_iaload (pc := 37) hc dX0_keepsRising_37 H (fun v7 H => ?_)
  refine z_iload_n (pc := 38) hc dX0_keepsRising_38 rfl ?_
  refine z_icmp_le (tgt := 54) (pc := 39) hc dX0_keepsRising_39 rfl H (fun H => ?_) (fun H => ?_)
  · refine z_iinc (pc := 54) hc dX0_keepsRising_54 (by decide) rfl (ρ' := [some (.inr a0), some (.inl x1), some (.inl x2), some (.inl (x3 + 1))]) rfl ?_
    refine z_goto (tgt := 2) (pc := 57) hc dX0_keepsRising_57 rfl ?_
    exact hX2 _ _ H
  · refine z_aload_n (pc := 42) hc dX0_keepsRising_42 rfl ?_
    refine z_getR (pc := 43) hc dX0_keepsRising_43 zf_RX0_15 rfl rfl rfl H (fun r8 H => ?_)
    refine z_iload_n (pc := 46) hc dX0_keepsRising_46 rfl ?_
    refine z_iaload (pc := 47) hc dX0_keepsRising_47 H (fun v9 H => ?_)
    refine z_iload_n (pc := 48) hc dX0_keepsRising_48 rfl ?_
    refine z_icmp_ge (tgt := 54) (pc := 49) hc dX0_keepsRising_49 rfl H (fun H => ?_) (fun H => ?_)
    · refine z_iconst (pc := 52) hc dX0_keepsRising_52 ?_
      exact z_zreturn (pc := 53) hc dX0_keepsRising_53 ⟨Or.inl rfl, H⟩
    · refine z_iinc (pc := 54) hc dX0_keepsRising_54 (by decide) rfl (ρ' := [some (.inr a0), some (.inl x1), some (.inl x2), some (.inl (x3 + 1))]) rfl ?_
      refine z_goto (tgt := 2) (pc := 57) hc dX0_keepsRising_57 rfl ?_
      exact hX2 _ _ H
set_option maxRecDepth 100000 in
set_option maxHeartbeats 4000000 in
theorem rX0_keepsRising_B2 (hc : zOk p s m args meth c D cX0_keepsRising 4 RX0 (some .boolean)) {X2 : Int → Zm → Prop} {a0 : Nat} {x1 : Int} {x2 : Int} {x3 : Int} {h : Zm} {Q : Int → Zm → Prop} (hX2 : ∀ (x3 : Int) (h : Zm), X2 x3 h → zW p l e zrX0_keepsRising s m args below meth c D base 4 (MQ below (zQi D base Q) args s 0 0 (zFree base)) 0 0 2 [some (.inr a0), some (.inl x1), some (.inl x2), some (.inl x3)] [] h) (H : mX0_keepsRising_B2 X2 a0 x1 x2 x3 h Q) : zW p l e zrX0_keepsRising s m args below meth c D base 4 (MQ below (zQi D base Q) args s 0 0 (zFree base)) 0 0 2 [some (.inr a0), some (.inl x1), some (.inl x2), some (.inl x3)] [] h := by
  unfold mX0_keepsRising_B2 at H
  refine z_iload_n (pc := 2) hc dX0_keepsRising_2 rfl ?_
  refine z_aload_n (pc := 3) hc dX0_keepsRising_3 rfl ?_
  refine z_getI (pc := 4) hc dX0_keepsRising_4 zf_RX0_18 rfl rfl rfl H (fun v1 H => ?_)
  refine z_icmp_ge (tgt := 60) (pc := 7) hc dX0_keepsRising_7 rfl H (fun H => ?_) (fun H => ?_)
  · refine z_aload_n (pc := 10) hc dX0_keepsRising_10 rfl ?_
    refine z_getR (pc := 11) hc dX0_keepsRising_11 zf_RX0_9 rfl rfl rfl H (fun r2 H => ?_)
    refine z_iload_n (pc := 14) hc dX0_keepsRising_14 rfl ?_
    refine z_iaload (pc := 15) hc dX0_keepsRising_15 H (fun v3 H => ?_)
    refine z_iload_n (pc := 16) hc dX0_keepsRising_16 rfl ?_
    refine z_icmp_ge (tgt := 32) (pc := 17) hc dX0_keepsRising_17 rfl H (fun H => ?_) (fun H => ?_)
    · refine z_aload_n (pc := 20) hc dX0_keepsRising_20 rfl ?_
      refine z_getR (pc := 21) hc dX0_keepsRising_21 zf_RX0_15 rfl rfl rfl H (fun r4 H => ?_)
      refine z_iload_n (pc := 24) hc dX0_keepsRising_24 rfl ?_
      refine z_iaload (pc := 25) hc dX0_keepsRising_25 H (fun v5 H => ?_)
      refine z_iload_n (pc := 26) hc dX0_keepsRising_26 rfl ?_
      refine z_icmp_le (tgt := 32) (pc := 27) hc dX0_keepsRising_27 rfl H (fun H => ?_) (fun H => ?_)
      · exact rX0_keepsRising_J32 hc hX2 H
      · refine z_iconst (pc := 30) hc dX0_keepsRising_30 ?_
        exact z_zreturn (pc := 31) hc dX0_keepsRising_31 ⟨Or.inl rfl, H⟩
    · exact rX0_keepsRising_J32 hc hX2 H
  · refine z_iconst (pc := 60) hc dX0_keepsRising_60 ?_
    exact z_zreturn (pc := 61) hc dX0_keepsRising_61 ⟨Or.inr rfl, H⟩
theorem rX0_keepsRising_H2 (hc : zOk p s m args meth c D cX0_keepsRising 4 RX0 (some .boolean))  {a0 : Nat} {x1 : Int} {x2 : Int} {x3 : Int} {h : Zm} {Q : Int → Zm → Prop}  (H : mX0_keepsRising_H2  a0 x1 x2 x3 h Q) : zW p l e zrX0_keepsRising s m args below meth c D base 4 (MQ below (zQi D base Q) args s 0 0 (zFree base)) 0 0 2 [some (.inr a0), some (.inl x1), some (.inl x2), some (.inl x3)] [] h :=
  H (fun x3 h => zW p l e zrX0_keepsRising s m args below meth c D base 4 (MQ below (zQi D base Q) args s 0 0 (zFree base)) 0 0 2 [some (.inr a0), some (.inl x1), some (.inl x2), some (.inl x3)] [] h) (fun x3 h H => rX0_keepsRising_B2 hc (fun _ _ q => q) H)
set_option maxRecDepth 100000 in
set_option maxHeartbeats 4000000 in
theorem rX0_keepsRising (hc : zOk p s m args meth c D cX0_keepsRising 4 RX0 (some .boolean)) {a0 : Nat} {x1 : Int} {x2 : Int} {h : Zm} {Q : Int → Zm → Prop} (H : mX0_keepsRising a0 x1 x2 h Q) : zW p l e zrX0_keepsRising s m args below meth c D base 4 (MQ below (zQi D base Q) args s 0 0 (zFree base)) 0 0 0 [some (.inr a0), some (.inl x1), some (.inl x2), none] [] h := by
  unfold mX0_keepsRising at H
  refine z_iconst (pc := 0) hc dX0_keepsRising_0 ?_
  refine z_istore_n (pc := 1) hc dX0_keepsRising_1 (by decide) (ρ' := [some (.inr a0), some (.inl x1), some (.inl x2), some (.inl 0)]) rfl ?_
  exact rX0_keepsRising_H2 hc H
end
theorem metX0_keepsRising (l : Launch) (D : Zd) (base : Nat) {a0 : Nat} {x1 : Int} {x2 : Int} {h : Zm} {Q : Int → Zm → Prop} (H : mX0_keepsRising a0 x1 x2 h Q) : zMet l D base yX0_keepsRising cX0_keepsRising 4 (some .boolean) zrX0_keepsRising [.inr a0, .inl x1, .inl x2] h (zQi D base Q) :=
  z_met (by decide +kernel) (Nat.le_of_ble_eq_true rfl) (fun p e s m args below meth c hc hn => rX0_keepsRising hc H)
def zrX0_openGap : Room := { frames := 0, cells := 0, slots := 0, locals := 0 }
def mX0_openGap_B17 (X17 : Int → Zm → Prop) (a0 : Nat) (x1 : Int) (x2 : Int) (h : Zm) (Q : Int → Zm → Prop) : Prop :=
  cLe x2 0
  (cGi h 10 a0 2 fun v3 => cPi h 10 a0 2 (v3 + 1) fun h4 => Q x2 h4)
  (cGr h 10 a0 0 fun r5 => cLd h 1 r5 (x2 - 1) fun v6 => cLe v6 x1
    (cGi h 10 a0 2 fun v7 => cPi h 10 a0 2 (v7 + 1) fun h8 => Q x2 h8)
    (cGr h 10 a0 0 fun r9 => cGr h 10 a0 0 fun r10 => cLd h 1 r10 (x2 - 1) fun v11 => cSt h r9 x2 v11 fun h12 => cGr h12 10 a0 1 fun r13 => cGr h12 10 a0 1 fun r14 => cLd h12 1 r14 (x2 - 1) fun v15 => cSt h12 r13 x2 v15 fun h16 => X17 (x2 + (-1)) h16))
def mX0_openGap_H17  (a0 : Nat) (x1 : Int) (x2 : Int) (h : Zm) (Q : Int → Zm → Prop) : Prop :=
  lfp1 (fun X17 x2 h => mX0_openGap_B17 X17 a0 x1 x2 h Q) x2 h
def mX0_openGap (a0 : Nat) (x1 : Int) (h : Zm) (Q : Int → Zm → Prop) : Prop :=
  cGi h 10 a0 2 fun v1 => cLt v1 8
  (cGi h 10 a0 2 fun v2 => mX0_openGap_H17  a0 x1 v2 h Q)
  (Q 8 h)
section
variable {p : Program} {l : Launch} {e : Env} {s : State} {m : MethodId} {args : Array Value} {below : List Frame} {meth : Method} {c : Code} {D : Zd} {base : Nat}
set_option maxRecDepth 100000 in
set_option maxHeartbeats 4000000 in
theorem rX0_openGap_B17 (hc : zOk p s m args meth c D cX0_openGap 3 RX0 (some .int)) {X17 : Int → Zm → Prop} {a0 : Nat} {x1 : Int} {x2 : Int} {h : Zm} {Q : Int → Zm → Prop} (hX17 : ∀ (x2 : Int) (h : Zm), X17 x2 h → zW p l e zrX0_openGap s m args below meth c D base 3 (MQ below (zQi D base Q) args s 0 0 (zFree base)) 0 0 17 [some (.inr a0), some (.inl x1), some (.inl x2)] [] h) (H : mX0_openGap_B17 X17 a0 x1 x2 h Q) : zW p l e zrX0_openGap s m args below meth c D base 3 (MQ below (zQi D base Q) args s 0 0 (zFree base)) 0 0 17 [some (.inr a0), some (.inl x1), some (.inl x2)] [] h := by
  unfold mX0_openGap_B17 at H
  refine z_iload_n (pc := 17) hc dX0_openGap_17 rfl ?_
  refine z_if_le (tgt := 67) (pc := 18) hc dX0_openGap_18 rfl H (fun H => ?_) (fun H => ?_)
  · refine z_aload_n (pc := 67) hc dX0_openGap_67 rfl ?_
    refine z_dup (pc := 68) hc dX0_openGap_68 ?_
    refine z_getI (pc := 69) hc dX0_openGap_69 zf_RX0_18 rfl rfl rfl H (fun v3 H => ?_)
    refine z_iconst (pc := 72) hc dX0_openGap_72 ?_
    refine z_iadd (pc := 73) hc dX0_openGap_73 ?_
    refine z_putI (pc := 74) hc dX0_openGap_74 zf_RX0_18 rfl rfl rfl H (fun h4 H => ?_)
    refine z_iload_n (pc := 77) hc dX0_openGap_77 rfl ?_
    exact z_ireturn (pc := 78) hc dX0_openGap_78 H
  · refine z_aload_n (pc := 21) hc dX0_openGap_21 rfl ?_
    refine z_getR (pc := 22) hc dX0_openGap_22 zf_RX0_9 rfl rfl rfl H (fun r5 H => ?_)
    refine z_iload_n (pc := 25) hc dX0_openGap_25 rfl ?_
    refine z_iconst (pc := 26) hc dX0_openGap_26 ?_
    refine z_isub (pc := 27) hc dX0_openGap_27 ?_
    refine z_iaload (pc := 28) hc dX0_openGap_28 H (fun v6 H => ?_)
    refine z_iload_n (pc := 29) hc dX0_openGap_29 rfl ?_
    refine z_icmp_le (tgt := 67) (pc := 30) hc dX0_openGap_30 rfl H (fun H => ?_) (fun H => ?_)
    · refine z_aload_n (pc := 67) hc dX0_openGap_67 rfl ?_
      refine z_dup (pc := 68) hc dX0_openGap_68 ?_
      refine z_getI (pc := 69) hc dX0_openGap_69 zf_RX0_18 rfl rfl rfl H (fun v7 H => ?_)
      refine z_iconst (pc := 72) hc dX0_openGap_72 ?_
      refine z_iadd (pc := 73) hc dX0_openGap_73 ?_
      refine z_putI (pc := 74) hc dX0_openGap_74 zf_RX0_18 rfl rfl rfl H (fun h8 H => ?_)
      refine z_iload_n (pc := 77) hc dX0_openGap_77 rfl ?_
      exact z_ireturn (pc := 78) hc dX0_openGap_78 H
    · refine z_aload_n (pc := 33) hc dX0_openGap_33 rfl ?_
      refine z_getR (pc := 34) hc dX0_openGap_34 zf_RX0_9 rfl rfl rfl H (fun r9 H => ?_)
      refine z_iload_n (pc := 37) hc dX0_openGap_37 rfl ?_
      refine z_aload_n (pc := 38) hc dX0_openGap_38 rfl ?_
      refine z_getR (pc := 39) hc dX0_openGap_39 zf_RX0_9 rfl rfl rfl H (fun r10 H => ?_)
      refine z_iload_n (pc := 42) hc dX0_openGap_42 rfl ?_
      refine z_iconst (pc := 43) hc dX0_openGap_43 ?_
      refine z_isub (pc := 44) hc dX0_openGap_44 ?_
      refine z_iaload (pc := 45) hc dX0_openGap_45 H (fun v11 H => ?_)
      refine z_iastore (pc := 46) hc dX0_openGap_46 H (fun h12 H => ?_)
      refine z_aload_n (pc := 47) hc dX0_openGap_47 rfl ?_
      refine z_getR (pc := 48) hc dX0_openGap_48 zf_RX0_15 rfl rfl rfl H (fun r13 H => ?_)
      refine z_iload_n (pc := 51) hc dX0_openGap_51 rfl ?_
      refine z_aload_n (pc := 52) hc dX0_openGap_52 rfl ?_
      refine z_getR (pc := 53) hc dX0_openGap_53 zf_RX0_15 rfl rfl rfl H (fun r14 H => ?_)
      refine z_iload_n (pc := 56) hc dX0_openGap_56 rfl ?_
      refine z_iconst (pc := 57) hc dX0_openGap_57 ?_
      refine z_isub (pc := 58) hc dX0_openGap_58 ?_
      refine z_iaload (pc := 59) hc dX0_openGap_59 H (fun v15 H => ?_)
      refine z_iastore (pc := 60) hc dX0_openGap_60 H (fun h16 H => ?_)
      refine z_iinc (pc := 61) hc dX0_openGap_61 (by decide) rfl (ρ' := [some (.inr a0), some (.inl x1), some (.inl (x2 + (-1)))]) rfl ?_
      refine z_goto (tgt := 17) (pc := 64) hc dX0_openGap_64 rfl ?_
      exact hX17 _ _ H
theorem rX0_openGap_H17 (hc : zOk p s m args meth c D cX0_openGap 3 RX0 (some .int))  {a0 : Nat} {x1 : Int} {x2 : Int} {h : Zm} {Q : Int → Zm → Prop}  (H : mX0_openGap_H17  a0 x1 x2 h Q) : zW p l e zrX0_openGap s m args below meth c D base 3 (MQ below (zQi D base Q) args s 0 0 (zFree base)) 0 0 17 [some (.inr a0), some (.inl x1), some (.inl x2)] [] h :=
  H (fun x2 h => zW p l e zrX0_openGap s m args below meth c D base 3 (MQ below (zQi D base Q) args s 0 0 (zFree base)) 0 0 17 [some (.inr a0), some (.inl x1), some (.inl x2)] [] h) (fun x2 h H => rX0_openGap_B17 hc (fun _ _ q => q) H)
set_option maxRecDepth 100000 in
set_option maxHeartbeats 4000000 in
theorem rX0_openGap (hc : zOk p s m args meth c D cX0_openGap 3 RX0 (some .int)) {a0 : Nat} {x1 : Int} {h : Zm} {Q : Int → Zm → Prop} (H : mX0_openGap a0 x1 h Q) : zW p l e zrX0_openGap s m args below meth c D base 3 (MQ below (zQi D base Q) args s 0 0 (zFree base)) 0 0 0 [some (.inr a0), some (.inl x1), none] [] h := by
  unfold mX0_openGap at H
  refine z_aload_n (pc := 0) hc dX0_openGap_0 rfl ?_
  refine z_getI (pc := 1) hc dX0_openGap_1 zf_RX0_18 rfl rfl rfl H (fun v1 H => ?_)
  refine z_bipush (pc := 4) hc dX0_openGap_4 (by decide) ?_
  refine z_icmp_lt (tgt := 12) (pc := 6) hc dX0_openGap_6 rfl H (fun H => ?_) (fun H => ?_)
  · refine z_aload_n (pc := 12) hc dX0_openGap_12 rfl ?_
    refine z_getI (pc := 13) hc dX0_openGap_13 zf_RX0_18 rfl rfl rfl H (fun v2 H => ?_)
    refine z_istore_n (pc := 16) hc dX0_openGap_16 (by decide) (ρ' := [some (.inr a0), some (.inl x1), some (.inl v2)]) rfl ?_
    exact rX0_openGap_H17 hc H
  · refine z_bipush (pc := 9) hc dX0_openGap_9 (by decide) ?_
    exact z_ireturn (pc := 11) hc dX0_openGap_11 H
end
theorem metX0_openGap (l : Launch) (D : Zd) (base : Nat) {a0 : Nat} {x1 : Int} {h : Zm} {Q : Int → Zm → Prop} (H : mX0_openGap a0 x1 h Q) : zMet l D base yX0_openGap cX0_openGap 3 (some .int) zrX0_openGap [.inr a0, .inl x1] h (zQi D base Q) :=
  z_met (by decide +kernel) (Nat.le_of_ble_eq_true rfl) (fun p e s m args below meth c hc hn => rX0_openGap hc H)
def zrX0_put : Room := { frames := 1, cells := 0, slots := 0, locals := 22 }
def mX0_put_J17  (a0 : Nat) (x1 : Int) (x2 : Int) (x3 : Int) (h : Zm) (Q : Zm → Prop) : Prop :=
  cLt x3 8
  (cGr h 10 a0 0 fun r5 => cSt h r5 x3 x1 fun h6 => cGr h6 10 a0 1 fun r7 => cSt h6 r7 x3 x2 fun h8 => Q h8)
  (Q h)
def mX0_put (a0 : Nat) (x1 : Int) (x2 : Int) (h : Zm) (Q : Zm → Prop) : Prop :=
  cRc h 10 a0 <| mX0_indexOf a0 x1 h fun v2 h1 => cEq v2 (-1)
  (cRc h1 10 a0 <| mX0_openGap a0 x1 h1 fun v4 h3 => mX0_put_J17  a0 x1 x2 v4 h3 Q)
  (mX0_put_J17  a0 x1 x2 v2 h1 Q)
section
variable {p : Program} {l : Launch} {e : Env} {s : State} {m : MethodId} {args : Array Value} {below : List Frame} {meth : Method} {c : Code} {D : Zd} {base : Nat}
set_option maxRecDepth 100000 in
set_option maxHeartbeats 4000000 in
theorem rX0_put_J17 (hc : zOk p s m args meth c D cX0_put 4 RX0 none)  {a0 : Nat} {x1 : Int} {x2 : Int} {x3 : Int} {h : Zm} {Q : Zm → Prop}  (H : mX0_put_J17  a0 x1 x2 x3 h Q) : zW p l e zrX0_put s m args below meth c D base 4 (MQ below (zQv D base Q) args s 0 0 (zFree base)) 0 0 17 [some (.inr a0), some (.inl x1), some (.inl x2), some (.inl x3)] [] h := by
  unfold mX0_put_J17 at H
  refine z_iload_n (pc := 17) hc dX0_put_17 rfl ?_
  refine z_bipush (pc := 18) hc dX0_put_18 (by decide) ?_
  refine z_icmp_ge (tgt := 37) (pc := 20) hc dX0_put_20 rfl H (fun H => ?_) (fun H => ?_)
  · refine z_aload_n (pc := 23) hc dX0_put_23 rfl ?_
    refine z_getR (pc := 24) hc dX0_put_24 zf_RX0_9 rfl rfl rfl H (fun r5 H => ?_)
    refine z_iload_n (pc := 27) hc dX0_put_27 rfl ?_
    refine z_iload_n (pc := 28) hc dX0_put_28 rfl ?_
    refine z_iastore (pc := 29) hc dX0_put_29 H (fun h6 H => ?_)
    refine z_aload_n (pc := 30) hc dX0_put_30 rfl ?_
    refine z_getR (pc := 31) hc dX0_put_31 zf_RX0_15 rfl rfl rfl H (fun r7 H => ?_)
    refine z_iload_n (pc := 34) hc dX0_put_34 rfl ?_
    refine z_iload_n (pc := 35) hc dX0_put_35 rfl ?_
    refine z_iastore (pc := 36) hc dX0_put_36 H (fun h8 H => ?_)
    exact z_return (pc := 37) hc dX0_put_37 H
  · exact z_return (pc := 37) hc dX0_put_37 H
set_option maxRecDepth 100000 in
set_option maxHeartbeats 4000000 in
theorem rX0_put (hc : zOk p s m args meth c D cX0_put 4 RX0 none) {a0 : Nat} {x1 : Int} {x2 : Int} {h : Zm} {Q : Zm → Prop} (H : mX0_put a0 x1 x2 h Q) : zW p l e zrX0_put s m args below meth c D base 4 (MQ below (zQv D base Q) args s 0 0 (zFree base)) 0 0 0 [some (.inr a0), some (.inl x1), some (.inl x2), none] [] h := by
  unfold mX0_put at H
  refine z_aload_n (pc := 0) hc dX0_put_0 rfl ?_
  refine z_iload_n (pc := 1) hc dX0_put_1 rfl ?_
  refine z_calI (z_runV (pc := 2) (ci := 0) (T := TX0) (N := 3) hc dX0_put_2 zw_RX0_22 (metX0_indexOf _ _ _ H.2) rfl (Nat.le_of_ble_eq_true rfl) ⟨Nat.le_of_ble_eq_true rfl, Nat.le_of_ble_eq_true rfl⟩ ⟨by exact Nat.le_of_ble_eq_true rfl, by exact Nat.le_of_ble_eq_true rfl⟩ rfl H.1) rfl ⟨rfl, rfl⟩ (fun v2 h1 H => ?_)
  refine z_istore_n (pc := 5) hc dX0_put_5 (by decide) (ρ' := [some (.inr a0), some (.inl x1), some (.inl x2), some (.inl v2)]) rfl ?_
  refine z_iload_n (pc := 6) hc dX0_put_6 rfl ?_
  refine z_iconst (pc := 7) hc dX0_put_7 ?_
  refine z_icmp_ne (tgt := 17) (pc := 8) hc dX0_put_8 rfl H (fun H => ?_) (fun H => ?_)
  · refine z_aload_n (pc := 11) hc dX0_put_11 rfl ?_
    refine z_iload_n (pc := 12) hc dX0_put_12 rfl ?_
    refine z_calI (z_runV (pc := 13) (ci := 0) (T := TX0) (N := 3) hc dX0_put_13 zw_RX0_26 (metX0_openGap _ _ _ H.2) rfl (Nat.le_of_ble_eq_true rfl) ⟨Nat.le_of_ble_eq_true rfl, Nat.le_of_ble_eq_true rfl⟩ ⟨by exact Nat.le_of_ble_eq_true rfl, by exact Nat.le_of_ble_eq_true rfl⟩ rfl H.1) rfl ⟨rfl, rfl⟩ (fun v4 h3 H => ?_)
    refine z_istore_n (pc := 16) hc dX0_put_16 (by decide) (ρ' := [some (.inr a0), some (.inl x1), some (.inl x2), some (.inl v4)]) rfl ?_
    exact rX0_put_J17 hc H
  · exact rX0_put_J17 hc H
end
theorem metX0_put (l : Launch) (D : Zd) (base : Nat) {a0 : Nat} {x1 : Int} {x2 : Int} {h : Zm} {Q : Zm → Prop} (H : mX0_put a0 x1 x2 h Q) : zMet l D base yX0_put cX0_put 4 none zrX0_put [.inr a0, .inl x1, .inl x2] h (zQv D base Q) :=
  z_met (by decide +kernel) (Nat.le_of_ble_eq_true rfl) (fun p e s m args below meth c hc hn => rX0_put hc H)
def zrX0_drop : Room := { frames := 0, cells := 0, slots := 0, locals := 0 }
def mX0_drop_B11 (X11 : Int → Zm → Prop) (a0 : Nat) (x2 : Int) (x3 : Int) (h : Zm) (Q : Int → Zm → Prop) : Prop :=
  cGi h 10 a0 2 fun v3 => cLt x3 v3
  (cGr h 10 a0 0 fun r6 => cGr h 10 a0 0 fun r7 => cLd h 1 r7 x3 fun v8 => cSt h r6 (x3 - 1) v8 fun h9 => cGr h9 10 a0 1 fun r10 => cGr h9 10 a0 1 fun r11 => cLd h9 1 r11 x3 fun v12 => cSt h9 r10 (x3 - 1) v12 fun h13 => X11 (x3 + 1) h13)
  (cGi h 10 a0 2 fun v4 => cPi h 10 a0 2 (v4 - 1) fun h5 => Q x2 h5)
def mX0_drop_H11  (a0 : Nat) (x2 : Int) (x3 : Int) (h : Zm) (Q : Int → Zm → Prop) : Prop :=
  lfp1 (fun X11 x3 h => mX0_drop_B11 X11 a0 x2 x3 h Q) x3 h
def mX0_drop (a0 : Nat) (x1 : Int) (h : Zm) (Q : Int → Zm → Prop) : Prop :=
  cGr h 10 a0 1 fun r1 => cLd h 1 r1 x1 fun v2 => mX0_drop_H11  a0 v2 (x1 + 1) h Q
section
variable {p : Program} {l : Launch} {e : Env} {s : State} {m : MethodId} {args : Array Value} {below : List Frame} {meth : Method} {c : Code} {D : Zd} {base : Nat}
set_option maxRecDepth 100000 in
set_option maxHeartbeats 4000000 in
theorem rX0_drop_B11 (hc : zOk p s m args meth c D cX0_drop 4 RX0 (some .int)) {X11 : Int → Zm → Prop} {a0 : Nat} {x2 : Int} {x3 : Int} {h : Zm} {Q : Int → Zm → Prop} (hX11 : ∀ (x3 : Int) (h : Zm), X11 x3 h → zW p l e zrX0_drop s m args below meth c D base 4 (MQ below (zQi D base Q) args s 0 0 (zFree base)) 0 0 11 [some (.inr a0), none, some (.inl x2), some (.inl x3)] [] h) (H : mX0_drop_B11 X11 a0 x2 x3 h Q) : zW p l e zrX0_drop s m args below meth c D base 4 (MQ below (zQi D base Q) args s 0 0 (zFree base)) 0 0 11 [some (.inr a0), none, some (.inl x2), some (.inl x3)] [] h := by
  unfold mX0_drop_B11 at H
  refine z_iload_n (pc := 11) hc dX0_drop_11 rfl ?_
  refine z_aload_n (pc := 12) hc dX0_drop_12 rfl ?_
  refine z_getI (pc := 13) hc dX0_drop_13 zf_RX0_18 rfl rfl rfl H (fun v3 H => ?_)
  refine z_icmp_ge (tgt := 53) (pc := 16) hc dX0_drop_16 rfl H (fun H => ?_) (fun H => ?_)
  · refine z_aload_n (pc := 19) hc dX0_drop_19 rfl ?_
    refine z_getR (pc := 20) hc dX0_drop_20 zf_RX0_9 rfl rfl rfl H (fun r6 H => ?_)
    refine z_iload_n (pc := 23) hc dX0_drop_23 rfl ?_
    refine z_iconst (pc := 24) hc dX0_drop_24 ?_
    refine z_isub (pc := 25) hc dX0_drop_25 ?_
    refine z_aload_n (pc := 26) hc dX0_drop_26 rfl ?_
    refine z_getR (pc := 27) hc dX0_drop_27 zf_RX0_9 rfl rfl rfl H (fun r7 H => ?_)
    refine z_iload_n (pc := 30) hc dX0_drop_30 rfl ?_
    refine z_iaload (pc := 31) hc dX0_drop_31 H (fun v8 H => ?_)
    refine z_iastore (pc := 32) hc dX0_drop_32 H (fun h9 H => ?_)
    refine z_aload_n (pc := 33) hc dX0_drop_33 rfl ?_
    refine z_getR (pc := 34) hc dX0_drop_34 zf_RX0_15 rfl rfl rfl H (fun r10 H => ?_)
    refine z_iload_n (pc := 37) hc dX0_drop_37 rfl ?_
    refine z_iconst (pc := 38) hc dX0_drop_38 ?_
    refine z_isub (pc := 39) hc dX0_drop_39 ?_
    refine z_aload_n (pc := 40) hc dX0_drop_40 rfl ?_
    refine z_getR (pc := 41) hc dX0_drop_41 zf_RX0_15 rfl rfl rfl H (fun r11 H => ?_)
    refine z_iload_n (pc := 44) hc dX0_drop_44 rfl ?_
    refine z_iaload (pc := 45) hc dX0_drop_45 H (fun v12 H => ?_)
    refine z_iastore (pc := 46) hc dX0_drop_46 H (fun h13 H => ?_)
    refine z_iinc (pc := 47) hc dX0_drop_47 (by decide) rfl (ρ' := [some (.inr a0), none, some (.inl x2), some (.inl (x3 + 1))]) rfl ?_
    refine z_goto (tgt := 11) (pc := 50) hc dX0_drop_50 rfl ?_
    exact hX11 _ _ H
  · refine z_aload_n (pc := 53) hc dX0_drop_53 rfl ?_
    refine z_dup (pc := 54) hc dX0_drop_54 ?_
    refine z_getI (pc := 55) hc dX0_drop_55 zf_RX0_18 rfl rfl rfl H (fun v4 H => ?_)
    refine z_iconst (pc := 58) hc dX0_drop_58 ?_
    refine z_isub (pc := 59) hc dX0_drop_59 ?_
    refine z_putI (pc := 60) hc dX0_drop_60 zf_RX0_18 rfl rfl rfl H (fun h5 H => ?_)
    refine z_iload_n (pc := 63) hc dX0_drop_63 rfl ?_
    exact z_ireturn (pc := 64) hc dX0_drop_64 H
theorem rX0_drop_H11 (hc : zOk p s m args meth c D cX0_drop 4 RX0 (some .int))  {a0 : Nat} {x2 : Int} {x3 : Int} {h : Zm} {Q : Int → Zm → Prop}  (H : mX0_drop_H11  a0 x2 x3 h Q) : zW p l e zrX0_drop s m args below meth c D base 4 (MQ below (zQi D base Q) args s 0 0 (zFree base)) 0 0 11 [some (.inr a0), none, some (.inl x2), some (.inl x3)] [] h :=
  H (fun x3 h => zW p l e zrX0_drop s m args below meth c D base 4 (MQ below (zQi D base Q) args s 0 0 (zFree base)) 0 0 11 [some (.inr a0), none, some (.inl x2), some (.inl x3)] [] h) (fun x3 h H => rX0_drop_B11 hc (fun _ _ q => q) H)
set_option maxRecDepth 100000 in
set_option maxHeartbeats 4000000 in
theorem rX0_drop (hc : zOk p s m args meth c D cX0_drop 4 RX0 (some .int)) {a0 : Nat} {x1 : Int} {h : Zm} {Q : Int → Zm → Prop} (H : mX0_drop a0 x1 h Q) : zW p l e zrX0_drop s m args below meth c D base 4 (MQ below (zQi D base Q) args s 0 0 (zFree base)) 0 0 0 [some (.inr a0), some (.inl x1), none, none] [] h := by
  unfold mX0_drop at H
  refine z_aload_n (pc := 0) hc dX0_drop_0 rfl ?_
  refine z_getR (pc := 1) hc dX0_drop_1 zf_RX0_15 rfl rfl rfl H (fun r1 H => ?_)
  refine z_iload_n (pc := 4) hc dX0_drop_4 rfl ?_
  refine z_iaload (pc := 5) hc dX0_drop_5 H (fun v2 H => ?_)
  refine z_istore_n (pc := 6) hc dX0_drop_6 (by decide) (ρ' := [some (.inr a0), some (.inl x1), some (.inl v2), none]) rfl ?_
  refine z_iload_n (pc := 7) hc dX0_drop_7 rfl ?_
  refine z_iconst (pc := 8) hc dX0_drop_8 ?_
  refine z_iadd (pc := 9) hc dX0_drop_9 ?_
  refine z_istore_n (pc := 10) hc dX0_drop_10 (by decide) (ρ' := [some (.inr a0), some (.inl x1), some (.inl v2), some (.inl (x1 + 1))]) rfl ?_
  refine z_mask [true, false, true, true] (ρ' := [some (.inr a0), none, some (.inl v2), some (.inl (x1 + 1))]) rfl ?_
  exact rX0_drop_H11 hc H
end
theorem metX0_drop (l : Launch) (D : Zd) (base : Nat) {a0 : Nat} {x1 : Int} {h : Zm} {Q : Int → Zm → Prop} (H : mX0_drop a0 x1 h Q) : zMet l D base yX0_drop cX0_drop 4 (some .int) zrX0_drop [.inr a0, .inl x1] h (zQi D base Q) :=
  z_met (by decide +kernel) (Nat.le_of_ble_eq_true rfl) (fun p e s m args below meth c hc hn => rX0_drop hc H)
def zrX0_between : Room := { frames := 0, cells := 0, slots := 0, locals := 0 }
def mX0_between (a0 : Nat) (x1 : Int) (x2 : Int) (h : Zm) (Q : Int → Zm → Prop) : Prop :=
  cGr h 10 a0 1 fun r1 => cLd h 1 r1 (x1 - 1) fun v2 => cGr h 10 a0 0 fun r3 => cLd h 1 r3 x1 fun v4 => cGr h 10 a0 0 fun r5 => cLd h 1 r5 (x1 - 1) fun v6 => cLe (v4 - v6) 0
  (Q v2 h)
  (cGr h 10 a0 1 fun r7 => cLd h 1 r7 x1 fun v8 => cGr h 10 a0 0 fun r9 => cLd h 1 r9 (x1 - 1) fun v10 => cDiv ((v8 - v2) * (x2 - v10)) (v4 - v6) fun v11 => Q (v2 + v11) h)
section
variable {p : Program} {l : Launch} {e : Env} {s : State} {m : MethodId} {args : Array Value} {below : List Frame} {meth : Method} {c : Code} {D : Zd} {base : Nat}
set_option maxRecDepth 100000 in
set_option maxHeartbeats 4000000 in
theorem rX0_between (hc : zOk p s m args meth c D cX0_between 5 RX0 (some .int)) {a0 : Nat} {x1 : Int} {x2 : Int} {h : Zm} {Q : Int → Zm → Prop} (H : mX0_between a0 x1 x2 h Q) : zW p l e zrX0_between s m args below meth c D base 5 (MQ below (zQi D base Q) args s 0 0 (zFree base)) 0 0 0 [some (.inr a0), some (.inl x1), some (.inl x2), none, none] [] h := by
  unfold mX0_between at H
  refine z_aload_n (pc := 0) hc dX0_between_0 rfl ?_
  refine z_getR (pc := 1) hc dX0_between_1 zf_RX0_15 rfl rfl rfl H (fun r1 H => ?_)
  refine z_iload_n (pc := 4) hc dX0_between_4 rfl ?_
  refine z_iconst (pc := 5) hc dX0_between_5 ?_
  refine z_isub (pc := 6) hc dX0_between_6 ?_
  refine z_iaload (pc := 7) hc dX0_between_7 H (fun v2 H => ?_)
  refine z_istore_n (pc := 8) hc dX0_between_8 (by decide) (ρ' := [some (.inr a0), some (.inl x1), some (.inl x2), some (.inl v2), none]) rfl ?_
  refine z_aload_n (pc := 9) hc dX0_between_9 rfl ?_
  refine z_getR (pc := 10) hc dX0_between_10 zf_RX0_9 rfl rfl rfl H (fun r3 H => ?_)
  refine z_iload_n (pc := 13) hc dX0_between_13 rfl ?_
  refine z_iaload (pc := 14) hc dX0_between_14 H (fun v4 H => ?_)
  refine z_aload_n (pc := 15) hc dX0_between_15 rfl ?_
  refine z_getR (pc := 16) hc dX0_between_16 zf_RX0_9 rfl rfl rfl H (fun r5 H => ?_)
  refine z_iload_n (pc := 19) hc dX0_between_19 rfl ?_
  refine z_iconst (pc := 20) hc dX0_between_20 ?_
  refine z_isub (pc := 21) hc dX0_between_21 ?_
  refine z_iaload (pc := 22) hc dX0_between_22 H (fun v6 H => ?_)
  refine z_isub (pc := 23) hc dX0_between_23 ?_
  refine z_istore (pc := 24) hc dX0_between_24 (by decide) (ρ' := [some (.inr a0), some (.inl x1), some (.inl x2), some (.inl v2), some (.inl (v4 - v6))]) rfl ?_
  refine z_iload (pc := 26) hc dX0_between_26 rfl ?_
  refine z_if_gt (tgt := 33) (pc := 28) hc dX0_between_28 rfl H (fun H => ?_) (fun H => ?_)
  · refine z_iload_n (pc := 31) hc dX0_between_31 rfl ?_
    exact z_ireturn (pc := 32) hc dX0_between_32 H
  · refine z_iload_n (pc := 33) hc dX0_between_33 rfl ?_
    refine z_aload_n (pc := 34) hc dX0_between_34 rfl ?_
    refine z_getR (pc := 35) hc dX0_between_35 zf_RX0_15 rfl rfl rfl H (fun r7 H => ?_)
    refine z_iload_n (pc := 38) hc dX0_between_38 rfl ?_
    refine z_iaload (pc := 39) hc dX0_between_39 H (fun v8 H => ?_)
    refine z_iload_n (pc := 40) hc dX0_between_40 rfl ?_
    refine z_isub (pc := 41) hc dX0_between_41 ?_
    refine z_iload_n (pc := 42) hc dX0_between_42 rfl ?_
    refine z_aload_n (pc := 43) hc dX0_between_43 rfl ?_
    refine z_getR (pc := 44) hc dX0_between_44 zf_RX0_9 rfl rfl rfl H (fun r9 H => ?_)
    refine z_iload_n (pc := 47) hc dX0_between_47 rfl ?_
    refine z_iconst (pc := 48) hc dX0_between_48 ?_
    refine z_isub (pc := 49) hc dX0_between_49 ?_
    refine z_iaload (pc := 50) hc dX0_between_50 H (fun v10 H => ?_)
    refine z_isub (pc := 51) hc dX0_between_51 ?_
    refine z_imul (pc := 52) hc dX0_between_52 ?_
    refine z_iload (pc := 53) hc dX0_between_53 rfl ?_
    refine z_idiv (pc := 55) hc dX0_between_55 H (fun v11 H => ?_)
    refine z_iadd (pc := 56) hc dX0_between_56 ?_
    exact z_ireturn (pc := 57) hc dX0_between_57 H
end
theorem metX0_between (l : Launch) (D : Zd) (base : Nat) {a0 : Nat} {x1 : Int} {x2 : Int} {h : Zm} {Q : Int → Zm → Prop} (H : mX0_between a0 x1 x2 h Q) : zMet l D base yX0_between cX0_between 5 (some .int) zrX0_between [.inr a0, .inl x1, .inl x2] h (zQi D base Q) :=
  z_met (by decide +kernel) (Nat.le_of_ble_eq_true rfl) (fun p e s m args below meth c hc hn => rX0_between hc H)
def zrX0_valueAt : Room := { frames := 1, cells := 0, slots := 0, locals := 24 }
def mX0_valueAt_B2 (X2 : Int → Zm → Prop) (a0 : Nat) (x1 : Int) (x2 : Int) (h : Zm) (Q : Int → Zm → Prop) : Prop :=
  cGi h 10 a0 2 fun v1 => cLt x2 v1
  (cGr h 10 a0 0 fun r5 => cLd h 1 r5 x2 fun v6 => cLe x1 v6
    (cRc h 10 a0 <| mX0_between a0 x2 x1 h fun v8 h7 => Q v8 h7)
    (X2 (x2 + 1) h))
  (cGr h 10 a0 1 fun r2 => cGi h 10 a0 2 fun v3 => cLd h 1 r2 (v3 - 1) fun v4 => Q v4 h)
def mX0_valueAt_H2  (a0 : Nat) (x1 : Int) (x2 : Int) (h : Zm) (Q : Int → Zm → Prop) : Prop :=
  lfp1 (fun X2 x2 h => mX0_valueAt_B2 X2 a0 x1 x2 h Q) x2 h
def mX0_valueAt (a0 : Nat) (x1 : Int) (h : Zm) (Q : Int → Zm → Prop) : Prop :=
  mX0_valueAt_H2  a0 x1 1 h Q
section
variable {p : Program} {l : Launch} {e : Env} {s : State} {m : MethodId} {args : Array Value} {below : List Frame} {meth : Method} {c : Code} {D : Zd} {base : Nat}
set_option maxRecDepth 100000 in
set_option maxHeartbeats 4000000 in
theorem rX0_valueAt_B2 (hc : zOk p s m args meth c D cX0_valueAt 3 RX0 (some .int)) {X2 : Int → Zm → Prop} {a0 : Nat} {x1 : Int} {x2 : Int} {h : Zm} {Q : Int → Zm → Prop} (hX2 : ∀ (x2 : Int) (h : Zm), X2 x2 h → zW p l e zrX0_valueAt s m args below meth c D base 3 (MQ below (zQi D base Q) args s 0 0 (zFree base)) 0 0 2 [some (.inr a0), some (.inl x1), some (.inl x2)] [] h) (H : mX0_valueAt_B2 X2 a0 x1 x2 h Q) : zW p l e zrX0_valueAt s m args below meth c D base 3 (MQ below (zQi D base Q) args s 0 0 (zFree base)) 0 0 2 [some (.inr a0), some (.inl x1), some (.inl x2)] [] h := by
  unfold mX0_valueAt_B2 at H
  refine z_iload_n (pc := 2) hc dX0_valueAt_2 rfl ?_
  refine z_aload_n (pc := 3) hc dX0_valueAt_3 rfl ?_
  refine z_getI (pc := 4) hc dX0_valueAt_4 zf_RX0_18 rfl rfl rfl H (fun v1 H => ?_)
  refine z_icmp_ge (tgt := 33) (pc := 7) hc dX0_valueAt_7 rfl H (fun H => ?_) (fun H => ?_)
  · refine z_iload_n (pc := 10) hc dX0_valueAt_10 rfl ?_
    refine z_aload_n (pc := 11) hc dX0_valueAt_11 rfl ?_
    refine z_getR (pc := 12) hc dX0_valueAt_12 zf_RX0_9 rfl rfl rfl H (fun r5 H => ?_)
    refine z_iload_n (pc := 15) hc dX0_valueAt_15 rfl ?_
    refine z_iaload (pc := 16) hc dX0_valueAt_16 H (fun v6 H => ?_)
    refine z_icmp_gt (tgt := 27) (pc := 17) hc dX0_valueAt_17 rfl H (fun H => ?_) (fun H => ?_)
    · refine z_aload_n (pc := 20) hc dX0_valueAt_20 rfl ?_
      refine z_iload_n (pc := 21) hc dX0_valueAt_21 rfl ?_
      refine z_iload_n (pc := 22) hc dX0_valueAt_22 rfl ?_
      refine z_calI (z_runV (pc := 23) (ci := 0) (T := TX0) (N := 3) hc dX0_valueAt_23 zw_RX0_29 (metX0_between _ _ _ H.2) rfl (Nat.le_of_ble_eq_true rfl) ⟨Nat.le_of_ble_eq_true rfl, Nat.le_of_ble_eq_true rfl⟩ ⟨by exact Nat.le_of_ble_eq_true rfl, by exact Nat.le_of_ble_eq_true rfl⟩ rfl H.1) rfl ⟨rfl, rfl⟩ (fun v8 h7 H => ?_)
      exact z_ireturn (pc := 26) hc dX0_valueAt_26 H
    · refine z_iinc (pc := 27) hc dX0_valueAt_27 (by decide) rfl (ρ' := [some (.inr a0), some (.inl x1), some (.inl (x2 + 1))]) rfl ?_
      refine z_goto (tgt := 2) (pc := 30) hc dX0_valueAt_30 rfl ?_
      exact hX2 _ _ H
  · refine z_aload_n (pc := 33) hc dX0_valueAt_33 rfl ?_
    refine z_getR (pc := 34) hc dX0_valueAt_34 zf_RX0_15 rfl rfl rfl H (fun r2 H => ?_)
    refine z_aload_n (pc := 37) hc dX0_valueAt_37 rfl ?_
    refine z_getI (pc := 38) hc dX0_valueAt_38 zf_RX0_18 rfl rfl rfl H (fun v3 H => ?_)
    refine z_iconst (pc := 41) hc dX0_valueAt_41 ?_
    refine z_isub (pc := 42) hc dX0_valueAt_42 ?_
    refine z_iaload (pc := 43) hc dX0_valueAt_43 H (fun v4 H => ?_)
    exact z_ireturn (pc := 44) hc dX0_valueAt_44 H
theorem rX0_valueAt_H2 (hc : zOk p s m args meth c D cX0_valueAt 3 RX0 (some .int))  {a0 : Nat} {x1 : Int} {x2 : Int} {h : Zm} {Q : Int → Zm → Prop}  (H : mX0_valueAt_H2  a0 x1 x2 h Q) : zW p l e zrX0_valueAt s m args below meth c D base 3 (MQ below (zQi D base Q) args s 0 0 (zFree base)) 0 0 2 [some (.inr a0), some (.inl x1), some (.inl x2)] [] h :=
  H (fun x2 h => zW p l e zrX0_valueAt s m args below meth c D base 3 (MQ below (zQi D base Q) args s 0 0 (zFree base)) 0 0 2 [some (.inr a0), some (.inl x1), some (.inl x2)] [] h) (fun x2 h H => rX0_valueAt_B2 hc (fun _ _ q => q) H)
set_option maxRecDepth 100000 in
set_option maxHeartbeats 4000000 in
theorem rX0_valueAt (hc : zOk p s m args meth c D cX0_valueAt 3 RX0 (some .int)) {a0 : Nat} {x1 : Int} {h : Zm} {Q : Int → Zm → Prop} (H : mX0_valueAt a0 x1 h Q) : zW p l e zrX0_valueAt s m args below meth c D base 3 (MQ below (zQi D base Q) args s 0 0 (zFree base)) 0 0 0 [some (.inr a0), some (.inl x1), none] [] h := by
  unfold mX0_valueAt at H
  refine z_iconst (pc := 0) hc dX0_valueAt_0 ?_
  refine z_istore_n (pc := 1) hc dX0_valueAt_1 (by decide) (ρ' := [some (.inr a0), some (.inl x1), some (.inl 1)]) rfl ?_
  exact rX0_valueAt_H2 hc H
end
theorem metX0_valueAt (l : Launch) (D : Zd) (base : Nat) {a0 : Nat} {x1 : Int} {h : Zm} {Q : Int → Zm → Prop} (H : mX0_valueAt a0 x1 h Q) : zMet l D base yX0_valueAt cX0_valueAt 3 (some .int) zrX0_valueAt [.inr a0, .inl x1] h (zQi D base Q) :=
  z_met (by decide +kernel) (Nat.le_of_ble_eq_true rfl) (fun p e s m args below meth c hc hn => rX0_valueAt hc H)
def zrX0_straighten : Room := { frames := 2, cells := 0, slots := 0, locals := 46 }
def mX0_straighten (a0 : Nat) (h : Zm) (Q : Zm → Prop) : Prop :=
  cRc h 10 a0 <| mX0_valueAt a0 85 h fun v2 h1 => cRc h1 10 a0 <| mX0_valueAt a0 170 h1 fun v4 h3 => cRc h3 10 a0 <| mX0_valueAt a0 255 h3 fun v6 h5 => cGr h5 10 a0 0 fun r7 => cSt h5 r7 1 85 fun h8 => cGr h8 10 a0 1 fun r9 => cSt h8 r9 1 v2 fun h10 => cGr h10 10 a0 0 fun r11 => cSt h10 r11 2 170 fun h12 => cGr h12 10 a0 1 fun r13 => cSt h12 r13 2 v4 fun h14 => cGr h14 10 a0 0 fun r15 => cSt h14 r15 3 255 fun h16 => cGr h16 10 a0 1 fun r17 => cSt h16 r17 3 v6 fun h18 => cPi h18 10 a0 2 4 fun h19 => Q h19
section
variable {p : Program} {l : Launch} {e : Env} {s : State} {m : MethodId} {args : Array Value} {below : List Frame} {meth : Method} {c : Code} {D : Zd} {base : Nat}
set_option maxRecDepth 100000 in
set_option maxHeartbeats 4000000 in
theorem rX0_straighten (hc : zOk p s m args meth c D cX0_straighten 4 RX0 none) {a0 : Nat} {h : Zm} {Q : Zm → Prop} (H : mX0_straighten a0 h Q) : zW p l e zrX0_straighten s m args below meth c D base 4 (MQ below (zQv D base Q) args s 0 0 (zFree base)) 0 0 0 [some (.inr a0), none, none, none] [] h := by
  unfold mX0_straighten at H
  refine z_aload_n (pc := 0) hc dX0_straighten_0 rfl ?_
  refine z_bipush (pc := 1) hc dX0_straighten_1 (by decide) ?_
  refine z_calI (z_runV (pc := 3) (ci := 0) (T := TX0) (N := 3) hc dX0_straighten_3 zw_RX0_33 (metX0_valueAt _ _ _ H.2) rfl (Nat.le_of_ble_eq_true rfl) ⟨Nat.le_of_ble_eq_true rfl, Nat.le_of_ble_eq_true rfl⟩ ⟨by exact Nat.le_of_ble_eq_true rfl, by exact Nat.le_of_ble_eq_true rfl⟩ rfl H.1) rfl ⟨rfl, rfl⟩ (fun v2 h1 H => ?_)
  refine z_istore_n (pc := 6) hc dX0_straighten_6 (by decide) (ρ' := [some (.inr a0), some (.inl v2), none, none]) rfl ?_
  refine z_aload_n (pc := 7) hc dX0_straighten_7 rfl ?_
  refine z_sipush (pc := 8) hc dX0_straighten_8 (by decide) ?_
  refine z_calI (z_runV (pc := 11) (ci := 0) (T := TX0) (N := 3) hc dX0_straighten_11 zw_RX0_33 (metX0_valueAt _ _ _ H.2) rfl (Nat.le_of_ble_eq_true rfl) ⟨Nat.le_of_ble_eq_true rfl, Nat.le_of_ble_eq_true rfl⟩ ⟨by exact Nat.le_of_ble_eq_true rfl, by exact Nat.le_of_ble_eq_true rfl⟩ rfl H.1) rfl ⟨rfl, rfl⟩ (fun v4 h3 H => ?_)
  refine z_istore_n (pc := 14) hc dX0_straighten_14 (by decide) (ρ' := [some (.inr a0), some (.inl v2), some (.inl v4), none]) rfl ?_
  refine z_aload_n (pc := 15) hc dX0_straighten_15 rfl ?_
  refine z_sipush (pc := 16) hc dX0_straighten_16 (by decide) ?_
  refine z_calI (z_runV (pc := 19) (ci := 0) (T := TX0) (N := 3) hc dX0_straighten_19 zw_RX0_33 (metX0_valueAt _ _ _ H.2) rfl (Nat.le_of_ble_eq_true rfl) ⟨Nat.le_of_ble_eq_true rfl, Nat.le_of_ble_eq_true rfl⟩ ⟨by exact Nat.le_of_ble_eq_true rfl, by exact Nat.le_of_ble_eq_true rfl⟩ rfl H.1) rfl ⟨rfl, rfl⟩ (fun v6 h5 H => ?_)
  refine z_istore_n (pc := 22) hc dX0_straighten_22 (by decide) (ρ' := [some (.inr a0), some (.inl v2), some (.inl v4), some (.inl v6)]) rfl ?_
  refine z_aload_n (pc := 23) hc dX0_straighten_23 rfl ?_
  refine z_getR (pc := 24) hc dX0_straighten_24 zf_RX0_9 rfl rfl rfl H (fun r7 H => ?_)
  refine z_iconst (pc := 27) hc dX0_straighten_27 ?_
  refine z_bipush (pc := 28) hc dX0_straighten_28 (by decide) ?_
  refine z_iastore (pc := 30) hc dX0_straighten_30 H (fun h8 H => ?_)
  refine z_aload_n (pc := 31) hc dX0_straighten_31 rfl ?_
  refine z_getR (pc := 32) hc dX0_straighten_32 zf_RX0_15 rfl rfl rfl H (fun r9 H => ?_)
  refine z_iconst (pc := 35) hc dX0_straighten_35 ?_
  refine z_iload_n (pc := 36) hc dX0_straighten_36 rfl ?_
  refine z_iastore (pc := 37) hc dX0_straighten_37 H (fun h10 H => ?_)
  refine z_aload_n (pc := 38) hc dX0_straighten_38 rfl ?_
  refine z_getR (pc := 39) hc dX0_straighten_39 zf_RX0_9 rfl rfl rfl H (fun r11 H => ?_)
  refine z_iconst (pc := 42) hc dX0_straighten_42 ?_
  refine z_sipush (pc := 43) hc dX0_straighten_43 (by decide) ?_
  refine z_iastore (pc := 46) hc dX0_straighten_46 H (fun h12 H => ?_)
  refine z_aload_n (pc := 47) hc dX0_straighten_47 rfl ?_
  refine z_getR (pc := 48) hc dX0_straighten_48 zf_RX0_15 rfl rfl rfl H (fun r13 H => ?_)
  refine z_iconst (pc := 51) hc dX0_straighten_51 ?_
  refine z_iload_n (pc := 52) hc dX0_straighten_52 rfl ?_
  refine z_iastore (pc := 53) hc dX0_straighten_53 H (fun h14 H => ?_)
  refine z_aload_n (pc := 54) hc dX0_straighten_54 rfl ?_
  refine z_getR (pc := 55) hc dX0_straighten_55 zf_RX0_9 rfl rfl rfl H (fun r15 H => ?_)
  refine z_iconst (pc := 58) hc dX0_straighten_58 ?_
  refine z_sipush (pc := 59) hc dX0_straighten_59 (by decide) ?_
  refine z_iastore (pc := 62) hc dX0_straighten_62 H (fun h16 H => ?_)
  refine z_aload_n (pc := 63) hc dX0_straighten_63 rfl ?_
  refine z_getR (pc := 64) hc dX0_straighten_64 zf_RX0_15 rfl rfl rfl H (fun r17 H => ?_)
  refine z_iconst (pc := 67) hc dX0_straighten_67 ?_
  refine z_iload_n (pc := 68) hc dX0_straighten_68 rfl ?_
  refine z_iastore (pc := 69) hc dX0_straighten_69 H (fun h18 H => ?_)
  refine z_aload_n (pc := 70) hc dX0_straighten_70 rfl ?_
  refine z_iconst (pc := 71) hc dX0_straighten_71 ?_
  refine z_putI (pc := 72) hc dX0_straighten_72 zf_RX0_18 rfl rfl rfl H (fun h19 H => ?_)
  exact z_return (pc := 75) hc dX0_straighten_75 H
end
theorem metX0_straighten (l : Launch) (D : Zd) (base : Nat) {a0 : Nat} {h : Zm} {Q : Zm → Prop} (H : mX0_straighten a0 h Q) : zMet l D base yX0_straighten cX0_straighten 4 none zrX0_straighten [.inr a0] h (zQv D base Q) :=
  z_met (by decide +kernel) (Nat.le_of_ble_eq_true rfl) (fun p e s m args below meth c hc hn => rX0_straighten hc H)
def zrX1_init : Room := { frames := 1, cells := 145, slots := 1440, locals := 20 }
def mX1_init (a0 : Nat) (h : Zm) (Q : Zm → Prop) : Prop :=
  cRc h 11 a0 <| cNw2 h 144 9 fun r1 h2 => cPr h2 11 a0 0 r1 fun h3 => cPi h3 11 a0 1 0 fun h4 => Q h4
section
variable {p : Program} {l : Launch} {e : Env} {s : State} {m : MethodId} {args : Array Value} {below : List Frame} {meth : Method} {c : Code} {D : Zd} {base : Nat}
set_option maxRecDepth 100000 in
set_option maxHeartbeats 4000000 in
theorem rX1_init (hc : zOk p s m args meth c D cX1_init 1 RX1 none) (hin : meth.name = "<init>") {a0 : Nat} {h : Zm} {Q : Zm → Prop} (H : mX1_init a0 h Q) : zW p l e zrX1_init s m args below meth c D base 1 (MQ below (zQv D base Q) args s 145 1440 (zFree base)) 0 0 0 [some (.inr a0)] [] h := by
  unfold mX1_init at H
  refine z_aload_n (pc := 0) hc dX1_init_0 rfl ?_
  refine z_objInit (pc := 1) hc dX1_init_1 (zT_mem 266 (by decide +kernel) rfl) (zT_mem 56 (by decide +kernel) rfl) (zT_mem 57 (by decide +kernel) rfl) (by decide) (by decide) (by decide) (d := 11) (by decide) H (fun H => ?_)
  refine z_aload_n (pc := 4) hc dX1_init_4 rfl ?_
  refine z_sipush (pc := 5) hc dX1_init_5 (by decide) ?_
  refine z_bipush (pc := 8) hc dX1_init_8 (by decide) ?_
  refine z_mna (pc := 10) (n := 144) (k := 9) hc dX1_init_10 (zT_mem 267 (by decide +kernel) rfl) (zT_mem 165 (by decide +kernel) rfl) (by decide) (by decide) (by exact Nat.le_of_ble_eq_true rfl) (by exact Nat.le_of_ble_eq_true rfl) H (fun r1 h2 H => ?_)
  refine z_putR (pc := 14) hc dX1_init_14 zf_RX1_11 rfl rfl rfl hin (fun C T N q => by cases q; rfl) H (fun h3 H => ?_)
  refine z_aload_n (pc := 17) hc dX1_init_17 rfl ?_
  refine z_iconst (pc := 18) hc dX1_init_18 ?_
  refine z_putI (pc := 19) hc dX1_init_19 zf_RX1_16 rfl rfl rfl H (fun h4 H => ?_)
  refine z_cells (cells' := 145) (slots' := 1440) (by omega) (by omega) ?_
  exact z_return (pc := 22) hc dX1_init_22 H
end
theorem metX1_init (l : Launch) (D : Zd) (base : Nat) {a0 : Nat} {h : Zm} {Q : Zm → Prop} (H : mX1_init a0 h Q) : zMet l D base yX1_init cX1_init 1 none zrX1_init [.inr a0] h (zQv D base Q) :=
  z_met (by decide +kernel) (Nat.le_of_ble_eq_true rfl) (fun p e s m args below meth c hc hn => rX1_init hc hn H)
def zrX6_sameValues : Room := { frames := 0, cells := 0, slots := 0, locals := 0 }
def mX6_sameValues_B2 (X2 : Int → Zm → Prop) (a0 : Nat) (a1 : Nat) (x2 : Int) (h : Zm) (Q : Int → Zm → Prop) : Prop :=
  cLt x2 7
  (cLd h 1 a0 x2 fun v1 => cLd h 1 a1 x2 fun v2 => cEq v1 v2
    (X2 (x2 + 1) h)
    (Q 0 h))
  (Q 1 h)
def mX6_sameValues_H2  (a0 : Nat) (a1 : Nat) (x2 : Int) (h : Zm) (Q : Int → Zm → Prop) : Prop :=
  lfp1 (fun X2 x2 h => mX6_sameValues_B2 X2 a0 a1 x2 h Q) x2 h
def mX6_sameValues (a0 : Nat) (a1 : Nat) (h : Zm) (Q : Int → Zm → Prop) : Prop :=
  mX6_sameValues_H2  a0 a1 0 h Q
section
variable {p : Program} {l : Launch} {e : Env} {s : State} {m : MethodId} {args : Array Value} {below : List Frame} {meth : Method} {c : Code} {D : Zd} {base : Nat}
set_option maxRecDepth 100000 in
set_option maxHeartbeats 4000000 in
theorem rX6_sameValues_B2 (hc : zOk p s m args meth c D cX6_sameValues 3 RX6 (some .boolean)) {X2 : Int → Zm → Prop} {a0 : Nat} {a1 : Nat} {x2 : Int} {h : Zm} {Q : Int → Zm → Prop} (hX2 : ∀ (x2 : Int) (h : Zm), X2 x2 h → zW p l e zrX6_sameValues s m args below meth c D base 3 (MQ below (zQi D base Q) args s 0 0 (zFree base)) 0 0 2 [some (.inr a0), some (.inr a1), some (.inl x2)] [] h) (H : mX6_sameValues_B2 X2 a0 a1 x2 h Q) : zW p l e zrX6_sameValues s m args below meth c D base 3 (MQ below (zQi D base Q) args s 0 0 (zFree base)) 0 0 2 [some (.inr a0), some (.inr a1), some (.inl x2)] [] h := by
  unfold mX6_sameValues_B2 at H
  refine z_iload_n (pc := 2) hc dX6_sameValues_2 rfl ?_
  refine z_bipush (pc := 3) hc dX6_sameValues_3 (by decide) ?_
  refine z_icmp_ge (tgt := 25) (pc := 5) hc dX6_sameValues_5 rfl H (fun H => ?_) (fun H => ?_)
  · refine z_aload_n (pc := 8) hc dX6_sameValues_8 rfl ?_
    refine z_iload_n (pc := 9) hc dX6_sameValues_9 rfl ?_
    refine z_iaload (pc := 10) hc dX6_sameValues_10 H (fun v1 H => ?_)
    refine z_aload_n (pc := 11) hc dX6_sameValues_11 rfl ?_
    refine z_iload_n (pc := 12) hc dX6_sameValues_12 rfl ?_
    refine z_iaload (pc := 13) hc dX6_sameValues_13 H (fun v2 H => ?_)
    refine z_icmp_eq (tgt := 19) (pc := 14) hc dX6_sameValues_14 rfl H (fun H => ?_) (fun H => ?_)
    · refine z_iinc (pc := 19) hc dX6_sameValues_19 (by decide) rfl (ρ' := [some (.inr a0), some (.inr a1), some (.inl (x2 + 1))]) rfl ?_
      refine z_goto (tgt := 2) (pc := 22) hc dX6_sameValues_22 rfl ?_
      exact hX2 _ _ H
    · refine z_iconst (pc := 17) hc dX6_sameValues_17 ?_
      exact z_zreturn (pc := 18) hc dX6_sameValues_18 ⟨Or.inl rfl, H⟩
  · refine z_iconst (pc := 25) hc dX6_sameValues_25 ?_
    exact z_zreturn (pc := 26) hc dX6_sameValues_26 ⟨Or.inr rfl, H⟩
theorem rX6_sameValues_H2 (hc : zOk p s m args meth c D cX6_sameValues 3 RX6 (some .boolean))  {a0 : Nat} {a1 : Nat} {x2 : Int} {h : Zm} {Q : Int → Zm → Prop}  (H : mX6_sameValues_H2  a0 a1 x2 h Q) : zW p l e zrX6_sameValues s m args below meth c D base 3 (MQ below (zQi D base Q) args s 0 0 (zFree base)) 0 0 2 [some (.inr a0), some (.inr a1), some (.inl x2)] [] h :=
  H (fun x2 h => zW p l e zrX6_sameValues s m args below meth c D base 3 (MQ below (zQi D base Q) args s 0 0 (zFree base)) 0 0 2 [some (.inr a0), some (.inr a1), some (.inl x2)] [] h) (fun x2 h H => rX6_sameValues_B2 hc (fun _ _ q => q) H)
set_option maxRecDepth 100000 in
set_option maxHeartbeats 4000000 in
theorem rX6_sameValues (hc : zOk p s m args meth c D cX6_sameValues 3 RX6 (some .boolean)) {a0 : Nat} {a1 : Nat} {h : Zm} {Q : Int → Zm → Prop} (H : mX6_sameValues a0 a1 h Q) : zW p l e zrX6_sameValues s m args below meth c D base 3 (MQ below (zQi D base Q) args s 0 0 (zFree base)) 0 0 0 [some (.inr a0), some (.inr a1), none] [] h := by
  unfold mX6_sameValues at H
  refine z_iconst (pc := 0) hc dX6_sameValues_0 ?_
  refine z_istore_n (pc := 1) hc dX6_sameValues_1 (by decide) (ρ' := [some (.inr a0), some (.inr a1), some (.inl 0)]) rfl ?_
  exact rX6_sameValues_H2 hc H
end
theorem metX6_sameValues (l : Launch) (D : Zd) (base : Nat) {a0 : Nat} {a1 : Nat} {h : Zm} {Q : Int → Zm → Prop} (H : mX6_sameValues a0 a1 h Q) : zMet l D base yX6_sameValues cX6_sameValues 3 (some .boolean) zrX6_sameValues [.inr a0, .inr a1] h (zQi D base Q) :=
  z_met (by decide +kernel) (Nat.le_of_ble_eq_true rfl) (fun p e s m args below meth c hc hn => rX6_sameValues hc H)
def zrX6_sumOf : Room := { frames := 0, cells := 0, slots := 0, locals := 0 }
def mX6_sumOf_B10 (X10 : Int → Int → Zm → Prop) (x1 : Int) (a2 : Nat) (x3 : Int) (x4 : Int) (h : Zm) (Q : Int → Zm → Prop) : Prop :=
  cLt x4 x3
  (cLd h 1 a2 x4 fun v2 => X10 (x1 + v2) (x4 + 1) h)
  (Q x1 h)
def mX6_sumOf_H10  (x1 : Int) (a2 : Nat) (x3 : Int) (x4 : Int) (h : Zm) (Q : Int → Zm → Prop) : Prop :=
  lfp2 (fun X10 x1 x4 h => mX6_sumOf_B10 X10 x1 a2 x3 x4 h Q) x1 x4 h
def mX6_sumOf (a0 : Nat) (h : Zm) (Q : Int → Zm → Prop) : Prop :=
  cLen h a0 fun v1 => mX6_sumOf_H10  0 a0 v1 0 h Q
section
variable {p : Program} {l : Launch} {e : Env} {s : State} {m : MethodId} {args : Array Value} {below : List Frame} {meth : Method} {c : Code} {D : Zd} {base : Nat}
set_option maxRecDepth 100000 in
set_option maxHeartbeats 4000000 in
theorem rX6_sumOf_B10 (hc : zOk p s m args meth c D cX6_sumOf 6 RX6 (some .int)) {X10 : Int → Int → Zm → Prop} {x1 : Int} {a2 : Nat} {x3 : Int} {x4 : Int} {h : Zm} {Q : Int → Zm → Prop} (hX10 : ∀ (x1 : Int) (x4 : Int) (h : Zm), X10 x1 x4 h → zW p l e zrX6_sumOf s m args below meth c D base 6 (MQ below (zQi D base Q) args s 0 0 (zFree base)) 0 0 10 [none, some (.inl x1), some (.inr a2), some (.inl x3), some (.inl x4), none] [] h) (H : mX6_sumOf_B10 X10 x1 a2 x3 x4 h Q) : zW p l e zrX6_sumOf s m args below meth c D base 6 (MQ below (zQi D base Q) args s 0 0 (zFree base)) 0 0 10 [none, some (.inl x1), some (.inr a2), some (.inl x3), some (.inl x4), none] [] h := by
  unfold mX6_sumOf_B10 at H
  refine z_iload (pc := 10) hc dX6_sumOf_10 rfl ?_
  refine z_iload_n (pc := 12) hc dX6_sumOf_12 rfl ?_
  refine z_icmp_ge (tgt := 33) (pc := 13) hc dX6_sumOf_13 rfl H (fun H => ?_) (fun H => ?_)
  · refine z_aload_n (pc := 16) hc dX6_sumOf_16 rfl ?_
    refine z_iload (pc := 17) hc dX6_sumOf_17 rfl ?_
    refine z_iaload (pc := 19) hc dX6_sumOf_19 H (fun v2 H => ?_)
    refine z_istore (pc := 20) hc dX6_sumOf_20 (by decide) (ρ' := [none, some (.inl x1), some (.inr a2), some (.inl x3), some (.inl x4), some (.inl v2)]) rfl ?_
    refine z_iload_n (pc := 22) hc dX6_sumOf_22 rfl ?_
    refine z_iload (pc := 23) hc dX6_sumOf_23 rfl ?_
    refine z_iadd (pc := 25) hc dX6_sumOf_25 ?_
    refine z_istore_n (pc := 26) hc dX6_sumOf_26 (by decide) (ρ' := [none, some (.inl (x1 + v2)), some (.inr a2), some (.inl x3), some (.inl x4), some (.inl v2)]) rfl ?_
    refine z_iinc (pc := 27) hc dX6_sumOf_27 (by decide) rfl (ρ' := [none, some (.inl (x1 + v2)), some (.inr a2), some (.inl x3), some (.inl (x4 + 1)), some (.inl v2)]) rfl ?_
    refine z_goto (tgt := 10) (pc := 30) hc dX6_sumOf_30 rfl ?_
    refine z_mask [false, true, true, true, true, false] (ρ' := [none, some (.inl (x1 + v2)), some (.inr a2), some (.inl x3), some (.inl (x4 + 1)), none]) rfl ?_
    exact hX10 _ _ _ H
  · refine z_iload_n (pc := 33) hc dX6_sumOf_33 rfl ?_
    exact z_ireturn (pc := 34) hc dX6_sumOf_34 H
theorem rX6_sumOf_H10 (hc : zOk p s m args meth c D cX6_sumOf 6 RX6 (some .int))  {x1 : Int} {a2 : Nat} {x3 : Int} {x4 : Int} {h : Zm} {Q : Int → Zm → Prop}  (H : mX6_sumOf_H10  x1 a2 x3 x4 h Q) : zW p l e zrX6_sumOf s m args below meth c D base 6 (MQ below (zQi D base Q) args s 0 0 (zFree base)) 0 0 10 [none, some (.inl x1), some (.inr a2), some (.inl x3), some (.inl x4), none] [] h :=
  H (fun x1 x4 h => zW p l e zrX6_sumOf s m args below meth c D base 6 (MQ below (zQi D base Q) args s 0 0 (zFree base)) 0 0 10 [none, some (.inl x1), some (.inr a2), some (.inl x3), some (.inl x4), none] [] h) (fun x1 x4 h H => rX6_sumOf_B10 hc (fun _ _ _ q => q) H)
set_option maxRecDepth 100000 in
set_option maxHeartbeats 4000000 in
theorem rX6_sumOf (hc : zOk p s m args meth c D cX6_sumOf 6 RX6 (some .int)) {a0 : Nat} {h : Zm} {Q : Int → Zm → Prop} (H : mX6_sumOf a0 h Q) : zW p l e zrX6_sumOf s m args below meth c D base 6 (MQ below (zQi D base Q) args s 0 0 (zFree base)) 0 0 0 [some (.inr a0), none, none, none, none, none] [] h := by
  unfold mX6_sumOf at H
  refine z_iconst (pc := 0) hc dX6_sumOf_0 ?_
  refine z_istore_n (pc := 1) hc dX6_sumOf_1 (by decide) (ρ' := [some (.inr a0), some (.inl 0), none, none, none, none]) rfl ?_
  refine z_aload_n (pc := 2) hc dX6_sumOf_2 rfl ?_
  refine z_astore_n (pc := 3) hc dX6_sumOf_3 (by decide) (ρ' := [some (.inr a0), some (.inl 0), some (.inr a0), none, none, none]) rfl ?_
  refine z_aload_n (pc := 4) hc dX6_sumOf_4 rfl ?_
  refine z_alen (pc := 5) hc dX6_sumOf_5 H (fun v1 H => ?_)
  refine z_istore_n (pc := 6) hc dX6_sumOf_6 (by decide) (ρ' := [some (.inr a0), some (.inl 0), some (.inr a0), some (.inl v1), none, none]) rfl ?_
  refine z_iconst (pc := 7) hc dX6_sumOf_7 ?_
  refine z_istore (pc := 8) hc dX6_sumOf_8 (by decide) (ρ' := [some (.inr a0), some (.inl 0), some (.inr a0), some (.inl v1), some (.inl 0), none]) rfl ?_
  refine z_mask [false, true, true, true, true, false] (ρ' := [none, some (.inl 0), some (.inr a0), some (.inl v1), some (.inl 0), none]) rfl ?_
  exact rX6_sumOf_H10 hc H
end
theorem metX6_sumOf (l : Launch) (D : Zd) (base : Nat) {a0 : Nat} {h : Zm} {Q : Int → Zm → Prop} (H : mX6_sumOf a0 h Q) : zMet l D base yX6_sumOf cX6_sumOf 6 (some .int) zrX6_sumOf [.inr a0] h (zQi D base Q) :=
  z_met (by decide +kernel) (Nat.le_of_ble_eq_true rfl) (fun p e s m args below meth c hc hn => rX6_sumOf hc H)
def zrX1_add : Room := { frames := 1, cells := 0, slots := 0, locals := 25 }
def mX1_add_B65 (X65 : Int → Zm → Prop) (a0 : Nat) (a1 : Nat) (a2 : Nat) (x3 : Int) (h : Zm) (Q : Zm → Prop) : Prop :=
  cLt x3 7
  (cLd h 1 a1 x3 fun v20 => cSt h a2 x3 v20 fun h21 => X65 (x3 + 1) h21)
  (mX6_sumOf a1 h fun v15 h14 => cSt h14 a2 7 v15 fun h16 => cSt h16 a2 8 1 fun h17 => cGi h17 11 a0 1 fun v18 => cPi h17 11 a0 1 (v18 + 1) fun h19 => Q h19)
def mX1_add_H65  (a0 : Nat) (a1 : Nat) (a2 : Nat) (x3 : Int) (h : Zm) (Q : Zm → Prop) : Prop :=
  lfp1 (fun X65 x3 h => mX1_add_B65 X65 a0 a1 a2 x3 h Q) x3 h
def mX1_add_B2 (X2 : Int → Zm → Prop) (a0 : Nat) (a1 : Nat) (x2 : Int) (h : Zm) (Q : Zm → Prop) : Prop :=
  cGi h 11 a0 1 fun v1 => cLt x2 v1
  (cGr h 11 a0 0 fun r6 => cLdR h r6 x2 fun r7 => mX6_sameValues a1 r7 h fun v9 h8 => cEq v9 0
    (X2 (x2 + 1) h8)
    (cGr h8 11 a0 0 fun r10 => cLdR h8 r10 x2 fun r11 => cLd h8 1 r11 8 fun v12 => cSt h8 r11 8 (v12 + 1) fun h13 => Q h13))
  (cGi h 11 a0 1 fun v2 => cLt v2 144
    (cGr h 11 a0 0 fun r3 => cGi h 11 a0 1 fun v4 => cLdR h r3 v4 fun r5 => mX1_add_H65  a0 a1 r5 0 h Q)
    (Q h))
def mX1_add_H2  (a0 : Nat) (a1 : Nat) (x2 : Int) (h : Zm) (Q : Zm → Prop) : Prop :=
  lfp1 (fun X2 x2 h => mX1_add_B2 X2 a0 a1 x2 h Q) x2 h
def mX1_add (a0 : Nat) (a1 : Nat) (h : Zm) (Q : Zm → Prop) : Prop :=
  mX1_add_H2  a0 a1 0 h Q
section
variable {p : Program} {l : Launch} {e : Env} {s : State} {m : MethodId} {args : Array Value} {below : List Frame} {meth : Method} {c : Code} {D : Zd} {base : Nat}
set_option maxRecDepth 100000 in
set_option maxHeartbeats 4000000 in
theorem rX1_add_B65 (hc : zOk p s m args meth c D cX1_add 4 RX1 none) {X65 : Int → Zm → Prop} {a0 : Nat} {a1 : Nat} {a2 : Nat} {x3 : Int} {h : Zm} {Q : Zm → Prop} (hX65 : ∀ (x3 : Int) (h : Zm), X65 x3 h → zW p l e zrX1_add s m args below meth c D base 4 (MQ below (zQv D base Q) args s 0 0 (zFree base)) 0 0 65 [some (.inr a0), some (.inr a1), some (.inr a2), some (.inl x3)] [] h) (H : mX1_add_B65 X65 a0 a1 a2 x3 h Q) : zW p l e zrX1_add s m args below meth c D base 4 (MQ below (zQv D base Q) args s 0 0 (zFree base)) 0 0 65 [some (.inr a0), some (.inr a1), some (.inr a2), some (.inl x3)] [] h := by
  unfold mX1_add_B65 at H
  refine z_iload_n (pc := 65) hc dX1_add_65 rfl ?_
  refine z_bipush (pc := 66) hc dX1_add_66 (by decide) ?_
  refine z_icmp_ge (tgt := 83) (pc := 68) hc dX1_add_68 rfl H (fun H => ?_) (fun H => ?_)
  · refine z_aload_n (pc := 71) hc dX1_add_71 rfl ?_
    refine z_iload_n (pc := 72) hc dX1_add_72 rfl ?_
    refine z_aload_n (pc := 73) hc dX1_add_73 rfl ?_
    refine z_iload_n (pc := 74) hc dX1_add_74 rfl ?_
    refine z_iaload (pc := 75) hc dX1_add_75 H (fun v20 H => ?_)
    refine z_iastore (pc := 76) hc dX1_add_76 H (fun h21 H => ?_)
    refine z_iinc (pc := 77) hc dX1_add_77 (by decide) rfl (ρ' := [some (.inr a0), some (.inr a1), some (.inr a2), some (.inl (x3 + 1))]) rfl ?_
    refine z_goto (tgt := 65) (pc := 80) hc dX1_add_80 rfl ?_
    exact hX65 _ _ H
  · refine z_aload_n (pc := 83) hc dX1_add_83 rfl ?_
    refine z_bipush (pc := 84) hc dX1_add_84 (by decide) ?_
    refine z_aload_n (pc := 86) hc dX1_add_86 rfl ?_
    refine z_calI (z_runN (pc := 87) hc dX1_add_87 zw_RX1_24 (metX6_sumOf _ _ _ H) rfl (Nat.le_of_ble_eq_true rfl) ⟨Nat.le_of_ble_eq_true rfl, Nat.le_of_ble_eq_true rfl⟩ ⟨by exact Nat.le_of_ble_eq_true rfl, by exact Nat.le_of_ble_eq_true rfl⟩) rfl ⟨rfl, rfl⟩ (fun v15 h14 H => ?_)
    refine z_iastore (pc := 90) hc dX1_add_90 H (fun h16 H => ?_)
    refine z_aload_n (pc := 91) hc dX1_add_91 rfl ?_
    refine z_bipush (pc := 92) hc dX1_add_92 (by decide) ?_
    refine z_iconst (pc := 94) hc dX1_add_94 ?_
    refine z_iastore (pc := 95) hc dX1_add_95 H (fun h17 H => ?_)
    refine z_aload_n (pc := 96) hc dX1_add_96 rfl ?_
    refine z_dup (pc := 97) hc dX1_add_97 ?_
    refine z_getI (pc := 98) hc dX1_add_98 zf_RX1_16 rfl rfl rfl H (fun v18 H => ?_)
    refine z_iconst (pc := 101) hc dX1_add_101 ?_
    refine z_iadd (pc := 102) hc dX1_add_102 ?_
    refine z_putI (pc := 103) hc dX1_add_103 zf_RX1_16 rfl rfl rfl H (fun h19 H => ?_)
    exact z_return (pc := 106) hc dX1_add_106 H
theorem rX1_add_H65 (hc : zOk p s m args meth c D cX1_add 4 RX1 none)  {a0 : Nat} {a1 : Nat} {a2 : Nat} {x3 : Int} {h : Zm} {Q : Zm → Prop}  (H : mX1_add_H65  a0 a1 a2 x3 h Q) : zW p l e zrX1_add s m args below meth c D base 4 (MQ below (zQv D base Q) args s 0 0 (zFree base)) 0 0 65 [some (.inr a0), some (.inr a1), some (.inr a2), some (.inl x3)] [] h :=
  H (fun x3 h => zW p l e zrX1_add s m args below meth c D base 4 (MQ below (zQv D base Q) args s 0 0 (zFree base)) 0 0 65 [some (.inr a0), some (.inr a1), some (.inr a2), some (.inl x3)] [] h) (fun x3 h H => rX1_add_B65 hc (fun _ _ q => q) H)
set_option maxRecDepth 100000 in
set_option maxHeartbeats 4000000 in
theorem rX1_add_B2 (hc : zOk p s m args meth c D cX1_add 4 RX1 none) {X2 : Int → Zm → Prop} {a0 : Nat} {a1 : Nat} {x2 : Int} {h : Zm} {Q : Zm → Prop} (hX2 : ∀ (x2 : Int) (h : Zm), X2 x2 h → zW p l e zrX1_add s m args below meth c D base 4 (MQ below (zQv D base Q) args s 0 0 (zFree base)) 0 0 2 [some (.inr a0), some (.inr a1), some (.inl x2), none] [] h) (H : mX1_add_B2 X2 a0 a1 x2 h Q) : zW p l e zrX1_add s m args below meth c D base 4 (MQ below (zQv D base Q) args s 0 0 (zFree base)) 0 0 2 [some (.inr a0), some (.inr a1), some (.inl x2), none] [] h := by
  unfold mX1_add_B2 at H
  refine z_iload_n (pc := 2) hc dX1_add_2 rfl ?_
  refine z_aload_n (pc := 3) hc dX1_add_3 rfl ?_
  refine z_getI (pc := 4) hc dX1_add_4 zf_RX1_16 rfl rfl rfl H (fun v1 H => ?_)
  refine z_icmp_ge (tgt := 43) (pc := 7) hc dX1_add_7 rfl H (fun H => ?_) (fun H => ?_)
  · refine z_aload_n (pc := 10) hc dX1_add_10 rfl ?_
    refine z_aload_n (pc := 11) hc dX1_add_11 rfl ?_
    refine z_getR (pc := 12) hc dX1_add_12 zf_RX1_11 rfl rfl rfl H (fun r6 H => ?_)
    refine z_iload_n (pc := 15) hc dX1_add_15 rfl ?_
    refine z_aaload (pc := 16) hc dX1_add_16 H (fun r7 H => ?_)
    refine z_calI (z_runN (pc := 17) hc dX1_add_17 zw_RX1_20 (metX6_sameValues _ _ _ H) rfl (Nat.le_of_ble_eq_true rfl) ⟨Nat.le_of_ble_eq_true rfl, Nat.le_of_ble_eq_true rfl⟩ ⟨by exact Nat.le_of_ble_eq_true rfl, by exact Nat.le_of_ble_eq_true rfl⟩) rfl ⟨rfl, rfl⟩ (fun v9 h8 H => ?_)
    refine z_if_eq (tgt := 37) (pc := 20) hc dX1_add_20 rfl H (fun H => ?_) (fun H => ?_)
    · refine z_iinc (pc := 37) hc dX1_add_37 (by decide) rfl (ρ' := [some (.inr a0), some (.inr a1), some (.inl (x2 + 1)), none]) rfl ?_
      refine z_goto (tgt := 2) (pc := 40) hc dX1_add_40 rfl ?_
      exact hX2 _ _ H
    · refine z_aload_n (pc := 23) hc dX1_add_23 rfl ?_
      refine z_getR (pc := 24) hc dX1_add_24 zf_RX1_11 rfl rfl rfl H (fun r10 H => ?_)
      refine z_iload_n (pc := 27) hc dX1_add_27 rfl ?_
      refine z_aaload (pc := 28) hc dX1_add_28 H (fun r11 H => ?_)
      refine z_bipush (pc := 29) hc dX1_add_29 (by decide) ?_
      refine z_dup2 (pc := 31) hc dX1_add_31 ?_
      refine z_iaload (pc := 32) hc dX1_add_32 H (fun v12 H => ?_)
      refine z_iconst (pc := 33) hc dX1_add_33 ?_
      refine z_iadd (pc := 34) hc dX1_add_34 ?_
      refine z_iastore (pc := 35) hc dX1_add_35 H (fun h13 H => ?_)
      exact z_return (pc := 36) hc dX1_add_36 H
  · refine z_aload_n (pc := 43) hc dX1_add_43 rfl ?_
    refine z_getI (pc := 44) hc dX1_add_44 zf_RX1_16 rfl rfl rfl H (fun v2 H => ?_)
    refine z_sipush (pc := 47) hc dX1_add_47 (by decide) ?_
    refine z_icmp_ge (tgt := 106) (pc := 50) hc dX1_add_50 rfl H (fun H => ?_) (fun H => ?_)
    · refine z_aload_n (pc := 53) hc dX1_add_53 rfl ?_
      refine z_getR (pc := 54) hc dX1_add_54 zf_RX1_11 rfl rfl rfl H (fun r3 H => ?_)
      refine z_aload_n (pc := 57) hc dX1_add_57 rfl ?_
      refine z_getI (pc := 58) hc dX1_add_58 zf_RX1_16 rfl rfl rfl H (fun v4 H => ?_)
      refine z_aaload (pc := 61) hc dX1_add_61 H (fun r5 H => ?_)
      refine z_astore_n (pc := 62) hc dX1_add_62 (by decide) (ρ' := [some (.inr a0), some (.inr a1), some (.inr r5), none]) rfl ?_
      refine z_iconst (pc := 63) hc dX1_add_63 ?_
      refine z_istore_n (pc := 64) hc dX1_add_64 (by decide) (ρ' := [some (.inr a0), some (.inr a1), some (.inr r5), some (.inl 0)]) rfl ?_
      exact rX1_add_H65 hc H
    · exact z_return (pc := 106) hc dX1_add_106 H
theorem rX1_add_H2 (hc : zOk p s m args meth c D cX1_add 4 RX1 none)  {a0 : Nat} {a1 : Nat} {x2 : Int} {h : Zm} {Q : Zm → Prop}  (H : mX1_add_H2  a0 a1 x2 h Q) : zW p l e zrX1_add s m args below meth c D base 4 (MQ below (zQv D base Q) args s 0 0 (zFree base)) 0 0 2 [some (.inr a0), some (.inr a1), some (.inl x2), none] [] h :=
  H (fun x2 h => zW p l e zrX1_add s m args below meth c D base 4 (MQ below (zQv D base Q) args s 0 0 (zFree base)) 0 0 2 [some (.inr a0), some (.inr a1), some (.inl x2), none] [] h) (fun x2 h H => rX1_add_B2 hc (fun _ _ q => q) H)
set_option maxRecDepth 100000 in
set_option maxHeartbeats 4000000 in
theorem rX1_add (hc : zOk p s m args meth c D cX1_add 4 RX1 none) {a0 : Nat} {a1 : Nat} {h : Zm} {Q : Zm → Prop} (H : mX1_add a0 a1 h Q) : zW p l e zrX1_add s m args below meth c D base 4 (MQ below (zQv D base Q) args s 0 0 (zFree base)) 0 0 0 [some (.inr a0), some (.inr a1), none, none] [] h := by
  unfold mX1_add at H
  refine z_iconst (pc := 0) hc dX1_add_0 ?_
  refine z_istore_n (pc := 1) hc dX1_add_1 (by decide) (ρ' := [some (.inr a0), some (.inr a1), some (.inl 0), none]) rfl ?_
  exact rX1_add_H2 hc H
end
theorem metX1_add (l : Launch) (D : Zd) (base : Nat) {a0 : Nat} {a1 : Nat} {h : Zm} {Q : Zm → Prop} (H : mX1_add a0 a1 h Q) : zMet l D base yX1_add cX1_add 4 none zrX1_add [.inr a0, .inr a1] h (zQv D base Q) :=
  z_met (by decide +kernel) (Nat.le_of_ble_eq_true rfl) (fun p e s m args below meth c hc hn => rX1_add hc H)
def zrX1_comesBefore : Room := { frames := 0, cells := 0, slots := 0, locals := 0 }
def mX1_comesBefore_B58 (X58 : Int → Zm → Prop) (a1 : Nat) (a2 : Nat) (x3 : Int) (h : Zm) (Q : Int → Zm → Prop) : Prop :=
  cLt x3 7
  (cLd h 1 a1 x3 fun v9 => cLd h 1 a2 x3 fun v10 => cEq v9 v10
    (X58 (x3 + 1) h)
    (cLd h 1 a1 x3 fun v11 => cLd h 1 a2 x3 fun v12 => cLt v11 v12
      (Q 1 h)
      (Q 0 h)))
  (Q 0 h)
def mX1_comesBefore_H58  (a1 : Nat) (a2 : Nat) (x3 : Int) (h : Zm) (Q : Int → Zm → Prop) : Prop :=
  lfp1 (fun X58 x3 h => mX1_comesBefore_B58 X58 a1 a2 x3 h Q) x3 h
def mX1_comesBefore (a0 : Nat) (a1 : Nat) (a2 : Nat) (h : Zm) (Q : Int → Zm → Prop) : Prop :=
  cLd h 1 a1 8 fun v1 => cLd h 1 a2 8 fun v2 => cEq v1 v2
  (cLd h 1 a1 7 fun v3 => cLd h 1 a2 7 fun v4 => cEq v3 v4
    (mX1_comesBefore_H58  a1 a2 0 h Q)
    (cLd h 1 a1 7 fun v5 => cLd h 1 a2 7 fun v6 => cLt v5 v6
      (Q 1 h)
      (Q 0 h)))
  (cLd h 1 a1 8 fun v7 => cLd h 1 a2 8 fun v8 => cLe v7 v8
    (Q 0 h)
    (Q 1 h))
section
variable {p : Program} {l : Launch} {e : Env} {s : State} {m : MethodId} {args : Array Value} {below : List Frame} {meth : Method} {c : Code} {D : Zd} {base : Nat}
set_option maxRecDepth 100000 in
set_option maxHeartbeats 4000000 in
theorem rX1_comesBefore_B58 (hc : zOk p s m args meth c D cX1_comesBefore 4 RX1 (some .boolean)) {X58 : Int → Zm → Prop} {a1 : Nat} {a2 : Nat} {x3 : Int} {h : Zm} {Q : Int → Zm → Prop} (hX58 : ∀ (x3 : Int) (h : Zm), X58 x3 h → zW p l e zrX1_comesBefore s m args below meth c D base 4 (MQ below (zQi D base Q) args s 0 0 (zFree base)) 0 0 58 [none, some (.inr a1), some (.inr a2), some (.inl x3)] [] h) (H : mX1_comesBefore_B58 X58 a1 a2 x3 h Q) : zW p l e zrX1_comesBefore s m args below meth c D base 4 (MQ below (zQi D base Q) args s 0 0 (zFree base)) 0 0 58 [none, some (.inr a1), some (.inr a2), some (.inl x3)] [] h := by
  unfold mX1_comesBefore_B58 at H
  refine z_iload_n (pc := 58) hc dX1_comesBefore_58 rfl ?_
  refine z_bipush (pc := 59) hc dX1_comesBefore_59 (by decide) ?_
  refine z_icmp_ge (tgt := 94) (pc := 61) hc dX1_comesBefore_61 rfl H (fun H => ?_) (fun H => ?_)
  · refine z_aload_n (pc := 64) hc dX1_comesBefore_64 rfl ?_
    refine z_iload_n (pc := 65) hc dX1_comesBefore_65 rfl ?_
    refine z_iaload (pc := 66) hc dX1_comesBefore_66 H (fun v9 H => ?_)
    refine z_aload_n (pc := 67) hc dX1_comesBefore_67 rfl ?_
    refine z_iload_n (pc := 68) hc dX1_comesBefore_68 rfl ?_
    refine z_iaload (pc := 69) hc dX1_comesBefore_69 H (fun v10 H => ?_)
    refine z_icmp_eq (tgt := 88) (pc := 70) hc dX1_comesBefore_70 rfl H (fun H => ?_) (fun H => ?_)
    · refine z_iinc (pc := 88) hc dX1_comesBefore_88 (by decide) rfl (ρ' := [none, some (.inr a1), some (.inr a2), some (.inl (x3 + 1))]) rfl ?_
      refine z_goto (tgt := 58) (pc := 91) hc dX1_comesBefore_91 rfl ?_
      exact hX58 _ _ H
    · refine z_aload_n (pc := 73) hc dX1_comesBefore_73 rfl ?_
      refine z_iload_n (pc := 74) hc dX1_comesBefore_74 rfl ?_
      refine z_iaload (pc := 75) hc dX1_comesBefore_75 H (fun v11 H => ?_)
      refine z_aload_n (pc := 76) hc dX1_comesBefore_76 rfl ?_
      refine z_iload_n (pc := 77) hc dX1_comesBefore_77 rfl ?_
      refine z_iaload (pc := 78) hc dX1_comesBefore_78 H (fun v12 H => ?_)
      refine z_icmp_ge (tgt := 86) (pc := 79) hc dX1_comesBefore_79 rfl H (fun H => ?_) (fun H => ?_)
      · refine z_iconst (pc := 82) hc dX1_comesBefore_82 ?_
        refine z_goto (tgt := 87) (pc := 83) hc dX1_comesBefore_83 rfl ?_
        exact z_zreturn (pc := 87) hc dX1_comesBefore_87 ⟨Or.inr rfl, H⟩
      · refine z_iconst (pc := 86) hc dX1_comesBefore_86 ?_
        exact z_zreturn (pc := 87) hc dX1_comesBefore_87 ⟨Or.inl rfl, H⟩
  · refine z_iconst (pc := 94) hc dX1_comesBefore_94 ?_
    exact z_zreturn (pc := 95) hc dX1_comesBefore_95 ⟨Or.inl rfl, H⟩
theorem rX1_comesBefore_H58 (hc : zOk p s m args meth c D cX1_comesBefore 4 RX1 (some .boolean))  {a1 : Nat} {a2 : Nat} {x3 : Int} {h : Zm} {Q : Int → Zm → Prop}  (H : mX1_comesBefore_H58  a1 a2 x3 h Q) : zW p l e zrX1_comesBefore s m args below meth c D base 4 (MQ below (zQi D base Q) args s 0 0 (zFree base)) 0 0 58 [none, some (.inr a1), some (.inr a2), some (.inl x3)] [] h :=
  H (fun x3 h => zW p l e zrX1_comesBefore s m args below meth c D base 4 (MQ below (zQi D base Q) args s 0 0 (zFree base)) 0 0 58 [none, some (.inr a1), some (.inr a2), some (.inl x3)] [] h) (fun x3 h H => rX1_comesBefore_B58 hc (fun _ _ q => q) H)
set_option maxRecDepth 100000 in
set_option maxHeartbeats 4000000 in
theorem rX1_comesBefore (hc : zOk p s m args meth c D cX1_comesBefore 4 RX1 (some .boolean)) {a0 : Nat} {a1 : Nat} {a2 : Nat} {h : Zm} {Q : Int → Zm → Prop} (H : mX1_comesBefore a0 a1 a2 h Q) : zW p l e zrX1_comesBefore s m args below meth c D base 4 (MQ below (zQi D base Q) args s 0 0 (zFree base)) 0 0 0 [some (.inr a0), some (.inr a1), some (.inr a2), none] [] h := by
  unfold mX1_comesBefore at H
  refine z_aload_n (pc := 0) hc dX1_comesBefore_0 rfl ?_
  refine z_bipush (pc := 1) hc dX1_comesBefore_1 (by decide) ?_
  refine z_iaload (pc := 3) hc dX1_comesBefore_3 H (fun v1 H => ?_)
  refine z_aload_n (pc := 4) hc dX1_comesBefore_4 rfl ?_
  refine z_bipush (pc := 5) hc dX1_comesBefore_5 (by decide) ?_
  refine z_iaload (pc := 7) hc dX1_comesBefore_7 H (fun v2 H => ?_)
  refine z_icmp_eq (tgt := 28) (pc := 8) hc dX1_comesBefore_8 rfl H (fun H => ?_) (fun H => ?_)
  · refine z_aload_n (pc := 28) hc dX1_comesBefore_28 rfl ?_
    refine z_bipush (pc := 29) hc dX1_comesBefore_29 (by decide) ?_
    refine z_iaload (pc := 31) hc dX1_comesBefore_31 H (fun v3 H => ?_)
    refine z_aload_n (pc := 32) hc dX1_comesBefore_32 rfl ?_
    refine z_bipush (pc := 33) hc dX1_comesBefore_33 (by decide) ?_
    refine z_iaload (pc := 35) hc dX1_comesBefore_35 H (fun v4 H => ?_)
    refine z_icmp_eq (tgt := 56) (pc := 36) hc dX1_comesBefore_36 rfl H (fun H => ?_) (fun H => ?_)
    · refine z_iconst (pc := 56) hc dX1_comesBefore_56 ?_
      refine z_istore_n (pc := 57) hc dX1_comesBefore_57 (by decide) (ρ' := [some (.inr a0), some (.inr a1), some (.inr a2), some (.inl 0)]) rfl ?_
      refine z_mask [false, true, true, true] (ρ' := [none, some (.inr a1), some (.inr a2), some (.inl 0)]) rfl ?_
      exact rX1_comesBefore_H58 hc H
    · refine z_aload_n (pc := 39) hc dX1_comesBefore_39 rfl ?_
      refine z_bipush (pc := 40) hc dX1_comesBefore_40 (by decide) ?_
      refine z_iaload (pc := 42) hc dX1_comesBefore_42 H (fun v5 H => ?_)
      refine z_aload_n (pc := 43) hc dX1_comesBefore_43 rfl ?_
      refine z_bipush (pc := 44) hc dX1_comesBefore_44 (by decide) ?_
      refine z_iaload (pc := 46) hc dX1_comesBefore_46 H (fun v6 H => ?_)
      refine z_icmp_ge (tgt := 54) (pc := 47) hc dX1_comesBefore_47 rfl H (fun H => ?_) (fun H => ?_)
      · refine z_iconst (pc := 50) hc dX1_comesBefore_50 ?_
        refine z_goto (tgt := 55) (pc := 51) hc dX1_comesBefore_51 rfl ?_
        exact z_zreturn (pc := 55) hc dX1_comesBefore_55 ⟨Or.inr rfl, H⟩
      · refine z_iconst (pc := 54) hc dX1_comesBefore_54 ?_
        exact z_zreturn (pc := 55) hc dX1_comesBefore_55 ⟨Or.inl rfl, H⟩
  · refine z_aload_n (pc := 11) hc dX1_comesBefore_11 rfl ?_
    refine z_bipush (pc := 12) hc dX1_comesBefore_12 (by decide) ?_
    refine z_iaload (pc := 14) hc dX1_comesBefore_14 H (fun v7 H => ?_)
    refine z_aload_n (pc := 15) hc dX1_comesBefore_15 rfl ?_
    refine z_bipush (pc := 16) hc dX1_comesBefore_16 (by decide) ?_
    refine z_iaload (pc := 18) hc dX1_comesBefore_18 H (fun v8 H => ?_)
    refine z_icmp_le (tgt := 26) (pc := 19) hc dX1_comesBefore_19 rfl H (fun H => ?_) (fun H => ?_)
    · refine z_iconst (pc := 26) hc dX1_comesBefore_26 ?_
      exact z_zreturn (pc := 27) hc dX1_comesBefore_27 ⟨Or.inl rfl, H⟩
    · refine z_iconst (pc := 22) hc dX1_comesBefore_22 ?_
      refine z_goto (tgt := 27) (pc := 23) hc dX1_comesBefore_23 rfl ?_
      exact z_zreturn (pc := 27) hc dX1_comesBefore_27 ⟨Or.inr rfl, H⟩
end
theorem metX1_comesBefore (l : Launch) (D : Zd) (base : Nat) {a0 : Nat} {a1 : Nat} {a2 : Nat} {h : Zm} {Q : Int → Zm → Prop} (H : mX1_comesBefore a0 a1 a2 h Q) : zMet l D base yX1_comesBefore cX1_comesBefore 4 (some .boolean) zrX1_comesBefore [.inr a0, .inr a1, .inr a2] h (zQi D base Q) :=
  z_met (by decide +kernel) (Nat.le_of_ble_eq_true rfl) (fun p e s m args below meth c hc hn => rX1_comesBefore hc H)
def zrX1_inksBefore : Room := { frames := 1, cells := 0, slots := 0, locals := 23 }
def mX1_inksBefore_B4 (X4 : Int → Int → Zm → Prop) (a0 : Nat) (x1 : Int) (x2 : Int) (x3 : Int) (h : Zm) (Q : Int → Zm → Prop) : Prop :=
  cGi h 11 a0 1 fun v1 => cLt x3 v1
  (cGr h 11 a0 0 fun r2 => cLdR h r2 x3 fun r3 => cGr h 11 a0 0 fun r4 => cLdR h r4 x1 fun r5 => cRc h 11 a0 <| mX1_comesBefore a0 r3 r5 h fun v7 h6 => cEq v7 0
    (X4 x2 (x3 + 1) h6)
    (X4 (x2 + 1) (x3 + 1) h6))
  (Q x2 h)
def mX1_inksBefore_H4  (a0 : Nat) (x1 : Int) (x2 : Int) (x3 : Int) (h : Zm) (Q : Int → Zm → Prop) : Prop :=
  lfp2 (fun X4 x2 x3 h => mX1_inksBefore_B4 X4 a0 x1 x2 x3 h Q) x2 x3 h
def mX1_inksBefore (a0 : Nat) (x1 : Int) (h : Zm) (Q : Int → Zm → Prop) : Prop :=
  mX1_inksBefore_H4  a0 x1 0 0 h Q
section
variable {p : Program} {l : Launch} {e : Env} {s : State} {m : MethodId} {args : Array Value} {below : List Frame} {meth : Method} {c : Code} {D : Zd} {base : Nat}
set_option maxRecDepth 100000 in
set_option maxHeartbeats 4000000 in
theorem rX1_inksBefore_B4 (hc : zOk p s m args meth c D cX1_inksBefore 4 RX1 (some .int)) {X4 : Int → Int → Zm → Prop} {a0 : Nat} {x1 : Int} {x2 : Int} {x3 : Int} {h : Zm} {Q : Int → Zm → Prop} (hX4 : ∀ (x2 : Int) (x3 : Int) (h : Zm), X4 x2 x3 h → zW p l e zrX1_inksBefore s m args below meth c D base 4 (MQ below (zQi D base Q) args s 0 0 (zFree base)) 0 0 4 [some (.inr a0), some (.inl x1), some (.inl x2), some (.inl x3)] [] h) (H : mX1_inksBefore_B4 X4 a0 x1 x2 x3 h Q) : zW p l e zrX1_inksBefore s m args below meth c D base 4 (MQ below (zQi D base Q) args s 0 0 (zFree base)) 0 0 4 [some (.inr a0), some (.inl x1), some (.inl x2), some (.inl x3)] [] h := by
  unfold mX1_inksBefore_B4 at H
  refine z_iload_n (pc := 4) hc dX1_inksBefore_4 rfl ?_
  refine z_aload_n (pc := 5) hc dX1_inksBefore_5 rfl ?_
  refine z_getI (pc := 6) hc dX1_inksBefore_6 zf_RX1_16 rfl rfl rfl H (fun v1 H => ?_)
  refine z_icmp_ge (tgt := 40) (pc := 9) hc dX1_inksBefore_9 rfl H (fun H => ?_) (fun H => ?_)
  · refine z_aload_n (pc := 12) hc dX1_inksBefore_12 rfl ?_
    refine z_aload_n (pc := 13) hc dX1_inksBefore_13 rfl ?_
    refine z_getR (pc := 14) hc dX1_inksBefore_14 zf_RX1_11 rfl rfl rfl H (fun r2 H => ?_)
    refine z_iload_n (pc := 17) hc dX1_inksBefore_17 rfl ?_
    refine z_aaload (pc := 18) hc dX1_inksBefore_18 H (fun r3 H => ?_)
    refine z_aload_n (pc := 19) hc dX1_inksBefore_19 rfl ?_
    refine z_getR (pc := 20) hc dX1_inksBefore_20 zf_RX1_11 rfl rfl rfl H (fun r4 H => ?_)
    refine z_iload_n (pc := 23) hc dX1_inksBefore_23 rfl ?_
    refine z_aaload (pc := 24) hc dX1_inksBefore_24 H (fun r5 H => ?_)
    refine z_calI (z_runV (pc := 25) (ci := 1) (T := TX1) (N := 2) hc dX1_inksBefore_25 zw_RX1_32 (metX1_comesBefore _ _ _ H.2) rfl (Nat.le_of_ble_eq_true rfl) ⟨Nat.le_of_ble_eq_true rfl, Nat.le_of_ble_eq_true rfl⟩ ⟨by exact Nat.le_of_ble_eq_true rfl, by exact Nat.le_of_ble_eq_true rfl⟩ rfl H.1) rfl ⟨rfl, rfl⟩ (fun v7 h6 H => ?_)
    refine z_if_eq (tgt := 34) (pc := 28) hc dX1_inksBefore_28 rfl H (fun H => ?_) (fun H => ?_)
    · refine z_iinc (pc := 34) hc dX1_inksBefore_34 (by decide) rfl (ρ' := [some (.inr a0), some (.inl x1), some (.inl x2), some (.inl (x3 + 1))]) rfl ?_
      refine z_goto (tgt := 4) (pc := 37) hc dX1_inksBefore_37 rfl ?_
      exact hX4 _ _ _ H
    · refine z_iinc (pc := 31) hc dX1_inksBefore_31 (by decide) rfl (ρ' := [some (.inr a0), some (.inl x1), some (.inl (x2 + 1)), some (.inl x3)]) rfl ?_
      refine z_iinc (pc := 34) hc dX1_inksBefore_34 (by decide) rfl (ρ' := [some (.inr a0), some (.inl x1), some (.inl (x2 + 1)), some (.inl (x3 + 1))]) rfl ?_
      refine z_goto (tgt := 4) (pc := 37) hc dX1_inksBefore_37 rfl ?_
      exact hX4 _ _ _ H
  · refine z_iload_n (pc := 40) hc dX1_inksBefore_40 rfl ?_
    exact z_ireturn (pc := 41) hc dX1_inksBefore_41 H
theorem rX1_inksBefore_H4 (hc : zOk p s m args meth c D cX1_inksBefore 4 RX1 (some .int))  {a0 : Nat} {x1 : Int} {x2 : Int} {x3 : Int} {h : Zm} {Q : Int → Zm → Prop}  (H : mX1_inksBefore_H4  a0 x1 x2 x3 h Q) : zW p l e zrX1_inksBefore s m args below meth c D base 4 (MQ below (zQi D base Q) args s 0 0 (zFree base)) 0 0 4 [some (.inr a0), some (.inl x1), some (.inl x2), some (.inl x3)] [] h :=
  H (fun x2 x3 h => zW p l e zrX1_inksBefore s m args below meth c D base 4 (MQ below (zQi D base Q) args s 0 0 (zFree base)) 0 0 4 [some (.inr a0), some (.inl x1), some (.inl x2), some (.inl x3)] [] h) (fun x2 x3 h H => rX1_inksBefore_B4 hc (fun _ _ _ q => q) H)
set_option maxRecDepth 100000 in
set_option maxHeartbeats 4000000 in
theorem rX1_inksBefore (hc : zOk p s m args meth c D cX1_inksBefore 4 RX1 (some .int)) {a0 : Nat} {x1 : Int} {h : Zm} {Q : Int → Zm → Prop} (H : mX1_inksBefore a0 x1 h Q) : zW p l e zrX1_inksBefore s m args below meth c D base 4 (MQ below (zQi D base Q) args s 0 0 (zFree base)) 0 0 0 [some (.inr a0), some (.inl x1), none, none] [] h := by
  unfold mX1_inksBefore at H
  refine z_iconst (pc := 0) hc dX1_inksBefore_0 ?_
  refine z_istore_n (pc := 1) hc dX1_inksBefore_1 (by decide) (ρ' := [some (.inr a0), some (.inl x1), some (.inl 0), none]) rfl ?_
  refine z_iconst (pc := 2) hc dX1_inksBefore_2 ?_
  refine z_istore_n (pc := 3) hc dX1_inksBefore_3 (by decide) (ρ' := [some (.inr a0), some (.inl x1), some (.inl 0), some (.inl 0)]) rfl ?_
  exact rX1_inksBefore_H4 hc H
end
theorem metX1_inksBefore (l : Launch) (D : Zd) (base : Nat) {a0 : Nat} {x1 : Int} {h : Zm} {Q : Int → Zm → Prop} (H : mX1_inksBefore a0 x1 h Q) : zMet l D base yX1_inksBefore cX1_inksBefore 4 (some .int) zrX1_inksBefore [.inr a0, .inl x1] h (zQi D base Q) :=
  z_met (by decide +kernel) (Nat.le_of_ble_eq_true rfl) (fun p e s m args below meth c hc hn => rX1_inksBefore hc H)
def zrX1_rowAt : Room := { frames := 2, cells := 0, slots := 0, locals := 46 }
def mX1_rowAt_B2 (X2 : Int → Zm → Prop) (a0 : Nat) (x1 : Int) (x2 : Int) (h : Zm) (Q : Int → Zm → Prop) : Prop :=
  cGi h 11 a0 1 fun v1 => cLt x2 v1
  (cRc h 11 a0 <| mX1_inksBefore a0 x2 h fun v3 h2 => cEq v3 x1
    (Q x2 h2)
    (X2 (x2 + 1) h2))
  (Q (-1) h)
def mX1_rowAt_H2  (a0 : Nat) (x1 : Int) (x2 : Int) (h : Zm) (Q : Int → Zm → Prop) : Prop :=
  lfp1 (fun X2 x2 h => mX1_rowAt_B2 X2 a0 x1 x2 h Q) x2 h
def mX1_rowAt (a0 : Nat) (x1 : Int) (h : Zm) (Q : Int → Zm → Prop) : Prop :=
  mX1_rowAt_H2  a0 x1 0 h Q
section
variable {p : Program} {l : Launch} {e : Env} {s : State} {m : MethodId} {args : Array Value} {below : List Frame} {meth : Method} {c : Code} {D : Zd} {base : Nat}
set_option maxRecDepth 100000 in
set_option maxHeartbeats 4000000 in
theorem rX1_rowAt_B2 (hc : zOk p s m args meth c D cX1_rowAt 3 RX1 (some .int)) {X2 : Int → Zm → Prop} {a0 : Nat} {x1 : Int} {x2 : Int} {h : Zm} {Q : Int → Zm → Prop} (hX2 : ∀ (x2 : Int) (h : Zm), X2 x2 h → zW p l e zrX1_rowAt s m args below meth c D base 3 (MQ below (zQi D base Q) args s 0 0 (zFree base)) 0 0 2 [some (.inr a0), some (.inl x1), some (.inl x2)] [] h) (H : mX1_rowAt_B2 X2 a0 x1 x2 h Q) : zW p l e zrX1_rowAt s m args below meth c D base 3 (MQ below (zQi D base Q) args s 0 0 (zFree base)) 0 0 2 [some (.inr a0), some (.inl x1), some (.inl x2)] [] h := by
  unfold mX1_rowAt_B2 at H
  refine z_iload_n (pc := 2) hc dX1_rowAt_2 rfl ?_
  refine z_aload_n (pc := 3) hc dX1_rowAt_3 rfl ?_
  refine z_getI (pc := 4) hc dX1_rowAt_4 zf_RX1_16 rfl rfl rfl H (fun v1 H => ?_)
  refine z_icmp_ge (tgt := 27) (pc := 7) hc dX1_rowAt_7 rfl H (fun H => ?_) (fun H => ?_)
  · refine z_aload_n (pc := 10) hc dX1_rowAt_10 rfl ?_
    refine z_iload_n (pc := 11) hc dX1_rowAt_11 rfl ?_
    refine z_calI (z_runV (pc := 12) (ci := 1) (T := TX1) (N := 2) hc dX1_rowAt_12 zw_RX1_28 (metX1_inksBefore _ _ _ H.2) rfl (Nat.le_of_ble_eq_true rfl) ⟨Nat.le_of_ble_eq_true rfl, Nat.le_of_ble_eq_true rfl⟩ ⟨by exact Nat.le_of_ble_eq_true rfl, by exact Nat.le_of_ble_eq_true rfl⟩ rfl H.1) rfl ⟨rfl, rfl⟩ (fun v3 h2 H => ?_)
    refine z_iload_n (pc := 15) hc dX1_rowAt_15 rfl ?_
    refine z_icmp_ne (tgt := 21) (pc := 16) hc dX1_rowAt_16 rfl H (fun H => ?_) (fun H => ?_)
    · refine z_iload_n (pc := 19) hc dX1_rowAt_19 rfl ?_
      exact z_ireturn (pc := 20) hc dX1_rowAt_20 H
    · refine z_iinc (pc := 21) hc dX1_rowAt_21 (by decide) rfl (ρ' := [some (.inr a0), some (.inl x1), some (.inl (x2 + 1))]) rfl ?_
      refine z_goto (tgt := 2) (pc := 24) hc dX1_rowAt_24 rfl ?_
      exact hX2 _ _ H
  · refine z_iconst (pc := 27) hc dX1_rowAt_27 ?_
    exact z_ireturn (pc := 28) hc dX1_rowAt_28 H
theorem rX1_rowAt_H2 (hc : zOk p s m args meth c D cX1_rowAt 3 RX1 (some .int))  {a0 : Nat} {x1 : Int} {x2 : Int} {h : Zm} {Q : Int → Zm → Prop}  (H : mX1_rowAt_H2  a0 x1 x2 h Q) : zW p l e zrX1_rowAt s m args below meth c D base 3 (MQ below (zQi D base Q) args s 0 0 (zFree base)) 0 0 2 [some (.inr a0), some (.inl x1), some (.inl x2)] [] h :=
  H (fun x2 h => zW p l e zrX1_rowAt s m args below meth c D base 3 (MQ below (zQi D base Q) args s 0 0 (zFree base)) 0 0 2 [some (.inr a0), some (.inl x1), some (.inl x2)] [] h) (fun x2 h H => rX1_rowAt_B2 hc (fun _ _ q => q) H)
set_option maxRecDepth 100000 in
set_option maxHeartbeats 4000000 in
theorem rX1_rowAt (hc : zOk p s m args meth c D cX1_rowAt 3 RX1 (some .int)) {a0 : Nat} {x1 : Int} {h : Zm} {Q : Int → Zm → Prop} (H : mX1_rowAt a0 x1 h Q) : zW p l e zrX1_rowAt s m args below meth c D base 3 (MQ below (zQi D base Q) args s 0 0 (zFree base)) 0 0 0 [some (.inr a0), some (.inl x1), none] [] h := by
  unfold mX1_rowAt at H
  refine z_iconst (pc := 0) hc dX1_rowAt_0 ?_
  refine z_istore_n (pc := 1) hc dX1_rowAt_1 (by decide) (ρ' := [some (.inr a0), some (.inl x1), some (.inl 0)]) rfl ?_
  exact rX1_rowAt_H2 hc H
end
theorem metX1_rowAt (l : Launch) (D : Zd) (base : Nat) {a0 : Nat} {x1 : Int} {h : Zm} {Q : Int → Zm → Prop} (H : mX1_rowAt a0 x1 h Q) : zMet l D base yX1_rowAt cX1_rowAt 3 (some .int) zrX1_rowAt [.inr a0, .inl x1] h (zQi D base Q) :=
  z_met (by decide +kernel) (Nat.le_of_ble_eq_true rfl) (fun p e s m args below meth c hc hn => rX1_rowAt hc H)
def zrX1_valueOf : Room := { frames := 0, cells := 0, slots := 0, locals := 0 }
def mX1_valueOf (a0 : Nat) (x1 : Int) (x2 : Int) (h : Zm) (Q : Int → Zm → Prop) : Prop :=
  cGr h 11 a0 0 fun r1 => cLdR h r1 x1 fun r2 => cLd h 1 r2 x2 fun v3 => Q v3 h
section
variable {p : Program} {l : Launch} {e : Env} {s : State} {m : MethodId} {args : Array Value} {below : List Frame} {meth : Method} {c : Code} {D : Zd} {base : Nat}
set_option maxRecDepth 100000 in
set_option maxHeartbeats 4000000 in
theorem rX1_valueOf (hc : zOk p s m args meth c D cX1_valueOf 3 RX1 (some .int)) {a0 : Nat} {x1 : Int} {x2 : Int} {h : Zm} {Q : Int → Zm → Prop} (H : mX1_valueOf a0 x1 x2 h Q) : zW p l e zrX1_valueOf s m args below meth c D base 3 (MQ below (zQi D base Q) args s 0 0 (zFree base)) 0 0 0 [some (.inr a0), some (.inl x1), some (.inl x2)] [] h := by
  unfold mX1_valueOf at H
  refine z_aload_n (pc := 0) hc dX1_valueOf_0 rfl ?_
  refine z_getR (pc := 1) hc dX1_valueOf_1 zf_RX1_11 rfl rfl rfl H (fun r1 H => ?_)
  refine z_iload_n (pc := 4) hc dX1_valueOf_4 rfl ?_
  refine z_aaload (pc := 5) hc dX1_valueOf_5 H (fun r2 H => ?_)
  refine z_iload_n (pc := 6) hc dX1_valueOf_6 rfl ?_
  refine z_iaload (pc := 7) hc dX1_valueOf_7 H (fun v3 H => ?_)
  exact z_ireturn (pc := 8) hc dX1_valueOf_8 H
end
theorem metX1_valueOf (l : Launch) (D : Zd) (base : Nat) {a0 : Nat} {x1 : Int} {x2 : Int} {h : Zm} {Q : Int → Zm → Prop} (H : mX1_valueOf a0 x1 x2 h Q) : zMet l D base yX1_valueOf cX1_valueOf 3 (some .int) zrX1_valueOf [.inr a0, .inl x1, .inl x2] h (zQi D base Q) :=
  z_met (by decide +kernel) (Nat.le_of_ble_eq_true rfl) (fun p e s m args below meth c hc hn => rX1_valueOf hc H)
def zrX2_init : Room := { frames := 1, cells := 0, slots := 0, locals := 20 }
def mX2_init (a0 : Nat) (h : Zm) (Q : Zm → Prop) : Prop :=
  cRc h 12 a0 <| cPi h 12 a0 0 (-1) fun h1 => cPi h1 12 a0 1 (-1) fun h2 => cPi h2 12 a0 11 1 fun h3 => cPi h3 12 a0 12 1 fun h4 => Q h4
section
variable {p : Program} {l : Launch} {e : Env} {s : State} {m : MethodId} {args : Array Value} {below : List Frame} {meth : Method} {c : Code} {D : Zd} {base : Nat}
set_option maxRecDepth 100000 in
set_option maxHeartbeats 4000000 in
theorem rX2_init (hc : zOk p s m args meth c D cX2_init 1 RX2 none) (hin : meth.name = "<init>") {a0 : Nat} {h : Zm} {Q : Zm → Prop} (H : mX2_init a0 h Q) : zW p l e zrX2_init s m args below meth c D base 1 (MQ below (zQv D base Q) args s 0 0 (zFree base)) 0 0 0 [some (.inr a0)] [] h := by
  unfold mX2_init at H
  refine z_aload_n (pc := 0) hc dX2_init_0 rfl ?_
  refine z_objInit (pc := 1) hc dX2_init_1 (zT_mem 76 (by decide +kernel) rfl) (zT_mem 56 (by decide +kernel) rfl) (zT_mem 57 (by decide +kernel) rfl) (by decide) (by decide) (by decide) (d := 12) (by decide) H (fun H => ?_)
  refine z_aload_n (pc := 4) hc dX2_init_4 rfl ?_
  refine z_iconst (pc := 5) hc dX2_init_5 ?_
  refine z_putI (pc := 6) hc dX2_init_6 zf_RX2_9 rfl rfl rfl H (fun h1 H => ?_)
  refine z_aload_n (pc := 9) hc dX2_init_9 rfl ?_
  refine z_iconst (pc := 10) hc dX2_init_10 ?_
  refine z_putI (pc := 11) hc dX2_init_11 zf_RX2_15 rfl rfl rfl H (fun h2 H => ?_)
  refine z_aload_n (pc := 14) hc dX2_init_14 rfl ?_
  refine z_iconst (pc := 15) hc dX2_init_15 ?_
  refine z_putI (pc := 16) hc dX2_init_16 zf_RX2_18 rfl rfl rfl H (fun h3 H => ?_)
  refine z_aload_n (pc := 19) hc dX2_init_19 rfl ?_
  refine z_iconst (pc := 20) hc dX2_init_20 ?_
  refine z_putI (pc := 21) hc dX2_init_21 zf_RX2_21 rfl rfl rfl H (fun h4 H => ?_)
  refine z_cells (cells' := 0) (slots' := 0) (by omega) (by omega) ?_
  exact z_return (pc := 24) hc dX2_init_24 H
end
theorem metX2_init (l : Launch) (D : Zd) (base : Nat) {a0 : Nat} {h : Zm} {Q : Zm → Prop} (H : mX2_init a0 h Q) : zMet l D base yX2_init cX2_init 1 none zrX2_init [.inr a0] h (zQv D base Q) :=
  z_met (by decide +kernel) (Nat.le_of_ble_eq_true rfl) (fun p e s m args below meth c hc hn => rX2_init hc hn H)
def zrX2_takeBox : Room := { frames := 0, cells := 0, slots := 0, locals := 0 }
def mX2_takeBox (a0 : Nat) (a1 : Nat) (h : Zm) (Q : Zm → Prop) : Prop :=
  cGi h 12 a1 9 fun v1 => cPi h 12 a0 9 v1 fun h2 => cGi h2 12 a1 10 fun v3 => cPi h2 12 a0 10 v3 fun h4 => cGi h4 12 a1 11 fun v5 => cPi h4 12 a0 11 v5 fun h6 => cGi h6 12 a1 12 fun v7 => cPi h6 12 a0 12 v7 fun h8 => Q h8
section
variable {p : Program} {l : Launch} {e : Env} {s : State} {m : MethodId} {args : Array Value} {below : List Frame} {meth : Method} {c : Code} {D : Zd} {base : Nat}
set_option maxRecDepth 100000 in
set_option maxHeartbeats 4000000 in
theorem rX2_takeBox (hc : zOk p s m args meth c D cX2_takeBox 2 RX2 none) {a0 : Nat} {a1 : Nat} {h : Zm} {Q : Zm → Prop} (H : mX2_takeBox a0 a1 h Q) : zW p l e zrX2_takeBox s m args below meth c D base 2 (MQ below (zQv D base Q) args s 0 0 (zFree base)) 0 0 0 [some (.inr a0), some (.inr a1)] [] h := by
  unfold mX2_takeBox at H
  refine z_aload_n (pc := 0) hc dX2_takeBox_0 rfl ?_
  refine z_aload_n (pc := 1) hc dX2_takeBox_1 rfl ?_
  refine z_getI (pc := 2) hc dX2_takeBox_2 zf_RX2_24 rfl rfl rfl H (fun v1 H => ?_)
  refine z_putI (pc := 5) hc dX2_takeBox_5 zf_RX2_24 rfl rfl rfl H (fun h2 H => ?_)
  refine z_aload_n (pc := 8) hc dX2_takeBox_8 rfl ?_
  refine z_aload_n (pc := 9) hc dX2_takeBox_9 rfl ?_
  refine z_getI (pc := 10) hc dX2_takeBox_10 zf_RX2_27 rfl rfl rfl H (fun v3 H => ?_)
  refine z_putI (pc := 13) hc dX2_takeBox_13 zf_RX2_27 rfl rfl rfl H (fun h4 H => ?_)
  refine z_aload_n (pc := 16) hc dX2_takeBox_16 rfl ?_
  refine z_aload_n (pc := 17) hc dX2_takeBox_17 rfl ?_
  refine z_getI (pc := 18) hc dX2_takeBox_18 zf_RX2_18 rfl rfl rfl H (fun v5 H => ?_)
  refine z_putI (pc := 21) hc dX2_takeBox_21 zf_RX2_18 rfl rfl rfl H (fun h6 H => ?_)
  refine z_aload_n (pc := 24) hc dX2_takeBox_24 rfl ?_
  refine z_aload_n (pc := 25) hc dX2_takeBox_25 rfl ?_
  refine z_getI (pc := 26) hc dX2_takeBox_26 zf_RX2_21 rfl rfl rfl H (fun v7 H => ?_)
  refine z_putI (pc := 29) hc dX2_takeBox_29 zf_RX2_21 rfl rfl rfl H (fun h8 H => ?_)
  exact z_return (pc := 32) hc dX2_takeBox_32 H
end
theorem metX2_takeBox (l : Launch) (D : Zd) (base : Nat) {a0 : Nat} {a1 : Nat} {h : Zm} {Q : Zm → Prop} (H : mX2_takeBox a0 a1 h Q) : zMet l D base yX2_takeBox cX2_takeBox 2 none zrX2_takeBox [.inr a0, .inr a1] h (zQv D base Q) :=
  z_met (by decide +kernel) (Nat.le_of_ble_eq_true rfl) (fun p e s m args below meth c hc hn => rX2_takeBox hc H)
def zrX2_takeColor : Room := { frames := 0, cells := 0, slots := 0, locals := 0 }
def mX2_takeColor (a0 : Nat) (a1 : Nat) (h : Zm) (Q : Zm → Prop) : Prop :=
  cGi h 12 a1 13 fun v1 => cPi h 12 a0 13 v1 fun h2 => cGi h2 12 a1 14 fun v3 => cPi h2 12 a0 14 v3 fun h4 => cGi h4 12 a1 15 fun v5 => cPi h4 12 a0 15 v5 fun h6 => Q h6
section
variable {p : Program} {l : Launch} {e : Env} {s : State} {m : MethodId} {args : Array Value} {below : List Frame} {meth : Method} {c : Code} {D : Zd} {base : Nat}
set_option maxRecDepth 100000 in
set_option maxHeartbeats 4000000 in
theorem rX2_takeColor (hc : zOk p s m args meth c D cX2_takeColor 2 RX2 none) {a0 : Nat} {a1 : Nat} {h : Zm} {Q : Zm → Prop} (H : mX2_takeColor a0 a1 h Q) : zW p l e zrX2_takeColor s m args below meth c D base 2 (MQ below (zQv D base Q) args s 0 0 (zFree base)) 0 0 0 [some (.inr a0), some (.inr a1)] [] h := by
  unfold mX2_takeColor at H
  refine z_aload_n (pc := 0) hc dX2_takeColor_0 rfl ?_
  refine z_aload_n (pc := 1) hc dX2_takeColor_1 rfl ?_
  refine z_getI (pc := 2) hc dX2_takeColor_2 zf_RX2_30 rfl rfl rfl H (fun v1 H => ?_)
  refine z_putI (pc := 5) hc dX2_takeColor_5 zf_RX2_30 rfl rfl rfl H (fun h2 H => ?_)
  refine z_aload_n (pc := 8) hc dX2_takeColor_8 rfl ?_
  refine z_aload_n (pc := 9) hc dX2_takeColor_9 rfl ?_
  refine z_getI (pc := 10) hc dX2_takeColor_10 zf_RX2_33 rfl rfl rfl H (fun v3 H => ?_)
  refine z_putI (pc := 13) hc dX2_takeColor_13 zf_RX2_33 rfl rfl rfl H (fun h4 H => ?_)
  refine z_aload_n (pc := 16) hc dX2_takeColor_16 rfl ?_
  refine z_aload_n (pc := 17) hc dX2_takeColor_17 rfl ?_
  refine z_getI (pc := 18) hc dX2_takeColor_18 zf_RX2_36 rfl rfl rfl H (fun v5 H => ?_)
  refine z_putI (pc := 21) hc dX2_takeColor_21 zf_RX2_36 rfl rfl rfl H (fun h6 H => ?_)
  exact z_return (pc := 24) hc dX2_takeColor_24 H
end
theorem metX2_takeColor (l : Launch) (D : Zd) (base : Nat) {a0 : Nat} {a1 : Nat} {h : Zm} {Q : Zm → Prop} (H : mX2_takeColor a0 a1 h Q) : zMet l D base yX2_takeColor cX2_takeColor 2 none zrX2_takeColor [.inr a0, .inr a1] h (zQv D base Q) :=
  z_met (by decide +kernel) (Nat.le_of_ble_eq_true rfl) (fun p e s m args below meth c hc hn => rX2_takeColor hc H)
