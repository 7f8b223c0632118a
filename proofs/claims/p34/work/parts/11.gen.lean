/-! printed by gen.py: X0_init X0_copyFrom X0_between X0_valueAt X1_init X2_init X2_takeBox X2_takeColor X2_copyFrom X2_settleBelow X6_within X2_contains X3_init X3_clear X5_nodeAt J9_floorDiv_7cf53 X3_pull X3_pullColors X3_pullTints X3_paint X3_render J9_max_7cf53 X3_shrink -/
def zrX0_init : Room := { frames := 1, cells := 2, slots := 16, locals := 20 }
def mX0_init (a0 : Nat) (h : Zm) (Q : Zm → Prop) : Prop :=
  cRc h 10 a0 <| cNw h 1 8 fun r1 h2 => cPr h2 10 a0 0 r1 fun h3 => cNw h3 1 8 fun r4 h5 => cPr h5 10 a0 1 r4 fun h6 => cGr h6 10 a0 0 fun r7 => cSt h6 r7 1 255 fun h8 => cGr h8 10 a0 1 fun r9 => cSt h8 r9 1 255 fun h10 => cPi h10 10 a0 2 2 fun h11 => Q h11
section
variable {p : Program} {l : Launch} {e : Env} {s : State} {m : MethodId} {args : Array Value} {below : List Frame} {meth : Method} {c : Code} {D : Zd} {base : Nat}
set_option maxRecDepth 100000 in
set_option maxHeartbeats 4000000 in
theorem rX0_init (hc : zOk p s m args meth c D cX0_init 1 RX0 none) (hin : meth.name = "<init>") {a0 : Nat} {h : Zm} {Q : Zm → Prop} (H : mX0_init a0 h Q) : zW p l e zrX0_init s m args below meth c D base 1 (MQ below (zQv D base Q) args s 2 16 (zFree base)) 0 0 0 [some (.inr (.inl a0))] [] h := by
  unfold mX0_init at H
  refine z_aload_n (pc := 0) hc dX0_init_0 rfl ?_
  refine z_objInit (pc := 1) hc dX0_init_1 (zT_mem 153 (by decide +kernel) rfl) (zT_mem 20 (by decide +kernel) rfl) (zT_mem 21 (by decide +kernel) rfl) (by decide) (by decide) (Nat.le_of_ble_eq_true rfl) (d := 10) (by decide) H (fun H => ?_)
  refine z_aload_n (pc := 4) hc dX0_init_4 rfl ?_
  refine z_bipush (pc := 5) hc dX0_init_5 (by decide) ?_
  refine z_newarr (pc := 7) (t := 1) (n := 8) hc dX0_init_7 (by decide) rfl (zT_mem 129 (by decide +kernel) rfl) (by decide) (by exact Nat.le_of_ble_eq_true rfl) (by exact Nat.le_of_ble_eq_true rfl) H (fun r1 h2 H => ?_)
  refine z_putR (pc := 9) hc dX0_init_9 zf_RX0_9 rfl rfl rfl hin (fun C T N q => by cases q; rfl) H (fun h3 H => ?_)
  refine z_aload_n (pc := 12) hc dX0_init_12 rfl ?_
  refine z_bipush (pc := 13) hc dX0_init_13 (by decide) ?_
  refine z_newarr (pc := 15) (t := 1) (n := 8) hc dX0_init_15 (by decide) rfl (zT_mem 129 (by decide +kernel) rfl) (by decide) (by exact Nat.le_of_ble_eq_true rfl) (by exact Nat.le_of_ble_eq_true rfl) H (fun r4 h5 H => ?_)
  refine z_putR (pc := 17) hc dX0_init_17 zf_RX0_15 rfl rfl rfl hin (fun C T N q => by cases q; rfl) H (fun h6 H => ?_)
  refine z_aload_n (pc := 20) hc dX0_init_20 rfl ?_
  refine z_getR (pc := 21) hc dX0_init_21 zf_RX0_9 rfl rfl rfl H (fun r7 H => ?_)
  refine z_iconst (pc := 24) hc dX0_init_24 ?_
  refine z_sipush (pc := 25) hc dX0_init_25 (by decide) ?_
  refine z_iastore (pc := 28) hc dX0_init_28 H (fun h8 H => ?_)
  refine z_aload_n (pc := 29) hc dX0_init_29 rfl ?_
  refine z_getR (pc := 30) hc dX0_init_30 zf_RX0_15 rfl rfl rfl H (fun r9 H => ?_)
  refine z_iconst (pc := 33) hc dX0_init_33 ?_
  refine z_sipush (pc := 34) hc dX0_init_34 (by decide) ?_
  refine z_iastore (pc := 37) hc dX0_init_37 H (fun h10 H => ?_)
  refine z_aload_n (pc := 38) hc dX0_init_38 rfl ?_
  refine z_iconst (pc := 39) hc dX0_init_39 ?_
  refine z_putI (pc := 40) hc dX0_init_40 zf_RX0_18 rfl rfl rfl H (fun h11 H => ?_)
  refine z_cells (cells' := 2) (slots' := 16) (by omega) (by omega) ?_
  exact z_return (pc := 43) hc dX0_init_43 H
end
theorem metX0_init (l : Launch) (D : Zd) (base : Nat) {a0 : Nat} {h : Zm} {Q : Zm → Prop} (H : mX0_init a0 h Q) : zMet l D base yX0_init cX0_init 1 none zrX0_init [.inr (.inl a0)] h (zQv D base Q) :=
  z_met (by decide +kernel) (Nat.le_of_ble_eq_true rfl) rfl (fun p e s m args below meth c hc hn => rX0_init hc hn H)
def zrX0_copyFrom : Room := { frames := 0, cells := 0, slots := 0, locals := 0 }
def mX0_copyFrom_B2 (X2 : Int → Zm → Prop) (a0 : Nat) (a1 : Nat) (x2 : Int) (h : Zm) (Q : Zm → Prop) : Prop :=
  cLt x2 8
  (cGr h 10 a0 0 fun r3 => cGr h 10 a1 0 fun r4 => cLd h 1 r4 x2 fun v5 => cSt h r3 x2 v5 fun h6 => cGr h6 10 a0 1 fun r7 => cGr h6 10 a1 1 fun r8 => cLd h6 1 r8 x2 fun v9 => cSt h6 r7 x2 v9 fun h10 => X2 (x2 + 1) h10)
  (cGi h 10 a1 2 fun v1 => cPi h 10 a0 2 v1 fun h2 => Q h2)
def mX0_copyFrom_H2  (a0 : Nat) (a1 : Nat) (x2 : Int) (h : Zm) (Q : Zm → Prop) : Prop :=
  lfp1 (fun X2 x2 h => mX0_copyFrom_B2 X2 a0 a1 x2 h Q) x2 h
def mX0_copyFrom (a0 : Nat) (a1 : Nat) (h : Zm) (Q : Zm → Prop) : Prop :=
  mX0_copyFrom_H2  a0 a1 0 h Q
section
variable {p : Program} {l : Launch} {e : Env} {s : State} {m : MethodId} {args : Array Value} {below : List Frame} {meth : Method} {c : Code} {D : Zd} {base : Nat}
set_option maxRecDepth 100000 in
set_option maxHeartbeats 4000000 in
theorem rX0_copyFrom_B2 (hc : zOk p s m args meth c D cX0_copyFrom 3 RX0 none) {X2 : Int → Zm → Prop} {a0 : Nat} {a1 : Nat} {x2 : Int} {h : Zm} {Q : Zm → Prop} (hX2 : ∀ (x2 : Int) (h : Zm), X2 x2 h → zW p l e zrX0_copyFrom s m args below meth c D base 3 (MQ below (zQv D base Q) args s 0 0 (zFree base)) 0 0 2 [some (.inr (.inl a0)), some (.inr (.inl a1)), some (.inl x2)] [] h) (H : mX0_copyFrom_B2 X2 a0 a1 x2 h Q) : zW p l e zrX0_copyFrom s m args below meth c D base 3 (MQ below (zQv D base Q) args s 0 0 (zFree base)) 0 0 2 [some (.inr (.inl a0)), some (.inr (.inl a1)), some (.inl x2)] [] h := by
  unfold mX0_copyFrom_B2 at H
  refine z_iload_n (pc := 2) hc dX0_copyFrom_2 rfl ?_
  refine z_bipush (pc := 3) hc dX0_copyFrom_3 (by decide) ?_
  refine z_icmp_ge (tgt := 38) (pc := 5) hc dX0_copyFrom_5 rfl H (fun H => ?_) (fun H => ?_)
  · refine z_aload_n (pc := 8) hc dX0_copyFrom_8 rfl ?_
    refine z_getR (pc := 9) hc dX0_copyFrom_9 zf_RX0_9 rfl rfl rfl H (fun r3 H => ?_)
    refine z_iload_n (pc := 12) hc dX0_copyFrom_12 rfl ?_
    refine z_aload_n (pc := 13) hc dX0_copyFrom_13 rfl ?_
    refine z_getR (pc := 14) hc dX0_copyFrom_14 zf_RX0_9 rfl rfl rfl H (fun r4 H => ?_)
    refine z_iload_n (pc := 17) hc dX0_copyFrom_17 rfl ?_
    refine z_iaload (pc := 18) hc dX0_copyFrom_18 H (fun v5 H => ?_)
    refine z_iastore (pc := 19) hc dX0_copyFrom_19 H (fun h6 H => ?_)
    refine z_aload_n (pc := 20) hc dX0_copyFrom_20 rfl ?_
    refine z_getR (pc := 21) hc dX0_copyFrom_21 zf_RX0_15 rfl rfl rfl H (fun r7 H => ?_)
    refine z_iload_n (pc := 24) hc dX0_copyFrom_24 rfl ?_
    refine z_aload_n (pc := 25) hc dX0_copyFrom_25 rfl ?_
    refine z_getR (pc := 26) hc dX0_copyFrom_26 zf_RX0_15 rfl rfl rfl H (fun r8 H => ?_)
    refine z_iload_n (pc := 29) hc dX0_copyFrom_29 rfl ?_
    refine z_iaload (pc := 30) hc dX0_copyFrom_30 H (fun v9 H => ?_)
    refine z_iastore (pc := 31) hc dX0_copyFrom_31 H (fun h10 H => ?_)
    refine z_iinc (pc := 32) hc dX0_copyFrom_32 (by decide) rfl (ρ' := [some (.inr (.inl a0)), some (.inr (.inl a1)), some (.inl (x2 + 1))]) rfl rfl ?_
    refine z_goto (tgt := 2) (pc := 35) hc dX0_copyFrom_35 rfl ?_
    exact hX2 _ _ H
  · refine z_aload_n (pc := 38) hc dX0_copyFrom_38 rfl ?_
    refine z_aload_n (pc := 39) hc dX0_copyFrom_39 rfl ?_
    refine z_getI (pc := 40) hc dX0_copyFrom_40 zf_RX0_18 rfl rfl rfl H (fun v1 H => ?_)
    refine z_putI (pc := 43) hc dX0_copyFrom_43 zf_RX0_18 rfl rfl rfl H (fun h2 H => ?_)
    exact z_return (pc := 46) hc dX0_copyFrom_46 H
theorem rX0_copyFrom_H2 (hc : zOk p s m args meth c D cX0_copyFrom 3 RX0 none)  {a0 : Nat} {a1 : Nat} {x2 : Int} {h : Zm} {Q : Zm → Prop}  (H : mX0_copyFrom_H2  a0 a1 x2 h Q) : zW p l e zrX0_copyFrom s m args below meth c D base 3 (MQ below (zQv D base Q) args s 0 0 (zFree base)) 0 0 2 [some (.inr (.inl a0)), some (.inr (.inl a1)), some (.inl x2)] [] h :=
  H (fun x2 h => zW p l e zrX0_copyFrom s m args below meth c D base 3 (MQ below (zQv D base Q) args s 0 0 (zFree base)) 0 0 2 [some (.inr (.inl a0)), some (.inr (.inl a1)), some (.inl x2)] [] h) (fun x2 h H => rX0_copyFrom_B2 hc (fun _ _ q => q) H)
set_option maxRecDepth 100000 in
set_option maxHeartbeats 4000000 in
theorem rX0_copyFrom (hc : zOk p s m args meth c D cX0_copyFrom 3 RX0 none) {a0 : Nat} {a1 : Nat} {h : Zm} {Q : Zm → Prop} (H : mX0_copyFrom a0 a1 h Q) : zW p l e zrX0_copyFrom s m args below meth c D base 3 (MQ below (zQv D base Q) args s 0 0 (zFree base)) 0 0 0 [some (.inr (.inl a0)), some (.inr (.inl a1)), none] [] h := by
  unfold mX0_copyFrom at H
  refine z_iconst (pc := 0) hc dX0_copyFrom_0 ?_
  refine z_istore_n (pc := 1) hc dX0_copyFrom_1 (by decide) (ρ' := [some (.inr (.inl a0)), some (.inr (.inl a1)), some (.inl 0)]) rfl rfl ?_
  exact rX0_copyFrom_H2 hc H
end
theorem metX0_copyFrom (l : Launch) (D : Zd) (base : Nat) {a0 : Nat} {a1 : Nat} {h : Zm} {Q : Zm → Prop} (H : mX0_copyFrom a0 a1 h Q) : zMet l D base yX0_copyFrom cX0_copyFrom 3 none zrX0_copyFrom [.inr (.inl a0), .inr (.inl a1)] h (zQv D base Q) :=
  z_met (by decide +kernel) (Nat.le_of_ble_eq_true rfl) rfl (fun p e s m args below meth c hc hn => rX0_copyFrom hc H)
def zrX0_between : Room := { frames := 0, cells := 0, slots := 0, locals := 0 }
def mX0_between (a0 : Nat) (x1 : Int) (x2 : Int) (h : Zm) (Q : Int → Zm → Prop) : Prop :=
  cGr h 10 a0 1 fun r1 => cLd h 1 r1 (x1 - 1) fun v2 => cGr h 10 a0 0 fun r3 => cLd h 1 r3 x1 fun v4 => cGr h 10 a0 0 fun r5 => cLd h 1 r5 (x1 - 1) fun v6 => cLe (v4 - v6) 0
  (Q v2 h)
  (cGr h 10 a0 1 fun r7 => cLd h 1 r7 x1 fun v8 => cGr h 10 a0 0 fun r9 => cLd h 1 r9 (x1 - 1) fun v10 => cDiv ((v8 - v2) * (x2 - v10)) (v4 - v6) fun v11 => Q (v2 + v11) h)
section
variable {p : Program} {l : Launch} {e : Env} {s : State} {m : MethodId} {args : Array Value} {below : List Frame} {meth : Method} {c : Code} {D : Zd} {base : Nat}
set_option maxRecDepth 100000 in
set_option maxHeartbeats 4000000 in
theorem rX0_between (hc : zOk p s m args meth c D cX0_between 5 RX0 (some .int)) {a0 : Nat} {x1 : Int} {x2 : Int} {h : Zm} {Q : Int → Zm → Prop} (H : mX0_between a0 x1 x2 h Q) : zW p l e zrX0_between s m args below meth c D base 5 (MQ below (zQi D base Q) args s 0 0 (zFree base)) 0 0 0 [some (.inr (.inl a0)), some (.inl x1), some (.inl x2), none, none] [] h := by
  unfold mX0_between at H
  refine z_aload_n (pc := 0) hc dX0_between_0 rfl ?_
  refine z_getR (pc := 1) hc dX0_between_1 zf_RX0_15 rfl rfl rfl H (fun r1 H => ?_)
  refine z_iload_n (pc := 4) hc dX0_between_4 rfl ?_
  refine z_iconst (pc := 5) hc dX0_between_5 ?_
  refine z_isub (pc := 6) hc dX0_between_6 ?_
  refine z_iaload (pc := 7) hc dX0_between_7 H (fun v2 H => ?_)
  refine z_istore_n (pc := 8) hc dX0_between_8 (by decide) (ρ' := [some (.inr (.inl a0)), some (.inl x1), some (.inl x2), some (.inl v2), none]) rfl rfl ?_
  refine z_aload_n (pc := 9) hc dX0_between_9 rfl ?_
  refine z_getR (pc := 10) hc dX0_between_10 zf_RX0_9 rfl rfl rfl H (fun r3 H => ?_)
  refine z_iload_n (pc := 13) hc dX0_between_13 rfl ?_
  refine z_iaload (pc := 14) hc dX0_between_14 H (fun v4 H => ?_)
  refine z_aload_n (pc := 15) hc dX0_between_15 rfl ?_
  refine z_getR (pc := 16) hc dX0_between_16 zf_RX0_9 rfl rfl rfl H (fun r5 H => ?_)
  refine z_iload_n (pc := 19) hc dX0_between_19 rfl ?_
  refine z_iconst (pc := 20) hc dX0_between_20 ?_
  refine z_isub (pc := 21) hc dX0_between_21 ?_
  refine z_iaload (pc := 22) hc dX0_between_22 H (fun v6 H => ?_)
  refine z_isub (pc := 23) hc dX0_between_23 ?_
  refine z_istore (pc := 24) hc dX0_between_24 (by decide) (ρ' := [some (.inr (.inl a0)), some (.inl x1), some (.inl x2), some (.inl v2), some (.inl (v4 - v6))]) rfl rfl ?_
  refine z_iload (pc := 26) hc dX0_between_26 rfl ?_
  refine z_if_gt (tgt := 33) (pc := 28) hc dX0_between_28 rfl H (fun H => ?_) (fun H => ?_)
  · refine z_iload_n (pc := 31) hc dX0_between_31 rfl ?_
    exact z_ireturn (pc := 32) hc dX0_between_32 H
  · refine z_iload_n (pc := 33) hc dX0_between_33 rfl ?_
    refine z_aload_n (pc := 34) hc dX0_between_34 rfl ?_
    refine z_getR (pc := 35) hc dX0_between_35 zf_RX0_15 rfl rfl rfl H (fun r7 H => ?_)
    refine z_iload_n (pc := 38) hc dX0_between_38 rfl ?_
    refine z_iaload (pc := 39) hc dX0_between_39 H (fun v8 H => ?_)
    refine z_iload_n (pc := 40) hc dX0_between_40 rfl ?_
    refine z_isub (pc := 41) hc dX0_between_41 ?_
    refine z_iload_n (pc := 42) hc dX0_between_42 rfl ?_
    refine z_aload_n (pc := 43) hc dX0_between_43 rfl ?_
    refine z_getR (pc := 44) hc dX0_between_44 zf_RX0_9 rfl rfl rfl H (fun r9 H => ?_)
    refine z_iload_n (pc := 47) hc dX0_between_47 rfl ?_
    refine z_iconst (pc := 48) hc dX0_between_48 ?_
    refine z_isub (pc := 49) hc dX0_between_49 ?_
    refine z_iaload (pc := 50) hc dX0_between_50 H (fun v10 H => ?_)
    refine z_isub (pc := 51) hc dX0_between_51 ?_
    refine z_imul (pc := 52) hc dX0_between_52 ?_
    refine z_iload (pc := 53) hc dX0_between_53 rfl ?_
    refine z_idiv (pc := 55) hc dX0_between_55 H (fun v11 H => ?_)
    refine z_iadd (pc := 56) hc dX0_between_56 ?_
    exact z_ireturn (pc := 57) hc dX0_between_57 H
end
theorem metX0_between (l : Launch) (D : Zd) (base : Nat) {a0 : Nat} {x1 : Int} {x2 : Int} {h : Zm} {Q : Int → Zm → Prop} (H : mX0_between a0 x1 x2 h Q) : zMet l D base yX0_between cX0_between 5 (some .int) zrX0_between [.inr (.inl a0), .inl x1, .inl x2] h (zQi D base Q) :=
  z_met (by decide +kernel) (Nat.le_of_ble_eq_true rfl) rfl (fun p e s m args below meth c hc hn => rX0_between hc H)
def zrX0_valueAt : Room := { frames := 1, cells := 0, slots := 0, locals := 24 }
def mX0_valueAt_B2 (X2 : Int → Zm → Prop) (a0 : Nat) (x1 : Int) (x2 : Int) (h : Zm) (Q : Int → Zm → Prop) : Prop :=
  cGi h 10 a0 2 fun v1 => cLt x2 v1
  (cGr h 10 a0 0 fun r5 => cLd h 1 r5 x2 fun v6 => cLe x1 v6
    (cRc h 10 a0 <| mX0_between a0 x2 x1 h fun v8 h7 => Q v8 h7)
    (X2 (x2 + 1) h))
  (cGr h 10 a0 1 fun r2 => cGi h 10 a0 2 fun v3 => cLd h 1 r2 (v3 - 1) fun v4 => Q v4 h)
def mX0_valueAt_H2  (a0 : Nat) (x1 : Int) (x2 : Int) (h : Zm) (Q : Int → Zm → Prop) : Prop :=
  lfp1 (fun X2 x2 h => mX0_valueAt_B2 X2 a0 x1 x2 h Q) x2 h
def mX0_valueAt (a0 : Nat) (x1 : Int) (h : Zm) (Q : Int → Zm → Prop) : Prop :=
  mX0_valueAt_H2  a0 x1 1 h Q
section
variable {p : Program} {l : Launch} {e : Env} {s : State} {m : MethodId} {args : Array Value} {below : List Frame} {meth : Method} {c : Code} {D : Zd} {base : Nat}
set_option maxRecDepth 100000 in
set_option maxHeartbeats 4000000 in
theorem rX0_valueAt_B2 (hc : zOk p s m args meth c D cX0_valueAt 3 RX0 (some .int)) {X2 : Int → Zm → Prop} {a0 : Nat} {x1 : Int} {x2 : Int} {h : Zm} {Q : Int → Zm → Prop} (hX2 : ∀ (x2 : Int) (h : Zm), X2 x2 h → zW p l e zrX0_valueAt s m args below meth c D base 3 (MQ below (zQi D base Q) args s 0 0 (zFree base)) 0 0 2 [some (.inr (.inl a0)), some (.inl x1), some (.inl x2)] [] h) (H : mX0_valueAt_B2 X2 a0 x1 x2 h Q) : zW p l e zrX0_valueAt s m args below meth c D base 3 (MQ below (zQi D base Q) args s 0 0 (zFree base)) 0 0 2 [some (.inr (.inl a0)), some (.inl x1), some (.inl x2)] [] h := by
  unfold mX0_valueAt_B2 at H
  refine z_iload_n (pc := 2) hc dX0_valueAt_2 rfl ?_
  refine z_aload_n (pc := 3) hc dX0_valueAt_3 rfl ?_
  refine z_getI (pc := 4) hc dX0_valueAt_4 zf_RX0_18 rfl rfl rfl H (fun v1 H => ?_)
  refine z_icmp_ge (tgt := 33) (pc := 7) hc dX0_valueAt_7 rfl H (fun H => ?_) (fun H => ?_)
  · refine z_iload_n (pc := 10) hc dX0_valueAt_10 rfl ?_
    refine z_aload_n (pc := 11) hc dX0_valueAt_11 rfl ?_
    refine z_getR (pc := 12) hc dX0_valueAt_12 zf_RX0_9 rfl rfl rfl H (fun r5 H => ?_)
    refine z_iload_n (pc := 15) hc dX0_valueAt_15 rfl ?_
    refine z_iaload (pc := 16) hc dX0_valueAt_16 H (fun v6 H => ?_)
    refine z_icmp_gt (tgt := 27) (pc := 17) hc dX0_valueAt_17 rfl H (fun H => ?_) (fun H => ?_)
    · refine z_aload_n (pc := 20) hc dX0_valueAt_20 rfl ?_
      refine z_iload_n (pc := 21) hc dX0_valueAt_21 rfl ?_
      refine z_iload_n (pc := 22) hc dX0_valueAt_22 rfl ?_
      refine z_calI (z_runV (pc := 23) (ci := 0) (T := TX0) (N := 3) hc dX0_valueAt_23 zw_RX0_29 (metX0_between _ _ _ H.2) rfl (Nat.le_of_ble_eq_true rfl) ⟨Nat.le_of_ble_eq_true rfl, Nat.le_of_ble_eq_true rfl⟩ ⟨by exact Nat.le_of_ble_eq_true rfl, by exact Nat.le_of_ble_eq_true rfl⟩ rfl H.1) rfl ⟨rfl, rfl⟩ (fun v8 h7 H => ?_)
      exact z_ireturn (pc := 26) hc dX0_valueAt_26 H
    · refine z_iinc (pc := 27) hc dX0_valueAt_27 (by decide) rfl (ρ' := [some (.inr (.inl a0)), some (.inl x1), some (.inl (x2 + 1))]) rfl rfl ?_
      refine z_goto (tgt := 2) (pc := 30) hc dX0_valueAt_30 rfl ?_
      exact hX2 _ _ H
  · refine z_aload_n (pc := 33) hc dX0_valueAt_33 rfl ?_
    refine z_getR (pc := 34) hc dX0_valueAt_34 zf_RX0_15 rfl rfl rfl H (fun r2 H => ?_)
    refine z_aload_n (pc := 37) hc dX0_valueAt_37 rfl ?_
    refine z_getI (pc := 38) hc dX0_valueAt_38 zf_RX0_18 rfl rfl rfl H (fun v3 H => ?_)
    refine z_iconst (pc := 41) hc dX0_valueAt_41 ?_
    refine z_isub (pc := 42) hc dX0_valueAt_42 ?_
    refine z_iaload (pc := 43) hc dX0_valueAt_43 H (fun v4 H => ?_)
    exact z_ireturn (pc := 44) hc dX0_valueAt_44 H
theorem rX0_valueAt_H2 (hc : zOk p s m args meth c D cX0_valueAt 3 RX0 (some .int))  {a0 : Nat} {x1 : Int} {x2 : Int} {h : Zm} {Q : Int → Zm → Prop}  (H : mX0_valueAt_H2  a0 x1 x2 h Q) : zW p l e zrX0_valueAt s m args below meth c D base 3 (MQ below (zQi D base Q) args s 0 0 (zFree base)) 0 0 2 [some (.inr (.inl a0)), some (.inl x1), some (.inl x2)] [] h :=
  H (fun x2 h => zW p l e zrX0_valueAt s m args below meth c D base 3 (MQ below (zQi D base Q) args s 0 0 (zFree base)) 0 0 2 [some (.inr (.inl a0)), some (.inl x1), some (.inl x2)] [] h) (fun x2 h H => rX0_valueAt_B2 hc (fun _ _ q => q) H)
set_option maxRecDepth 100000 in
set_option maxHeartbeats 4000000 in
theorem rX0_valueAt (hc : zOk p s m args meth c D cX0_valueAt 3 RX0 (some .int)) {a0 : Nat} {x1 : Int} {h : Zm} {Q : Int → Zm → Prop} (H : mX0_valueAt a0 x1 h Q) : zW p l e zrX0_valueAt s m args below meth c D base 3 (MQ below (zQi D base Q) args s 0 0 (zFree base)) 0 0 0 [some (.inr (.inl a0)), some (.inl x1), none] [] h := by
  unfold mX0_valueAt at H
  refine z_iconst (pc := 0) hc dX0_valueAt_0 ?_
  refine z_istore_n (pc := 1) hc dX0_valueAt_1 (by decide) (ρ' := [some (.inr (.inl a0)), some (.inl x1), some (.inl 1)]) rfl rfl ?_
  exact rX0_valueAt_H2 hc H
end
theorem metX0_valueAt (l : Launch) (D : Zd) (base : Nat) {a0 : Nat} {x1 : Int} {h : Zm} {Q : Int → Zm → Prop} (H : mX0_valueAt a0 x1 h Q) : zMet l D base yX0_valueAt cX0_valueAt 3 (some .int) zrX0_valueAt [.inr (.inl a0), .inl x1] h (zQi D base Q) :=
  z_met (by decide +kernel) (Nat.le_of_ble_eq_true rfl) rfl (fun p e s m args below meth c hc hn => rX0_valueAt hc H)
def zrX1_init : Room := { frames := 1, cells := 145, slots := 1440, locals := 20 }
def mX1_init (a0 : Nat) (h : Zm) (Q : Zm → Prop) : Prop :=
  cRc h 11 a0 <| cNw2 h 144 9 fun r1 h2 => cPr h2 11 a0 0 r1 fun h3 => cPi h3 11 a0 1 0 fun h4 => Q h4
section
variable {p : Program} {l : Launch} {e : Env} {s : State} {m : MethodId} {args : Array Value} {below : List Frame} {meth : Method} {c : Code} {D : Zd} {base : Nat}
set_option maxRecDepth 100000 in
set_option maxHeartbeats 4000000 in
theorem rX1_init (hc : zOk p s m args meth c D cX1_init 1 RX1 none) (hin : meth.name = "<init>") {a0 : Nat} {h : Zm} {Q : Zm → Prop} (H : mX1_init a0 h Q) : zW p l e zrX1_init s m args below meth c D base 1 (MQ below (zQv D base Q) args s 145 1440 (zFree base)) 0 0 0 [some (.inr (.inl a0))] [] h := by
  unfold mX1_init at H
  refine z_aload_n (pc := 0) hc dX1_init_0 rfl ?_
  refine z_objInit (pc := 1) hc dX1_init_1 (zT_mem 228 (by decide +kernel) rfl) (zT_mem 20 (by decide +kernel) rfl) (zT_mem 21 (by decide +kernel) rfl) (by decide) (by decide) (Nat.le_of_ble_eq_true rfl) (d := 11) (by decide) H (fun H => ?_)
  refine z_aload_n (pc := 4) hc dX1_init_4 rfl ?_
  refine z_sipush (pc := 5) hc dX1_init_5 (by decide) ?_
  refine z_bipush (pc := 8) hc dX1_init_8 (by decide) ?_
  refine z_mna (pc := 10) (n := 144) (k := 9) hc dX1_init_10 (zT_mem 229 (by decide +kernel) rfl) (zT_mem 129 (by decide +kernel) rfl) (by decide) (by decide) (by exact Nat.le_of_ble_eq_true rfl) (by exact Nat.le_of_ble_eq_true rfl) H (fun r1 h2 H => ?_)
  refine z_putR (pc := 14) hc dX1_init_14 zf_RX1_11 rfl rfl rfl hin (fun C T N q => by cases q; rfl) H (fun h3 H => ?_)
  refine z_aload_n (pc := 17) hc dX1_init_17 rfl ?_
  refine z_iconst (pc := 18) hc dX1_init_18 ?_
  refine z_putI (pc := 19) hc dX1_init_19 zf_RX1_16 rfl rfl rfl H (fun h4 H => ?_)
  refine z_cells (cells' := 145) (slots' := 1440) (by omega) (by omega) ?_
  exact z_return (pc := 22) hc dX1_init_22 H
end
theorem metX1_init (l : Launch) (D : Zd) (base : Nat) {a0 : Nat} {h : Zm} {Q : Zm → Prop} (H : mX1_init a0 h Q) : zMet l D base yX1_init cX1_init 1 none zrX1_init [.inr (.inl a0)] h (zQv D base Q) :=
  z_met (by decide +kernel) (Nat.le_of_ble_eq_true rfl) rfl (fun p e s m args below meth c hc hn => rX1_init hc hn H)
def zrX2_init : Room := { frames := 1, cells := 0, slots := 0, locals := 20 }
def mX2_init (a0 : Nat) (h : Zm) (Q : Zm → Prop) : Prop :=
  cRc h 12 a0 <| cPi h 12 a0 0 (-1) fun h1 => cPi h1 12 a0 1 (-1) fun h2 => cPi h2 12 a0 11 1 fun h3 => cPi h3 12 a0 12 1 fun h4 => Q h4
section
variable {p : Program} {l : Launch} {e : Env} {s : State} {m : MethodId} {args : Array Value} {below : List Frame} {meth : Method} {c : Code} {D : Zd} {base : Nat}
set_option maxRecDepth 100000 in
set_option maxHeartbeats 4000000 in
theorem rX2_init (hc : zOk p s m args meth c D cX2_init 1 RX2 none) (hin : meth.name = "<init>") {a0 : Nat} {h : Zm} {Q : Zm → Prop} (H : mX2_init a0 h Q) : zW p l e zrX2_init s m args below meth c D base 1 (MQ below (zQv D base Q) args s 0 0 (zFree base)) 0 0 0 [some (.inr (.inl a0))] [] h := by
  unfold mX2_init at H
  refine z_aload_n (pc := 0) hc dX2_init_0 rfl ?_
  refine z_objInit (pc := 1) hc dX2_init_1 (zT_mem 40 (by decide +kernel) rfl) (zT_mem 20 (by decide +kernel) rfl) (zT_mem 21 (by decide +kernel) rfl) (by decide) (by decide) (Nat.le_of_ble_eq_true rfl) (d := 12) (by decide) H (fun H => ?_)
  refine z_aload_n (pc := 4) hc dX2_init_4 rfl ?_
  refine z_iconst (pc := 5) hc dX2_init_5 ?_
  refine z_putI (pc := 6) hc dX2_init_6 zf_RX2_9 rfl rfl rfl H (fun h1 H => ?_)
  refine z_aload_n (pc := 9) hc dX2_init_9 rfl ?_
  refine z_iconst (pc := 10) hc dX2_init_10 ?_
  refine z_putI (pc := 11) hc dX2_init_11 zf_RX2_15 rfl rfl rfl H (fun h2 H => ?_)
  refine z_aload_n (pc := 14) hc dX2_init_14 rfl ?_
  refine z_iconst (pc := 15) hc dX2_init_15 ?_
  refine z_putI (pc := 16) hc dX2_init_16 zf_RX2_18 rfl rfl rfl H (fun h3 H => ?_)
  refine z_aload_n (pc := 19) hc dX2_init_19 rfl ?_
  refine z_iconst (pc := 20) hc dX2_init_20 ?_
  refine z_putI (pc := 21) hc dX2_init_21 zf_RX2_21 rfl rfl rfl H (fun h4 H => ?_)
  refine z_cells (cells' := 0) (slots' := 0) (by omega) (by omega) ?_
  exact z_return (pc := 24) hc dX2_init_24 H
end
theorem metX2_init (l : Launch) (D : Zd) (base : Nat) {a0 : Nat} {h : Zm} {Q : Zm → Prop} (H : mX2_init a0 h Q) : zMet l D base yX2_init cX2_init 1 none zrX2_init [.inr (.inl a0)] h (zQv D base Q) :=
  z_met (by decide +kernel) (Nat.le_of_ble_eq_true rfl) rfl (fun p e s m args below meth c hc hn => rX2_init hc hn H)
def zrX2_takeBox : Room := { frames := 0, cells := 0, slots := 0, locals := 0 }
def mX2_takeBox (a0 : Nat) (a1 : Nat) (h : Zm) (Q : Zm → Prop) : Prop :=
  cGi h 12 a1 9 fun v1 => cPi h 12 a0 9 v1 fun h2 => cGi h2 12 a1 10 fun v3 => cPi h2 12 a0 10 v3 fun h4 => cGi h4 12 a1 11 fun v5 => cPi h4 12 a0 11 v5 fun h6 => cGi h6 12 a1 12 fun v7 => cPi h6 12 a0 12 v7 fun h8 => Q h8
section
variable {p : Program} {l : Launch} {e : Env} {s : State} {m : MethodId} {args : Array Value} {below : List Frame} {meth : Method} {c : Code} {D : Zd} {base : Nat}
set_option maxRecDepth 100000 in
set_option maxHeartbeats 4000000 in
theorem rX2_takeBox (hc : zOk p s m args meth c D cX2_takeBox 2 RX2 none) {a0 : Nat} {a1 : Nat} {h : Zm} {Q : Zm → Prop} (H : mX2_takeBox a0 a1 h Q) : zW p l e zrX2_takeBox s m args below meth c D base 2 (MQ below (zQv D base Q) args s 0 0 (zFree base)) 0 0 0 [some (.inr (.inl a0)), some (.inr (.inl a1))] [] h := by
  unfold mX2_takeBox at H
  refine z_aload_n (pc := 0) hc dX2_takeBox_0 rfl ?_
  refine z_aload_n (pc := 1) hc dX2_takeBox_1 rfl ?_
  refine z_getI (pc := 2) hc dX2_takeBox_2 zf_RX2_24 rfl rfl rfl H (fun v1 H => ?_)
  refine z_putI (pc := 5) hc dX2_takeBox_5 zf_RX2_24 rfl rfl rfl H (fun h2 H => ?_)
  refine z_aload_n (pc := 8) hc dX2_takeBox_8 rfl ?_
  refine z_aload_n (pc := 9) hc dX2_takeBox_9 rfl ?_
  refine z_getI (pc := 10) hc dX2_takeBox_10 zf_RX2_27 rfl rfl rfl H (fun v3 H => ?_)
  refine z_putI (pc := 13) hc dX2_takeBox_13 zf_RX2_27 rfl rfl rfl H (fun h4 H => ?_)
  refine z_aload_n (pc := 16) hc dX2_takeBox_16 rfl ?_
  refine z_aload_n (pc := 17) hc dX2_takeBox_17 rfl ?_
  refine z_getI (pc := 18) hc dX2_takeBox_18 zf_RX2_18 rfl rfl rfl H (fun v5 H => ?_)
  refine z_putI (pc := 21) hc dX2_takeBox_21 zf_RX2_18 rfl rfl rfl H (fun h6 H => ?_)
  refine z_aload_n (pc := 24) hc dX2_takeBox_24 rfl ?_
  refine z_aload_n (pc := 25) hc dX2_takeBox_25 rfl ?_
  refine z_getI (pc := 26) hc dX2_takeBox_26 zf_RX2_21 rfl rfl rfl H (fun v7 H => ?_)
  refine z_putI (pc := 29) hc dX2_takeBox_29 zf_RX2_21 rfl rfl rfl H (fun h8 H => ?_)
  exact z_return (pc := 32) hc dX2_takeBox_32 H
end
theorem metX2_takeBox (l : Launch) (D : Zd) (base : Nat) {a0 : Nat} {a1 : Nat} {h : Zm} {Q : Zm → Prop} (H : mX2_takeBox a0 a1 h Q) : zMet l D base yX2_takeBox cX2_takeBox 2 none zrX2_takeBox [.inr (.inl a0), .inr (.inl a1)] h (zQv D base Q) :=
  z_met (by decide +kernel) (Nat.le_of_ble_eq_true rfl) rfl (fun p e s m args below meth c hc hn => rX2_takeBox hc H)
def zrX2_takeColor : Room := { frames := 0, cells := 0, slots := 0, locals := 0 }
def mX2_takeColor (a0 : Nat) (a1 : Nat) (h : Zm) (Q : Zm → Prop) : Prop :=
  cGi h 12 a1 13 fun v1 => cPi h 12 a0 13 v1 fun h2 => cGi h2 12 a1 14 fun v3 => cPi h2 12 a0 14 v3 fun h4 => cGi h4 12 a1 15 fun v5 => cPi h4 12 a0 15 v5 fun h6 => Q h6
section
variable {p : Program} {l : Launch} {e : Env} {s : State} {m : MethodId} {args : Array Value} {below : List Frame} {meth : Method} {c : Code} {D : Zd} {base : Nat}
set_option maxRecDepth 100000 in
set_option maxHeartbeats 4000000 in
theorem rX2_takeColor (hc : zOk p s m args meth c D cX2_takeColor 2 RX2 none) {a0 : Nat} {a1 : Nat} {h : Zm} {Q : Zm → Prop} (H : mX2_takeColor a0 a1 h Q) : zW p l e zrX2_takeColor s m args below meth c D base 2 (MQ below (zQv D base Q) args s 0 0 (zFree base)) 0 0 0 [some (.inr (.inl a0)), some (.inr (.inl a1))] [] h := by
  unfold mX2_takeColor at H
  refine z_aload_n (pc := 0) hc dX2_takeColor_0 rfl ?_
  refine z_aload_n (pc := 1) hc dX2_takeColor_1 rfl ?_
  refine z_getI (pc := 2) hc dX2_takeColor_2 zf_RX2_30 rfl rfl rfl H (fun v1 H => ?_)
  refine z_putI (pc := 5) hc dX2_takeColor_5 zf_RX2_30 rfl rfl rfl H (fun h2 H => ?_)
  refine z_aload_n (pc := 8) hc dX2_takeColor_8 rfl ?_
  refine z_aload_n (pc := 9) hc dX2_takeColor_9 rfl ?_
  refine z_getI (pc := 10) hc dX2_takeColor_10 zf_RX2_33 rfl rfl rfl H (fun v3 H => ?_)
  refine z_putI (pc := 13) hc dX2_takeColor_13 zf_RX2_33 rfl rfl rfl H (fun h4 H => ?_)
  refine z_aload_n (pc := 16) hc dX2_takeColor_16 rfl ?_
  refine z_aload_n (pc := 17) hc dX2_takeColor_17 rfl ?_
  refine z_getI (pc := 18) hc dX2_takeColor_18 zf_RX2_36 rfl rfl rfl H (fun v5 H => ?_)
  refine z_putI (pc := 21) hc dX2_takeColor_21 zf_RX2_36 rfl rfl rfl H (fun h6 H => ?_)
  exact z_return (pc := 24) hc dX2_takeColor_24 H
end
theorem metX2_takeColor (l : Launch) (D : Zd) (base : Nat) {a0 : Nat} {a1 : Nat} {h : Zm} {Q : Zm → Prop} (H : mX2_takeColor a0 a1 h Q) : zMet l D base yX2_takeColor cX2_takeColor 2 none zrX2_takeColor [.inr (.inl a0), .inr (.inl a1)] h (zQv D base Q) :=
  z_met (by decide +kernel) (Nat.le_of_ble_eq_true rfl) rfl (fun p e s m args below meth c hc hn => rX2_takeColor hc H)
def zrX2_copyFrom : Room := { frames := 1, cells := 0, slots := 0, locals := 21 }
def mX2_copyFrom (a0 : Nat) (a1 : Nat) (h : Zm) (Q : Zm → Prop) : Prop :=
  cGi h 12 a1 0 fun v1 => cPi h 12 a0 0 v1 fun h2 => cGi h2 12 a1 1 fun v3 => cPi h2 12 a0 1 v3 fun h4 => cGi h4 12 a1 2 fun v5 => cPi h4 12 a0 2 v5 fun h6 => cGi h6 12 a1 3 fun v7 => cPi h6 12 a0 3 v7 fun h8 => cGi h8 12 a1 4 fun v9 => cPi h8 12 a0 4 v9 fun h10 => cGi h10 12 a1 5 fun v11 => cPi h10 12 a0 5 v11 fun h12 => cGi h12 12 a1 6 fun v13 => cPi h12 12 a0 6 v13 fun h14 => cGi h14 12 a1 7 fun v15 => cPi h14 12 a0 7 v15 fun h16 => cGi h16 12 a1 8 fun v17 => cPi h16 12 a0 8 v17 fun h18 => cRc h18 12 a0 <| mX2_takeBox a0 a1 h18 fun h19 => cRc h19 12 a0 <| mX2_takeColor a0 a1 h19 fun h20 => cGi h20 12 a1 16 fun v21 => cPi h20 12 a0 16 v21 fun h22 => cGi h22 12 a1 17 fun v23 => cPi h22 12 a0 17 v23 fun h24 => Q h24
section
variable {p : Program} {l : Launch} {e : Env} {s : State} {m : MethodId} {args : Array Value} {below : List Frame} {meth : Method} {c : Code} {D : Zd} {base : Nat}
set_option maxRecDepth 100000 in
set_option maxHeartbeats 4000000 in
theorem rX2_copyFrom (hc : zOk p s m args meth c D cX2_copyFrom 2 RX2 none) {a0 : Nat} {a1 : Nat} {h : Zm} {Q : Zm → Prop} (H : mX2_copyFrom a0 a1 h Q) : zW p l e zrX2_copyFrom s m args below meth c D base 2 (MQ below (zQv D base Q) args s 0 0 (zFree base)) 0 0 0 [some (.inr (.inl a0)), some (.inr (.inl a1))] [] h := by
  unfold mX2_copyFrom at H
  refine z_aload_n (pc := 0) hc dX2_copyFrom_0 rfl ?_
  refine z_aload_n (pc := 1) hc dX2_copyFrom_1 rfl ?_
  refine z_getI (pc := 2) hc dX2_copyFrom_2 zf_RX2_9 rfl rfl rfl H (fun v1 H => ?_)
  refine z_putI (pc := 5) hc dX2_copyFrom_5 zf_RX2_9 rfl rfl rfl H (fun h2 H => ?_)
  refine z_aload_n (pc := 8) hc dX2_copyFrom_8 rfl ?_
  refine z_aload_n (pc := 9) hc dX2_copyFrom_9 rfl ?_
  refine z_getI (pc := 10) hc dX2_copyFrom_10 zf_RX2_15 rfl rfl rfl H (fun v3 H => ?_)
  refine z_putI (pc := 13) hc dX2_copyFrom_13 zf_RX2_15 rfl rfl rfl H (fun h4 H => ?_)
  refine z_aload_n (pc := 16) hc dX2_copyFrom_16 rfl ?_
  refine z_aload_n (pc := 17) hc dX2_copyFrom_17 rfl ?_
  refine z_getI (pc := 18) hc dX2_copyFrom_18 zf_RX2_39 rfl rfl rfl H (fun v5 H => ?_)
  refine z_putI (pc := 21) hc dX2_copyFrom_21 zf_RX2_39 rfl rfl rfl H (fun h6 H => ?_)
  refine z_aload_n (pc := 24) hc dX2_copyFrom_24 rfl ?_
  refine z_aload_n (pc := 25) hc dX2_copyFrom_25 rfl ?_
  refine z_getI (pc := 26) hc dX2_copyFrom_26 zf_RX2_42 rfl rfl rfl H (fun v7 H => ?_)
  refine z_putI (pc := 29) hc dX2_copyFrom_29 zf_RX2_42 rfl rfl rfl H (fun h8 H => ?_)
  refine z_aload_n (pc := 32) hc dX2_copyFrom_32 rfl ?_
  refine z_aload_n (pc := 33) hc dX2_copyFrom_33 rfl ?_
  refine z_getI (pc := 34) hc dX2_copyFrom_34 zf_RX2_45 rfl rfl rfl H (fun v9 H => ?_)
  refine z_putI (pc := 37) hc dX2_copyFrom_37 zf_RX2_45 rfl rfl rfl H (fun h10 H => ?_)
  refine z_aload_n (pc := 40) hc dX2_copyFrom_40 rfl ?_
  refine z_aload_n (pc := 41) hc dX2_copyFrom_41 rfl ?_
  refine z_getI (pc := 42) hc dX2_copyFrom_42 zf_RX2_48 rfl rfl rfl H (fun v11 H => ?_)
  refine z_putI (pc := 45) hc dX2_copyFrom_45 zf_RX2_48 rfl rfl rfl H (fun h12 H => ?_)
  refine z_aload_n (pc := 48) hc dX2_copyFrom_48 rfl ?_
  refine z_aload_n (pc := 49) hc dX2_copyFrom_49 rfl ?_
  refine z_getI (pc := 50) hc dX2_copyFrom_50 zf_RX2_51 rfl rfl rfl H (fun v13 H => ?_)
  refine z_putI (pc := 53) hc dX2_copyFrom_53 zf_RX2_51 rfl rfl rfl H (fun h14 H => ?_)
  refine z_aload_n (pc := 56) hc dX2_copyFrom_56 rfl ?_
  refine z_aload_n (pc := 57) hc dX2_copyFrom_57 rfl ?_
  refine z_getI (pc := 58) hc dX2_copyFrom_58 zf_RX2_54 rfl rfl rfl H (fun v15 H => ?_)
  refine z_putI (pc := 61) hc dX2_copyFrom_61 zf_RX2_54 rfl rfl rfl H (fun h16 H => ?_)
  refine z_aload_n (pc := 64) hc dX2_copyFrom_64 rfl ?_
  refine z_aload_n (pc := 65) hc dX2_copyFrom_65 rfl ?_
  refine z_getI (pc := 66) hc dX2_copyFrom_66 zf_RX2_57 rfl rfl rfl H (fun v17 H => ?_)
  refine z_putI (pc := 69) hc dX2_copyFrom_69 zf_RX2_57 rfl rfl rfl H (fun h18 H => ?_)
  refine z_aload_n (pc := 72) hc dX2_copyFrom_72 rfl ?_
  refine z_aload_n (pc := 73) hc dX2_copyFrom_73 rfl ?_
  refine z_calV0 (z_runV (pc := 74) (ci := 2) (T := TX2) (N := 18) hc dX2_copyFrom_74 zw_RX2_60 (metX2_takeBox _ _ _ H.2) rfl (Nat.le_of_ble_eq_true rfl) ⟨Nat.le_of_ble_eq_true rfl, Nat.le_of_ble_eq_true rfl⟩ ⟨by exact Nat.le_of_ble_eq_true rfl, by exact Nat.le_of_ble_eq_true rfl⟩ rfl H.1) rfl ⟨rfl, rfl⟩ (fun h19 H => ?_)
  refine z_aload_n (pc := 77) hc dX2_copyFrom_77 rfl ?_
  refine z_aload_n (pc := 78) hc dX2_copyFrom_78 rfl ?_
  refine z_calV0 (z_runV (pc := 79) (ci := 2) (T := TX2) (N := 18) hc dX2_copyFrom_79 zw_RX2_64 (metX2_takeColor _ _ _ H.2) rfl (Nat.le_of_ble_eq_true rfl) ⟨Nat.le_of_ble_eq_true rfl, Nat.le_of_ble_eq_true rfl⟩ ⟨by exact Nat.le_of_ble_eq_true rfl, by exact Nat.le_of_ble_eq_true rfl⟩ rfl H.1) rfl ⟨rfl, rfl⟩ (fun h20 H => ?_)
  refine z_aload_n (pc := 82) hc dX2_copyFrom_82 rfl ?_
  refine z_aload_n (pc := 83) hc dX2_copyFrom_83 rfl ?_
  refine z_getI (pc := 84) hc dX2_copyFrom_84 zf_RX2_67 rfl rfl rfl H (fun v21 H => ?_)
  refine z_putI (pc := 87) hc dX2_copyFrom_87 zf_RX2_67 rfl rfl rfl H (fun h22 H => ?_)
  refine z_aload_n (pc := 90) hc dX2_copyFrom_90 rfl ?_
  refine z_aload_n (pc := 91) hc dX2_copyFrom_91 rfl ?_
  refine z_getI (pc := 92) hc dX2_copyFrom_92 zf_RX2_70 rfl rfl rfl H (fun v23 H => ?_)
  refine z_putI (pc := 95) hc dX2_copyFrom_95 zf_RX2_70 rfl rfl rfl H (fun h24 H => ?_)
  exact z_return (pc := 98) hc dX2_copyFrom_98 H
end
theorem metX2_copyFrom (l : Launch) (D : Zd) (base : Nat) {a0 : Nat} {a1 : Nat} {h : Zm} {Q : Zm → Prop} (H : mX2_copyFrom a0 a1 h Q) : zMet l D base yX2_copyFrom cX2_copyFrom 2 none zrX2_copyFrom [.inr (.inl a0), .inr (.inl a1)] h (zQv D base Q) :=
  z_met (by decide +kernel) (Nat.le_of_ble_eq_true rfl) rfl (fun p e s m args below meth c hc hn => rX2_copyFrom hc H)
def zrX2_settleBelow : Room := { frames := 0, cells := 0, slots := 0, locals := 0 }
def mX2_settleBelow (a0 : Nat) (a1 : Nat) (h : Zm) (Q : Zm → Prop) : Prop :=
  cGi h 12 a1 2 fun v1 => cPi h 12 a0 2 (v1 + 1) fun h2 => cGi h2 12 a1 6 fun v3 => cGi h2 12 a0 3 fun v4 => cDiv (v3 * v4) 100 fun v5 => cPi h2 12 a0 6 v5 fun h6 => cGi h6 12 a1 7 fun v7 => cGi h6 12 a0 4 fun v8 => cPi h6 12 a0 7 (v7 + v8) fun h9 => cGi h9 12 a1 8 fun v10 => cGi h9 12 a0 5 fun v11 => cPi h9 12 a0 8 (v10 + v11) fun h12 => Q h12
section
variable {p : Program} {l : Launch} {e : Env} {s : State} {m : MethodId} {args : Array Value} {below : List Frame} {meth : Method} {c : Code} {D : Zd} {base : Nat}
set_option maxRecDepth 100000 in
set_option maxHeartbeats 4000000 in
theorem rX2_settleBelow (hc : zOk p s m args meth c D cX2_settleBelow 2 RX2 none) {a0 : Nat} {a1 : Nat} {h : Zm} {Q : Zm → Prop} (H : mX2_settleBelow a0 a1 h Q) : zW p l e zrX2_settleBelow s m args below meth c D base 2 (MQ below (zQv D base Q) args s 0 0 (zFree base)) 0 0 0 [some (.inr (.inl a0)), some (.inr (.inl a1))] [] h := by
  unfold mX2_settleBelow at H
  refine z_aload_n (pc := 0) hc dX2_settleBelow_0 rfl ?_
  refine z_aload_n (pc := 1) hc dX2_settleBelow_1 rfl ?_
  refine z_getI (pc := 2) hc dX2_settleBelow_2 zf_RX2_39 rfl rfl rfl H (fun v1 H => ?_)
  refine z_iconst (pc := 5) hc dX2_settleBelow_5 ?_
  refine z_iadd (pc := 6) hc dX2_settleBelow_6 ?_
  refine z_putI (pc := 7) hc dX2_settleBelow_7 zf_RX2_39 rfl rfl rfl H (fun h2 H => ?_)
  refine z_aload_n (pc := 10) hc dX2_settleBelow_10 rfl ?_
  refine z_aload_n (pc := 11) hc dX2_settleBelow_11 rfl ?_
  refine z_getI (pc := 12) hc dX2_settleBelow_12 zf_RX2_51 rfl rfl rfl H (fun v3 H => ?_)
  refine z_aload_n (pc := 15) hc dX2_settleBelow_15 rfl ?_
  refine z_getI (pc := 16) hc dX2_settleBelow_16 zf_RX2_42 rfl rfl rfl H (fun v4 H => ?_)
  refine z_imul (pc := 19) hc dX2_settleBelow_19 ?_
  refine z_bipush (pc := 20) hc dX2_settleBelow_20 (by decide) ?_
  refine z_idiv (pc := 22) hc dX2_settleBelow_22 H (fun v5 H => ?_)
  refine z_putI (pc := 23) hc dX2_settleBelow_23 zf_RX2_51 rfl rfl rfl H (fun h6 H => ?_)
  refine z_aload_n (pc := 26) hc dX2_settleBelow_26 rfl ?_
  refine z_aload_n (pc := 27) hc dX2_settleBelow_27 rfl ?_
  refine z_getI (pc := 28) hc dX2_settleBelow_28 zf_RX2_54 rfl rfl rfl H (fun v7 H => ?_)
  refine z_aload_n (pc := 31) hc dX2_settleBelow_31 rfl ?_
  refine z_getI (pc := 32) hc dX2_settleBelow_32 zf_RX2_45 rfl rfl rfl H (fun v8 H => ?_)
  refine z_iadd (pc := 35) hc dX2_settleBelow_35 ?_
  refine z_putI (pc := 36) hc dX2_settleBelow_36 zf_RX2_54 rfl rfl rfl H (fun h9 H => ?_)
  refine z_aload_n (pc := 39) hc dX2_settleBelow_39 rfl ?_
  refine z_aload_n (pc := 40) hc dX2_settleBelow_40 rfl ?_
  refine z_getI (pc := 41) hc dX2_settleBelow_41 zf_RX2_57 rfl rfl rfl H (fun v10 H => ?_)
  refine z_aload_n (pc := 44) hc dX2_settleBelow_44 rfl ?_
  refine z_getI (pc := 45) hc dX2_settleBelow_45 zf_RX2_48 rfl rfl rfl H (fun v11 H => ?_)
  refine z_iadd (pc := 48) hc dX2_settleBelow_48 ?_
  refine z_putI (pc := 49) hc dX2_settleBelow_49 zf_RX2_57 rfl rfl rfl H (fun h12 H => ?_)
  exact z_return (pc := 52) hc dX2_settleBelow_52 H
end
theorem metX2_settleBelow (l : Launch) (D : Zd) (base : Nat) {a0 : Nat} {a1 : Nat} {h : Zm} {Q : Zm → Prop} (H : mX2_settleBelow a0 a1 h Q) : zMet l D base yX2_settleBelow cX2_settleBelow 2 none zrX2_settleBelow [.inr (.inl a0), .inr (.inl a1)] h (zQv D base Q) :=
  z_met (by decide +kernel) (Nat.le_of_ble_eq_true rfl) rfl (fun p e s m args below meth c hc hn => rX2_settleBelow hc H)
def zrX6_within : Room := { frames := 0, cells := 0, slots := 0, locals := 0 }
def mX6_within (x0 : Int) (x1 : Int) (x2 : Int) (h : Zm) (Q : Int → Zm → Prop) : Prop :=
  cLe x1 x0
  (cLe x0 x2
    (Q 1 h)
    (Q 0 h))
  (Q 0 h)
section
variable {p : Program} {l : Launch} {e : Env} {s : State} {m : MethodId} {args : Array Value} {below : List Frame} {meth : Method} {c : Code} {D : Zd} {base : Nat}
set_option maxRecDepth 100000 in
set_option maxHeartbeats 4000000 in
theorem rX6_within (hc : zOk p s m args meth c D cX6_within 3 RX6 (some .boolean)) {x0 : Int} {x1 : Int} {x2 : Int} {h : Zm} {Q : Int → Zm → Prop} (H : mX6_within x0 x1 x2 h Q) : zW p l e zrX6_within s m args below meth c D base 3 (MQ below (zQi D base Q) args s 0 0 (zFree base)) 0 0 0 [some (.inl x0), some (.inl x1), some (.inl x2)] [] h := by
  unfold mX6_within at H
  refine z_iload_n (pc := 0) hc dX6_within_0 rfl ?_
  refine z_iload_n (pc := 1) hc dX6_within_1 rfl ?_
  refine z_icmp_gt (tgt := 14) (pc := 2) hc dX6_within_2 rfl H (fun H => ?_) (fun H => ?_)
  · refine z_iload_n (pc := 5) hc dX6_within_5 rfl ?_
    refine z_iload_n (pc := 6) hc dX6_within_6 rfl ?_
    refine z_icmp_gt (tgt := 14) (pc := 7) hc dX6_within_7 rfl H (fun H => ?_) (fun H => ?_)
    · refine z_iconst (pc := 10) hc dX6_within_10 ?_
      refine z_goto (tgt := 15) (pc := 11) hc dX6_within_11 rfl ?_
      exact z_zreturn (pc := 15) hc dX6_within_15 ⟨Or.inr rfl, H⟩
    · refine z_iconst (pc := 14) hc dX6_within_14 ?_
      exact z_zreturn (pc := 15) hc dX6_within_15 ⟨Or.inl rfl, H⟩
  · refine z_iconst (pc := 14) hc dX6_within_14 ?_
    exact z_zreturn (pc := 15) hc dX6_within_15 ⟨Or.inl rfl, H⟩
end
theorem metX6_within (l : Launch) (D : Zd) (base : Nat) {x0 : Int} {x1 : Int} {x2 : Int} {h : Zm} {Q : Int → Zm → Prop} (H : mX6_within x0 x1 x2 h Q) : zMet l D base yX6_within cX6_within 3 (some .boolean) zrX6_within [.inl x0, .inl x1, .inl x2] h (zQi D base Q) :=
  z_met (by decide +kernel) (Nat.le_of_ble_eq_true rfl) rfl (fun p e s m args below meth c hc hn => rX6_within hc H)
def zrX2_contains : Room := { frames := 1, cells := 0, slots := 0, locals := 22 }
def mX2_contains (a0 : Nat) (x1 : Int) (x2 : Int) (h : Zm) (Q : Int → Zm → Prop) : Prop :=
  cGi h 12 a0 0 fun v1 => cEq v1 0
  (Q 0 h)
  (cGi h 12 a0 9 fun v2 => cGi h 12 a0 9 fun v3 => cGi h 12 a0 11 fun v4 => mX6_within x1 v2 ((v3 + v4) - 1) h fun v6 h5 => cEq v6 0
    (Q 0 h5)
    (cGi h5 12 a0 10 fun v7 => cGi h5 12 a0 10 fun v8 => cGi h5 12 a0 12 fun v9 => mX6_within x2 v7 ((v8 + v9) - 1) h5 fun v11 h10 => cEq v11 0
      (Q 0 h10)
      (Q 1 h10)))
section
variable {p : Program} {l : Launch} {e : Env} {s : State} {m : MethodId} {args : Array Value} {below : List Frame} {meth : Method} {c : Code} {D : Zd} {base : Nat}
set_option maxRecDepth 100000 in
set_option maxHeartbeats 4000000 in
theorem rX2_contains (hc : zOk p s m args meth c D cX2_contains 3 RX2 (some .boolean)) {a0 : Nat} {x1 : Int} {x2 : Int} {h : Zm} {Q : Int → Zm → Prop} (H : mX2_contains a0 x1 x2 h Q) : zW p l e zrX2_contains s m args below meth c D base 3 (MQ below (zQi D base Q) args s 0 0 (zFree base)) 0 0 0 [some (.inr (.inl a0)), some (.inl x1), some (.inl x2)] [] h := by
  unfold mX2_contains at H
  refine z_aload_n (pc := 0) hc dX2_contains_0 rfl ?_
  refine z_getI (pc := 1) hc dX2_contains_1 zf_RX2_9 rfl rfl rfl H (fun v1 H => ?_)
  refine z_if_eq (tgt := 55) (pc := 4) hc dX2_contains_4 rfl H (fun H => ?_) (fun H => ?_)
  · refine z_iconst (pc := 55) hc dX2_contains_55 ?_
    exact z_zreturn (pc := 56) hc dX2_contains_56 ⟨Or.inl rfl, H⟩
  · refine z_iload_n (pc := 7) hc dX2_contains_7 rfl ?_
    refine z_aload_n (pc := 8) hc dX2_contains_8 rfl ?_
    refine z_getI (pc := 9) hc dX2_contains_9 zf_RX2_24 rfl rfl rfl H (fun v2 H => ?_)
    refine z_aload_n (pc := 12) hc dX2_contains_12 rfl ?_
    refine z_getI (pc := 13) hc dX2_contains_13 zf_RX2_24 rfl rfl rfl H (fun v3 H => ?_)
    refine z_aload_n (pc := 16) hc dX2_contains_16 rfl ?_
    refine z_getI (pc := 17) hc dX2_contains_17 zf_RX2_18 rfl rfl rfl H (fun v4 H => ?_)
    refine z_iadd (pc := 20) hc dX2_contains_20 ?_
    refine z_iconst (pc := 21) hc dX2_contains_21 ?_
    refine z_isub (pc := 22) hc dX2_contains_22 ?_
    refine z_calI (z_runN (pc := 23) hc dX2_contains_23 zw_RX2_73 (metX6_within _ _ _ H) rfl (Nat.le_of_ble_eq_true rfl) ⟨Nat.le_of_ble_eq_true rfl, Nat.le_of_ble_eq_true rfl⟩ ⟨by exact Nat.le_of_ble_eq_true rfl, by exact Nat.le_of_ble_eq_true rfl⟩) rfl ⟨rfl, rfl⟩ (fun v6 h5 H => ?_)
    refine z_if_eq (tgt := 55) (pc := 26) hc dX2_contains_26 rfl H (fun H => ?_) (fun H => ?_)
    · refine z_iconst (pc := 55) hc dX2_contains_55 ?_
      exact z_zreturn (pc := 56) hc dX2_contains_56 ⟨Or.inl rfl, H⟩
    · refine z_iload_n (pc := 29) hc dX2_contains_29 rfl ?_
      refine z_aload_n (pc := 30) hc dX2_contains_30 rfl ?_
      refine z_getI (pc := 31) hc dX2_contains_31 zf_RX2_27 rfl rfl rfl H (fun v7 H => ?_)
      refine z_aload_n (pc := 34) hc dX2_contains_34 rfl ?_
      refine z_getI (pc := 35) hc dX2_contains_35 zf_RX2_27 rfl rfl rfl H (fun v8 H => ?_)
      refine z_aload_n (pc := 38) hc dX2_contains_38 rfl ?_
      refine z_getI (pc := 39) hc dX2_contains_39 zf_RX2_21 rfl rfl rfl H (fun v9 H => ?_)
      refine z_iadd (pc := 42) hc dX2_contains_42 ?_
      refine z_iconst (pc := 43) hc dX2_contains_43 ?_
      refine z_isub (pc := 44) hc dX2_contains_44 ?_
      refine z_calI (z_runN (pc := 45) hc dX2_contains_45 zw_RX2_73 (metX6_within _ _ _ H) rfl (Nat.le_of_ble_eq_true rfl) ⟨Nat.le_of_ble_eq_true rfl, Nat.le_of_ble_eq_true rfl⟩ ⟨by exact Nat.le_of_ble_eq_true rfl, by exact Nat.le_of_ble_eq_true rfl⟩) rfl ⟨rfl, rfl⟩ (fun v11 h10 H => ?_)
      refine z_if_eq (tgt := 55) (pc := 48) hc dX2_contains_48 rfl H (fun H => ?_) (fun H => ?_)
      · refine z_iconst (pc := 55) hc dX2_contains_55 ?_
        exact z_zreturn (pc := 56) hc dX2_contains_56 ⟨Or.inl rfl, H⟩
      · refine z_iconst (pc := 51) hc dX2_contains_51 ?_
        refine z_goto (tgt := 56) (pc := 52) hc dX2_contains_52 rfl ?_
        exact z_zreturn (pc := 56) hc dX2_contains_56 ⟨Or.inr rfl, H⟩
end
theorem metX2_contains (l : Launch) (D : Zd) (base : Nat) {a0 : Nat} {x1 : Int} {x2 : Int} {h : Zm} {Q : Int → Zm → Prop} (H : mX2_contains a0 x1 x2 h Q) : zMet l D base yX2_contains cX2_contains 3 (some .boolean) zrX2_contains [.inr (.inl a0), .inl x1, .inl x2] h (zQi D base Q) :=
  z_met (by decide +kernel) (Nat.le_of_ble_eq_true rfl) rfl (fun p e s m args below meth c hc hn => rX2_contains hc H)
def zrX3_init : Room := { frames := 1, cells := 3, slots := 20, locals := 20 }
def mX3_init (a0 : Nat) (h : Zm) (Q : Zm → Prop) : Prop :=
  cRc h 13 a0 <| cNw h 1 6 fun r1 h2 => cPr h2 13 a0 0 r1 fun h3 => cNw h3 1 7 fun r4 h5 => cPr h5 13 a0 1 r4 fun h6 => cNw h6 1 7 fun r7 h8 => cPr h8 13 a0 2 r7 fun h9 => Q h9
section
variable {p : Program} {l : Launch} {e : Env} {s : State} {m : MethodId} {args : Array Value} {below : List Frame} {meth : Method} {c : Code} {D : Zd} {base : Nat}
set_option maxRecDepth 100000 in
set_option maxHeartbeats 4000000 in
theorem rX3_init (hc : zOk p s m args meth c D cX3_init 1 RX3 none) (hin : meth.name = "<init>") {a0 : Nat} {h : Zm} {Q : Zm → Prop} (H : mX3_init a0 h Q) : zW p l e zrX3_init s m args below meth c D base 1 (MQ below (zQv D base Q) args s 3 20 (zFree base)) 0 0 0 [some (.inr (.inl a0))] [] h := by
  unfold mX3_init at H
  refine z_aload_n (pc := 0) hc dX3_init_0 rfl ?_
  refine z_objInit (pc := 1) hc dX3_init_1 (zT_mem 209 (by decide +kernel) rfl) (zT_mem 20 (by decide +kernel) rfl) (zT_mem 21 (by decide +kernel) rfl) (by decide) (by decide) (Nat.le_of_ble_eq_true rfl) (d := 13) (by decide) H (fun H => ?_)
  refine z_aload_n (pc := 4) hc dX3_init_4 rfl ?_
  refine z_bipush (pc := 5) hc dX3_init_5 (by decide) ?_
  refine z_newarr (pc := 7) (t := 1) (n := 6) hc dX3_init_7 (by decide) rfl (zT_mem 129 (by decide +kernel) rfl) (by decide) (by exact Nat.le_of_ble_eq_true rfl) (by exact Nat.le_of_ble_eq_true rfl) H (fun r1 h2 H => ?_)
  refine z_putR (pc := 9) hc dX3_init_9 zf_RX3_9 rfl rfl rfl hin (fun C T N q => by cases q; rfl) H (fun h3 H => ?_)
  refine z_aload_n (pc := 12) hc dX3_init_12 rfl ?_
  refine z_bipush (pc := 13) hc dX3_init_13 (by decide) ?_
  refine z_newarr (pc := 15) (t := 1) (n := 7) hc dX3_init_15 (by decide) rfl (zT_mem 129 (by decide +kernel) rfl) (by decide) (by exact Nat.le_of_ble_eq_true rfl) (by exact Nat.le_of_ble_eq_true rfl) H (fun r4 h5 H => ?_)
  refine z_putR (pc := 17) hc dX3_init_17 zf_RX3_15 rfl rfl rfl hin (fun C T N q => by cases q; rfl) H (fun h6 H => ?_)
  refine z_aload_n (pc := 20) hc dX3_init_20 rfl ?_
  refine z_bipush (pc := 21) hc dX3_init_21 (by decide) ?_
  refine z_newarr (pc := 23) (t := 1) (n := 7) hc dX3_init_23 (by decide) rfl (zT_mem 129 (by decide +kernel) rfl) (by decide) (by exact Nat.le_of_ble_eq_true rfl) (by exact Nat.le_of_ble_eq_true rfl) H (fun r7 h8 H => ?_)
  refine z_putR (pc := 25) hc dX3_init_25 zf_RX3_18 rfl rfl rfl hin (fun C T N q => by cases q; rfl) H (fun h9 H => ?_)
  refine z_cells (cells' := 3) (slots' := 20) (by omega) (by omega) ?_
  exact z_return (pc := 28) hc dX3_init_28 H
end
theorem metX3_init (l : Launch) (D : Zd) (base : Nat) {a0 : Nat} {h : Zm} {Q : Zm → Prop} (H : mX3_init a0 h Q) : zMet l D base yX3_init cX3_init 1 none zrX3_init [.inr (.inl a0)] h (zQv D base Q) :=
  z_met (by decide +kernel) (Nat.le_of_ble_eq_true rfl) rfl (fun p e s m args below meth c hc hn => rX3_init hc hn H)
def zrX3_clear : Room := { frames := 0, cells := 0, slots := 0, locals := 0 }
def mX3_clear_B2 (X2 : Int → Zm → Prop) (a0 : Nat) (x1 : Int) (h : Zm) (Q : Zm → Prop) : Prop :=
  cLt x1 6
  (cGr h 13 a0 0 fun r1 => cLt x1 3
    (cSt h r1 x1 255 fun h3 => X2 (x1 + 1) h3)
    (cSt h r1 x1 0 fun h2 => X2 (x1 + 1) h2))
  (Q h)
def mX3_clear_H2  (a0 : Nat) (x1 : Int) (h : Zm) (Q : Zm → Prop) : Prop :=
  lfp1 (fun X2 x1 h => mX3_clear_B2 X2 a0 x1 h Q) x1 h
def mX3_clear (a0 : Nat) (h : Zm) (Q : Zm → Prop) : Prop :=
  mX3_clear_H2  a0 0 h Q
section
variable {p : Program} {l : Launch} {e : Env} {s : State} {m : MethodId} {args : Array Value} {below : List Frame} {meth : Method} {c : Code} {D : Zd} {base : Nat}
set_option maxRecDepth 100000 in
set_option maxHeartbeats 4000000 in
theorem rX3_clear_B2 (hc : zOk p s m args meth c D cX3_clear 2 RX3 none) {X2 : Int → Zm → Prop} {a0 : Nat} {x1 : Int} {h : Zm} {Q : Zm → Prop} (hX2 : ∀ (x1 : Int) (h : Zm), X2 x1 h → zW p l e zrX3_clear s m args below meth c D base 2 (MQ below (zQv D base Q) args s 0 0 (zFree base)) 0 0 2 [some (.inr (.inl a0)), some (.inl x1)] [] h) (H : mX3_clear_B2 X2 a0 x1 h Q) : zW p l e zrX3_clear s m args below meth c D base 2 (MQ below (zQv D base Q) args s 0 0 (zFree base)) 0 0 2 [some (.inr (.inl a0)), some (.inl x1)] [] h := by
  unfold mX3_clear_B2 at H
  refine z_iload_n (pc := 2) hc dX3_clear_2 rfl ?_
  refine z_bipush (pc := 3) hc dX3_clear_3 (by decide) ?_
  refine z_icmp_ge (tgt := 32) (pc := 5) hc dX3_clear_5 rfl H (fun H => ?_) (fun H => ?_)
  · refine z_aload_n (pc := 8) hc dX3_clear_8 rfl ?_
    refine z_getR (pc := 9) hc dX3_clear_9 zf_RX3_9 rfl rfl rfl H (fun r1 H => ?_)
    refine z_iload_n (pc := 12) hc dX3_clear_12 rfl ?_
    refine z_iload_n (pc := 13) hc dX3_clear_13 rfl ?_
    refine z_iconst (pc := 14) hc dX3_clear_14 ?_
    refine z_icmp_ge (tgt := 24) (pc := 15) hc dX3_clear_15 rfl H (fun H => ?_) (fun H => ?_)
    · refine z_sipush (pc := 18) hc dX3_clear_18 (by decide) ?_
      refine z_goto (tgt := 25) (pc := 21) hc dX3_clear_21 rfl ?_
      refine z_iastore (pc := 25) hc dX3_clear_25 H (fun h3 H => ?_)
      refine z_iinc (pc := 26) hc dX3_clear_26 (by decide) rfl (ρ' := [some (.inr (.inl a0)), some (.inl (x1 + 1))]) rfl rfl ?_
      refine z_goto (tgt := 2) (pc := 29) hc dX3_clear_29 rfl ?_
      exact hX2 _ _ H
    · refine z_iconst (pc := 24) hc dX3_clear_24 ?_
      refine z_iastore (pc := 25) hc dX3_clear_25 H (fun h2 H => ?_)
      refine z_iinc (pc := 26) hc dX3_clear_26 (by decide) rfl (ρ' := [some (.inr (.inl a0)), some (.inl (x1 + 1))]) rfl rfl ?_
      refine z_goto (tgt := 2) (pc := 29) hc dX3_clear_29 rfl ?_
      exact hX2 _ _ H
  · exact z_return (pc := 32) hc dX3_clear_32 H
theorem rX3_clear_H2 (hc : zOk p s m args meth c D cX3_clear 2 RX3 none)  {a0 : Nat} {x1 : Int} {h : Zm} {Q : Zm → Prop}  (H : mX3_clear_H2  a0 x1 h Q) : zW p l e zrX3_clear s m args below meth c D base 2 (MQ below (zQv D base Q) args s 0 0 (zFree base)) 0 0 2 [some (.inr (.inl a0)), some (.inl x1)] [] h :=
  H (fun x1 h => zW p l e zrX3_clear s m args below meth c D base 2 (MQ below (zQv D base Q) args s 0 0 (zFree base)) 0 0 2 [some (.inr (.inl a0)), some (.inl x1)] [] h) (fun x1 h H => rX3_clear_B2 hc (fun _ _ q => q) H)
set_option maxRecDepth 100000 in
set_option maxHeartbeats 4000000 in
theorem rX3_clear (hc : zOk p s m args meth c D cX3_clear 2 RX3 none) {a0 : Nat} {h : Zm} {Q : Zm → Prop} (H : mX3_clear a0 h Q) : zW p l e zrX3_clear s m args below meth c D base 2 (MQ below (zQv D base Q) args s 0 0 (zFree base)) 0 0 0 [some (.inr (.inl a0)), none] [] h := by
  unfold mX3_clear at H
  refine z_iconst (pc := 0) hc dX3_clear_0 ?_
  refine z_istore_n (pc := 1) hc dX3_clear_1 (by decide) (ρ' := [some (.inr (.inl a0)), some (.inl 0)]) rfl rfl ?_
  exact rX3_clear_H2 hc H
end
theorem metX3_clear (l : Launch) (D : Zd) (base : Nat) {a0 : Nat} {h : Zm} {Q : Zm → Prop} (H : mX3_clear a0 h Q) : zMet l D base yX3_clear cX3_clear 2 none zrX3_clear [.inr (.inl a0)] h (zQv D base Q) :=
  z_met (by decide +kernel) (Nat.le_of_ble_eq_true rfl) rfl (fun p e s m args below meth c hc hn => rX3_clear hc H)
def zrX5_nodeAt : Room := { frames := 1, cells := 0, slots := 0, locals := 22 }
def mX5_nodeAt (a0 : Nat) (x1 : Int) (h : Zm) (Q : Nat → Zm → Prop) : Prop :=
  mX6_within x1 0 23 h fun v2 h1 => cEq v2 0
  (cGr h1 15 a0 0 fun r3 => cLdR h1 r3 0 fun r4 => Q r4 h1)
  (cGr h1 15 a0 0 fun r5 => cLdR h1 r5 x1 fun r6 => Q r6 h1)
section
variable {p : Program} {l : Launch} {e : Env} {s : State} {m : MethodId} {args : Array Value} {below : List Frame} {meth : Method} {c : Code} {D : Zd} {base : Nat}
set_option maxRecDepth 100000 in
set_option maxHeartbeats 4000000 in
theorem rX5_nodeAt (hc : zOk p s m args meth c D cX5_nodeAt 2 RX5 (some (.object RX2))) {a0 : Nat} {x1 : Int} {h : Zm} {Q : Nat → Zm → Prop} (H : mX5_nodeAt a0 x1 h Q) : zW p l e zrX5_nodeAt s m args below meth c D base 2 (MQ below (zQr D base Q) args s 0 0 (zFree base)) 0 0 0 [some (.inr (.inl a0)), some (.inl x1)] [] h := by
  unfold mX5_nodeAt at H
  refine z_iload_n (pc := 0) hc dX5_nodeAt_0 rfl ?_
  refine z_iconst (pc := 1) hc dX5_nodeAt_1 ?_
  refine z_bipush (pc := 2) hc dX5_nodeAt_2 (by decide) ?_
  refine z_calI (z_runN (pc := 4) hc dX5_nodeAt_4 zw_RX5_42 (metX6_within _ _ _ H) rfl (Nat.le_of_ble_eq_true rfl) ⟨Nat.le_of_ble_eq_true rfl, Nat.le_of_ble_eq_true rfl⟩ ⟨by exact Nat.le_of_ble_eq_true rfl, by exact Nat.le_of_ble_eq_true rfl⟩) rfl ⟨rfl, rfl⟩ (fun v2 h1 H => ?_)
  refine z_if_eq (tgt := 19) (pc := 7) hc dX5_nodeAt_7 rfl H (fun H => ?_) (fun H => ?_)
  · refine z_aload_n (pc := 19) hc dX5_nodeAt_19 rfl ?_
    refine z_getR (pc := 20) hc dX5_nodeAt_20 zf_RX5_11 rfl rfl rfl H (fun r3 H => ?_)
    refine z_iconst (pc := 23) hc dX5_nodeAt_23 ?_
    refine z_aaload (pc := 24) hc dX5_nodeAt_24 H (fun r4 H => ?_)
    exact z_areturn (pc := 25) hc (Or.inl ⟨_, rfl⟩) dX5_nodeAt_25 H
  · refine z_aload_n (pc := 10) hc dX5_nodeAt_10 rfl ?_
    refine z_getR (pc := 11) hc dX5_nodeAt_11 zf_RX5_11 rfl rfl rfl H (fun r5 H => ?_)
    refine z_iload_n (pc := 14) hc dX5_nodeAt_14 rfl ?_
    refine z_aaload (pc := 15) hc dX5_nodeAt_15 H (fun r6 H => ?_)
    refine z_goto (tgt := 25) (pc := 16) hc dX5_nodeAt_16 rfl ?_
    exact z_areturn (pc := 25) hc (Or.inl ⟨_, rfl⟩) dX5_nodeAt_25 H
end
theorem metX5_nodeAt (l : Launch) (D : Zd) (base : Nat) {a0 : Nat} {x1 : Int} {h : Zm} {Q : Nat → Zm → Prop} (H : mX5_nodeAt a0 x1 h Q) : zMet l D base yX5_nodeAt cX5_nodeAt 2 (some (.object RX2)) zrX5_nodeAt [.inr (.inl a0), .inl x1] h (zQr D base Q) :=
  z_met (by decide +kernel) (Nat.le_of_ble_eq_true rfl) rfl (fun p e s m args below meth c hc hn => rX5_nodeAt hc H)
def zrJ9_floorDiv_7cf53 : Room := { frames := 0, cells := 0, slots := 0, locals := 0 }
def mJ9_floorDiv_7cf53 (x0 : Int) (x1 : Int) (h : Zm) (Q : Int → Zm → Prop) : Prop :=
  cDiv x0 x1 fun v1 => cXor x0 x1 fun v2 => cLt v2 0
  (cEq (v1 * x1) x0
    (Q v1 h)
    (Q (v1 - 1) h))
  (Q v1 h)
section
variable {p : Program} {l : Launch} {e : Env} {s : State} {m : MethodId} {args : Array Value} {below : List Frame} {meth : Method} {c : Code} {D : Zd} {base : Nat}
set_option maxRecDepth 100000 in
set_option maxHeartbeats 4000000 in
theorem rJ9_floorDiv_7cf53 (hc : zOk p s m args meth c D cJ9_floorDiv_7cf53 3 RJ9 (some .int)) {x0 : Int} {x1 : Int} {h : Zm} {Q : Int → Zm → Prop} (H : mJ9_floorDiv_7cf53 x0 x1 h Q) : zW p l e zrJ9_floorDiv_7cf53 s m args below meth c D base 3 (MQ below (zQi D base Q) args s 0 0 (zFree base)) 0 0 0 [some (.inl x0), some (.inl x1), none] [] h := by
  unfold mJ9_floorDiv_7cf53 at H
  refine z_iload_n (pc := 0) hc dJ9_floorDiv_7cf53_0 rfl ?_
  refine z_iload_n (pc := 1) hc dJ9_floorDiv_7cf53_1 rfl ?_
  refine z_idiv (pc := 2) hc dJ9_floorDiv_7cf53_2 H (fun v1 H => ?_)
  refine z_istore_n (pc := 3) hc dJ9_floorDiv_7cf53_3 (by decide) (ρ' := [some (.inl x0), some (.inl x1), some (.inl v1)]) rfl rfl ?_
  refine z_iload_n (pc := 4) hc dJ9_floorDiv_7cf53_4 rfl ?_
  refine z_iload_n (pc := 5) hc dJ9_floorDiv_7cf53_5 rfl ?_
  refine z_ixor (pc := 6) hc dJ9_floorDiv_7cf53_6 H (fun v2 H => ?_)
  refine z_if_ge (tgt := 21) (pc := 7) hc dJ9_floorDiv_7cf53_7 rfl H (fun H => ?_) (fun H => ?_)
  · refine z_iload_n (pc := 10) hc dJ9_floorDiv_7cf53_10 rfl ?_
    refine z_iload_n (pc := 11) hc dJ9_floorDiv_7cf53_11 rfl ?_
    refine z_imul (pc := 12) hc dJ9_floorDiv_7cf53_12 ?_
    refine z_iload_n (pc := 13) hc dJ9_floorDiv_7cf53_13 rfl ?_
    refine z_icmp_eq (tgt := 21) (pc := 14) hc dJ9_floorDiv_7cf53_14 rfl H (fun H => ?_) (fun H => ?_)
    · refine z_iload_n (pc := 21) hc dJ9_floorDiv_7cf53_21 rfl ?_
      exact z_ireturn (pc := 22) hc dJ9_floorDiv_7cf53_22 H
    · refine z_iload_n (pc := 17) hc dJ9_floorDiv_7cf53_17 rfl ?_
      refine z_iconst (pc := 18) hc dJ9_floorDiv_7cf53_18 ?_
      refine z_isub (pc := 19) hc dJ9_floorDiv_7cf53_19 ?_
      exact z_ireturn (pc := 20) hc dJ9_floorDiv_7cf53_20 H
  · refine z_iload_n (pc := 21) hc dJ9_floorDiv_7cf53_21 rfl ?_
    exact z_ireturn (pc := 22) hc dJ9_floorDiv_7cf53_22 H
end
theorem metJ9_floorDiv_7cf53 (l : Launch) (D : Zd) (base : Nat) {x0 : Int} {x1 : Int} {h : Zm} {Q : Int → Zm → Prop} (H : mJ9_floorDiv_7cf53 x0 x1 h Q) : zMet l D base yJ9_floorDiv_7cf53 cJ9_floorDiv_7cf53 3 (some .int) zrJ9_floorDiv_7cf53 [.inl x0, .inl x1] h (zQi D base Q) :=
  z_met (by decide +kernel) (Nat.le_of_ble_eq_true rfl) rfl (fun p e s m args below meth c hc hn => rJ9_floorDiv_7cf53 hc H)
def zrX3_pull : Room := { frames := 1, cells := 0, slots := 0, locals := 22 }
def mX3_pull (a0 : Nat) (x1 : Int) (x2 : Int) (x3 : Int) (h : Zm) (Q : Zm → Prop) : Prop :=
  cGr h 13 a0 0 fun r1 => cLd h 1 r1 x1 fun v2 => cGr h 13 a0 0 fun r3 => mJ9_floorDiv_7cf53 ((x2 - v2) * x3) 100 h fun v5 h4 => cSt h4 r3 x1 (v2 + v5) fun h6 => Q h6
section
variable {p : Program} {l : Launch} {e : Env} {s : State} {m : MethodId} {args : Array Value} {below : List Frame} {meth : Method} {c : Code} {D : Zd} {base : Nat}
set_option maxRecDepth 100000 in
set_option maxHeartbeats 4000000 in
theorem rX3_pull (hc : zOk p s m args meth c D cX3_pull 5 RX3 none) {a0 : Nat} {x1 : Int} {x2 : Int} {x3 : Int} {h : Zm} {Q : Zm → Prop} (H : mX3_pull a0 x1 x2 x3 h Q) : zW p l e zrX3_pull s m args below meth c D base 5 (MQ below (zQv D base Q) args s 0 0 (zFree base)) 0 0 0 [some (.inr (.inl a0)), some (.inl x1), some (.inl x2), some (.inl x3), none] [] h := by
  unfold mX3_pull at H
  refine z_aload_n (pc := 0) hc dX3_pull_0 rfl ?_
  refine z_getR (pc := 1) hc dX3_pull_1 zf_RX3_9 rfl rfl rfl H (fun r1 H => ?_)
  refine z_iload_n (pc := 4) hc dX3_pull_4 rfl ?_
  refine z_iaload (pc := 5) hc dX3_pull_5 H (fun v2 H => ?_)
  refine z_istore (pc := 6) hc dX3_pull_6 (by decide) (ρ' := [some (.inr (.inl a0)), some (.inl x1), some (.inl x2), some (.inl x3), some (.inl v2)]) rfl rfl ?_
  refine z_aload_n (pc := 8) hc dX3_pull_8 rfl ?_
  refine z_getR (pc := 9) hc dX3_pull_9 zf_RX3_9 rfl rfl rfl H (fun r3 H => ?_)
  refine z_iload_n (pc := 12) hc dX3_pull_12 rfl ?_
  refine z_iload (pc := 13) hc dX3_pull_13 rfl ?_
  refine z_iload_n (pc := 15) hc dX3_pull_15 rfl ?_
  refine z_iload (pc := 16) hc dX3_pull_16 rfl ?_
  refine z_isub (pc := 18) hc dX3_pull_18 ?_
  refine z_iload_n (pc := 19) hc dX3_pull_19 rfl ?_
  refine z_imul (pc := 20) hc dX3_pull_20 ?_
  refine z_bipush (pc := 21) hc dX3_pull_21 (by decide) ?_
  refine z_calI (z_runS (pc := 23) hc dX3_pull_23 zw_RX3_102 (metJ9_floorDiv_7cf53 _ _ _ H) rfl (Nat.le_of_ble_eq_true rfl) ⟨Nat.le_of_ble_eq_true rfl, Nat.le_of_ble_eq_true rfl⟩ ⟨by exact Nat.le_of_ble_eq_true rfl, by exact Nat.le_of_ble_eq_true rfl⟩) rfl ⟨rfl, rfl⟩ (fun v5 h4 H => ?_)
  refine z_iadd (pc := 26) hc dX3_pull_26 ?_
  refine z_iastore (pc := 27) hc dX3_pull_27 H (fun h6 H => ?_)
  exact z_return (pc := 28) hc dX3_pull_28 H
end
theorem metX3_pull (l : Launch) (D : Zd) (base : Nat) {a0 : Nat} {x1 : Int} {x2 : Int} {x3 : Int} {h : Zm} {Q : Zm → Prop} (H : mX3_pull a0 x1 x2 x3 h Q) : zMet l D base yX3_pull cX3_pull 5 none zrX3_pull [.inr (.inl a0), .inl x1, .inl x2, .inl x3] h (zQv D base Q) :=
  z_met (by decide +kernel) (Nat.le_of_ble_eq_true rfl) rfl (fun p e s m args below meth c hc hn => rX3_pull hc H)
def zrX3_pullColors : Room := { frames := 2, cells := 0, slots := 0, locals := 46 }
def mX3_pullColors (a0 : Nat) (x1 : Int) (x2 : Int) (x3 : Int) (x4 : Int) (h : Zm) (Q : Zm → Prop) : Prop :=
  cRc h 13 a0 <| mX3_pull a0 0 x1 x4 h fun h1 => cRc h1 13 a0 <| mX3_pull a0 1 x2 x4 h1 fun h2 => cRc h2 13 a0 <| mX3_pull a0 2 x3 x4 h2 fun h3 => Q h3
section
variable {p : Program} {l : Launch} {e : Env} {s : State} {m : MethodId} {args : Array Value} {below : List Frame} {meth : Method} {c : Code} {D : Zd} {base : Nat}
set_option maxRecDepth 100000 in
set_option maxHeartbeats 4000000 in
theorem rX3_pullColors (hc : zOk p s m args meth c D cX3_pullColors 5 RX3 none) {a0 : Nat} {x1 : Int} {x2 : Int} {x3 : Int} {x4 : Int} {h : Zm} {Q : Zm → Prop} (H : mX3_pullColors a0 x1 x2 x3 x4 h Q) : zW p l e zrX3_pullColors s m args below meth c D base 5 (MQ below (zQv D base Q) args s 0 0 (zFree base)) 0 0 0 [some (.inr (.inl a0)), some (.inl x1), some (.inl x2), some (.inl x3), some (.inl x4)] [] h := by
  unfold mX3_pullColors at H
  refine z_aload_n (pc := 0) hc dX3_pullColors_0 rfl ?_
  refine z_iconst (pc := 1) hc dX3_pullColors_1 ?_
  refine z_iload_n (pc := 2) hc dX3_pullColors_2 rfl ?_
  refine z_iload (pc := 3) hc dX3_pullColors_3 rfl ?_
  refine z_calV0 (z_runV (pc := 5) (ci := 3) (T := TX3) (N := 3) hc dX3_pullColors_5 zw_RX3_95 (metX3_pull _ _ _ H.2) rfl (Nat.le_of_ble_eq_true rfl) ⟨Nat.le_of_ble_eq_true rfl, Nat.le_of_ble_eq_true rfl⟩ ⟨by exact Nat.le_of_ble_eq_true rfl, by exact Nat.le_of_ble_eq_true rfl⟩ rfl H.1) rfl ⟨rfl, rfl⟩ (fun h1 H => ?_)
  refine z_aload_n (pc := 8) hc dX3_pullColors_8 rfl ?_
  refine z_iconst (pc := 9) hc dX3_pullColors_9 ?_
  refine z_iload_n (pc := 10) hc dX3_pullColors_10 rfl ?_
  refine z_iload (pc := 11) hc dX3_pullColors_11 rfl ?_
  refine z_calV0 (z_runV (pc := 13) (ci := 3) (T := TX3) (N := 3) hc dX3_pullColors_13 zw_RX3_95 (metX3_pull _ _ _ H.2) rfl (Nat.le_of_ble_eq_true rfl) ⟨Nat.le_of_ble_eq_true rfl, Nat.le_of_ble_eq_true rfl⟩ ⟨by exact Nat.le_of_ble_eq_true rfl, by exact Nat.le_of_ble_eq_true rfl⟩ rfl H.1) rfl ⟨rfl, rfl⟩ (fun h2 H => ?_)
  refine z_aload_n (pc := 16) hc dX3_pullColors_16 rfl ?_
  refine z_iconst (pc := 17) hc dX3_pullColors_17 ?_
  refine z_iload_n (pc := 18) hc dX3_pullColors_18 rfl ?_
  refine z_iload (pc := 19) hc dX3_pullColors_19 rfl ?_
  refine z_calV0 (z_runV (pc := 21) (ci := 3) (T := TX3) (N := 3) hc dX3_pullColors_21 zw_RX3_95 (metX3_pull _ _ _ H.2) rfl (Nat.le_of_ble_eq_true rfl) ⟨Nat.le_of_ble_eq_true rfl, Nat.le_of_ble_eq_true rfl⟩ ⟨by exact Nat.le_of_ble_eq_true rfl, by exact Nat.le_of_ble_eq_true rfl⟩ rfl H.1) rfl ⟨rfl, rfl⟩ (fun h3 H => ?_)
  exact z_return (pc := 24) hc dX3_pullColors_24 H
end
theorem metX3_pullColors (l : Launch) (D : Zd) (base : Nat) {a0 : Nat} {x1 : Int} {x2 : Int} {x3 : Int} {x4 : Int} {h : Zm} {Q : Zm → Prop} (H : mX3_pullColors a0 x1 x2 x3 x4 h Q) : zMet l D base yX3_pullColors cX3_pullColors 5 none zrX3_pullColors [.inr (.inl a0), .inl x1, .inl x2, .inl x3, .inl x4] h (zQv D base Q) :=
  z_met (by decide +kernel) (Nat.le_of_ble_eq_true rfl) rfl (fun p e s m args below meth c hc hn => rX3_pullColors hc H)
def zrX3_pullTints : Room := { frames := 2, cells := 0, slots := 0, locals := 46 }
def mX3_pullTints_B2 (X2 : Int → Zm → Prop) (a0 : Nat) (x1 : Int) (x2 : Int) (x3 : Int) (h : Zm) (Q : Zm → Prop) : Prop :=
  cLt x3 3
  (cEq x3 x1
    (X2 (x3 + 1) h)
    (cRc h 13 a0 <| mX3_pull a0 (3 + x3) 0 x2 h fun h1 => X2 (x3 + 1) h1))
  (Q h)
def mX3_pullTints_H2  (a0 : Nat) (x1 : Int) (x2 : Int) (x3 : Int) (h : Zm) (Q : Zm → Prop) : Prop :=
  lfp1 (fun X2 x3 h => mX3_pullTints_B2 X2 a0 x1 x2 x3 h Q) x3 h
def mX3_pullTints (a0 : Nat) (x1 : Int) (x2 : Int) (h : Zm) (Q : Zm → Prop) : Prop :=
  mX3_pullTints_H2  a0 x1 x2 0 h Q
section
variable {p : Program} {l : Launch} {e : Env} {s : State} {m : MethodId} {args : Array Value} {below : List Frame} {meth : Method} {c : Code} {D : Zd} {base : Nat}
set_option maxRecDepth 100000 in
set_option maxHeartbeats 4000000 in
theorem rX3_pullTints_B2 (hc : zOk p s m args meth c D cX3_pullTints 4 RX3 none) {X2 : Int → Zm → Prop} {a0 : Nat} {x1 : Int} {x2 : Int} {x3 : Int} {h : Zm} {Q : Zm → Prop} (hX2 : ∀ (x3 : Int) (h : Zm), X2 x3 h → zW p l e zrX3_pullTints s m args below meth c D base 4 (MQ below (zQv D base Q) args s 0 0 (zFree base)) 0 0 2 [some (.inr (.inl a0)), some (.inl x1), some (.inl x2), some (.inl x3)] [] h) (H : mX3_pullTints_B2 X2 a0 x1 x2 x3 h Q) : zW p l e zrX3_pullTints s m args below meth c D base 4 (MQ below (zQv D base Q) args s 0 0 (zFree base)) 0 0 2 [some (.inr (.inl a0)), some (.inl x1), some (.inl x2), some (.inl x3)] [] h := by
  unfold mX3_pullTints_B2 at H
  refine z_iload_n (pc := 2) hc dX3_pullTints_2 rfl ?_
  refine z_iconst (pc := 3) hc dX3_pullTints_3 ?_
  refine z_icmp_ge (tgt := 27) (pc := 4) hc dX3_pullTints_4 rfl H (fun H => ?_) (fun H => ?_)
  · refine z_iload_n (pc := 7) hc dX3_pullTints_7 rfl ?_
    refine z_iload_n (pc := 8) hc dX3_pullTints_8 rfl ?_
    refine z_icmp_eq (tgt := 21) (pc := 9) hc dX3_pullTints_9 rfl H (fun H => ?_) (fun H => ?_)
    · refine z_iinc (pc := 21) hc dX3_pullTints_21 (by decide) rfl (ρ' := [some (.inr (.inl a0)), some (.inl x1), some (.inl x2), some (.inl (x3 + 1))]) rfl rfl ?_
      refine z_goto (tgt := 2) (pc := 24) hc dX3_pullTints_24 rfl ?_
      exact hX2 _ _ H
    · refine z_aload_n (pc := 12) hc dX3_pullTints_12 rfl ?_
      refine z_iconst (pc := 13) hc dX3_pullTints_13 ?_
      refine z_iload_n (pc := 14) hc dX3_pullTints_14 rfl ?_
      refine z_iadd (pc := 15) hc dX3_pullTints_15 ?_
      refine z_iconst (pc := 16) hc dX3_pullTints_16 ?_
      refine z_iload_n (pc := 17) hc dX3_pullTints_17 rfl ?_
      refine z_calV0 (z_runV (pc := 18) (ci := 3) (T := TX3) (N := 3) hc dX3_pullTints_18 zw_RX3_95 (metX3_pull _ _ _ H.2) rfl (Nat.le_of_ble_eq_true rfl) ⟨Nat.le_of_ble_eq_true rfl, Nat.le_of_ble_eq_true rfl⟩ ⟨by exact Nat.le_of_ble_eq_true rfl, by exact Nat.le_of_ble_eq_true rfl⟩ rfl H.1) rfl ⟨rfl, rfl⟩ (fun h1 H => ?_)
      refine z_iinc (pc := 21) hc dX3_pullTints_21 (by decide) rfl (ρ' := [some (.inr (.inl a0)), some (.inl x1), some (.inl x2), some (.inl (x3 + 1))]) rfl rfl ?_
      refine z_goto (tgt := 2) (pc := 24) hc dX3_pullTints_24 rfl ?_
      exact hX2 _ _ H
  · exact z_return (pc := 27) hc dX3_pullTints_27 H
theorem rX3_pullTints_H2 (hc : zOk p s m args meth c D cX3_pullTints 4 RX3 none)  {a0 : Nat} {x1 : Int} {x2 : Int} {x3 : Int} {h : Zm} {Q : Zm → Prop}  (H : mX3_pullTints_H2  a0 x1 x2 x3 h Q) : zW p l e zrX3_pullTints s m args below meth c D base 4 (MQ below (zQv D base Q) args s 0 0 (zFree base)) 0 0 2 [some (.inr (.inl a0)), some (.inl x1), some (.inl x2), some (.inl x3)] [] h :=
  H (fun x3 h => zW p l e zrX3_pullTints s m args below meth c D base 4 (MQ below (zQv D base Q) args s 0 0 (zFree base)) 0 0 2 [some (.inr (.inl a0)), some (.inl x1), some (.inl x2), some (.inl x3)] [] h) (fun x3 h H => rX3_pullTints_B2 hc (fun _ _ q => q) H)
set_option maxRecDepth 100000 in
set_option maxHeartbeats 4000000 in
theorem rX3_pullTints (hc : zOk p s m args meth c D cX3_pullTints 4 RX3 none) {a0 : Nat} {x1 : Int} {x2 : Int} {h : Zm} {Q : Zm → Prop} (H : mX3_pullTints a0 x1 x2 h Q) : zW p l e zrX3_pullTints s m args below meth c D base 4 (MQ below (zQv D base Q) args s 0 0 (zFree base)) 0 0 0 [some (.inr (.inl a0)), some (.inl x1), some (.inl x2), none] [] h := by
  unfold mX3_pullTints at H
  refine z_iconst (pc := 0) hc dX3_pullTints_0 ?_
  refine z_istore_n (pc := 1) hc dX3_pullTints_1 (by decide) (ρ' := [some (.inr (.inl a0)), some (.inl x1), some (.inl x2), some (.inl 0)]) rfl rfl ?_
  exact rX3_pullTints_H2 hc H
end
theorem metX3_pullTints (l : Launch) (D : Zd) (base : Nat) {a0 : Nat} {x1 : Int} {x2 : Int} {h : Zm} {Q : Zm → Prop} (H : mX3_pullTints a0 x1 x2 h Q) : zMet l D base yX3_pullTints cX3_pullTints 4 none zrX3_pullTints [.inr (.inl a0), .inl x1, .inl x2] h (zQv D base Q) :=
  z_met (by decide +kernel) (Nat.le_of_ble_eq_true rfl) rfl (fun p e s m args below meth c hc hn => rX3_pullTints hc H)
def zrX3_paint : Room := { frames := 3, cells := 0, slots := 0, locals := 70 }
def mX3_paint (a0 : Nat) (a1 : Nat) (a2 : Nat) (x3 : Int) (h : Zm) (Q : Zm → Prop) : Prop :=
  cGi h 12 a1 0 fun v1 => cEq v1 1
  (cGi h 12 a1 13 fun v14 => cGi h 12 a1 14 fun v15 => cGi h 12 a1 15 fun v16 => cRc h 13 a0 <| mX3_pullColors a0 v14 v15 v16 x3 h fun h17 => cRc h17 13 a0 <| mX3_pullTints a0 (-1) x3 h17 fun h18 => Q h18)
  (cGi h 12 a1 16 fun v2 => mX6_within v2 0 2 h fun v4 h3 => cEq v4 0
    (Q h3)
    (cGi h3 12 a1 16 fun v5 => cGi h3 12 a1 17 fun v6 => cRc h3 13 a0 <| mX3_pull a0 (3 + v5) v6 x3 h3 fun h7 => cGr h7 14 a2 5 fun r8 => cGi h7 12 a1 16 fun v9 => cLd h7 1 r8 v9 fun v10 => cEq v10 1
      (cRc h7 13 a0 <| mX3_pullColors a0 255 255 255 x3 h7 fun h11 => cGi h11 12 a1 16 fun v12 => cRc h11 13 a0 <| mX3_pullTints a0 v12 x3 h11 fun h13 => Q h13)
      (Q h7)))
section
variable {p : Program} {l : Launch} {e : Env} {s : State} {m : MethodId} {args : Array Value} {below : List Frame} {meth : Method} {c : Code} {D : Zd} {base : Nat}
set_option maxRecDepth 100000 in
set_option maxHeartbeats 4000000 in
theorem rX3_paint (hc : zOk p s m args meth c D cX3_paint 4 RX3 none) {a0 : Nat} {a1 : Nat} {a2 : Nat} {x3 : Int} {h : Zm} {Q : Zm → Prop} (H : mX3_paint a0 a1 a2 x3 h Q) : zW p l e zrX3_paint s m args below meth c D base 4 (MQ below (zQv D base Q) args s 0 0 (zFree base)) 0 0 0 [some (.inr (.inl a0)), some (.inr (.inl a1)), some (.inr (.inl a2)), some (.inl x3)] [] h := by
  unfold mX3_paint at H
  refine z_aload_n (pc := 0) hc dX3_paint_0 rfl ?_
  refine z_getI (pc := 1) hc dX3_paint_1 zf_RX3_65 rfl rfl rfl H (fun v1 H => ?_)
  refine z_iconst (pc := 4) hc dX3_paint_4 ?_
  refine z_icmp_ne (tgt := 34) (pc := 5) hc dX3_paint_5 rfl H (fun H => ?_) (fun H => ?_)
  · refine z_aload_n (pc := 8) hc dX3_paint_8 rfl ?_
    refine z_aload_n (pc := 9) hc dX3_paint_9 rfl ?_
    refine z_getI (pc := 10) hc dX3_paint_10 zf_RX3_68 rfl rfl rfl H (fun v14 H => ?_)
    refine z_aload_n (pc := 13) hc dX3_paint_13 rfl ?_
    refine z_getI (pc := 14) hc dX3_paint_14 zf_RX3_71 rfl rfl rfl H (fun v15 H => ?_)
    refine z_aload_n (pc := 17) hc dX3_paint_17 rfl ?_
    refine z_getI (pc := 18) hc dX3_paint_18 zf_RX3_74 rfl rfl rfl H (fun v16 H => ?_)
    refine z_iload_n (pc := 21) hc dX3_paint_21 rfl ?_
    refine z_calV0 (z_runV (pc := 22) (ci := 3) (T := TX3) (N := 3) hc dX3_paint_22 zw_RX3_77 (metX3_pullColors _ _ _ H.2) rfl (Nat.le_of_ble_eq_true rfl) ⟨Nat.le_of_ble_eq_true rfl, Nat.le_of_ble_eq_true rfl⟩ ⟨by exact Nat.le_of_ble_eq_true rfl, by exact Nat.le_of_ble_eq_true rfl⟩ rfl H.1) rfl ⟨rfl, rfl⟩ (fun h17 H => ?_)
    refine z_aload_n (pc := 25) hc dX3_paint_25 rfl ?_
    refine z_iconst (pc := 26) hc dX3_paint_26 ?_
    refine z_iload_n (pc := 27) hc dX3_paint_27 rfl ?_
    refine z_calV0 (z_runV (pc := 28) (ci := 3) (T := TX3) (N := 3) hc dX3_paint_28 zw_RX3_81 (metX3_pullTints _ _ _ H.2) rfl (Nat.le_of_ble_eq_true rfl) ⟨Nat.le_of_ble_eq_true rfl, Nat.le_of_ble_eq_true rfl⟩ ⟨by exact Nat.le_of_ble_eq_true rfl, by exact Nat.le_of_ble_eq_true rfl⟩ rfl H.1) rfl ⟨rfl, rfl⟩ (fun h18 H => ?_)
    refine z_goto (tgt := 97) (pc := 31) hc dX3_paint_31 rfl ?_
    exact z_return (pc := 97) hc dX3_paint_97 H
  · refine z_aload_n (pc := 34) hc dX3_paint_34 rfl ?_
    refine z_getI (pc := 35) hc dX3_paint_35 zf_RX3_85 rfl rfl rfl H (fun v2 H => ?_)
    refine z_iconst (pc := 38) hc dX3_paint_38 ?_
    refine z_iconst (pc := 39) hc dX3_paint_39 ?_
    refine z_calI (z_runN (pc := 40) hc dX3_paint_40 zw_RX3_88 (metX6_within _ _ _ H) rfl (Nat.le_of_ble_eq_true rfl) ⟨Nat.le_of_ble_eq_true rfl, Nat.le_of_ble_eq_true rfl⟩ ⟨by exact Nat.le_of_ble_eq_true rfl, by exact Nat.le_of_ble_eq_true rfl⟩) rfl ⟨rfl, rfl⟩ (fun v4 h3 H => ?_)
    refine z_if_eq (tgt := 97) (pc := 43) hc dX3_paint_43 rfl H (fun H => ?_) (fun H => ?_)
    · exact z_return (pc := 97) hc dX3_paint_97 H
    · refine z_aload_n (pc := 46) hc dX3_paint_46 rfl ?_
      refine z_iconst (pc := 47) hc dX3_paint_47 ?_
      refine z_aload_n (pc := 48) hc dX3_paint_48 rfl ?_
      refine z_getI (pc := 49) hc dX3_paint_49 zf_RX3_85 rfl rfl rfl H (fun v5 H => ?_)
      refine z_iadd (pc := 52) hc dX3_paint_52 ?_
      refine z_aload_n (pc := 53) hc dX3_paint_53 rfl ?_
      refine z_getI (pc := 54) hc dX3_paint_54 zf_RX3_92 rfl rfl rfl H (fun v6 H => ?_)
      refine z_iload_n (pc := 57) hc dX3_paint_57 rfl ?_
      refine z_calV0 (z_runV (pc := 58) (ci := 3) (T := TX3) (N := 3) hc dX3_paint_58 zw_RX3_95 (metX3_pull _ _ _ H.2) rfl (Nat.le_of_ble_eq_true rfl) ⟨Nat.le_of_ble_eq_true rfl, Nat.le_of_ble_eq_true rfl⟩ ⟨by exact Nat.le_of_ble_eq_true rfl, by exact Nat.le_of_ble_eq_true rfl⟩ rfl H.1) rfl ⟨rfl, rfl⟩ (fun h7 H => ?_)
      refine z_aload_n (pc := 61) hc dX3_paint_61 rfl ?_
      refine z_getR (pc := 62) hc dX3_paint_62 zf_RX3_99 rfl rfl rfl H (fun r8 H => ?_)
      refine z_aload_n (pc := 65) hc dX3_paint_65 rfl ?_
      refine z_getI (pc := 66) hc dX3_paint_66 zf_RX3_85 rfl rfl rfl H (fun v9 H => ?_)
      refine z_iaload (pc := 69) hc dX3_paint_69 H (fun v10 H => ?_)
      refine z_iconst (pc := 70) hc dX3_paint_70 ?_
      refine z_icmp_ne (tgt := 97) (pc := 71) hc dX3_paint_71 rfl H (fun H => ?_) (fun H => ?_)
      · refine z_aload_n (pc := 74) hc dX3_paint_74 rfl ?_
        refine z_sipush (pc := 75) hc dX3_paint_75 (by decide) ?_
        refine z_sipush (pc := 78) hc dX3_paint_78 (by decide) ?_
        refine z_sipush (pc := 81) hc dX3_paint_81 (by decide) ?_
        refine z_iload_n (pc := 84) hc dX3_paint_84 rfl ?_
        refine z_calV0 (z_runV (pc := 85) (ci := 3) (T := TX3) (N := 3) hc dX3_paint_85 zw_RX3_77 (metX3_pullColors _ _ _ H.2) rfl (Nat.le_of_ble_eq_true rfl) ⟨Nat.le_of_ble_eq_true rfl, Nat.le_of_ble_eq_true rfl⟩ ⟨by exact Nat.le_of_ble_eq_true rfl, by exact Nat.le_of_ble_eq_true rfl⟩ rfl H.1) rfl ⟨rfl, rfl⟩ (fun h11 H => ?_)
        refine z_aload_n (pc := 88) hc dX3_paint_88 rfl ?_
        refine z_aload_n (pc := 89) hc dX3_paint_89 rfl ?_
        refine z_getI (pc := 90) hc dX3_paint_90 zf_RX3_85 rfl rfl rfl H (fun v12 H => ?_)
        refine z_iload_n (pc := 93) hc dX3_paint_93 rfl ?_
        refine z_calV0 (z_runV (pc := 94) (ci := 3) (T := TX3) (N := 3) hc dX3_paint_94 zw_RX3_81 (metX3_pullTints _ _ _ H.2) rfl (Nat.le_of_ble_eq_true rfl) ⟨Nat.le_of_ble_eq_true rfl, Nat.le_of_ble_eq_true rfl⟩ ⟨by exact Nat.le_of_ble_eq_true rfl, by exact Nat.le_of_ble_eq_true rfl⟩ rfl H.1) rfl ⟨rfl, rfl⟩ (fun h13 H => ?_)
        exact z_return (pc := 97) hc dX3_paint_97 H
      · exact z_return (pc := 97) hc dX3_paint_97 H
end
theorem metX3_paint (l : Launch) (D : Zd) (base : Nat) {a0 : Nat} {a1 : Nat} {a2 : Nat} {x3 : Int} {h : Zm} {Q : Zm → Prop} (H : mX3_paint a0 a1 a2 x3 h Q) : zMet l D base yX3_paint cX3_paint 4 none zrX3_paint [.inr (.inl a0), .inr (.inl a1), .inr (.inl a2), .inl x3] h (zQv D base Q) :=
  z_met (by decide +kernel) (Nat.le_of_ble_eq_true rfl) rfl (fun p e s m args below meth c hc hn => rX3_paint hc H)
def zrX3_render : Room := { frames := 4, cells := 0, slots := 0, locals := 93 }
def mX3_render_B7 (X7 : Int → Zm → Prop) (a0 : Nat) (a1 : Nat) (x2 : Int) (x3 : Int) (x4 : Int) (h : Zm) (Q : Zm → Prop) : Prop :=
  cGr h 14 a1 6 fun r2 => cGi h 15 r2 3 fun v3 => cLt x4 v3
  (cGr h 14 a1 6 fun r4 => cGr h 14 a1 6 fun r5 => cGr h 15 r5 1 fun r6 => cLd h 1 r6 x4 fun v7 => cRc h 15 r4 <| mX5_nodeAt r4 v7 h fun r9 h8 => cGr h8 14 a1 6 fun r10 => cGi h8 12 r9 1 fun v11 => cRc h8 15 r10 <| mX5_nodeAt r10 v11 h8 fun r13 h12 => cGi h12 12 r13 7 fun v14 => cGi h12 12 r13 8 fun v15 => cRc h12 12 r9 <| mX2_contains r9 (x2 - v14) (x3 - v15) h12 fun v17 h16 => cEq v17 0
    (X7 (x4 + 1) h16)
    (cGi h16 12 r13 6 fun v18 => cRc h16 13 a0 <| mX3_paint a0 r9 a1 v18 h16 fun h19 => X7 (x4 + 1) h19))
  (Q h)
def mX3_render_H7  (a0 : Nat) (a1 : Nat) (x2 : Int) (x3 : Int) (x4 : Int) (h : Zm) (Q : Zm → Prop) : Prop :=
  lfp1 (fun X7 x4 h => mX3_render_B7 X7 a0 a1 x2 x3 x4 h Q) x4 h
def mX3_render (a0 : Nat) (a1 : Nat) (x2 : Int) (x3 : Int) (h : Zm) (Q : Zm → Prop) : Prop :=
  cRc h 13 a0 <| mX3_clear a0 h fun h1 => mX3_render_H7  a0 a1 x2 x3 1 h1 Q
section
variable {p : Program} {l : Launch} {e : Env} {s : State} {m : MethodId} {args : Array Value} {below : List Frame} {meth : Method} {c : Code} {D : Zd} {base : Nat}
set_option maxRecDepth 100000 in
set_option maxHeartbeats 4000000 in
theorem rX3_render_B7 (hc : zOk p s m args meth c D cX3_render 7 RX3 none) {X7 : Int → Zm → Prop} {a0 : Nat} {a1 : Nat} {x2 : Int} {x3 : Int} {x4 : Int} {h : Zm} {Q : Zm → Prop} (hX7 : ∀ (x4 : Int) (h : Zm), X7 x4 h → zW p l e zrX3_render s m args below meth c D base 7 (MQ below (zQv D base Q) args s 0 0 (zFree base)) 0 0 7 [some (.inr (.inl a0)), some (.inr (.inl a1)), some (.inl x2), some (.inl x3), some (.inl x4), none, none] [] h) (H : mX3_render_B7 X7 a0 a1 x2 x3 x4 h Q) : zW p l e zrX3_render s m args below meth c D base 7 (MQ below (zQv D base Q) args s 0 0 (zFree base)) 0 0 7 [some (.inr (.inl a0)), some (.inr (.inl a1)), some (.inl x2), some (.inl x3), some (.inl x4), none, none] [] h := by
  unfold mX3_render_B7 at H
  refine z_iload (pc := 7) hc dX3_render_7 rfl ?_
  refine z_aload_n (pc := 9) hc dX3_render_9 rfl ?_
  refine z_getR (pc := 10) hc dX3_render_10 zf_RX3_24 rfl rfl rfl H (fun r2 H => ?_)
  refine z_getI (pc := 13) hc dX3_render_13 zf_RX3_30 rfl rfl rfl H (fun v3 H => ?_)
  refine z_icmp_ge (tgt := 92) (pc := 16) hc dX3_render_16 rfl H (fun H => ?_) (fun H => ?_)
  · refine z_aload_n (pc := 19) hc dX3_render_19 rfl ?_
    refine z_getR (pc := 20) hc dX3_render_20 zf_RX3_24 rfl rfl rfl H (fun r4 H => ?_)
    refine z_aload_n (pc := 23) hc dX3_render_23 rfl ?_
    refine z_getR (pc := 24) hc dX3_render_24 zf_RX3_24 rfl rfl rfl H (fun r5 H => ?_)
    refine z_getR (pc := 27) hc dX3_render_27 zf_RX3_36 rfl rfl rfl H (fun r6 H => ?_)
    refine z_iload (pc := 30) hc dX3_render_30 rfl ?_
    refine z_iaload (pc := 32) hc dX3_render_32 H (fun v7 H => ?_)
    refine z_calR (z_runV (pc := 33) (ci := 5) (T := TX5) (N := 4) hc dX3_render_33 zw_RX3_39 (metX5_nodeAt _ _ _ H.2) rfl (Nat.le_of_ble_eq_true rfl) ⟨Nat.le_of_ble_eq_true rfl, Nat.le_of_ble_eq_true rfl⟩ ⟨by exact Nat.le_of_ble_eq_true rfl, by exact Nat.le_of_ble_eq_true rfl⟩ rfl H.1) rfl ⟨rfl, rfl⟩ (fun r9 h8 H => ?_)
    refine z_astore (pc := 36) hc dX3_render_36 (by decide) (ρ' := [some (.inr (.inl a0)), some (.inr (.inl a1)), some (.inl x2), some (.inl x3), some (.inl x4), some (.inr (.inl r9)), none]) rfl rfl ?_
    refine z_aload_n (pc := 38) hc dX3_render_38 rfl ?_
    refine z_getR (pc := 39) hc dX3_render_39 zf_RX3_24 rfl rfl rfl H (fun r10 H => ?_)
    refine z_aload (pc := 42) hc dX3_render_42 rfl ?_
    refine z_getI (pc := 44) hc dX3_render_44 zf_RX3_43 rfl rfl rfl H (fun v11 H => ?_)
    refine z_calR (z_runV (pc := 47) (ci := 5) (T := TX5) (N := 4) hc dX3_render_47 zw_RX3_39 (metX5_nodeAt _ _ _ H.2) rfl (Nat.le_of_ble_eq_true rfl) ⟨Nat.le_of_ble_eq_true rfl, Nat.le_of_ble_eq_true rfl⟩ ⟨by exact Nat.le_of_ble_eq_true rfl, by exact Nat.le_of_ble_eq_true rfl⟩ rfl H.1) rfl ⟨rfl, rfl⟩ (fun r13 h12 H => ?_)
    refine z_astore (pc := 50) hc dX3_render_50 (by decide) (ρ' := [some (.inr (.inl a0)), some (.inr (.inl a1)), some (.inl x2), some (.inl x3), some (.inl x4), some (.inr (.inl r9)), some (.inr (.inl r13))]) rfl rfl ?_
    refine z_aload (pc := 52) hc dX3_render_52 rfl ?_
    refine z_iload_n (pc := 54) hc dX3_render_54 rfl ?_
    refine z_aload (pc := 55) hc dX3_render_55 rfl ?_
    refine z_getI (pc := 57) hc dX3_render_57 zf_RX3_48 rfl rfl rfl H (fun v14 H => ?_)
    refine z_isub (pc := 60) hc dX3_render_60 ?_
    refine z_iload_n (pc := 61) hc dX3_render_61 rfl ?_
    refine z_aload (pc := 62) hc dX3_render_62 rfl ?_
    refine z_getI (pc := 64) hc dX3_render_64 zf_RX3_51 rfl rfl rfl H (fun v15 H => ?_)
    refine z_isub (pc := 67) hc dX3_render_67 ?_
    refine z_calI (z_runV (pc := 68) (ci := 2) (T := TX2) (N := 18) hc dX3_render_68 zw_RX3_54 (metX2_contains _ _ _ H.2) rfl (Nat.le_of_ble_eq_true rfl) ⟨Nat.le_of_ble_eq_true rfl, Nat.le_of_ble_eq_true rfl⟩ ⟨by exact Nat.le_of_ble_eq_true rfl, by exact Nat.le_of_ble_eq_true rfl⟩ rfl H.1) rfl ⟨rfl, rfl⟩ (fun v17 h16 H => ?_)
    refine z_if_eq (tgt := 86) (pc := 71) hc dX3_render_71 rfl H (fun H => ?_) (fun H => ?_)
    · refine z_iinc (pc := 86) hc dX3_render_86 (by decide) rfl (ρ' := [some (.inr (.inl a0)), some (.inr (.inl a1)), some (.inl x2), some (.inl x3), some (.inl (x4 + 1)), some (.inr (.inl r9)), some (.inr (.inl r13))]) rfl rfl ?_
      refine z_goto (tgt := 7) (pc := 89) hc dX3_render_89 rfl ?_
      refine z_mask [true, true, true, true, true, false, false] (ρ' := [some (.inr (.inl a0)), some (.inr (.inl a1)), some (.inl x2), some (.inl x3), some (.inl (x4 + 1)), none, none]) rfl ?_
      exact hX7 _ _ H
    · refine z_aload_n (pc := 74) hc dX3_render_74 rfl ?_
      refine z_aload (pc := 75) hc dX3_render_75 rfl ?_
      refine z_aload_n (pc := 77) hc dX3_render_77 rfl ?_
      refine z_aload (pc := 78) hc dX3_render_78 rfl ?_
      refine z_getI (pc := 80) hc dX3_render_80 zf_RX3_58 rfl rfl rfl H (fun v18 H => ?_)
      refine z_calV0 (z_runV (pc := 83) (ci := 3) (T := TX3) (N := 3) hc dX3_render_83 zw_RX3_61 (metX3_paint _ _ _ H.2) rfl (Nat.le_of_ble_eq_true rfl) ⟨Nat.le_of_ble_eq_true rfl, Nat.le_of_ble_eq_true rfl⟩ ⟨by exact Nat.le_of_ble_eq_true rfl, by exact Nat.le_of_ble_eq_true rfl⟩ rfl H.1) rfl ⟨rfl, rfl⟩ (fun h19 H => ?_)
      refine z_iinc (pc := 86) hc dX3_render_86 (by decide) rfl (ρ' := [some (.inr (.inl a0)), some (.inr (.inl a1)), some (.inl x2), some (.inl x3), some (.inl (x4 + 1)), some (.inr (.inl r9)), some (.inr (.inl r13))]) rfl rfl ?_
      refine z_goto (tgt := 7) (pc := 89) hc dX3_render_89 rfl ?_
      refine z_mask [true, true, true, true, true, false, false] (ρ' := [some (.inr (.inl a0)), some (.inr (.inl a1)), some (.inl x2), some (.inl x3), some (.inl (x4 + 1)), none, none]) rfl ?_
      exact hX7 _ _ H
  · exact z_return (pc := 92) hc dX3_render_92 H
theorem rX3_render_H7 (hc : zOk p s m args meth c D cX3_render 7 RX3 none)  {a0 : Nat} {a1 : Nat} {x2 : Int} {x3 : Int} {x4 : Int} {h : Zm} {Q : Zm → Prop}  (H : mX3_render_H7  a0 a1 x2 x3 x4 h Q) : zW p l e zrX3_render s m args below meth c D base 7 (MQ below (zQv D base Q) args s 0 0 (zFree base)) 0 0 7 [some (.inr (.inl a0)), some (.inr (.inl a1)), some (.inl x2), some (.inl x3), some (.inl x4), none, none] [] h :=
  H (fun x4 h => zW p l e zrX3_render s m args below meth c D base 7 (MQ below (zQv D base Q) args s 0 0 (zFree base)) 0 0 7 [some (.inr (.inl a0)), some (.inr (.inl a1)), some (.inl x2), some (.inl x3), some (.inl x4), none, none] [] h) (fun x4 h H => rX3_render_B7 hc (fun _ _ q => q) H)
set_option maxRecDepth 100000 in
set_option maxHeartbeats 4000000 in
theorem rX3_render (hc : zOk p s m args meth c D cX3_render 7 RX3 none) {a0 : Nat} {a1 : Nat} {x2 : Int} {x3 : Int} {h : Zm} {Q : Zm → Prop} (H : mX3_render a0 a1 x2 x3 h Q) : zW p l e zrX3_render s m args below meth c D base 7 (MQ below (zQv D base Q) args s 0 0 (zFree base)) 0 0 0 [some (.inr (.inl a0)), some (.inr (.inl a1)), some (.inl x2), some (.inl x3), none, none, none] [] h := by
  unfold mX3_render at H
  refine z_aload_n (pc := 0) hc dX3_render_0 rfl ?_
  refine z_calV0 (z_runV (pc := 1) (ci := 3) (T := TX3) (N := 3) hc dX3_render_1 zw_RX3_21 (metX3_clear _ _ _ H.2) rfl (Nat.le_of_ble_eq_true rfl) ⟨Nat.le_of_ble_eq_true rfl, Nat.le_of_ble_eq_true rfl⟩ ⟨by exact Nat.le_of_ble_eq_true rfl, by exact Nat.le_of_ble_eq_true rfl⟩ rfl H.1) rfl ⟨rfl, rfl⟩ (fun h1 H => ?_)
  refine z_iconst (pc := 4) hc dX3_render_4 ?_
  refine z_istore (pc := 5) hc dX3_render_5 (by decide) (ρ' := [some (.inr (.inl a0)), some (.inr (.inl a1)), some (.inl x2), some (.inl x3), some (.inl 1), none, none]) rfl rfl ?_
  exact rX3_render_H7 hc H
end
theorem metX3_render (l : Launch) (D : Zd) (base : Nat) {a0 : Nat} {a1 : Nat} {x2 : Int} {x3 : Int} {h : Zm} {Q : Zm → Prop} (H : mX3_render a0 a1 x2 x3 h Q) : zMet l D base yX3_render cX3_render 7 none zrX3_render [.inr (.inl a0), .inr (.inl a1), .inl x2, .inl x3] h (zQv D base Q) :=
  z_met (by decide +kernel) (Nat.le_of_ble_eq_true rfl) rfl (fun p e s m args below meth c hc hn => rX3_render hc H)
def zrJ9_max_7cf53 : Room := { frames := 0, cells := 0, slots := 0, locals := 0 }
def mJ9_max_7cf53 (x0 : Int) (x1 : Int) (h : Zm) (Q : Int → Zm → Prop) : Prop :=
  cLt x0 x1
  (Q x1 h)
  (Q x0 h)
section
variable {p : Program} {l : Launch} {e : Env} {s : State} {m : MethodId} {args : Array Value} {below : List Frame} {meth : Method} {c : Code} {D : Zd} {base : Nat}
set_option maxRecDepth 100000 in
set_option maxHeartbeats 4000000 in
theorem rJ9_max_7cf53 (hc : zOk p s m args meth c D cJ9_max_7cf53 2 RJ9 (some .int)) {x0 : Int} {x1 : Int} {h : Zm} {Q : Int → Zm → Prop} (H : mJ9_max_7cf53 x0 x1 h Q) : zW p l e zrJ9_max_7cf53 s m args below meth c D base 2 (MQ below (zQi D base Q) args s 0 0 (zFree base)) 0 0 0 [some (.inl x0), some (.inl x1)] [] h := by
  unfold mJ9_max_7cf53 at H
  refine z_iload_n (pc := 0) hc dJ9_max_7cf53_0 rfl ?_
  refine z_iload_n (pc := 1) hc dJ9_max_7cf53_1 rfl ?_
  refine z_icmp_lt (tgt := 9) (pc := 2) hc dJ9_max_7cf53_2 rfl H (fun H => ?_) (fun H => ?_)
  · refine z_iload_n (pc := 9) hc dJ9_max_7cf53_9 rfl ?_
    exact z_ireturn (pc := 10) hc dJ9_max_7cf53_10 H
  · refine z_iload_n (pc := 5) hc dJ9_max_7cf53_5 rfl ?_
    refine z_goto (tgt := 10) (pc := 6) hc dJ9_max_7cf53_6 rfl ?_
    exact z_ireturn (pc := 10) hc dJ9_max_7cf53_10 H
end
theorem metJ9_max_7cf53 (l : Launch) (D : Zd) (base : Nat) {x0 : Int} {x1 : Int} {h : Zm} {Q : Int → Zm → Prop} (H : mJ9_max_7cf53 x0 x1 h Q) : zMet l D base yJ9_max_7cf53 cJ9_max_7cf53 2 (some .int) zrJ9_max_7cf53 [.inl x0, .inl x1] h (zQi D base Q) :=
  z_met (by decide +kernel) (Nat.le_of_ble_eq_true rfl) rfl (fun p e s m args below meth c hc hn => rJ9_max_7cf53 hc H)
def zrX3_shrink : Room := { frames := 0, cells := 0, slots := 0, locals := 0 }
def mX3_shrink_B8 (X8 : Int → Zm → Prop) (a0 : Nat) (x1 : Int) (x2 : Int) (x3 : Int) (x4 : Int) (h : Zm) (Q : Zm → Prop) : Prop :=
  cLt x4 (x1 + 3)
  (cLt x4 7
    (cGr h 13 a0 2 fun r1 => cGr h 13 a0 2 fun r2 => cLd h 1 r2 x4 fun v3 => cDiv (v3 * x2) x3 fun v4 => cSt h r1 x4 v4 fun h5 => X8 (x4 + 1) h5)
    (Q h))
  (Q h)
def mX3_shrink_H8  (a0 : Nat) (x1 : Int) (x2 : Int) (x3 : Int) (x4 : Int) (h : Zm) (Q : Zm → Prop) : Prop :=
  lfp1 (fun X8 x4 h => mX3_shrink_B8 X8 a0 x1 x2 x3 x4 h Q) x4 h
def mX3_shrink (a0 : Nat) (x1 : Int) (x2 : Int) (x3 : Int) (h : Zm) (Q : Zm → Prop) : Prop :=
  cLe x3 0
  (Q h)
  (mX3_shrink_H8  a0 x1 x2 x3 x1 h Q)
section
variable {p : Program} {l : Launch} {e : Env} {s : State} {m : MethodId} {args : Array Value} {below : List Frame} {meth : Method} {c : Code} {D : Zd} {base : Nat}
set_option maxRecDepth 100000 in
set_option maxHeartbeats 4000000 in
theorem rX3_shrink_B8 (hc : zOk p s m args meth c D cX3_shrink 5 RX3 none) {X8 : Int → Zm → Prop} {a0 : Nat} {x1 : Int} {x2 : Int} {x3 : Int} {x4 : Int} {h : Zm} {Q : Zm → Prop} (hX8 : ∀ (x4 : Int) (h : Zm), X8 x4 h → zW p l e zrX3_shrink s m args below meth c D base 5 (MQ below (zQv D base Q) args s 0 0 (zFree base)) 0 0 8 [some (.inr (.inl a0)), some (.inl x1), some (.inl x2), some (.inl x3), some (.inl x4)] [] h) (H : mX3_shrink_B8 X8 a0 x1 x2 x3 x4 h Q) : zW p l e zrX3_shrink s m args below meth c D base 5 (MQ below (zQv D base Q) args s 0 0 (zFree base)) 0 0 8 [some (.inr (.inl a0)), some (.inl x1), some (.inl x2), some (.inl x3), some (.inl x4)] [] h := by
  unfold mX3_shrink_B8 at H
  refine z_iload (pc := 8) hc dX3_shrink_8 rfl ?_
  refine z_iload_n (pc := 10) hc dX3_shrink_10 rfl ?_
  refine z_iconst (pc := 11) hc dX3_shrink_11 ?_
  refine z_iadd (pc := 12) hc dX3_shrink_12 ?_
  refine z_icmp_ge (tgt := 47) (pc := 13) hc dX3_shrink_13 rfl H (fun H => ?_) (fun H => ?_)
  · refine z_iload (pc := 16) hc dX3_shrink_16 rfl ?_
    refine z_bipush (pc := 18) hc dX3_shrink_18 (by decide) ?_
    refine z_icmp_ge (tgt := 47) (pc := 20) hc dX3_shrink_20 rfl H (fun H => ?_) (fun H => ?_)
    · refine z_aload_n (pc := 23) hc dX3_shrink_23 rfl ?_
      refine z_getR (pc := 24) hc dX3_shrink_24 zf_RX3_18 rfl rfl rfl H (fun r1 H => ?_)
      refine z_iload (pc := 27) hc dX3_shrink_27 rfl ?_
      refine z_aload_n (pc := 29) hc dX3_shrink_29 rfl ?_
      refine z_getR (pc := 30) hc dX3_shrink_30 zf_RX3_18 rfl rfl rfl H (fun r2 H => ?_)
      refine z_iload (pc := 33) hc dX3_shrink_33 rfl ?_
      refine z_iaload (pc := 35) hc dX3_shrink_35 H (fun v3 H => ?_)
      refine z_iload_n (pc := 36) hc dX3_shrink_36 rfl ?_
      refine z_imul (pc := 37) hc dX3_shrink_37 ?_
      refine z_iload_n (pc := 38) hc dX3_shrink_38 rfl ?_
      refine z_idiv (pc := 39) hc dX3_shrink_39 H (fun v4 H => ?_)
      refine z_iastore (pc := 40) hc dX3_shrink_40 H (fun h5 H => ?_)
      refine z_iinc (pc := 41) hc dX3_shrink_41 (by decide) rfl (ρ' := [some (.inr (.inl a0)), some (.inl x1), some (.inl x2), some (.inl x3), some (.inl (x4 + 1))]) rfl rfl ?_
      refine z_goto (tgt := 8) (pc := 44) hc dX3_shrink_44 rfl ?_
      exact hX8 _ _ H
    · exact z_return (pc := 47) hc dX3_shrink_47 H
  · exact z_return (pc := 47) hc dX3_shrink_47 H
theorem rX3_shrink_H8 (hc : zOk p s m args meth c D cX3_shrink 5 RX3 none)  {a0 : Nat} {x1 : Int} {x2 : Int} {x3 : Int} {x4 : Int} {h : Zm} {Q : Zm → Prop}  (H : mX3_shrink_H8  a0 x1 x2 x3 x4 h Q) : zW p l e zrX3_shrink s m args below meth c D base 5 (MQ below (zQv D base Q) args s 0 0 (zFree base)) 0 0 8 [some (.inr (.inl a0)), some (.inl x1), some (.inl x2), some (.inl x3), some (.inl x4)] [] h :=
  H (fun x4 h => zW p l e zrX3_shrink s m args below meth c D base 5 (MQ below (zQv D base Q) args s 0 0 (zFree base)) 0 0 8 [some (.inr (.inl a0)), some (.inl x1), some (.inl x2), some (.inl x3), some (.inl x4)] [] h) (fun x4 h H => rX3_shrink_B8 hc (fun _ _ q => q) H)
set_option maxRecDepth 100000 in
set_option maxHeartbeats 4000000 in
theorem rX3_shrink (hc : zOk p s m args meth c D cX3_shrink 5 RX3 none) {a0 : Nat} {x1 : Int} {x2 : Int} {x3 : Int} {h : Zm} {Q : Zm → Prop} (H : mX3_shrink a0 x1 x2 x3 h Q) : zW p l e zrX3_shrink s m args below meth c D base 5 (MQ below (zQv D base Q) args s 0 0 (zFree base)) 0 0 0 [some (.inr (.inl a0)), some (.inl x1), some (.inl x2), some (.inl x3), none] [] h := by
  unfold mX3_shrink at H
  refine z_iload_n (pc := 0) hc dX3_shrink_0 rfl ?_
  refine z_if_gt (tgt := 5) (pc := 1) hc dX3_shrink_1 rfl H (fun H => ?_) (fun H => ?_)
  · exact z_return (pc := 4) hc dX3_shrink_4 H
  · refine z_iload_n (pc := 5) hc dX3_shrink_5 rfl ?_
    refine z_istore (pc := 6) hc dX3_shrink_6 (by decide) (ρ' := [some (.inr (.inl a0)), some (.inl x1), some (.inl x2), some (.inl x3), some (.inl x1)]) rfl rfl ?_
    exact rX3_shrink_H8 hc H
end
theorem metX3_shrink (l : Launch) (D : Zd) (base : Nat) {a0 : Nat} {x1 : Int} {x2 : Int} {x3 : Int} {h : Zm} {Q : Zm → Prop} (H : mX3_shrink a0 x1 x2 x3 h Q) : zMet l D base yX3_shrink cX3_shrink 5 none zrX3_shrink [.inr (.inl a0), .inl x1, .inl x2, .inl x3] h (zQv D base Q) :=
  z_met (by decide +kernel) (Nat.le_of_ble_eq_true rfl) rfl (fun p e s m args below meth c hc hn => rX3_shrink hc H)
