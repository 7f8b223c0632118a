/-! printed by gen.py: X6_inkAt X6_neededLimit X6_addUpNeeds X6_thriftiestAmount X6_disorderedPixels X6_undo X7_init X7_in X7_floor X7_hold X7_ends X7_becomes X7_setSize X7_of X7_isNode X7_depth X7_isBelow -/
def zrX6_inkAt : Room := { frames := 7, cells := 0, slots := 0, locals := 163 }
def mX6_inkAt (a0 : Nat) (x1 : Int) (x2 : Int) (h : Zm) (Q : Int → Zm → Prop) : Prop :=
  cLt x1 0
  (Q (-1) h)
  (mX6_within x2 0 8 h fun v2 h1 => cEq v2 0
    (Q (-1) h1)
    (cRc h1 16 a0 <| mX6_countInks a0 h1 fun h3 => cGr h3 16 a0 5 fun r4 => cRc h3 11 r4 <| mX1_rowAt r4 x1 h3 fun v6 h5 => cEq v6 (-1)
      (Q (-4) h5)
      (cGr h5 16 a0 5 fun r7 => cRc h5 11 r7 <| mX1_valueOf r7 v6 x2 h5 fun v9 h8 => Q v9 h8)))
section
variable {p : Program} {l : Launch} {e : Env} {s : State} {m : MethodId} {args : Array Value} {below : List Frame} {meth : Method} {c : Code} {D : Zd} {base : Nat}
set_option maxRecDepth 100000 in
set_option maxHeartbeats 4000000 in
theorem rX6_inkAt (hc : zOk p s m args meth c D cX6_inkAt 4 RX6 (some .int)) {a0 : Nat} {x1 : Int} {x2 : Int} {h : Zm} {Q : Int → Zm → Prop} (H : mX6_inkAt a0 x1 x2 h Q) : zW p l e zrX6_inkAt s m args below meth c D base 4 (MQ below (zQi D base Q) args s 0 0 (zFree base)) 0 0 0 [some (.inr a0), some (.inl x1), some (.inl x2), none] [] h := by
  unfold mX6_inkAt at H
  refine z_iload_n (pc := 0) hc dX6_inkAt_0 rfl ?_
  refine z_if_lt (tgt := 14) (pc := 1) hc dX6_inkAt_1 rfl H (fun H => ?_) (fun H => ?_)
  · refine z_iconst (pc := 14) hc dX6_inkAt_14 ?_
    exact z_ireturn (pc := 15) hc dX6_inkAt_15 H
  · refine z_iload_n (pc := 4) hc dX6_inkAt_4 rfl ?_
    refine z_iconst (pc := 5) hc dX6_inkAt_5 ?_
    refine z_bipush (pc := 6) hc dX6_inkAt_6 (by decide) ?_
    refine z_calI (z_runS (pc := 8) hc dX6_inkAt_8 zw_RX6_52 (metX6_within _ _ _ H) rfl (Nat.le_of_ble_eq_true rfl) ⟨Nat.le_of_ble_eq_true rfl, Nat.le_of_ble_eq_true rfl⟩ ⟨by exact Nat.le_of_ble_eq_true rfl, by exact Nat.le_of_ble_eq_true rfl⟩) rfl ⟨rfl, rfl⟩ (fun v2 h1 H => ?_)
    refine z_if_ne (tgt := 16) (pc := 11) hc dX6_inkAt_11 rfl H (fun H => ?_) (fun H => ?_)
    · refine z_iconst (pc := 14) hc dX6_inkAt_14 ?_
      exact z_ireturn (pc := 15) hc dX6_inkAt_15 H
    · refine z_aload_n (pc := 16) hc dX6_inkAt_16 rfl ?_
      refine z_calV0 (z_runV (pc := 17) (ci := 6) (T := TX6) (N := 8) hc dX6_inkAt_17 zw_RX6_280 (metX6_countInks _ _ _ H.2) rfl (Nat.le_of_ble_eq_true rfl) ⟨Nat.le_of_ble_eq_true rfl, Nat.le_of_ble_eq_true rfl⟩ ⟨by exact Nat.le_of_ble_eq_true rfl, by exact Nat.le_of_ble_eq_true rfl⟩ rfl H.1) rfl ⟨rfl, rfl⟩ (fun h3 H => ?_)
      refine z_aload_n (pc := 20) hc dX6_inkAt_20 rfl ?_
      refine z_getR (pc := 21) hc dX6_inkAt_21 zf_RX6_41 rfl rfl rfl H (fun r4 H => ?_)
      refine z_iload_n (pc := 24) hc dX6_inkAt_24 rfl ?_
      refine z_calI (z_runV (pc := 25) (ci := 1) (T := TX1) (N := 2) hc dX6_inkAt_25 zw_RX6_286 (metX1_rowAt _ _ _ H.2) rfl (Nat.le_of_ble_eq_true rfl) ⟨Nat.le_of_ble_eq_true rfl, Nat.le_of_ble_eq_true rfl⟩ ⟨by exact Nat.le_of_ble_eq_true rfl, by exact Nat.le_of_ble_eq_true rfl⟩ rfl H.1) rfl ⟨rfl, rfl⟩ (fun v6 h5 H => ?_)
      refine z_istore_n (pc := 28) hc dX6_inkAt_28 (by decide) (ρ' := [some (.inr a0), some (.inl x1), some (.inl x2), some (.inl v6)]) rfl ?_
      refine z_iload_n (pc := 29) hc dX6_inkAt_29 rfl ?_
      refine z_iconst (pc := 30) hc dX6_inkAt_30 ?_
      refine z_icmp_ne (tgt := 39) (pc := 31) hc dX6_inkAt_31 rfl H (fun H => ?_) (fun H => ?_)
      · refine z_bipush (pc := 34) hc dX6_inkAt_34 (by decide) ?_
        refine z_goto (tgt := 48) (pc := 36) hc dX6_inkAt_36 rfl ?_
        exact z_ireturn (pc := 48) hc dX6_inkAt_48 H
      · refine z_aload_n (pc := 39) hc dX6_inkAt_39 rfl ?_
        refine z_getR (pc := 40) hc dX6_inkAt_40 zf_RX6_41 rfl rfl rfl H (fun r7 H => ?_)
        refine z_iload_n (pc := 43) hc dX6_inkAt_43 rfl ?_
        refine z_iload_n (pc := 44) hc dX6_inkAt_44 rfl ?_
        refine z_calI (z_runV (pc := 45) (ci := 1) (T := TX1) (N := 2) hc dX6_inkAt_45 zw_RX6_289 (metX1_valueOf _ _ _ H.2) rfl (Nat.le_of_ble_eq_true rfl) ⟨Nat.le_of_ble_eq_true rfl, Nat.le_of_ble_eq_true rfl⟩ ⟨by exact Nat.le_of_ble_eq_true rfl, by exact Nat.le_of_ble_eq_true rfl⟩ rfl H.1) rfl ⟨rfl, rfl⟩ (fun v9 h8 H => ?_)
        exact z_ireturn (pc := 48) hc dX6_inkAt_48 H
end
theorem metX6_inkAt (l : Launch) (D : Zd) (base : Nat) {a0 : Nat} {x1 : Int} {x2 : Int} {h : Zm} {Q : Int → Zm → Prop} (H : mX6_inkAt a0 x1 x2 h Q) : zMet l D base yX6_inkAt cX6_inkAt 4 (some .int) zrX6_inkAt [.inr a0, .inl x1, .inl x2] h (zQi D base Q) :=
  z_met (by decide +kernel) (Nat.le_of_ble_eq_true rfl) (fun p e s m args below meth c hc hn => rX6_inkAt hc H)
def zrX6_neededLimit : Room := { frames := 6, cells := 0, slots := 0, locals := 141 }
def mX6_neededLimit_B17 (X4 : Int → Int → Zm → Prop) (X17 : Int → Int → Zm → Prop) (a0 : Nat) (x1 : Int) (x2 : Int) (x3 : Int) (h : Zm) (Q : Int → Zm → Prop) : Prop :=
  cGr h 16 a0 0 fun r3 => cGi h 14 r3 0 fun v4 => cLt x3 v4
  (cRc h 16 a0 <| mX6_separateAt a0 x3 x2 h fun h5 => cGr h5 16 a0 4 fun r6 => cGr h5 13 r6 1 fun r7 => mX6_sumOf r7 h5 fun v9 h8 => mJ9_max_7cf53 x1 v9 h8 fun v11 h10 => X17 v11 (x3 + 1) h10)
  (X4 x1 (x2 + 1) h)
def mX6_neededLimit_H17 (X4 : Int → Int → Zm → Prop) (a0 : Nat) (x1 : Int) (x2 : Int) (x3 : Int) (h : Zm) (Q : Int → Zm → Prop) : Prop :=
  lfp2 (fun X17 x1 x3 h => mX6_neededLimit_B17 X4 X17 a0 x1 x2 x3 h Q) x1 x3 h
def mX6_neededLimit_B4 (X4 : Int → Int → Zm → Prop) (a0 : Nat) (x1 : Int) (x2 : Int) (h : Zm) (Q : Int → Zm → Prop) : Prop :=
  cGr h 16 a0 0 fun r1 => cGi h 14 r1 1 fun v2 => cLt x2 v2
  (mX6_neededLimit_H17 X4 a0 x1 x2 0 h Q)
  (Q x1 h)
def mX6_neededLimit_H4  (a0 : Nat) (x1 : Int) (x2 : Int) (h : Zm) (Q : Int → Zm → Prop) : Prop :=
  lfp2 (fun X4 x1 x2 h => mX6_neededLimit_B4 X4 a0 x1 x2 h Q) x1 x2 h
def mX6_neededLimit (a0 : Nat) (h : Zm) (Q : Int → Zm → Prop) : Prop :=
  mX6_neededLimit_H4  a0 0 0 h Q
section
variable {p : Program} {l : Launch} {e : Env} {s : State} {m : MethodId} {args : Array Value} {below : List Frame} {meth : Method} {c : Code} {D : Zd} {base : Nat}
set_option maxRecDepth 100000 in
set_option maxHeartbeats 4000000 in
theorem rX6_neededLimit_B17 (hc : zOk p s m args meth c D cX6_neededLimit 4 RX6 (some .int)) {X4 : Int → Int → Zm → Prop} {X17 : Int → Int → Zm → Prop} {a0 : Nat} {x1 : Int} {x2 : Int} {x3 : Int} {h : Zm} {Q : Int → Zm → Prop} (hX4 : ∀ (x1 : Int) (x2 : Int) (h : Zm), X4 x1 x2 h → zW p l e zrX6_neededLimit s m args below meth c D base 4 (MQ below (zQi D base Q) args s 0 0 (zFree base)) 0 0 4 [some (.inr a0), some (.inl x1), some (.inl x2), none] [] h) (hX17 : ∀ (x1 : Int) (x3 : Int) (h : Zm), X17 x1 x3 h → zW p l e zrX6_neededLimit s m args below meth c D base 4 (MQ below (zQi D base Q) args s 0 0 (zFree base)) 0 0 17 [some (.inr a0), some (.inl x1), some (.inl x2), some (.inl x3)] [] h) (H : mX6_neededLimit_B17 X4 X17 a0 x1 x2 x3 h Q) : zW p l e zrX6_neededLimit s m args below meth c D base 4 (MQ below (zQi D base Q) args s 0 0 (zFree base)) 0 0 17 [some (.inr a0), some (.inl x1), some (.inl x2), some (.inl x3)] [] h := by
  unfold mX6_neededLimit_B17 at H
  refine z_iload_n (pc := 17) hc dX6_neededLimit_17 rfl ?_
  refine z_aload_n (pc := 18) hc dX6_neededLimit_18 rfl ?_
  refine z_getR (pc := 19) hc dX6_neededLimit_19 zf_RX6_12 rfl rfl rfl H (fun r3 H => ?_)
  refine z_getI (pc := 22) hc dX6_neededLimit_22 zf_RX6_56 rfl rfl rfl H (fun v4 H => ?_)
  refine z_icmp_ge (tgt := 55) (pc := 25) hc dX6_neededLimit_25 rfl H (fun H => ?_) (fun H => ?_)
  · refine z_aload_n (pc := 28) hc dX6_neededLimit_28 rfl ?_
    refine z_iload_n (pc := 29) hc dX6_neededLimit_29 rfl ?_
    refine z_iload_n (pc := 30) hc dX6_neededLimit_30 rfl ?_
    refine z_calV0 (z_runV (pc := 31) (ci := 6) (T := TX6) (N := 8) hc dX6_neededLimit_31 zw_RX6_225 (metX6_separateAt _ _ _ H.2) rfl (Nat.le_of_ble_eq_true rfl) ⟨Nat.le_of_ble_eq_true rfl, Nat.le_of_ble_eq_true rfl⟩ ⟨by exact Nat.le_of_ble_eq_true rfl, by exact Nat.le_of_ble_eq_true rfl⟩ rfl H.1) rfl ⟨rfl, rfl⟩ (fun h5 H => ?_)
    refine z_iload_n (pc := 34) hc dX6_neededLimit_34 rfl ?_
    refine z_aload_n (pc := 35) hc dX6_neededLimit_35 rfl ?_
    refine z_getR (pc := 36) hc dX6_neededLimit_36 zf_RX6_34 rfl rfl rfl H (fun r6 H => ?_)
    refine z_getR (pc := 39) hc dX6_neededLimit_39 zf_RX6_273 rfl rfl rfl H (fun r7 H => ?_)
    refine z_calI (z_runS (pc := 42) hc dX6_neededLimit_42 zw_RX6_257 (metX6_sumOf _ _ _ H) rfl (Nat.le_of_ble_eq_true rfl) ⟨Nat.le_of_ble_eq_true rfl, Nat.le_of_ble_eq_true rfl⟩ ⟨by exact Nat.le_of_ble_eq_true rfl, by exact Nat.le_of_ble_eq_true rfl⟩) rfl ⟨rfl, rfl⟩ (fun v9 h8 H => ?_)
    refine z_calI (z_runS (pc := 45) hc dX6_neededLimit_45 zw_RX6_267 (metJ9_max_7cf53 _ _ _ H) rfl (Nat.le_of_ble_eq_true rfl) ⟨Nat.le_of_ble_eq_true rfl, Nat.le_of_ble_eq_true rfl⟩ ⟨by exact Nat.le_of_ble_eq_true rfl, by exact Nat.le_of_ble_eq_true rfl⟩) rfl ⟨rfl, rfl⟩ (fun v11 h10 H => ?_)
    refine z_istore_n (pc := 48) hc dX6_neededLimit_48 (by decide) (ρ' := [some (.inr a0), some (.inl v11), some (.inl x2), some (.inl x3)]) rfl ?_
    refine z_iinc (pc := 49) hc dX6_neededLimit_49 (by decide) rfl (ρ' := [some (.inr a0), some (.inl v11), some (.inl x2), some (.inl (x3 + 1))]) rfl ?_
    refine z_goto (tgt := 17) (pc := 52) hc dX6_neededLimit_52 rfl ?_
    exact hX17 _ _ _ H
  · refine z_iinc (pc := 55) hc dX6_neededLimit_55 (by decide) rfl (ρ' := [some (.inr a0), some (.inl x1), some (.inl (x2 + 1)), some (.inl x3)]) rfl ?_
    refine z_goto (tgt := 4) (pc := 58) hc dX6_neededLimit_58 rfl ?_
    refine z_mask [true, true, true, false] (ρ' := [some (.inr a0), some (.inl x1), some (.inl (x2 + 1)), none]) rfl ?_
    exact hX4 _ _ _ H
theorem rX6_neededLimit_H17 (hc : zOk p s m args meth c D cX6_neededLimit 4 RX6 (some .int)) {X4 : Int → Int → Zm → Prop} {a0 : Nat} {x1 : Int} {x2 : Int} {x3 : Int} {h : Zm} {Q : Int → Zm → Prop} (hX4 : ∀ (x1 : Int) (x2 : Int) (h : Zm), X4 x1 x2 h → zW p l e zrX6_neededLimit s m args below meth c D base 4 (MQ below (zQi D base Q) args s 0 0 (zFree base)) 0 0 4 [some (.inr a0), some (.inl x1), some (.inl x2), none] [] h) (H : mX6_neededLimit_H17 X4 a0 x1 x2 x3 h Q) : zW p l e zrX6_neededLimit s m args below meth c D base 4 (MQ below (zQi D base Q) args s 0 0 (zFree base)) 0 0 17 [some (.inr a0), some (.inl x1), some (.inl x2), some (.inl x3)] [] h :=
  H (fun x1 x3 h => zW p l e zrX6_neededLimit s m args below meth c D base 4 (MQ below (zQi D base Q) args s 0 0 (zFree base)) 0 0 17 [some (.inr a0), some (.inl x1), some (.inl x2), some (.inl x3)] [] h) (fun x1 x3 h H => rX6_neededLimit_B17 hc hX4 (fun _ _ _ q => q) H)
set_option maxRecDepth 100000 in
set_option maxHeartbeats 4000000 in
theorem rX6_neededLimit_B4 (hc : zOk p s m args meth c D cX6_neededLimit 4 RX6 (some .int)) {X4 : Int → Int → Zm → Prop} {a0 : Nat} {x1 : Int} {x2 : Int} {h : Zm} {Q : Int → Zm → Prop} (hX4 : ∀ (x1 : Int) (x2 : Int) (h : Zm), X4 x1 x2 h → zW p l e zrX6_neededLimit s m args below meth c D base 4 (MQ below (zQi D base Q) args s 0 0 (zFree base)) 0 0 4 [some (.inr a0), some (.inl x1), some (.inl x2), none] [] h) (H : mX6_neededLimit_B4 X4 a0 x1 x2 h Q) : zW p l e zrX6_neededLimit s m args below meth c D base 4 (MQ below (zQi D base Q) args s 0 0 (zFree base)) 0 0 4 [some (.inr a0), some (.inl x1), some (.inl x2), none] [] h := by
  unfold mX6_neededLimit_B4 at H
  refine z_iload_n (pc := 4) hc dX6_neededLimit_4 rfl ?_
  refine z_aload_n (pc := 5) hc dX6_neededLimit_5 rfl ?_
  refine z_getR (pc := 6) hc dX6_neededLimit_6 zf_RX6_12 rfl rfl rfl H (fun r1 H => ?_)
  refine z_getI (pc := 9) hc dX6_neededLimit_9 zf_RX6_59 rfl rfl rfl H (fun v2 H => ?_)
  refine z_icmp_ge (tgt := 61) (pc := 12) hc dX6_neededLimit_12 rfl H (fun H => ?_) (fun H => ?_)
  · refine z_iconst (pc := 15) hc dX6_neededLimit_15 ?_
    refine z_istore_n (pc := 16) hc dX6_neededLimit_16 (by decide) (ρ' := [some (.inr a0), some (.inl x1), some (.inl x2), some (.inl 0)]) rfl ?_
    exact rX6_neededLimit_H17 hc hX4 H
  · refine z_iload_n (pc := 61) hc dX6_neededLimit_61 rfl ?_
    exact z_ireturn (pc := 62) hc dX6_neededLimit_62 H
theorem rX6_neededLimit_H4 (hc : zOk p s m args meth c D cX6_neededLimit 4 RX6 (some .int))  {a0 : Nat} {x1 : Int} {x2 : Int} {h : Zm} {Q : Int → Zm → Prop}  (H : mX6_neededLimit_H4  a0 x1 x2 h Q) : zW p l e zrX6_neededLimit s m args below meth c D base 4 (MQ below (zQi D base Q) args s 0 0 (zFree base)) 0 0 4 [some (.inr a0), some (.inl x1), some (.inl x2), none] [] h :=
  H (fun x1 x2 h => zW p l e zrX6_neededLimit s m args below meth c D base 4 (MQ below (zQi D base Q) args s 0 0 (zFree base)) 0 0 4 [some (.inr a0), some (.inl x1), some (.inl x2), none] [] h) (fun x1 x2 h H => rX6_neededLimit_B4 hc (fun _ _ _ q => q) H)
set_option maxRecDepth 100000 in
set_option maxHeartbeats 4000000 in
theorem rX6_neededLimit (hc : zOk p s m args meth c D cX6_neededLimit 4 RX6 (some .int)) {a0 : Nat} {h : Zm} {Q : Int → Zm → Prop} (H : mX6_neededLimit a0 h Q) : zW p l e zrX6_neededLimit s m args below meth c D base 4 (MQ below (zQi D base Q) args s 0 0 (zFree base)) 0 0 0 [some (.inr a0), none, none, none] [] h := by
  unfold mX6_neededLimit at H
  refine z_iconst (pc := 0) hc dX6_neededLimit_0 ?_
  refine z_istore_n (pc := 1) hc dX6_neededLimit_1 (by decide) (ρ' := [some (.inr a0), some (.inl 0), none, none]) rfl ?_
  refine z_iconst (pc := 2) hc dX6_neededLimit_2 ?_
  refine z_istore_n (pc := 3) hc dX6_neededLimit_3 (by decide) (ρ' := [some (.inr a0), some (.inl 0), some (.inl 0), none]) rfl ?_
  exact rX6_neededLimit_H4 hc H
end
theorem metX6_neededLimit (l : Launch) (D : Zd) (base : Nat) {a0 : Nat} {h : Zm} {Q : Int → Zm → Prop} (H : mX6_neededLimit a0 h Q) : zMet l D base yX6_neededLimit cX6_neededLimit 4 (some .int) zrX6_neededLimit [.inr a0] h (zQi D base Q) :=
  z_met (by decide +kernel) (Nat.le_of_ble_eq_true rfl) (fun p e s m args below meth c hc hn => rX6_neededLimit hc H)
def zrX6_addUpNeeds : Room := { frames := 5, cells := 0, slots := 0, locals := 119 }
def mX6_addUpNeeds_B62 (X23 : Int → Zm → Prop) (X36 : Int → Zm → Prop) (X62 : Int → Zm → Prop) (a0 : Nat) (x1 : Int) (x2 : Int) (x3 : Int) (h : Zm) (Q : Zm → Prop) : Prop :=
  cLe x3 100
  (cGr h 16 a0 4 fun r10 => cGr h 16 a0 0 fun r11 => cRc h 13 r10 <| mX3_separate r10 r11 x3 h fun h12 => cGr h12 16 a0 7 fun r13 => cLd h12 1 r13 x3 fun v14 => cGr h12 16 a0 4 fun r15 => cGr h12 13 r15 2 fun r16 => mX6_sumOf r16 h12 fun v18 h17 => cSt h17 r13 x3 (v14 + v18) fun h19 => X62 (x3 + 1) h19)
  (X36 (x2 + 1) h)
def mX6_addUpNeeds_H62 (X23 : Int → Zm → Prop) (X36 : Int → Zm → Prop) (a0 : Nat) (x1 : Int) (x2 : Int) (x3 : Int) (h : Zm) (Q : Zm → Prop) : Prop :=
  lfp1 (fun X62 x3 h => mX6_addUpNeeds_B62 X23 X36 X62 a0 x1 x2 x3 h Q) x3 h
def mX6_addUpNeeds_B36 (X23 : Int → Zm → Prop) (X36 : Int → Zm → Prop) (a0 : Nat) (x1 : Int) (x2 : Int) (h : Zm) (Q : Zm → Prop) : Prop :=
  cGr h 16 a0 0 fun r5 => cGi h 14 r5 0 fun v6 => cLt x2 v6
  (cGr h 16 a0 4 fun r7 => cGr h 16 a0 0 fun r8 => cRc h 13 r7 <| mX3_render r7 r8 x2 x1 h fun h9 => mX6_addUpNeeds_H62 X23 X36 a0 x1 x2 0 h9 Q)
  (X23 (x1 + 1) h)
def mX6_addUpNeeds_H36 (X23 : Int → Zm → Prop) (a0 : Nat) (x1 : Int) (x2 : Int) (h : Zm) (Q : Zm → Prop) : Prop :=
  lfp1 (fun X36 x2 h => mX6_addUpNeeds_B36 X23 X36 a0 x1 x2 h Q) x2 h
def mX6_addUpNeeds_B23 (X23 : Int → Zm → Prop) (a0 : Nat) (x1 : Int) (h : Zm) (Q : Zm → Prop) : Prop :=
  cGr h 16 a0 0 fun r3 => cGi h 14 r3 1 fun v4 => cLt x1 v4
  (mX6_addUpNeeds_H36 X23 a0 x1 0 h Q)
  (Q h)
def mX6_addUpNeeds_H23  (a0 : Nat) (x1 : Int) (h : Zm) (Q : Zm → Prop) : Prop :=
  lfp1 (fun X23 x1 h => mX6_addUpNeeds_B23 X23 a0 x1 h Q) x1 h
def mX6_addUpNeeds_B2 (X2 : Int → Zm → Prop) (a0 : Nat) (x1 : Int) (h : Zm) (Q : Zm → Prop) : Prop :=
  cLe x1 100
  (cGr h 16 a0 7 fun r1 => cSt h r1 x1 0 fun h2 => X2 (x1 + 1) h2)
  (mX6_addUpNeeds_H23  a0 0 h Q)
def mX6_addUpNeeds_H2  (a0 : Nat) (x1 : Int) (h : Zm) (Q : Zm → Prop) : Prop :=
  lfp1 (fun X2 x1 h => mX6_addUpNeeds_B2 X2 a0 x1 h Q) x1 h
def mX6_addUpNeeds (a0 : Nat) (h : Zm) (Q : Zm → Prop) : Prop :=
  mX6_addUpNeeds_H2  a0 0 h Q
section
variable {p : Program} {l : Launch} {e : Env} {s : State} {m : MethodId} {args : Array Value} {below : List Frame} {meth : Method} {c : Code} {D : Zd} {base : Nat}
set_option maxRecDepth 100000 in
set_option maxHeartbeats 4000000 in
theorem rX6_addUpNeeds_B62 (hc : zOk p s m args meth c D cX6_addUpNeeds 4 RX6 none) {X23 : Int → Zm → Prop} {X36 : Int → Zm → Prop} {X62 : Int → Zm → Prop} {a0 : Nat} {x1 : Int} {x2 : Int} {x3 : Int} {h : Zm} {Q : Zm → Prop} (hX23 : ∀ (x1 : Int) (h : Zm), X23 x1 h → zW p l e zrX6_addUpNeeds s m args below meth c D base 4 (MQ below (zQv D base Q) args s 0 0 (zFree base)) 0 0 23 [some (.inr a0), some (.inl x1), none, none] [] h) (hX36 : ∀ (x2 : Int) (h : Zm), X36 x2 h → zW p l e zrX6_addUpNeeds s m args below meth c D base 4 (MQ below (zQv D base Q) args s 0 0 (zFree base)) 0 0 36 [some (.inr a0), some (.inl x1), some (.inl x2), none] [] h) (hX62 : ∀ (x3 : Int) (h : Zm), X62 x3 h → zW p l e zrX6_addUpNeeds s m args below meth c D base 4 (MQ below (zQv D base Q) args s 0 0 (zFree base)) 0 0 62 [some (.inr a0), some (.inl x1), some (.inl x2), some (.inl x3)] [] h) (H : mX6_addUpNeeds_B62 X23 X36 X62 a0 x1 x2 x3 h Q) : zW p l e zrX6_addUpNeeds s m args below meth c D base 4 (MQ below (zQv D base Q) args s 0 0 (zFree base)) 0 0 62 [some (.inr a0), some (.inl x1), some (.inl x2), some (.inl x3)] [] h := by
  unfold mX6_addUpNeeds_B62 at H
  refine z_iload_n (pc := 62) hc dX6_addUpNeeds_62 rfl ?_
  refine z_bipush (pc := 63) hc dX6_addUpNeeds_63 (by decide) ?_
  refine z_icmp_gt (tgt := 105) (pc := 65) hc dX6_addUpNeeds_65 rfl H (fun H => ?_) (fun H => ?_)
  · refine z_aload_n (pc := 68) hc dX6_addUpNeeds_68 rfl ?_
    refine z_getR (pc := 69) hc dX6_addUpNeeds_69 zf_RX6_34 rfl rfl rfl H (fun r10 H => ?_)
    refine z_aload_n (pc := 72) hc dX6_addUpNeeds_72 rfl ?_
    refine z_getR (pc := 73) hc dX6_addUpNeeds_73 zf_RX6_12 rfl rfl rfl H (fun r11 H => ?_)
    refine z_iload_n (pc := 76) hc dX6_addUpNeeds_76 rfl ?_
    refine z_calV0 (z_runV (pc := 77) (ci := 3) (T := TX3) (N := 3) hc dX6_addUpNeeds_77 zw_RX6_235 (metX3_separate _ _ _ H.2) rfl (Nat.le_of_ble_eq_true rfl) ⟨Nat.le_of_ble_eq_true rfl, Nat.le_of_ble_eq_true rfl⟩ ⟨by exact Nat.le_of_ble_eq_true rfl, by exact Nat.le_of_ble_eq_true rfl⟩ rfl H.1) rfl ⟨rfl, rfl⟩ (fun h12 H => ?_)
    refine z_aload_n (pc := 80) hc dX6_addUpNeeds_80 rfl ?_
    refine z_getR (pc := 81) hc dX6_addUpNeeds_81 zf_RX6_49 rfl rfl rfl H (fun r13 H => ?_)
    refine z_iload_n (pc := 84) hc dX6_addUpNeeds_84 rfl ?_
    refine z_dup2 (pc := 85) hc dX6_addUpNeeds_85 ?_
    refine z_iaload (pc := 86) hc dX6_addUpNeeds_86 H (fun v14 H => ?_)
    refine z_aload_n (pc := 87) hc dX6_addUpNeeds_87 rfl ?_
    refine z_getR (pc := 88) hc dX6_addUpNeeds_88 zf_RX6_34 rfl rfl rfl H (fun r15 H => ?_)
    refine z_getR (pc := 91) hc dX6_addUpNeeds_91 zf_RX6_264 rfl rfl rfl H (fun r16 H => ?_)
    refine z_calI (z_runS (pc := 94) hc dX6_addUpNeeds_94 zw_RX6_257 (metX6_sumOf _ _ _ H) rfl (Nat.le_of_ble_eq_true rfl) ⟨Nat.le_of_ble_eq_true rfl, Nat.le_of_ble_eq_true rfl⟩ ⟨by exact Nat.le_of_ble_eq_true rfl, by exact Nat.le_of_ble_eq_true rfl⟩) rfl ⟨rfl, rfl⟩ (fun v18 h17 H => ?_)
    refine z_iadd (pc := 97) hc dX6_addUpNeeds_97 ?_
    refine z_iastore (pc := 98) hc dX6_addUpNeeds_98 H (fun h19 H => ?_)
    refine z_iinc (pc := 99) hc dX6_addUpNeeds_99 (by decide) rfl (ρ' := [some (.inr a0), some (.inl x1), some (.inl x2), some (.inl (x3 + 1))]) rfl ?_
    refine z_goto (tgt := 62) (pc := 102) hc dX6_addUpNeeds_102 rfl ?_
    exact hX62 _ _ H
  · refine z_iinc (pc := 105) hc dX6_addUpNeeds_105 (by decide) rfl (ρ' := [some (.inr a0), some (.inl x1), some (.inl (x2 + 1)), some (.inl x3)]) rfl ?_
    refine z_goto (tgt := 36) (pc := 108) hc dX6_addUpNeeds_108 rfl ?_
    refine z_mask [true, true, true, false] (ρ' := [some (.inr a0), some (.inl x1), some (.inl (x2 + 1)), none]) rfl ?_
    exact hX36 _ _ H
theorem rX6_addUpNeeds_H62 (hc : zOk p s m args meth c D cX6_addUpNeeds 4 RX6 none) {X23 : Int → Zm → Prop} {X36 : Int → Zm → Prop} {a0 : Nat} {x1 : Int} {x2 : Int} {x3 : Int} {h : Zm} {Q : Zm → Prop} (hX23 : ∀ (x1 : Int) (h : Zm), X23 x1 h → zW p l e zrX6_addUpNeeds s m args below meth c D base 4 (MQ below (zQv D base Q) args s 0 0 (zFree base)) 0 0 23 [some (.inr a0), some (.inl x1), none, none] [] h) (hX36 : ∀ (x2 : Int) (h : Zm), X36 x2 h → zW p l e zrX6_addUpNeeds s m args below meth c D base 4 (MQ below (zQv D base Q) args s 0 0 (zFree base)) 0 0 36 [some (.inr a0), some (.inl x1), some (.inl x2), none] [] h) (H : mX6_addUpNeeds_H62 X23 X36 a0 x1 x2 x3 h Q) : zW p l e zrX6_addUpNeeds s m args below meth c D base 4 (MQ below (zQv D base Q) args s 0 0 (zFree base)) 0 0 62 [some (.inr a0), some (.inl x1), some (.inl x2), some (.inl x3)] [] h :=
  H (fun x3 h => zW p l e zrX6_addUpNeeds s m args below meth c D base 4 (MQ below (zQv D base Q) args s 0 0 (zFree base)) 0 0 62 [some (.inr a0), some (.inl x1), some (.inl x2), some (.inl x3)] [] h) (fun x3 h H => rX6_addUpNeeds_B62 hc hX23 hX36 (fun _ _ q => q) H)
set_option maxRecDepth 100000 in
set_option maxHeartbeats 4000000 in
theorem rX6_addUpNeeds_B36 (hc : zOk p s m args meth c D cX6_addUpNeeds 4 RX6 none) {X23 : Int → Zm → Prop} {X36 : Int → Zm → Prop} {a0 : Nat} {x1 : Int} {x2 : Int} {h : Zm} {Q : Zm → Prop} (hX23 : ∀ (x1 : Int) (h : Zm), X23 x1 h → zW p l e zrX6_addUpNeeds s m args below meth c D base 4 (MQ below (zQv D base Q) args s 0 0 (zFree base)) 0 0 23 [some (.inr a0), some (.inl x1), none, none] [] h) (hX36 : ∀ (x2 : Int) (h : Zm), X36 x2 h → zW p l e zrX6_addUpNeeds s m args below meth c D base 4 (MQ below (zQv D base Q) args s 0 0 (zFree base)) 0 0 36 [some (.inr a0), some (.inl x1), some (.inl x2), none] [] h) (H : mX6_addUpNeeds_B36 X23 X36 a0 x1 x2 h Q) : zW p l e zrX6_addUpNeeds s m args below meth c D base 4 (MQ below (zQv D base Q) args s 0 0 (zFree base)) 0 0 36 [some (.inr a0), some (.inl x1), some (.inl x2), none] [] h := by
  unfold mX6_addUpNeeds_B36 at H
  refine z_iload_n (pc := 36) hc dX6_addUpNeeds_36 rfl ?_
  refine z_aload_n (pc := 37) hc dX6_addUpNeeds_37 rfl ?_
  refine z_getR (pc := 38) hc dX6_addUpNeeds_38 zf_RX6_12 rfl rfl rfl H (fun r5 H => ?_)
  refine z_getI (pc := 41) hc dX6_addUpNeeds_41 zf_RX6_56 rfl rfl rfl H (fun v6 H => ?_)
  refine z_icmp_ge (tgt := 111) (pc := 44) hc dX6_addUpNeeds_44 rfl H (fun H => ?_) (fun H => ?_)
  · refine z_aload_n (pc := 47) hc dX6_addUpNeeds_47 rfl ?_
    refine z_getR (pc := 48) hc dX6_addUpNeeds_48 zf_RX6_34 rfl rfl rfl H (fun r7 H => ?_)
    refine z_aload_n (pc := 51) hc dX6_addUpNeeds_51 rfl ?_
    refine z_getR (pc := 52) hc dX6_addUpNeeds_52 zf_RX6_12 rfl rfl rfl H (fun r8 H => ?_)
    refine z_iload_n (pc := 55) hc dX6_addUpNeeds_55 rfl ?_
    refine z_iload_n (pc := 56) hc dX6_addUpNeeds_56 rfl ?_
    refine z_calV0 (z_runV (pc := 57) (ci := 3) (T := TX3) (N := 3) hc dX6_addUpNeeds_57 zw_RX6_218 (metX3_render _ _ _ H.2) rfl (Nat.le_of_ble_eq_true rfl) ⟨Nat.le_of_ble_eq_true rfl, Nat.le_of_ble_eq_true rfl⟩ ⟨by exact Nat.le_of_ble_eq_true rfl, by exact Nat.le_of_ble_eq_true rfl⟩ rfl H.1) rfl ⟨rfl, rfl⟩ (fun h9 H => ?_)
    refine z_iconst (pc := 60) hc dX6_addUpNeeds_60 ?_
    refine z_istore_n (pc := 61) hc dX6_addUpNeeds_61 (by decide) (ρ' := [some (.inr a0), some (.inl x1), some (.inl x2), some (.inl 0)]) rfl ?_
    exact rX6_addUpNeeds_H62 hc hX23 hX36 H
  · refine z_iinc (pc := 111) hc dX6_addUpNeeds_111 (by decide) rfl (ρ' := [some (.inr a0), some (.inl (x1 + 1)), some (.inl x2), none]) rfl ?_
    refine z_goto (tgt := 23) (pc := 114) hc dX6_addUpNeeds_114 rfl ?_
    refine z_mask [true, true, false, false] (ρ' := [some (.inr a0), some (.inl (x1 + 1)), none, none]) rfl ?_
    exact hX23 _ _ H
theorem rX6_addUpNeeds_H36 (hc : zOk p s m args meth c D cX6_addUpNeeds 4 RX6 none) {X23 : Int → Zm → Prop} {a0 : Nat} {x1 : Int} {x2 : Int} {h : Zm} {Q : Zm → Prop} (hX23 : ∀ (x1 : Int) (h : Zm), X23 x1 h → zW p l e zrX6_addUpNeeds s m args below meth c D base 4 (MQ below (zQv D base Q) args s 0 0 (zFree base)) 0 0 23 [some (.inr a0), some (.inl x1), none, none] [] h) (H : mX6_addUpNeeds_H36 X23 a0 x1 x2 h Q) : zW p l e zrX6_addUpNeeds s m args below meth c D base 4 (MQ below (zQv D base Q) args s 0 0 (zFree base)) 0 0 36 [some (.inr a0), some (.inl x1), some (.inl x2), none] [] h :=
  H (fun x2 h => zW p l e zrX6_addUpNeeds s m args below meth c D base 4 (MQ below (zQv D base Q) args s 0 0 (zFree base)) 0 0 36 [some (.inr a0), some (.inl x1), some (.inl x2), none] [] h) (fun x2 h H => rX6_addUpNeeds_B36 hc hX23 (fun _ _ q => q) H)
set_option maxRecDepth 100000 in
set_option maxHeartbeats 4000000 in
theorem rX6_addUpNeeds_B23 (hc : zOk p s m args meth c D cX6_addUpNeeds 4 RX6 none) {X23 : Int → Zm → Prop} {a0 : Nat} {x1 : Int} {h : Zm} {Q : Zm → Prop} (hX23 : ∀ (x1 : Int) (h : Zm), X23 x1 h → zW p l e zrX6_addUpNeeds s m args below meth c D base 4 (MQ below (zQv D base Q) args s 0 0 (zFree base)) 0 0 23 [some (.inr a0), some (.inl x1), none, none] [] h) (H : mX6_addUpNeeds_B23 X23 a0 x1 h Q) : zW p l e zrX6_addUpNeeds s m args below meth c D base 4 (MQ below (zQv D base Q) args s 0 0 (zFree base)) 0 0 23 [some (.inr a0), some (.inl x1), none, none] [] h := by
  unfold mX6_addUpNeeds_B23 at H
  refine z_iload_n (pc := 23) hc dX6_addUpNeeds_23 rfl ?_
  refine z_aload_n (pc := 24) hc dX6_addUpNeeds_24 rfl ?_
  refine z_getR (pc := 25) hc dX6_addUpNeeds_25 zf_RX6_12 rfl rfl rfl H (fun r3 H => ?_)
  refine z_getI (pc := 28) hc dX6_addUpNeeds_28 zf_RX6_59 rfl rfl rfl H (fun v4 H => ?_)
  refine z_icmp_ge (tgt := 117) (pc := 31) hc dX6_addUpNeeds_31 rfl H (fun H => ?_) (fun H => ?_)
  · refine z_iconst (pc := 34) hc dX6_addUpNeeds_34 ?_
    refine z_istore_n (pc := 35) hc dX6_addUpNeeds_35 (by decide) (ρ' := [some (.inr a0), some (.inl x1), some (.inl 0), none]) rfl ?_
    exact rX6_addUpNeeds_H36 hc hX23 H
  · exact z_return (pc := 117) hc dX6_addUpNeeds_117 H
theorem rX6_addUpNeeds_H23 (hc : zOk p s m args meth c D cX6_addUpNeeds 4 RX6 none)  {a0 : Nat} {x1 : Int} {h : Zm} {Q : Zm → Prop}  (H : mX6_addUpNeeds_H23  a0 x1 h Q) : zW p l e zrX6_addUpNeeds s m args below meth c D base 4 (MQ below (zQv D base Q) args s 0 0 (zFree base)) 0 0 23 [some (.inr a0), some (.inl x1), none, none] [] h :=
  H (fun x1 h => zW p l e zrX6_addUpNeeds s m args below meth c D base 4 (MQ below (zQv D base Q) args s 0 0 (zFree base)) 0 0 23 [some (.inr a0), some (.inl x1), none, none] [] h) (fun x1 h H => rX6_addUpNeeds_B23 hc (fun _ _ q => q) H)
set_option maxRecDepth 100000 in
set_option maxHeartbeats 4000000 in
theorem rX6_addUpNeeds_B2 (hc : zOk p s m args meth c D cX6_addUpNeeds 4 RX6 none) {X2 : Int → Zm → Prop} {a0 : Nat} {x1 : Int} {h : Zm} {Q : Zm → Prop} (hX2 : ∀ (x1 : Int) (h : Zm), X2 x1 h → zW p l e zrX6_addUpNeeds s m args below meth c D base 4 (MQ below (zQv D base Q) args s 0 0 (zFree base)) 0 0 2 [some (.inr a0), some (.inl x1), none, none] [] h) (H : mX6_addUpNeeds_B2 X2 a0 x1 h Q) : zW p l e zrX6_addUpNeeds s m args below meth c D base 4 (MQ below (zQv D base Q) args s 0 0 (zFree base)) 0 0 2 [some (.inr a0), some (.inl x1), none, none] [] h := by
  unfold mX6_addUpNeeds_B2 at H
  refine z_iload_n (pc := 2) hc dX6_addUpNeeds_2 rfl ?_
  refine z_bipush (pc := 3) hc dX6_addUpNeeds_3 (by decide) ?_
  refine z_icmp_gt (tgt := 21) (pc := 5) hc dX6_addUpNeeds_5 rfl H (fun H => ?_) (fun H => ?_)
  · refine z_aload_n (pc := 8) hc dX6_addUpNeeds_8 rfl ?_
    refine z_getR (pc := 9) hc dX6_addUpNeeds_9 zf_RX6_49 rfl rfl rfl H (fun r1 H => ?_)
    refine z_iload_n (pc := 12) hc dX6_addUpNeeds_12 rfl ?_
    refine z_iconst (pc := 13) hc dX6_addUpNeeds_13 ?_
    refine z_iastore (pc := 14) hc dX6_addUpNeeds_14 H (fun h2 H => ?_)
    refine z_iinc (pc := 15) hc dX6_addUpNeeds_15 (by decide) rfl (ρ' := [some (.inr a0), some (.inl (x1 + 1)), none, none]) rfl ?_
    refine z_goto (tgt := 2) (pc := 18) hc dX6_addUpNeeds_18 rfl ?_
    exact hX2 _ _ H
  · refine z_iconst (pc := 21) hc dX6_addUpNeeds_21 ?_
    refine z_istore_n (pc := 22) hc dX6_addUpNeeds_22 (by decide) (ρ' := [some (.inr a0), some (.inl 0), none, none]) rfl ?_
    exact rX6_addUpNeeds_H23 hc H
theorem rX6_addUpNeeds_H2 (hc : zOk p s m args meth c D cX6_addUpNeeds 4 RX6 none)  {a0 : Nat} {x1 : Int} {h : Zm} {Q : Zm → Prop}  (H : mX6_addUpNeeds_H2  a0 x1 h Q) : zW p l e zrX6_addUpNeeds s m args below meth c D base 4 (MQ below (zQv D base Q) args s 0 0 (zFree base)) 0 0 2 [some (.inr a0), some (.inl x1), none, none] [] h :=
  H (fun x1 h => zW p l e zrX6_addUpNeeds s m args below meth c D base 4 (MQ below (zQv D base Q) args s 0 0 (zFree base)) 0 0 2 [some (.inr a0), some (.inl x1), none, none] [] h) (fun x1 h H => rX6_addUpNeeds_B2 hc (fun _ _ q => q) H)
set_option maxRecDepth 100000 in
set_option maxHeartbeats 4000000 in
theorem rX6_addUpNeeds (hc : zOk p s m args meth c D cX6_addUpNeeds 4 RX6 none) {a0 : Nat} {h : Zm} {Q : Zm → Prop} (H : mX6_addUpNeeds a0 h Q) : zW p l e zrX6_addUpNeeds s m args below meth c D base 4 (MQ below (zQv D base Q) args s 0 0 (zFree base)) 0 0 0 [some (.inr a0), none, none, none] [] h := by
  unfold mX6_addUpNeeds at H
  refine z_iconst (pc := 0) hc dX6_addUpNeeds_0 ?_
  refine z_istore_n (pc := 1) hc dX6_addUpNeeds_1 (by decide) (ρ' := [some (.inr a0), some (.inl 0), none, none]) rfl ?_
  exact rX6_addUpNeeds_H2 hc H
end
theorem metX6_addUpNeeds (l : Launch) (D : Zd) (base : Nat) {a0 : Nat} {h : Zm} {Q : Zm → Prop} (H : mX6_addUpNeeds a0 h Q) : zMet l D base yX6_addUpNeeds cX6_addUpNeeds 4 none zrX6_addUpNeeds [.inr a0] h (zQv D base Q) :=
  z_met (by decide +kernel) (Nat.le_of_ble_eq_true rfl) (fun p e s m args below meth c hc hn => rX6_addUpNeeds hc H)
def zrX6_thriftiestAmount : Room := { frames := 6, cells := 0, slots := 0, locals := 142 }
def mX6_thriftiestAmount_B8 (X8 : Int → Int → Zm → Prop) (a0 : Nat) (x1 : Int) (x2 : Int) (h : Zm) (Q : Int → Zm → Prop) : Prop :=
  cLe x2 100
  (cGr h 16 a0 7 fun r2 => cLd h 1 r2 x2 fun v3 => cGr h 16 a0 7 fun r4 => cLd h 1 r4 x1 fun v5 => cLt v3 v5
    (X8 x2 (x2 + 1) h)
    (X8 x1 (x2 + 1) h))
  (Q x1 h)
def mX6_thriftiestAmount_H8  (a0 : Nat) (x1 : Int) (x2 : Int) (h : Zm) (Q : Int → Zm → Prop) : Prop :=
  lfp2 (fun X8 x1 x2 h => mX6_thriftiestAmount_B8 X8 a0 x1 x2 h Q) x1 x2 h
def mX6_thriftiestAmount (a0 : Nat) (h : Zm) (Q : Int → Zm → Prop) : Prop :=
  cRc h 16 a0 <| mX6_addUpNeeds a0 h fun h1 => mX6_thriftiestAmount_H8  a0 0 1 h1 Q
section
variable {p : Program} {l : Launch} {e : Env} {s : State} {m : MethodId} {args : Array Value} {below : List Frame} {meth : Method} {c : Code} {D : Zd} {base : Nat}
set_option maxRecDepth 100000 in
set_option maxHeartbeats 4000000 in
theorem rX6_thriftiestAmount_B8 (hc : zOk p s m args meth c D cX6_thriftiestAmount 3 RX6 (some .int)) {X8 : Int → Int → Zm → Prop} {a0 : Nat} {x1 : Int} {x2 : Int} {h : Zm} {Q : Int → Zm → Prop} (hX8 : ∀ (x1 : Int) (x2 : Int) (h : Zm), X8 x1 x2 h → zW p l e zrX6_thriftiestAmount s m args below meth c D base 3 (MQ below (zQi D base Q) args s 0 0 (zFree base)) 0 0 8 [some (.inr a0), some (.inl x1), some (.inl x2)] [] h) (H : mX6_thriftiestAmount_B8 X8 a0 x1 x2 h Q) : zW p l e zrX6_thriftiestAmount s m args below meth c D base 3 (MQ below (zQi D base Q) args s 0 0 (zFree base)) 0 0 8 [some (.inr a0), some (.inl x1), some (.inl x2)] [] h := by
  unfold mX6_thriftiestAmount_B8 at H
  refine z_iload_n (pc := 8) hc dX6_thriftiestAmount_8 rfl ?_
  refine z_bipush (pc := 9) hc dX6_thriftiestAmount_9 (by decide) ?_
  refine z_icmp_gt (tgt := 37) (pc := 11) hc dX6_thriftiestAmount_11 rfl H (fun H => ?_) (fun H => ?_)
  · refine z_aload_n (pc := 14) hc dX6_thriftiestAmount_14 rfl ?_
    refine z_getR (pc := 15) hc dX6_thriftiestAmount_15 zf_RX6_49 rfl rfl rfl H (fun r2 H => ?_)
    refine z_iload_n (pc := 18) hc dX6_thriftiestAmount_18 rfl ?_
    refine z_iaload (pc := 19) hc dX6_thriftiestAmount_19 H (fun v3 H => ?_)
    refine z_aload_n (pc := 20) hc dX6_thriftiestAmount_20 rfl ?_
    refine z_getR (pc := 21) hc dX6_thriftiestAmount_21 zf_RX6_49 rfl rfl rfl H (fun r4 H => ?_)
    refine z_iload_n (pc := 24) hc dX6_thriftiestAmount_24 rfl ?_
    refine z_iaload (pc := 25) hc dX6_thriftiestAmount_25 H (fun v5 H => ?_)
    refine z_icmp_ge (tgt := 31) (pc := 26) hc dX6_thriftiestAmount_26 rfl H (fun H => ?_) (fun H => ?_)
    · refine z_iload_n (pc := 29) hc dX6_thriftiestAmount_29 rfl ?_
      refine z_istore_n (pc := 30) hc dX6_thriftiestAmount_30 (by decide) (ρ' := [some (.inr a0), some (.inl x2), some (.inl x2)]) rfl ?_
      refine z_iinc (pc := 31) hc dX6_thriftiestAmount_31 (by decide) rfl (ρ' := [some (.inr a0), some (.inl x2), some (.inl (x2 + 1))]) rfl ?_
      refine z_goto (tgt := 8) (pc := 34) hc dX6_thriftiestAmount_34 rfl ?_
      exact hX8 _ _ _ H
    · refine z_iinc (pc := 31) hc dX6_thriftiestAmount_31 (by decide) rfl (ρ' := [some (.inr a0), some (.inl x1), some (.inl (x2 + 1))]) rfl ?_
      refine z_goto (tgt := 8) (pc := 34) hc dX6_thriftiestAmount_34 rfl ?_
      exact hX8 _ _ _ H
  · refine z_iload_n (pc := 37) hc dX6_thriftiestAmount_37 rfl ?_
    exact z_ireturn (pc := 38) hc dX6_thriftiestAmount_38 H
theorem rX6_thriftiestAmount_H8 (hc : zOk p s m args meth c D cX6_thriftiestAmount 3 RX6 (some .int))  {a0 : Nat} {x1 : Int} {x2 : Int} {h : Zm} {Q : Int → Zm → Prop}  (H : mX6_thriftiestAmount_H8  a0 x1 x2 h Q) : zW p l e zrX6_thriftiestAmount s m args below meth c D base 3 (MQ below (zQi D base Q) args s 0 0 (zFree base)) 0 0 8 [some (.inr a0), some (.inl x1), some (.inl x2)] [] h :=
  H (fun x1 x2 h => zW p l e zrX6_thriftiestAmount s m args below meth c D base 3 (MQ below (zQi D base Q) args s 0 0 (zFree base)) 0 0 8 [some (.inr a0), some (.inl x1), some (.inl x2)] [] h) (fun x1 x2 h H => rX6_thriftiestAmount_B8 hc (fun _ _ _ q => q) H)
set_option maxRecDepth 100000 in
set_option maxHeartbeats 4000000 in
theorem rX6_thriftiestAmount (hc : zOk p s m args meth c D cX6_thriftiestAmount 3 RX6 (some .int)) {a0 : Nat} {h : Zm} {Q : Int → Zm → Prop} (H : mX6_thriftiestAmount a0 h Q) : zW p l e zrX6_thriftiestAmount s m args below meth c D base 3 (MQ below (zQi D base Q) args s 0 0 (zFree base)) 0 0 0 [some (.inr a0), none, none] [] h := by
  unfold mX6_thriftiestAmount at H
  refine z_aload_n (pc := 0) hc dX6_thriftiestAmount_0 rfl ?_
  refine z_calV0 (z_runV (pc := 1) (ci := 6) (T := TX6) (N := 8) hc dX6_thriftiestAmount_1 zw_RX6_291 (metX6_addUpNeeds _ _ _ H.2) rfl (Nat.le_of_ble_eq_true rfl) ⟨Nat.le_of_ble_eq_true rfl, Nat.le_of_ble_eq_true rfl⟩ ⟨by exact Nat.le_of_ble_eq_true rfl, by exact Nat.le_of_ble_eq_true rfl⟩ rfl H.1) rfl ⟨rfl, rfl⟩ (fun h1 H => ?_)
  refine z_iconst (pc := 4) hc dX6_thriftiestAmount_4 ?_
  refine z_istore_n (pc := 5) hc dX6_thriftiestAmount_5 (by decide) (ρ' := [some (.inr a0), some (.inl 0), none]) rfl ?_
  refine z_iconst (pc := 6) hc dX6_thriftiestAmount_6 ?_
  refine z_istore_n (pc := 7) hc dX6_thriftiestAmount_7 (by decide) (ρ' := [some (.inr a0), some (.inl 0), some (.inl 1)]) rfl ?_
  exact rX6_thriftiestAmount_H8 hc H
end
theorem metX6_thriftiestAmount (l : Launch) (D : Zd) (base : Nat) {a0 : Nat} {h : Zm} {Q : Int → Zm → Prop} (H : mX6_thriftiestAmount a0 h Q) : zMet l D base yX6_thriftiestAmount cX6_thriftiestAmount 3 (some .int) zrX6_thriftiestAmount [.inr a0] h (zQi D base Q) :=
  z_met (by decide +kernel) (Nat.le_of_ble_eq_true rfl) (fun p e s m args below meth c hc hn => rX6_thriftiestAmount hc H)
def zrX6_disorderedPixels : Room := { frames := 6, cells := 0, slots := 0, locals := 141 }
def mX6_disorderedPixels_B17 (X4 : Int → Int → Zm → Prop) (X17 : Int → Int → Zm → Prop) (a0 : Nat) (x1 : Int) (x2 : Int) (x3 : Int) (h : Zm) (Q : Int → Zm → Prop) : Prop :=
  cGr h 16 a0 0 fun r3 => cGi h 14 r3 0 fun v4 => cLt x3 v4
  (cRc h 16 a0 <| mX6_separateAt a0 x3 x2 h fun h5 => cGr h5 16 a0 4 fun r6 => cRc h5 13 r6 <| mX3_isDisordered r6 h5 fun v8 h7 => cEq v8 0
    (X17 x1 (x3 + 1) h7)
    (X17 (x1 + 1) (x3 + 1) h7))
  (X4 x1 (x2 + 1) h)
def mX6_disorderedPixels_H17 (X4 : Int → Int → Zm → Prop) (a0 : Nat) (x1 : Int) (x2 : Int) (x3 : Int) (h : Zm) (Q : Int → Zm → Prop) : Prop :=
  lfp2 (fun X17 x1 x3 h => mX6_disorderedPixels_B17 X4 X17 a0 x1 x2 x3 h Q) x1 x3 h
def mX6_disorderedPixels_B4 (X4 : Int → Int → Zm → Prop) (a0 : Nat) (x1 : Int) (x2 : Int) (h : Zm) (Q : Int → Zm → Prop) : Prop :=
  cGr h 16 a0 0 fun r1 => cGi h 14 r1 1 fun v2 => cLt x2 v2
  (mX6_disorderedPixels_H17 X4 a0 x1 x2 0 h Q)
  (Q x1 h)
def mX6_disorderedPixels_H4  (a0 : Nat) (x1 : Int) (x2 : Int) (h : Zm) (Q : Int → Zm → Prop) : Prop :=
  lfp2 (fun X4 x1 x2 h => mX6_disorderedPixels_B4 X4 a0 x1 x2 h Q) x1 x2 h
def mX6_disorderedPixels (a0 : Nat) (h : Zm) (Q : Int → Zm → Prop) : Prop :=
  mX6_disorderedPixels_H4  a0 0 0 h Q
section
variable {p : Program} {l : Launch} {e : Env} {s : State} {m : MethodId} {args : Array Value} {below : List Frame} {meth : Method} {c : Code} {D : Zd} {base : Nat}
set_option maxRecDepth 100000 in
set_option maxHeartbeats 4000000 in
theorem rX6_disorderedPixels_B17 (hc : zOk p s m args meth c D cX6_disorderedPixels 4 RX6 (some .int)) {X4 : Int → Int → Zm → Prop} {X17 : Int → Int → Zm → Prop} {a0 : Nat} {x1 : Int} {x2 : Int} {x3 : Int} {h : Zm} {Q : Int → Zm → Prop} (hX4 : ∀ (x1 : Int) (x2 : Int) (h : Zm), X4 x1 x2 h → zW p l e zrX6_disorderedPixels s m args below meth c D base 4 (MQ below (zQi D base Q) args s 0 0 (zFree base)) 0 0 4 [some (.inr a0), some (.inl x1), some (.inl x2), none] [] h) (hX17 : ∀ (x1 : Int) (x3 : Int) (h : Zm), X17 x1 x3 h → zW p l e zrX6_disorderedPixels s m args below meth c D base 4 (MQ below (zQi D base Q) args s 0 0 (zFree base)) 0 0 17 [some (.inr a0), some (.inl x1), some (.inl x2), some (.inl x3)] [] h) (H : mX6_disorderedPixels_B17 X4 X17 a0 x1 x2 x3 h Q) : zW p l e zrX6_disorderedPixels s m args below meth c D base 4 (MQ below (zQi D base Q) args s 0 0 (zFree base)) 0 0 17 [some (.inr a0), some (.inl x1), some (.inl x2), some (.inl x3)] [] h := by
  unfold mX6_disorderedPixels_B17 at H
  refine z_iload_n (pc := 17) hc dX6_disorderedPixels_17 rfl ?_
  refine z_aload_n (pc := 18) hc dX6_disorderedPixels_18 rfl ?_
  refine z_getR (pc := 19) hc dX6_disorderedPixels_19 zf_RX6_12 rfl rfl rfl H (fun r3 H => ?_)
  refine z_getI (pc := 22) hc dX6_disorderedPixels_22 zf_RX6_56 rfl rfl rfl H (fun v4 H => ?_)
  refine z_icmp_ge (tgt := 53) (pc := 25) hc dX6_disorderedPixels_25 rfl H (fun H => ?_) (fun H => ?_)
  · refine z_aload_n (pc := 28) hc dX6_disorderedPixels_28 rfl ?_
    refine z_iload_n (pc := 29) hc dX6_disorderedPixels_29 rfl ?_
    refine z_iload_n (pc := 30) hc dX6_disorderedPixels_30 rfl ?_
    refine z_calV0 (z_runV (pc := 31) (ci := 6) (T := TX6) (N := 8) hc dX6_disorderedPixels_31 zw_RX6_225 (metX6_separateAt _ _ _ H.2) rfl (Nat.le_of_ble_eq_true rfl) ⟨Nat.le_of_ble_eq_true rfl, Nat.le_of_ble_eq_true rfl⟩ ⟨by exact Nat.le_of_ble_eq_true rfl, by exact Nat.le_of_ble_eq_true rfl⟩ rfl H.1) rfl ⟨rfl, rfl⟩ (fun h5 H => ?_)
    refine z_aload_n (pc := 34) hc dX6_disorderedPixels_34 rfl ?_
    refine z_getR (pc := 35) hc dX6_disorderedPixels_35 zf_RX6_34 rfl rfl rfl H (fun r6 H => ?_)
    refine z_calI (z_runV (pc := 38) (ci := 3) (T := TX3) (N := 3) hc dX6_disorderedPixels_38 zw_RX6_294 (metX3_isDisordered _ _ _ H.2) rfl (Nat.le_of_ble_eq_true rfl) ⟨Nat.le_of_ble_eq_true rfl, Nat.le_of_ble_eq_true rfl⟩ ⟨by exact Nat.le_of_ble_eq_true rfl, by exact Nat.le_of_ble_eq_true rfl⟩ rfl H.1) rfl ⟨rfl, rfl⟩ (fun v8 h7 H => ?_)
    refine z_if_eq (tgt := 47) (pc := 41) hc dX6_disorderedPixels_41 rfl H (fun H => ?_) (fun H => ?_)
    · refine z_iinc (pc := 47) hc dX6_disorderedPixels_47 (by decide) rfl (ρ' := [some (.inr a0), some (.inl x1), some (.inl x2), some (.inl (x3 + 1))]) rfl ?_
      refine z_goto (tgt := 17) (pc := 50) hc dX6_disorderedPixels_50 rfl ?_
      exact hX17 _ _ _ H
    · refine z_iinc (pc := 44) hc dX6_disorderedPixels_44 (by decide) rfl (ρ' := [some (.inr a0), some (.inl (x1 + 1)), some (.inl x2), some (.inl x3)]) rfl ?_
      refine z_iinc (pc := 47) hc dX6_disorderedPixels_47 (by decide) rfl (ρ' := [some (.inr a0), some (.inl (x1 + 1)), some (.inl x2), some (.inl (x3 + 1))]) rfl ?_
      refine z_goto (tgt := 17) (pc := 50) hc dX6_disorderedPixels_50 rfl ?_
      exact hX17 _ _ _ H
  · refine z_iinc (pc := 53) hc dX6_disorderedPixels_53 (by decide) rfl (ρ' := [some (.inr a0), some (.inl x1), some (.inl (x2 + 1)), some (.inl x3)]) rfl ?_
    refine z_goto (tgt := 4) (pc := 56) hc dX6_disorderedPixels_56 rfl ?_
    refine z_mask [true, true, true, false] (ρ' := [some (.inr a0), some (.inl x1), some (.inl (x2 + 1)), none]) rfl ?_
    exact hX4 _ _ _ H
theorem rX6_disorderedPixels_H17 (hc : zOk p s m args meth c D cX6_disorderedPixels 4 RX6 (some .int)) {X4 : Int → Int → Zm → Prop} {a0 : Nat} {x1 : Int} {x2 : Int} {x3 : Int} {h : Zm} {Q : Int → Zm → Prop} (hX4 : ∀ (x1 : Int) (x2 : Int) (h : Zm), X4 x1 x2 h → zW p l e zrX6_disorderedPixels s m args below meth c D base 4 (MQ below (zQi D base Q) args s 0 0 (zFree base)) 0 0 4 [some (.inr a0), some (.inl x1), some (.inl x2), none] [] h) (H : mX6_disorderedPixels_H17 X4 a0 x1 x2 x3 h Q) : zW p l e zrX6_disorderedPixels s m args below meth c D base 4 (MQ below (zQi D base Q) args s 0 0 (zFree base)) 0 0 17 [some (.inr a0), some (.inl x1), some (.inl x2), some (.inl x3)] [] h :=
  H (fun x1 x3 h => zW p l e zrX6_disorderedPixels s m args below meth c D base 4 (MQ below (zQi D base Q) args s 0 0 (zFree base)) 0 0 17 [some (.inr a0), some (.inl x1), some (.inl x2), some (.inl x3)] [] h) (fun x1 x3 h H => rX6_disorderedPixels_B17 hc hX4 (fun _ _ _ q => q) H)
set_option maxRecDepth 100000 in
set_option maxHeartbeats 4000000 in
theorem rX6_disorderedPixels_B4 (hc : zOk p s m args meth c D cX6_disorderedPixels 4 RX6 (some .int)) {X4 : Int → Int → Zm → Prop} {a0 : Nat} {x1 : Int} {x2 : Int} {h : Zm} {Q : Int → Zm → Prop} (hX4 : ∀ (x1 : Int) (x2 : Int) (h : Zm), X4 x1 x2 h → zW p l e zrX6_disorderedPixels s m args below meth c D base 4 (MQ below (zQi D base Q) args s 0 0 (zFree base)) 0 0 4 [some (.inr a0), some (.inl x1), some (.inl x2), none] [] h) (H : mX6_disorderedPixels_B4 X4 a0 x1 x2 h Q) : zW p l e zrX6_disorderedPixels s m args below meth c D base 4 (MQ below (zQi D base Q) args s 0 0 (zFree base)) 0 0 4 [some (.inr a0), some (.inl x1), some (.inl x2), none] [] h := by
  unfold mX6_disorderedPixels_B4 at H
  refine z_iload_n (pc := 4) hc dX6_disorderedPixels_4 rfl ?_
  refine z_aload_n (pc := 5) hc dX6_disorderedPixels_5 rfl ?_
  refine z_getR (pc := 6) hc dX6_disorderedPixels_6 zf_RX6_12 rfl rfl rfl H (fun r1 H => ?_)
  refine z_getI (pc := 9) hc dX6_disorderedPixels_9 zf_RX6_59 rfl rfl rfl H (fun v2 H => ?_)
  refine z_icmp_ge (tgt := 59) (pc := 12) hc dX6_disorderedPixels_12 rfl H (fun H => ?_) (fun H => ?_)
  · refine z_iconst (pc := 15) hc dX6_disorderedPixels_15 ?_
    refine z_istore_n (pc := 16) hc dX6_disorderedPixels_16 (by decide) (ρ' := [some (.inr a0), some (.inl x1), some (.inl x2), some (.inl 0)]) rfl ?_
    exact rX6_disorderedPixels_H17 hc hX4 H
  · refine z_iload_n (pc := 59) hc dX6_disorderedPixels_59 rfl ?_
    exact z_ireturn (pc := 60) hc dX6_disorderedPixels_60 H
theorem rX6_disorderedPixels_H4 (hc : zOk p s m args meth c D cX6_disorderedPixels 4 RX6 (some .int))  {a0 : Nat} {x1 : Int} {x2 : Int} {h : Zm} {Q : Int → Zm → Prop}  (H : mX6_disorderedPixels_H4  a0 x1 x2 h Q) : zW p l e zrX6_disorderedPixels s m args below meth c D base 4 (MQ below (zQi D base Q) args s 0 0 (zFree base)) 0 0 4 [some (.inr a0), some (.inl x1), some (.inl x2), none] [] h :=
  H (fun x1 x2 h => zW p l e zrX6_disorderedPixels s m args below meth c D base 4 (MQ below (zQi D base Q) args s 0 0 (zFree base)) 0 0 4 [some (.inr a0), some (.inl x1), some (.inl x2), none] [] h) (fun x1 x2 h H => rX6_disorderedPixels_B4 hc (fun _ _ _ q => q) H)
set_option maxRecDepth 100000 in
set_option maxHeartbeats 4000000 in
theorem rX6_disorderedPixels (hc : zOk p s m args meth c D cX6_disorderedPixels 4 RX6 (some .int)) {a0 : Nat} {h : Zm} {Q : Int → Zm → Prop} (H : mX6_disorderedPixels a0 h Q) : zW p l e zrX6_disorderedPixels s m args below meth c D base 4 (MQ below (zQi D base Q) args s 0 0 (zFree base)) 0 0 0 [some (.inr a0), none, none, none] [] h := by
  unfold mX6_disorderedPixels at H
  refine z_iconst (pc := 0) hc dX6_disorderedPixels_0 ?_
  refine z_istore_n (pc := 1) hc dX6_disorderedPixels_1 (by decide) (ρ' := [some (.inr a0), some (.inl 0), none, none]) rfl ?_
  refine z_iconst (pc := 2) hc dX6_disorderedPixels_2 ?_
  refine z_istore_n (pc := 3) hc dX6_disorderedPixels_3 (by decide) (ρ' := [some (.inr a0), some (.inl 0), some (.inl 0), none]) rfl ?_
  exact rX6_disorderedPixels_H4 hc H
end
theorem metX6_disorderedPixels (l : Launch) (D : Zd) (base : Nat) {a0 : Nat} {h : Zm} {Q : Int → Zm → Prop} (H : mX6_disorderedPixels a0 h Q) : zMet l D base yX6_disorderedPixels cX6_disorderedPixels 4 (some .int) zrX6_disorderedPixels [.inr a0] h (zQi D base Q) :=
  z_met (by decide +kernel) (Nat.le_of_ble_eq_true rfl) (fun p e s m args below meth c hc hn => rX6_disorderedPixels hc H)
def zrX6_undo : Room := { frames := 4, cells := 0, slots := 0, locals := 86 }
def mX6_undo (a0 : Nat) (h : Zm) (Q : Int → Zm → Prop) : Prop :=
  cGi h 16 a0 2 fun v1 => cEq v1 0
  (Q (-2) h)
  (cGi h 16 a0 2 fun v2 => cPi h 16 a0 2 (v2 - 1) fun h3 => cGr h3 16 a0 0 fun r4 => cGr h3 16 a0 1 fun r5 => cGi h3 16 a0 2 fun v6 => cLdR h3 r5 v6 fun r7 => cRc h3 14 r4 <| mX4_copyFrom r4 r7 h3 fun h8 => cGi h8 16 a0 2 fun v9 => Q v9 h8)
section
variable {p : Program} {l : Launch} {e : Env} {s : State} {m : MethodId} {args : Array Value} {below : List Frame} {meth : Method} {c : Code} {D : Zd} {base : Nat}
set_option maxRecDepth 100000 in
set_option maxHeartbeats 4000000 in
theorem rX6_undo (hc : zOk p s m args meth c D cX6_undo 1 RX6 (some .int)) {a0 : Nat} {h : Zm} {Q : Int → Zm → Prop} (H : mX6_undo a0 h Q) : zW p l e zrX6_undo s m args below meth c D base 1 (MQ below (zQi D base Q) args s 0 0 (zFree base)) 0 0 0 [some (.inr a0)] [] h := by
  unfold mX6_undo at H
  refine z_aload_n (pc := 0) hc dX6_undo_0 rfl ?_
  refine z_getI (pc := 1) hc dX6_undo_1 zf_RX6_20 rfl rfl rfl H (fun v1 H => ?_)
  refine z_if_ne (tgt := 10) (pc := 4) hc dX6_undo_4 rfl H (fun H => ?_) (fun H => ?_)
  · refine z_bipush (pc := 7) hc dX6_undo_7 (by decide) ?_
    exact z_ireturn (pc := 9) hc dX6_undo_9 H
  · refine z_aload_n (pc := 10) hc dX6_undo_10 rfl ?_
    refine z_dup (pc := 11) hc dX6_undo_11 ?_
    refine z_getI (pc := 12) hc dX6_undo_12 zf_RX6_20 rfl rfl rfl H (fun v2 H => ?_)
    refine z_iconst (pc := 15) hc dX6_undo_15 ?_
    refine z_isub (pc := 16) hc dX6_undo_16 ?_
    refine z_putI (pc := 17) hc dX6_undo_17 zf_RX6_20 rfl rfl rfl H (fun h3 H => ?_)
    refine z_aload_n (pc := 20) hc dX6_undo_20 rfl ?_
    refine z_getR (pc := 21) hc dX6_undo_21 zf_RX6_12 rfl rfl rfl H (fun r4 H => ?_)
    refine z_aload_n (pc := 24) hc dX6_undo_24 rfl ?_
    refine z_getR (pc := 25) hc dX6_undo_25 zf_RX6_16 rfl rfl rfl H (fun r5 H => ?_)
    refine z_aload_n (pc := 28) hc dX6_undo_28 rfl ?_
    refine z_getI (pc := 29) hc dX6_undo_29 zf_RX6_20 rfl rfl rfl H (fun v6 H => ?_)
    refine z_aaload (pc := 32) hc dX6_undo_32 H (fun r7 H => ?_)
    refine z_calV0 (z_runV (pc := 33) (ci := 4) (T := TX4) (N := 8) hc dX6_undo_33 zw_RX6_298 (metX4_copyFrom _ _ _ H.2) rfl (Nat.le_of_ble_eq_true rfl) ⟨Nat.le_of_ble_eq_true rfl, Nat.le_of_ble_eq_true rfl⟩ ⟨by exact Nat.le_of_ble_eq_true rfl, by exact Nat.le_of_ble_eq_true rfl⟩ rfl H.1) rfl ⟨rfl, rfl⟩ (fun h8 H => ?_)
    refine z_aload_n (pc := 36) hc dX6_undo_36 rfl ?_
    refine z_getI (pc := 37) hc dX6_undo_37 zf_RX6_20 rfl rfl rfl H (fun v9 H => ?_)
    exact z_ireturn (pc := 40) hc dX6_undo_40 H
end
theorem metX6_undo (l : Launch) (D : Zd) (base : Nat) {a0 : Nat} {h : Zm} {Q : Int → Zm → Prop} (H : mX6_undo a0 h Q) : zMet l D base yX6_undo cX6_undo 1 (some .int) zrX6_undo [.inr a0] h (zQi D base Q) :=
  z_met (by decide +kernel) (Nat.le_of_ble_eq_true rfl) (fun p e s m args below meth c hc hn => rX6_undo hc H)
def zrX7_init : Room := { frames := 1, cells := 17, slots := 4306, locals := 20 }
def mX7_init_B269 (X269 : Int → Zm → Prop) (a0 : Nat) (x1 : Int) (h : Zm) (Q : Zm → Prop) : Prop :=
  cLt x1 24
  (cGr h 17 a0 0 fun r80 => cSt h r80 (128 + (10 * x1)) (-1) fun h81 => X269 (x1 + 1) h81)
  (cGr h 17 a0 0 fun r70 => cSt h r70 128 0 fun h71 => cGr h71 17 a0 0 fun r72 => cSt h71 r72 129 (-1) fun h73 => cGr h73 17 a0 0 fun r74 => cSt h73 r74 131 100 fun h75 => cGr h75 17 a0 4 fun r76 => cSt h75 r76 2 1 fun h77 => cGr h77 17 a0 4 fun r78 => cSt h77 r78 3 1 fun h79 => Q h79)
def mX7_init_H269  (a0 : Nat) (x1 : Int) (h : Zm) (Q : Zm → Prop) : Prop :=
  lfp1 (fun X269 x1 h => mX7_init_B269 X269 a0 x1 h Q) x1 h
def mX7_init_B208 (X208 : Int → Zm → Prop) (a0 : Nat) (x1 : Int) (h : Zm) (Q : Zm → Prop) : Prop :=
  cLt x1 7
  (cGr h 17 a0 0 fun r64 => cSt h r64 (9 + (17 * x1)) 2 fun h65 => cGr h65 17 a0 0 fun r66 => cSt h65 r66 ((9 + (17 * x1)) + 3) 255 fun h67 => cGr h67 17 a0 0 fun r68 => cSt h67 r68 ((9 + (17 * x1)) + 4) 255 fun h69 => X208 (x1 + 1) h69)
  (mX7_init_H269  a0 0 h Q)
def mX7_init_H208  (a0 : Nat) (x1 : Int) (h : Zm) (Q : Zm → Prop) : Prop :=
  lfp1 (fun X208 x1 h => mX7_init_B208 X208 a0 x1 h Q) x1 h
def mX7_init_B186 (X186 : Int → Zm → Prop) (a0 : Nat) (x1 : Int) (h : Zm) (Q : Zm → Prop) : Prop :=
  cLt x1 3
  (cGr h 17 a0 0 fun r62 => cSt h r62 (5 + x1) 1 fun h63 => X186 (x1 + 1) h63)
  (mX7_init_H208  a0 0 h Q)
def mX7_init_H186  (a0 : Nat) (x1 : Int) (h : Zm) (Q : Zm → Prop) : Prop :=
  lfp1 (fun X186 x1 h => mX7_init_B186 X186 a0 x1 h Q) x1 h
def mX7_init (a0 : Nat) (h : Zm) (Q : Zm → Prop) : Prop :=
  cRc h 17 a0 <| cNw h 1 368 fun r1 h2 => cPr h2 17 a0 0 r1 fun h3 => cNw h3 1 1840 fun r4 h5 => cPr h5 17 a0 1 r4 fun h6 => cNw h6 1 368 fun r7 h8 => cPr h8 17 a0 2 r7 fun h9 => cNw h9 1 4 fun r10 h11 => cPr h11 17 a0 4 r10 fun h12 => cNw h12 1 3 fun r13 h14 => cPr h14 17 a0 5 r13 fun h15 => cNw h15 2 24 fun r16 h17 => cPr h17 17 a0 6 r16 fun h18 => cNw h18 1 256 fun r19 h20 => cPr h20 17 a0 7 r19 fun h21 => cNw h21 1 24 fun r22 h23 => cPr h23 17 a0 8 r22 fun h24 => cNw h24 1 24 fun r25 h26 => cPr h26 17 a0 10 r25 fun h27 => cNw h27 1 24 fun r28 h29 => cPr h29 17 a0 11 r28 fun h30 => cNw h30 1 24 fun r31 h32 => cPr h32 17 a0 12 r31 fun h33 => cNw h33 1 24 fun r34 h35 => cPr h35 17 a0 13 r34 fun h36 => cNw h36 1 6 fun r37 h38 => cPr h38 17 a0 14 r37 fun h39 => cNw h39 1 7 fun r40 h41 => cPr h41 17 a0 15 r40 fun h42 => cNw h42 1 7 fun r43 h44 => cPr h44 17 a0 16 r43 fun h45 => cNw h45 1 7 fun r46 h47 => cPr h47 17 a0 17 r46 fun h48 => cNw h48 1 1296 fun r49 h50 => cPr h50 17 a0 18 r49 fun h51 => cGr h51 17 a0 0 fun r52 => cSt h51 r52 0 8 fun h53 => cGr h53 17 a0 0 fun r54 => cSt h53 r54 1 6 fun h55 => cGr h55 17 a0 0 fun r56 => cSt h55 r56 2 50 fun h57 => cGr h57 17 a0 0 fun r58 => cSt h57 r58 3 40 fun h59 => cGr h59 17 a0 0 fun r60 => cSt h59 r60 4 700 fun h61 => mX7_init_H186  a0 0 h61 Q
section
variable {p : Program} {l : Launch} {e : Env} {s : State} {m : MethodId} {args : Array Value} {below : List Frame} {meth : Method} {c : Code} {D : Zd} {base : Nat}
set_option maxRecDepth 100000 in
set_option maxHeartbeats 4000000 in
theorem rX7_init_B269 (hc : zOk p s m args meth c D cX7_init 2 RX7 none) (hin : meth.name = "<init>") {X269 : Int → Zm → Prop} {a0 : Nat} {x1 : Int} {h : Zm} {Q : Zm → Prop} (hX269 : ∀ (x1 : Int) (h : Zm), X269 x1 h → zW p l e zrX7_init s m args below meth c D base 2 (MQ below (zQv D base Q) args s 17 4306 (zFree base)) 17 4306 269 [some (.inr a0), some (.inl x1)] [] h) (H : mX7_init_B269 X269 a0 x1 h Q) : zW p l e zrX7_init s m args below meth c D base 2 (MQ below (zQv D base Q) args s 17 4306 (zFree base)) 17 4306 269 [some (.inr a0), some (.inl x1)] [] h := by
  unfold mX7_init_B269 at H
  refine z_iload_n (pc := 269) hc dX7_init_269 rfl ?_
  refine z_bipush (pc := 270) hc dX7_init_270 (by decide) ?_
  refine z_icmp_ge (tgt := 295) (pc := 272) hc dX7_init_272 rfl H (fun H => ?_) (fun H => ?_)
  · refine z_aload_n (pc := 275) hc dX7_init_275 rfl ?_
    refine z_getR (pc := 276) hc dX7_init_276 zf_RX7_7 rfl rfl rfl H (fun r80 H => ?_)
    refine z_sipush (pc := 279) hc dX7_init_279 (by decide) ?_
    refine z_bipush (pc := 282) hc dX7_init_282 (by decide) ?_
    refine z_iload_n (pc := 284) hc dX7_init_284 rfl ?_
    refine z_imul (pc := 285) hc dX7_init_285 ?_
    refine z_iadd (pc := 286) hc dX7_init_286 ?_
    refine z_iconst (pc := 287) hc dX7_init_287 ?_
    refine z_iastore (pc := 288) hc dX7_init_288 H (fun h81 H => ?_)
    refine z_iinc (pc := 289) hc dX7_init_289 (by decide) rfl (ρ' := [some (.inr a0), some (.inl (x1 + 1))]) rfl ?_
    refine z_goto (tgt := 269) (pc := 292) hc dX7_init_292 rfl ?_
    refine z_cells (cells' := 17) (slots' := 4306) (by omega) (by omega) ?_
    exact hX269 _ _ H
  · refine z_aload_n (pc := 295) hc dX7_init_295 rfl ?_
    refine z_getR (pc := 296) hc dX7_init_296 zf_RX7_7 rfl rfl rfl H (fun r70 H => ?_)
    refine z_sipush (pc := 299) hc dX7_init_299 (by decide) ?_
    refine z_iconst (pc := 302) hc dX7_init_302 ?_
    refine z_iastore (pc := 303) hc dX7_init_303 H (fun h71 H => ?_)
    refine z_aload_n (pc := 304) hc dX7_init_304 rfl ?_
    refine z_getR (pc := 305) hc dX7_init_305 zf_RX7_7 rfl rfl rfl H (fun r72 H => ?_)
    refine z_sipush (pc := 308) hc dX7_init_308 (by decide) ?_
    refine z_iconst (pc := 311) hc dX7_init_311 ?_
    refine z_iastore (pc := 312) hc dX7_init_312 H (fun h73 H => ?_)
    refine z_aload_n (pc := 313) hc dX7_init_313 rfl ?_
    refine z_getR (pc := 314) hc dX7_init_314 zf_RX7_7 rfl rfl rfl H (fun r74 H => ?_)
    refine z_sipush (pc := 317) hc dX7_init_317 (by decide) ?_
    refine z_bipush (pc := 320) hc dX7_init_320 (by decide) ?_
    refine z_iastore (pc := 322) hc dX7_init_322 H (fun h75 H => ?_)
    refine z_aload_n (pc := 323) hc dX7_init_323 rfl ?_
    refine z_getR (pc := 324) hc dX7_init_324 zf_RX7_19 rfl rfl rfl H (fun r76 H => ?_)
    refine z_iconst (pc := 327) hc dX7_init_327 ?_
    refine z_iconst (pc := 328) hc dX7_init_328 ?_
    refine z_iastore (pc := 329) hc dX7_init_329 H (fun h77 H => ?_)
    refine z_aload_n (pc := 330) hc dX7_init_330 rfl ?_
    refine z_getR (pc := 331) hc dX7_init_331 zf_RX7_19 rfl rfl rfl H (fun r78 H => ?_)
    refine z_iconst (pc := 334) hc dX7_init_334 ?_
    refine z_iconst (pc := 335) hc dX7_init_335 ?_
    refine z_iastore (pc := 336) hc dX7_init_336 H (fun h79 H => ?_)
    refine z_cells (cells' := 17) (slots' := 4306) (by omega) (by omega) ?_
    exact z_return (pc := 337) hc dX7_init_337 H
theorem rX7_init_H269 (hc : zOk p s m args meth c D cX7_init 2 RX7 none) (hin : meth.name = "<init>")  {a0 : Nat} {x1 : Int} {h : Zm} {Q : Zm → Prop}  (H : mX7_init_H269  a0 x1 h Q) : zW p l e zrX7_init s m args below meth c D base 2 (MQ below (zQv D base Q) args s 17 4306 (zFree base)) 17 4306 269 [some (.inr a0), some (.inl x1)] [] h :=
  H (fun x1 h => zW p l e zrX7_init s m args below meth c D base 2 (MQ below (zQv D base Q) args s 17 4306 (zFree base)) 17 4306 269 [some (.inr a0), some (.inl x1)] [] h) (fun x1 h H => rX7_init_B269 hc hin (fun _ _ q => q) H)
set_option maxRecDepth 100000 in
set_option maxHeartbeats 4000000 in
theorem rX7_init_B208 (hc : zOk p s m args meth c D cX7_init 2 RX7 none) (hin : meth.name = "<init>") {X208 : Int → Zm → Prop} {a0 : Nat} {x1 : Int} {h : Zm} {Q : Zm → Prop} (hX208 : ∀ (x1 : Int) (h : Zm), X208 x1 h → zW p l e zrX7_init s m args below meth c D base 2 (MQ below (zQv D base Q) args s 17 4306 (zFree base)) 17 4306 208 [some (.inr a0), some (.inl x1)] [] h) (H : mX7_init_B208 X208 a0 x1 h Q) : zW p l e zrX7_init s m args below meth c D base 2 (MQ below (zQv D base Q) args s 17 4306 (zFree base)) 17 4306 208 [some (.inr a0), some (.inl x1)] [] h := by
  unfold mX7_init_B208 at H
  refine z_iload_n (pc := 208) hc dX7_init_208 rfl ?_
  refine z_bipush (pc := 209) hc dX7_init_209 (by decide) ?_
  refine z_icmp_ge (tgt := 267) (pc := 211) hc dX7_init_211 rfl H (fun H => ?_) (fun H => ?_)
  · refine z_aload_n (pc := 214) hc dX7_init_214 rfl ?_
    refine z_getR (pc := 215) hc dX7_init_215 zf_RX7_7 rfl rfl rfl H (fun r64 H => ?_)
    refine z_bipush (pc := 218) hc dX7_init_218 (by decide) ?_
    refine z_bipush (pc := 220) hc dX7_init_220 (by decide) ?_
    refine z_iload_n (pc := 222) hc dX7_init_222 rfl ?_
    refine z_imul (pc := 223) hc dX7_init_223 ?_
    refine z_iadd (pc := 224) hc dX7_init_224 ?_
    refine z_iconst (pc := 225) hc dX7_init_225 ?_
    refine z_iastore (pc := 226) hc dX7_init_226 H (fun h65 H => ?_)
    refine z_aload_n (pc := 227) hc dX7_init_227 rfl ?_
    refine z_getR (pc := 228) hc dX7_init_228 zf_RX7_7 rfl rfl rfl H (fun r66 H => ?_)
    refine z_bipush (pc := 231) hc dX7_init_231 (by decide) ?_
    refine z_bipush (pc := 233) hc dX7_init_233 (by decide) ?_
    refine z_iload_n (pc := 235) hc dX7_init_235 rfl ?_
    refine z_imul (pc := 236) hc dX7_init_236 ?_
    refine z_iadd (pc := 237) hc dX7_init_237 ?_
    refine z_iconst (pc := 238) hc dX7_init_238 ?_
    refine z_iadd (pc := 239) hc dX7_init_239 ?_
    refine z_sipush (pc := 240) hc dX7_init_240 (by decide) ?_
    refine z_iastore (pc := 243) hc dX7_init_243 H (fun h67 H => ?_)
    refine z_aload_n (pc := 244) hc dX7_init_244 rfl ?_
    refine z_getR (pc := 245) hc dX7_init_245 zf_RX7_7 rfl rfl rfl H (fun r68 H => ?_)
    refine z_bipush (pc := 248) hc dX7_init_248 (by decide) ?_
    refine z_bipush (pc := 250) hc dX7_init_250 (by decide) ?_
    refine z_iload_n (pc := 252) hc dX7_init_252 rfl ?_
    refine z_imul (pc := 253) hc dX7_init_253 ?_
    refine z_iadd (pc := 254) hc dX7_init_254 ?_
    refine z_iconst (pc := 255) hc dX7_init_255 ?_
    refine z_iadd (pc := 256) hc dX7_init_256 ?_
    refine z_sipush (pc := 257) hc dX7_init_257 (by decide) ?_
    refine z_iastore (pc := 260) hc dX7_init_260 H (fun h69 H => ?_)
    refine z_iinc (pc := 261) hc dX7_init_261 (by decide) rfl (ρ' := [some (.inr a0), some (.inl (x1 + 1))]) rfl ?_
    refine z_goto (tgt := 208) (pc := 264) hc dX7_init_264 rfl ?_
    refine z_cells (cells' := 17) (slots' := 4306) (by omega) (by omega) ?_
    exact hX208 _ _ H
  · refine z_iconst (pc := 267) hc dX7_init_267 ?_
    refine z_istore_n (pc := 268) hc dX7_init_268 (by decide) (ρ' := [some (.inr a0), some (.inl 0)]) rfl ?_
    refine z_cells (cells' := 17) (slots' := 4306) (by omega) (by omega) ?_
    exact rX7_init_H269 hc hin H
theorem rX7_init_H208 (hc : zOk p s m args meth c D cX7_init 2 RX7 none) (hin : meth.name = "<init>")  {a0 : Nat} {x1 : Int} {h : Zm} {Q : Zm → Prop}  (H : mX7_init_H208  a0 x1 h Q) : zW p l e zrX7_init s m args below meth c D base 2 (MQ below (zQv D base Q) args s 17 4306 (zFree base)) 17 4306 208 [some (.inr a0), some (.inl x1)] [] h :=
  H (fun x1 h => zW p l e zrX7_init s m args below meth c D base 2 (MQ below (zQv D base Q) args s 17 4306 (zFree base)) 17 4306 208 [some (.inr a0), some (.inl x1)] [] h) (fun x1 h H => rX7_init_B208 hc hin (fun _ _ q => q) H)
set_option maxRecDepth 100000 in
set_option maxHeartbeats 4000000 in
theorem rX7_init_B186 (hc : zOk p s m args meth c D cX7_init 2 RX7 none) (hin : meth.name = "<init>") {X186 : Int → Zm → Prop} {a0 : Nat} {x1 : Int} {h : Zm} {Q : Zm → Prop} (hX186 : ∀ (x1 : Int) (h : Zm), X186 x1 h → zW p l e zrX7_init s m args below meth c D base 2 (MQ below (zQv D base Q) args s 17 4306 (zFree base)) 17 4306 186 [some (.inr a0), some (.inl x1)] [] h) (H : mX7_init_B186 X186 a0 x1 h Q) : zW p l e zrX7_init s m args below meth c D base 2 (MQ below (zQv D base Q) args s 17 4306 (zFree base)) 17 4306 186 [some (.inr a0), some (.inl x1)] [] h := by
  unfold mX7_init_B186 at H
  refine z_iload_n (pc := 186) hc dX7_init_186 rfl ?_
  refine z_iconst (pc := 187) hc dX7_init_187 ?_
  refine z_icmp_ge (tgt := 206) (pc := 188) hc dX7_init_188 rfl H (fun H => ?_) (fun H => ?_)
  · refine z_aload_n (pc := 191) hc dX7_init_191 rfl ?_
    refine z_getR (pc := 192) hc dX7_init_192 zf_RX7_7 rfl rfl rfl H (fun r62 H => ?_)
    refine z_iconst (pc := 195) hc dX7_init_195 ?_
    refine z_iload_n (pc := 196) hc dX7_init_196 rfl ?_
    refine z_iadd (pc := 197) hc dX7_init_197 ?_
    refine z_iconst (pc := 198) hc dX7_init_198 ?_
    refine z_iastore (pc := 199) hc dX7_init_199 H (fun h63 H => ?_)
    refine z_iinc (pc := 200) hc dX7_init_200 (by decide) rfl (ρ' := [some (.inr a0), some (.inl (x1 + 1))]) rfl ?_
    refine z_goto (tgt := 186) (pc := 203) hc dX7_init_203 rfl ?_
    refine z_cells (cells' := 17) (slots' := 4306) (by omega) (by omega) ?_
    exact hX186 _ _ H
  · refine z_iconst (pc := 206) hc dX7_init_206 ?_
    refine z_istore_n (pc := 207) hc dX7_init_207 (by decide) (ρ' := [some (.inr a0), some (.inl 0)]) rfl ?_
    refine z_cells (cells' := 17) (slots' := 4306) (by omega) (by omega) ?_
    exact rX7_init_H208 hc hin H
theorem rX7_init_H186 (hc : zOk p s m args meth c D cX7_init 2 RX7 none) (hin : meth.name = "<init>")  {a0 : Nat} {x1 : Int} {h : Zm} {Q : Zm → Prop}  (H : mX7_init_H186  a0 x1 h Q) : zW p l e zrX7_init s m args below meth c D base 2 (MQ below (zQv D base Q) args s 17 4306 (zFree base)) 17 4306 186 [some (.inr a0), some (.inl x1)] [] h :=
  H (fun x1 h => zW p l e zrX7_init s m args below meth c D base 2 (MQ below (zQv D base Q) args s 17 4306 (zFree base)) 17 4306 186 [some (.inr a0), some (.inl x1)] [] h) (fun x1 h H => rX7_init_B186 hc hin (fun _ _ q => q) H)
set_option maxRecDepth 100000 in
set_option maxHeartbeats 4000000 in
theorem rX7_init (hc : zOk p s m args meth c D cX7_init 2 RX7 none) (hin : meth.name = "<init>") {a0 : Nat} {h : Zm} {Q : Zm → Prop} (H : mX7_init a0 h Q) : zW p l e zrX7_init s m args below meth c D base 2 (MQ below (zQv D base Q) args s 17 4306 (zFree base)) 0 0 0 [some (.inr a0), none] [] h := by
  unfold mX7_init at H
  refine z_aload_n (pc := 0) hc dX7_init_0 rfl ?_
  refine z_objInit (pc := 1) hc dX7_init_1 (zT_mem 705 (by decide +kernel) rfl) (zT_mem 56 (by decide +kernel) rfl) (zT_mem 57 (by decide +kernel) rfl) (by decide) (by decide) (by decide) (d := 17) (by decide) H (fun H => ?_)
  refine z_aload_n (pc := 4) hc dX7_init_4 rfl ?_
  refine z_sipush (pc := 5) hc dX7_init_5 (by decide) ?_
  refine z_newarr (pc := 8) (t := 1) (n := 368) hc dX7_init_8 (by decide) rfl (zT_mem 165 (by decide +kernel) rfl) (by decide) (by exact Nat.le_of_ble_eq_true rfl) (by exact Nat.le_of_ble_eq_true rfl) H (fun r1 h2 H => ?_)
  refine z_putR (pc := 10) hc dX7_init_10 zf_RX7_7 rfl rfl rfl hin (fun C T N q => by cases q; rfl) H (fun h3 H => ?_)
  refine z_aload_n (pc := 13) hc dX7_init_13 rfl ?_
  refine z_sipush (pc := 14) hc dX7_init_14 (by decide) ?_
  refine z_newarr (pc := 17) (t := 1) (n := 1840) hc dX7_init_17 (by decide) rfl (zT_mem 165 (by decide +kernel) rfl) (by decide) (by exact Nat.le_of_ble_eq_true rfl) (by exact Nat.le_of_ble_eq_true rfl) H (fun r4 h5 H => ?_)
  refine z_putR (pc := 19) hc dX7_init_19 zf_RX7_13 rfl rfl rfl hin (fun C T N q => by cases q; rfl) H (fun h6 H => ?_)
  refine z_aload_n (pc := 22) hc dX7_init_22 rfl ?_
  refine z_sipush (pc := 23) hc dX7_init_23 (by decide) ?_
  refine z_newarr (pc := 26) (t := 1) (n := 368) hc dX7_init_26 (by decide) rfl (zT_mem 165 (by decide +kernel) rfl) (by decide) (by exact Nat.le_of_ble_eq_true rfl) (by exact Nat.le_of_ble_eq_true rfl) H (fun r7 h8 H => ?_)
  refine z_putR (pc := 28) hc dX7_init_28 zf_RX7_16 rfl rfl rfl hin (fun C T N q => by cases q; rfl) H (fun h9 H => ?_)
  refine z_aload_n (pc := 31) hc dX7_init_31 rfl ?_
  refine z_iconst (pc := 32) hc dX7_init_32 ?_
  refine z_newarr (pc := 33) (t := 1) (n := 4) hc dX7_init_33 (by decide) rfl (zT_mem 165 (by decide +kernel) rfl) (by decide) (by exact Nat.le_of_ble_eq_true rfl) (by exact Nat.le_of_ble_eq_true rfl) H (fun r10 h11 H => ?_)
  refine z_putR (pc := 35) hc dX7_init_35 zf_RX7_19 rfl rfl rfl hin (fun C T N q => by cases q; rfl) H (fun h12 H => ?_)
  refine z_aload_n (pc := 38) hc dX7_init_38 rfl ?_
  refine z_iconst (pc := 39) hc dX7_init_39 ?_
  refine z_newarr (pc := 40) (t := 1) (n := 3) hc dX7_init_40 (by decide) rfl (zT_mem 165 (by decide +kernel) rfl) (by decide) (by exact Nat.le_of_ble_eq_true rfl) (by exact Nat.le_of_ble_eq_true rfl) H (fun r13 h14 H => ?_)
  refine z_putR (pc := 42) hc dX7_init_42 zf_RX7_22 rfl rfl rfl hin (fun C T N q => by cases q; rfl) H (fun h15 H => ?_)
  refine z_aload_n (pc := 45) hc dX7_init_45 rfl ?_
  refine z_bipush (pc := 46) hc dX7_init_46 (by decide) ?_
  refine z_newarr (pc := 48) (t := 2) (n := 24) hc dX7_init_48 (by decide) rfl (zT_mem 767 (by decide +kernel) rfl) (by decide) (by exact Nat.le_of_ble_eq_true rfl) (by exact Nat.le_of_ble_eq_true rfl) H (fun r16 h17 H => ?_)
  refine z_putR (pc := 50) hc dX7_init_50 zf_RX7_25 rfl rfl rfl hin (fun C T N q => by cases q; rfl) H (fun h18 H => ?_)
  refine z_aload_n (pc := 53) hc dX7_init_53 rfl ?_
  refine z_sipush (pc := 54) hc dX7_init_54 (by decide) ?_
  refine z_newarr (pc := 57) (t := 1) (n := 256) hc dX7_init_57 (by decide) rfl (zT_mem 165 (by decide +kernel) rfl) (by decide) (by exact Nat.le_of_ble_eq_true rfl) (by exact Nat.le_of_ble_eq_true rfl) H (fun r19 h20 H => ?_)
  refine z_putR (pc := 59) hc dX7_init_59 zf_RX7_29 rfl rfl rfl hin (fun C T N q => by cases q; rfl) H (fun h21 H => ?_)
  refine z_aload_n (pc := 62) hc dX7_init_62 rfl ?_
  refine z_bipush (pc := 63) hc dX7_init_63 (by decide) ?_
  refine z_newarr (pc := 65) (t := 1) (n := 24) hc dX7_init_65 (by decide) rfl (zT_mem 165 (by decide +kernel) rfl) (by decide) (by exact Nat.le_of_ble_eq_true rfl) (by exact Nat.le_of_ble_eq_true rfl) H (fun r22 h23 H => ?_)
  refine z_putR (pc := 67) hc dX7_init_67 zf_RX7_32 rfl rfl rfl hin (fun C T N q => by cases q; rfl) H (fun h24 H => ?_)
  refine z_aload_n (pc := 70) hc dX7_init_70 rfl ?_
  refine z_bipush (pc := 71) hc dX7_init_71 (by decide) ?_
  refine z_newarr (pc := 73) (t := 1) (n := 24) hc dX7_init_73 (by decide) rfl (zT_mem 165 (by decide +kernel) rfl) (by decide) (by exact Nat.le_of_ble_eq_true rfl) (by exact Nat.le_of_ble_eq_true rfl) H (fun r25 h26 H => ?_)
  refine z_putR (pc := 75) hc dX7_init_75 zf_RX7_35 rfl rfl rfl hin (fun C T N q => by cases q; rfl) H (fun h27 H => ?_)
  refine z_aload_n (pc := 78) hc dX7_init_78 rfl ?_
  refine z_bipush (pc := 79) hc dX7_init_79 (by decide) ?_
  refine z_newarr (pc := 81) (t := 1) (n := 24) hc dX7_init_81 (by decide) rfl (zT_mem 165 (by decide +kernel) rfl) (by decide) (by exact Nat.le_of_ble_eq_true rfl) (by exact Nat.le_of_ble_eq_true rfl) H (fun r28 h29 H => ?_)
  refine z_putR (pc := 83) hc dX7_init_83 zf_RX7_38 rfl rfl rfl hin (fun C T N q => by cases q; rfl) H (fun h30 H => ?_)
  refine z_aload_n (pc := 86) hc dX7_init_86 rfl ?_
  refine z_bipush (pc := 87) hc dX7_init_87 (by decide) ?_
  refine z_newarr (pc := 89) (t := 1) (n := 24) hc dX7_init_89 (by decide) rfl (zT_mem 165 (by decide +kernel) rfl) (by decide) (by exact Nat.le_of_ble_eq_true rfl) (by exact Nat.le_of_ble_eq_true rfl) H (fun r31 h32 H => ?_)
  refine z_putR (pc := 91) hc dX7_init_91 zf_RX7_41 rfl rfl rfl hin (fun C T N q => by cases q; rfl) H (fun h33 H => ?_)
  refine z_aload_n (pc := 94) hc dX7_init_94 rfl ?_
  refine z_bipush (pc := 95) hc dX7_init_95 (by decide) ?_
  refine z_newarr (pc := 97) (t := 1) (n := 24) hc dX7_init_97 (by decide) rfl (zT_mem 165 (by decide +kernel) rfl) (by decide) (by exact Nat.le_of_ble_eq_true rfl) (by exact Nat.le_of_ble_eq_true rfl) H (fun r34 h35 H => ?_)
  refine z_putR (pc := 99) hc dX7_init_99 zf_RX7_44 rfl rfl rfl hin (fun C T N q => by cases q; rfl) H (fun h36 H => ?_)
  refine z_aload_n (pc := 102) hc dX7_init_102 rfl ?_
  refine z_bipush (pc := 103) hc dX7_init_103 (by decide) ?_
  refine z_newarr (pc := 105) (t := 1) (n := 6) hc dX7_init_105 (by decide) rfl (zT_mem 165 (by decide +kernel) rfl) (by decide) (by exact Nat.le_of_ble_eq_true rfl) (by exact Nat.le_of_ble_eq_true rfl) H (fun r37 h38 H => ?_)
  refine z_putR (pc := 107) hc dX7_init_107 zf_RX7_47 rfl rfl rfl hin (fun C T N q => by cases q; rfl) H (fun h39 H => ?_)
  refine z_aload_n (pc := 110) hc dX7_init_110 rfl ?_
  refine z_bipush (pc := 111) hc dX7_init_111 (by decide) ?_
  refine z_newarr (pc := 113) (t := 1) (n := 7) hc dX7_init_113 (by decide) rfl (zT_mem 165 (by decide +kernel) rfl) (by decide) (by exact Nat.le_of_ble_eq_true rfl) (by exact Nat.le_of_ble_eq_true rfl) H (fun r40 h41 H => ?_)
  refine z_putR (pc := 115) hc dX7_init_115 zf_RX7_50 rfl rfl rfl hin (fun C T N q => by cases q; rfl) H (fun h42 H => ?_)
  refine z_aload_n (pc := 118) hc dX7_init_118 rfl ?_
  refine z_bipush (pc := 119) hc dX7_init_119 (by decide) ?_
  refine z_newarr (pc := 121) (t := 1) (n := 7) hc dX7_init_121 (by decide) rfl (zT_mem 165 (by decide +kernel) rfl) (by decide) (by exact Nat.le_of_ble_eq_true rfl) (by exact Nat.le_of_ble_eq_true rfl) H (fun r43 h44 H => ?_)
  refine z_putR (pc := 123) hc dX7_init_123 zf_RX7_53 rfl rfl rfl hin (fun C T N q => by cases q; rfl) H (fun h45 H => ?_)
  refine z_aload_n (pc := 126) hc dX7_init_126 rfl ?_
  refine z_bipush (pc := 127) hc dX7_init_127 (by decide) ?_
  refine z_newarr (pc := 129) (t := 1) (n := 7) hc dX7_init_129 (by decide) rfl (zT_mem 165 (by decide +kernel) rfl) (by decide) (by exact Nat.le_of_ble_eq_true rfl) (by exact Nat.le_of_ble_eq_true rfl) H (fun r46 h47 H => ?_)
  refine z_putR (pc := 131) hc dX7_init_131 zf_RX7_56 rfl rfl rfl hin (fun C T N q => by cases q; rfl) H (fun h48 H => ?_)
  refine z_aload_n (pc := 134) hc dX7_init_134 rfl ?_
  refine z_sipush (pc := 135) hc dX7_init_135 (by decide) ?_
  refine z_newarr (pc := 138) (t := 1) (n := 1296) hc dX7_init_138 (by decide) rfl (zT_mem 165 (by decide +kernel) rfl) (by decide) (by exact Nat.le_of_ble_eq_true rfl) (by exact Nat.le_of_ble_eq_true rfl) H (fun r49 h50 H => ?_)
  refine z_putR (pc := 140) hc dX7_init_140 zf_RX7_59 rfl rfl rfl hin (fun C T N q => by cases q; rfl) H (fun h51 H => ?_)
  refine z_aload_n (pc := 143) hc dX7_init_143 rfl ?_
  refine z_getR (pc := 144) hc dX7_init_144 zf_RX7_7 rfl rfl rfl H (fun r52 H => ?_)
  refine z_iconst (pc := 147) hc dX7_init_147 ?_
  refine z_bipush (pc := 148) hc dX7_init_148 (by decide) ?_
  refine z_iastore (pc := 150) hc dX7_init_150 H (fun h53 H => ?_)
  refine z_aload_n (pc := 151) hc dX7_init_151 rfl ?_
  refine z_getR (pc := 152) hc dX7_init_152 zf_RX7_7 rfl rfl rfl H (fun r54 H => ?_)
  refine z_iconst (pc := 155) hc dX7_init_155 ?_
  refine z_bipush (pc := 156) hc dX7_init_156 (by decide) ?_
  refine z_iastore (pc := 158) hc dX7_init_158 H (fun h55 H => ?_)
  refine z_aload_n (pc := 159) hc dX7_init_159 rfl ?_
  refine z_getR (pc := 160) hc dX7_init_160 zf_RX7_7 rfl rfl rfl H (fun r56 H => ?_)
  refine z_iconst (pc := 163) hc dX7_init_163 ?_
  refine z_bipush (pc := 164) hc dX7_init_164 (by decide) ?_
  refine z_iastore (pc := 166) hc dX7_init_166 H (fun h57 H => ?_)
  refine z_aload_n (pc := 167) hc dX7_init_167 rfl ?_
  refine z_getR (pc := 168) hc dX7_init_168 zf_RX7_7 rfl rfl rfl H (fun r58 H => ?_)
  refine z_iconst (pc := 171) hc dX7_init_171 ?_
  refine z_bipush (pc := 172) hc dX7_init_172 (by decide) ?_
  refine z_iastore (pc := 174) hc dX7_init_174 H (fun h59 H => ?_)
  refine z_aload_n (pc := 175) hc dX7_init_175 rfl ?_
  refine z_getR (pc := 176) hc dX7_init_176 zf_RX7_7 rfl rfl rfl H (fun r60 H => ?_)
  refine z_iconst (pc := 179) hc dX7_init_179 ?_
  refine z_sipush (pc := 180) hc dX7_init_180 (by decide) ?_
  refine z_iastore (pc := 183) hc dX7_init_183 H (fun h61 H => ?_)
  refine z_iconst (pc := 184) hc dX7_init_184 ?_
  refine z_istore_n (pc := 185) hc dX7_init_185 (by decide) (ρ' := [some (.inr a0), some (.inl 0)]) rfl ?_
  refine z_cells (cells' := 17) (slots' := 4306) (by omega) (by omega) ?_
  exact rX7_init_H186 hc hin H
end
theorem metX7_init (l : Launch) (D : Zd) (base : Nat) {a0 : Nat} {h : Zm} {Q : Zm → Prop} (H : mX7_init a0 h Q) : zMet l D base yX7_init cX7_init 2 none zrX7_init [.inr a0] h (zQv D base Q) :=
  z_met (by decide +kernel) (Nat.le_of_ble_eq_true rfl) (fun p e s m args below meth c hc hn => rX7_init hc hn H)
def zrX7_in : Room := { frames := 0, cells := 0, slots := 0, locals := 0 }
def mX7_in (x0 : Int) (x1 : Int) (x2 : Int) (h : Zm) (Q : Int → Zm → Prop) : Prop :=
  cLt x0 x1
  (Q 0 h)
  (cLe x0 x2
    (Q 1 h)
    (Q 0 h))
section
variable {p : Program} {l : Launch} {e : Env} {s : State} {m : MethodId} {args : Array Value} {below : List Frame} {meth : Method} {c : Code} {D : Zd} {base : Nat}
set_option maxRecDepth 100000 in
set_option maxHeartbeats 4000000 in
theorem rX7_in (hc : zOk p s m args meth c D cX7_in 3 RX7 (some .boolean)) {x0 : Int} {x1 : Int} {x2 : Int} {h : Zm} {Q : Int → Zm → Prop} (H : mX7_in x0 x1 x2 h Q) : zW p l e zrX7_in s m args below meth c D base 3 (MQ below (zQi D base Q) args s 0 0 (zFree base)) 0 0 0 [some (.inl x0), some (.inl x1), some (.inl x2)] [] h := by
  unfold mX7_in at H
  refine z_iload_n (pc := 0) hc dX7_in_0 rfl ?_
  refine z_iload_n (pc := 1) hc dX7_in_1 rfl ?_
  refine z_icmp_lt (tgt := 14) (pc := 2) hc dX7_in_2 rfl H (fun H => ?_) (fun H => ?_)
  · refine z_iconst (pc := 14) hc dX7_in_14 ?_
    exact z_zreturn (pc := 15) hc dX7_in_15 ⟨Or.inl rfl, H⟩
  · refine z_iload_n (pc := 5) hc dX7_in_5 rfl ?_
    refine z_iload_n (pc := 6) hc dX7_in_6 rfl ?_
    refine z_icmp_gt (tgt := 14) (pc := 7) hc dX7_in_7 rfl H (fun H => ?_) (fun H => ?_)
    · refine z_iconst (pc := 10) hc dX7_in_10 ?_
      refine z_goto (tgt := 15) (pc := 11) hc dX7_in_11 rfl ?_
      exact z_zreturn (pc := 15) hc dX7_in_15 ⟨Or.inr rfl, H⟩
    · refine z_iconst (pc := 14) hc dX7_in_14 ?_
      exact z_zreturn (pc := 15) hc dX7_in_15 ⟨Or.inl rfl, H⟩
end
theorem metX7_in (l : Launch) (D : Zd) (base : Nat) {x0 : Int} {x1 : Int} {x2 : Int} {h : Zm} {Q : Int → Zm → Prop} (H : mX7_in x0 x1 x2 h Q) : zMet l D base yX7_in cX7_in 3 (some .boolean) zrX7_in [.inl x0, .inl x1, .inl x2] h (zQi D base Q) :=
  z_met (by decide +kernel) (Nat.le_of_ble_eq_true rfl) (fun p e s m args below meth c hc hn => rX7_in hc H)
def zrX7_floor : Room := { frames := 0, cells := 0, slots := 0, locals := 0 }
def mX7_floor_J19  (x1 : Int) (x2 : Int) (s0 : Int) (h : Zm) (Q : Int → Zm → Prop) : Prop :=
  cLt x1 0
  (cEq s0 1
    (Q x2 h)
    (Q (x2 - 1) h))
  (cEq s0 0
    (Q x2 h)
    (Q (x2 - 1) h))
def mX7_floor (x0 : Int) (x1 : Int) (h : Zm) (Q : Int → Zm → Prop) : Prop :=
  cDiv x0 x1 fun v1 => cRem x0 x1 fun v2 => cEq v2 0
  (Q v1 h)
  (cLt x0 0
    (mX7_floor_J19  x1 v1 1 h Q)
    (mX7_floor_J19  x1 v1 0 h Q))
section
variable {p : Program} {l : Launch} {e : Env} {s : State} {m : MethodId} {args : Array Value} {below : List Frame} {meth : Method} {c : Code} {D : Zd} {base : Nat}
set_option maxRecDepth 100000 in
set_option maxHeartbeats 4000000 in
theorem rX7_floor_J19 (hc : zOk p s m args meth c D cX7_floor 3 RX7 (some .int))  {x1 : Int} {x2 : Int} {s0 : Int} {h : Zm} {Q : Int → Zm → Prop}  (H : mX7_floor_J19  x1 x2 s0 h Q) : zW p l e zrX7_floor s m args below meth c D base 3 (MQ below (zQi D base Q) args s 0 0 (zFree base)) 0 0 19 [none, some (.inl x1), some (.inl x2)] [.inl s0] h := by
  unfold mX7_floor_J19 at H
  refine z_iload_n (pc := 19) hc dX7_floor_19 rfl ?_
  refine z_if_ge (tgt := 27) (pc := 20) hc dX7_floor_20 rfl H (fun H => ?_) (fun H => ?_)
  · refine z_iconst (pc := 23) hc dX7_floor_23 ?_
    refine z_goto (tgt := 28) (pc := 24) hc dX7_floor_24 rfl ?_
    refine z_icmp_eq (tgt := 37) (pc := 28) hc dX7_floor_28 rfl H (fun H => ?_) (fun H => ?_)
    · refine z_iload_n (pc := 37) hc dX7_floor_37 rfl ?_
      exact z_ireturn (pc := 38) hc dX7_floor_38 H
    · refine z_iload_n (pc := 31) hc dX7_floor_31 rfl ?_
      refine z_iconst (pc := 32) hc dX7_floor_32 ?_
      refine z_isub (pc := 33) hc dX7_floor_33 ?_
      refine z_goto (tgt := 38) (pc := 34) hc dX7_floor_34 rfl ?_
      exact z_ireturn (pc := 38) hc dX7_floor_38 H
  · refine z_iconst (pc := 27) hc dX7_floor_27 ?_
    refine z_icmp_eq (tgt := 37) (pc := 28) hc dX7_floor_28 rfl H (fun H => ?_) (fun H => ?_)
    · refine z_iload_n (pc := 37) hc dX7_floor_37 rfl ?_
      exact z_ireturn (pc := 38) hc dX7_floor_38 H
    · refine z_iload_n (pc := 31) hc dX7_floor_31 rfl ?_
      refine z_iconst (pc := 32) hc dX7_floor_32 ?_
      refine z_isub (pc := 33) hc dX7_floor_33 ?_
      refine z_goto (tgt := 38) (pc := 34) hc dX7_floor_34 rfl ?_
      exact z_ireturn (pc := 38) hc dX7_floor_38 H
set_option maxRecDepth 100000 in
set_option maxHeartbeats 4000000 in
theorem rX7_floor (hc : zOk p s m args meth c D cX7_floor 3 RX7 (some .int)) {x0 : Int} {x1 : Int} {h : Zm} {Q : Int → Zm → Prop} (H : mX7_floor x0 x1 h Q) : zW p l e zrX7_floor s m args below meth c D base 3 (MQ below (zQi D base Q) args s 0 0 (zFree base)) 0 0 0 [some (.inl x0), some (.inl x1), none] [] h := by
  unfold mX7_floor at H
  refine z_iload_n (pc := 0) hc dX7_floor_0 rfl ?_
  refine z_iload_n (pc := 1) hc dX7_floor_1 rfl ?_
  refine z_idiv (pc := 2) hc dX7_floor_2 H (fun v1 H => ?_)
  refine z_istore_n (pc := 3) hc dX7_floor_3 (by decide) (ρ' := [some (.inl x0), some (.inl x1), some (.inl v1)]) rfl ?_
  refine z_iload_n (pc := 4) hc dX7_floor_4 rfl ?_
  refine z_iload_n (pc := 5) hc dX7_floor_5 rfl ?_
  refine z_irem (pc := 6) hc dX7_floor_6 H (fun v2 H => ?_)
  refine z_if_eq (tgt := 37) (pc := 7) hc dX7_floor_7 rfl H (fun H => ?_) (fun H => ?_)
  · refine z_iload_n (pc := 37) hc dX7_floor_37 rfl ?_
    exact z_ireturn (pc := 38) hc dX7_floor_38 H
  · refine z_iload_n (pc := 10) hc dX7_floor_10 rfl ?_
    refine z_if_ge (tgt := 18) (pc := 11) hc dX7_floor_11 rfl H (fun H => ?_) (fun H => ?_)
    · refine z_iconst (pc := 14) hc dX7_floor_14 ?_
      refine z_goto (tgt := 19) (pc := 15) hc dX7_floor_15 rfl ?_
      refine z_mask [false, true, true] (ρ' := [none, some (.inl x1), some (.inl v1)]) rfl ?_
      exact rX7_floor_J19 hc H
    · refine z_iconst (pc := 18) hc dX7_floor_18 ?_
      refine z_mask [false, true, true] (ρ' := [none, some (.inl x1), some (.inl v1)]) rfl ?_
      exact rX7_floor_J19 hc H
end
theorem metX7_floor (l : Launch) (D : Zd) (base : Nat) {x0 : Int} {x1 : Int} {h : Zm} {Q : Int → Zm → Prop} (H : mX7_floor x0 x1 h Q) : zMet l D base yX7_floor cX7_floor 3 (some .int) zrX7_floor [.inl x0, .inl x1] h (zQi D base Q) :=
  z_met (by decide +kernel) (Nat.le_of_ble_eq_true rfl) (fun p e s m args below meth c hc hn => rX7_floor hc H)
def zrX7_hold : Room := { frames := 0, cells := 0, slots := 0, locals := 0 }
def mX7_hold_B2 (X2 : Int → Zm → Prop) (a0 : Nat) (x1 : Int) (h : Zm) (Q : Zm → Prop) : Prop :=
  cLt x1 368
  (cGr h 17 a0 2 fun r1 => cGr h 17 a0 0 fun r2 => cLd h 1 r2 x1 fun v3 => cSt h r1 x1 v3 fun h4 => X2 (x1 + 1) h4)
  (Q h)
def mX7_hold_H2  (a0 : Nat) (x1 : Int) (h : Zm) (Q : Zm → Prop) : Prop :=
  lfp1 (fun X2 x1 h => mX7_hold_B2 X2 a0 x1 h Q) x1 h
def mX7_hold (a0 : Nat) (h : Zm) (Q : Zm → Prop) : Prop :=
  mX7_hold_H2  a0 0 h Q
section
variable {p : Program} {l : Launch} {e : Env} {s : State} {m : MethodId} {args : Array Value} {below : List Frame} {meth : Method} {c : Code} {D : Zd} {base : Nat}
set_option maxRecDepth 100000 in
set_option maxHeartbeats 4000000 in
theorem rX7_hold_B2 (hc : zOk p s m args meth c D cX7_hold 2 RX7 none) {X2 : Int → Zm → Prop} {a0 : Nat} {x1 : Int} {h : Zm} {Q : Zm → Prop} (hX2 : ∀ (x1 : Int) (h : Zm), X2 x1 h → zW p l e zrX7_hold s m args below meth c D base 2 (MQ below (zQv D base Q) args s 0 0 (zFree base)) 0 0 2 [some (.inr a0), some (.inl x1)] [] h) (H : mX7_hold_B2 X2 a0 x1 h Q) : zW p l e zrX7_hold s m args below meth c D base 2 (MQ below (zQv D base Q) args s 0 0 (zFree base)) 0 0 2 [some (.inr a0), some (.inl x1)] [] h := by
  unfold mX7_hold_B2 at H
  refine z_iload_n (pc := 2) hc dX7_hold_2 rfl ?_
  refine z_sipush (pc := 3) hc dX7_hold_3 (by decide) ?_
  refine z_icmp_ge (tgt := 27) (pc := 6) hc dX7_hold_6 rfl H (fun H => ?_) (fun H => ?_)
  · refine z_aload_n (pc := 9) hc dX7_hold_9 rfl ?_
    refine z_getR (pc := 10) hc dX7_hold_10 zf_RX7_16 rfl rfl rfl H (fun r1 H => ?_)
    refine z_iload_n (pc := 13) hc dX7_hold_13 rfl ?_
    refine z_aload_n (pc := 14) hc dX7_hold_14 rfl ?_
    refine z_getR (pc := 15) hc dX7_hold_15 zf_RX7_7 rfl rfl rfl H (fun r2 H => ?_)
    refine z_iload_n (pc := 18) hc dX7_hold_18 rfl ?_
    refine z_iaload (pc := 19) hc dX7_hold_19 H (fun v3 H => ?_)
    refine z_iastore (pc := 20) hc dX7_hold_20 H (fun h4 H => ?_)
    refine z_iinc (pc := 21) hc dX7_hold_21 (by decide) rfl (ρ' := [some (.inr a0), some (.inl (x1 + 1))]) rfl ?_
    refine z_goto (tgt := 2) (pc := 24) hc dX7_hold_24 rfl ?_
    exact hX2 _ _ H
  · exact z_return (pc := 27) hc dX7_hold_27 H
theorem rX7_hold_H2 (hc : zOk p s m args meth c D cX7_hold 2 RX7 none)  {a0 : Nat} {x1 : Int} {h : Zm} {Q : Zm → Prop}  (H : mX7_hold_H2  a0 x1 h Q) : zW p l e zrX7_hold s m args below meth c D base 2 (MQ below (zQv D base Q) args s 0 0 (zFree base)) 0 0 2 [some (.inr a0), some (.inl x1)] [] h :=
  H (fun x1 h => zW p l e zrX7_hold s m args below meth c D base 2 (MQ below (zQv D base Q) args s 0 0 (zFree base)) 0 0 2 [some (.inr a0), some (.inl x1)] [] h) (fun x1 h H => rX7_hold_B2 hc (fun _ _ q => q) H)
set_option maxRecDepth 100000 in
set_option maxHeartbeats 4000000 in
theorem rX7_hold (hc : zOk p s m args meth c D cX7_hold 2 RX7 none) {a0 : Nat} {h : Zm} {Q : Zm → Prop} (H : mX7_hold a0 h Q) : zW p l e zrX7_hold s m args below meth c D base 2 (MQ below (zQv D base Q) args s 0 0 (zFree base)) 0 0 0 [some (.inr a0), none] [] h := by
  unfold mX7_hold at H
  refine z_iconst (pc := 0) hc dX7_hold_0 ?_
  refine z_istore_n (pc := 1) hc dX7_hold_1 (by decide) (ρ' := [some (.inr a0), some (.inl 0)]) rfl ?_
  exact rX7_hold_H2 hc H
end
theorem metX7_hold (l : Launch) (D : Zd) (base : Nat) {a0 : Nat} {h : Zm} {Q : Zm → Prop} (H : mX7_hold a0 h Q) : zMet l D base yX7_hold cX7_hold 2 none zrX7_hold [.inr a0] h (zQv D base Q) :=
  z_met (by decide +kernel) (Nat.le_of_ble_eq_true rfl) (fun p e s m args below meth c hc hn => rX7_hold hc H)
def zrX7_ends : Room := { frames := 0, cells := 0, slots := 0, locals := 0 }
def mX7_ends_B51 (X51 : Int → Zm → Prop) (a0 : Nat) (x1 : Int) (x2 : Int) (h : Zm) (Q : Int → Zm → Prop) : Prop :=
  cLt x2 368
  (cGr h 17 a0 1 fun r4 => cGi h 17 a0 3 fun v5 => cGr h 17 a0 2 fun r6 => cLd h 1 r6 x2 fun v7 => cSt h r4 ((368 * v5) + x2) v7 fun h8 => X51 (x2 + 1) h8)
  (cGi h 17 a0 3 fun v2 => cPi h 17 a0 3 (v2 + 1) fun h3 => Q x1 h3)
def mX7_ends_H51  (a0 : Nat) (x1 : Int) (x2 : Int) (h : Zm) (Q : Int → Zm → Prop) : Prop :=
  lfp1 (fun X51 x2 h => mX7_ends_B51 X51 a0 x1 x2 h Q) x2 h
def mX7_ends_B10 (X10 : Int → Zm → Prop) (a0 : Nat) (x1 : Int) (x2 : Int) (h : Zm) (Q : Int → Zm → Prop) : Prop :=
  cLt x2 1472
  (cGr h 17 a0 1 fun r11 => cGr h 17 a0 1 fun r12 => cLd h 1 r12 (x2 + 368) fun v13 => cSt h r11 x2 v13 fun h14 => X10 (x2 + 1) h14)
  (cGi h 17 a0 3 fun v9 => cPi h 17 a0 3 (v9 - 1) fun h10 => mX7_ends_H51  a0 x1 0 h10 Q)
def mX7_ends_H10  (a0 : Nat) (x1 : Int) (x2 : Int) (h : Zm) (Q : Int → Zm → Prop) : Prop :=
  lfp1 (fun X10 x2 h => mX7_ends_B10 X10 a0 x1 x2 h Q) x2 h
def mX7_ends (a0 : Nat) (x1 : Int) (h : Zm) (Q : Int → Zm → Prop) : Prop :=
  cGi h 17 a0 3 fun v1 => cEq v1 5
  (mX7_ends_H10  a0 x1 0 h Q)
  (mX7_ends_H51  a0 x1 0 h Q)
section
variable {p : Program} {l : Launch} {e : Env} {s : State} {m : MethodId} {args : Array Value} {below : List Frame} {meth : Method} {c : Code} {D : Zd} {base : Nat}
set_option maxRecDepth 100000 in
set_option maxHeartbeats 4000000 in
theorem rX7_ends_B51 (hc : zOk p s m args meth c D cX7_ends 3 RX7 (some .int)) {X51 : Int → Zm → Prop} {a0 : Nat} {x1 : Int} {x2 : Int} {h : Zm} {Q : Int → Zm → Prop} (hX51 : ∀ (x2 : Int) (h : Zm), X51 x2 h → zW p l e zrX7_ends s m args below meth c D base 3 (MQ below (zQi D base Q) args s 0 0 (zFree base)) 0 0 51 [some (.inr a0), some (.inl x1), some (.inl x2)] [] h) (H : mX7_ends_B51 X51 a0 x1 x2 h Q) : zW p l e zrX7_ends s m args below meth c D base 3 (MQ below (zQi D base Q) args s 0 0 (zFree base)) 0 0 51 [some (.inr a0), some (.inl x1), some (.inl x2)] [] h := by
  unfold mX7_ends_B51 at H
  refine z_iload_n (pc := 51) hc dX7_ends_51 rfl ?_
  refine z_sipush (pc := 52) hc dX7_ends_52 (by decide) ?_
  refine z_icmp_ge (tgt := 85) (pc := 55) hc dX7_ends_55 rfl H (fun H => ?_) (fun H => ?_)
  · refine z_aload_n (pc := 58) hc dX7_ends_58 rfl ?_
    refine z_getR (pc := 59) hc dX7_ends_59 zf_RX7_13 rfl rfl rfl H (fun r4 H => ?_)
    refine z_sipush (pc := 62) hc dX7_ends_62 (by decide) ?_
    refine z_aload_n (pc := 65) hc dX7_ends_65 rfl ?_
    refine z_getI (pc := 66) hc dX7_ends_66 zf_RX7_62 rfl rfl rfl H (fun v5 H => ?_)
    refine z_imul (pc := 69) hc dX7_ends_69 ?_
    refine z_iload_n (pc := 70) hc dX7_ends_70 rfl ?_
    refine z_iadd (pc := 71) hc dX7_ends_71 ?_
    refine z_aload_n (pc := 72) hc dX7_ends_72 rfl ?_
    refine z_getR (pc := 73) hc dX7_ends_73 zf_RX7_16 rfl rfl rfl H (fun r6 H => ?_)
    refine z_iload_n (pc := 76) hc dX7_ends_76 rfl ?_
    refine z_iaload (pc := 77) hc dX7_ends_77 H (fun v7 H => ?_)
    refine z_iastore (pc := 78) hc dX7_ends_78 H (fun h8 H => ?_)
    refine z_iinc (pc := 79) hc dX7_ends_79 (by decide) rfl (ρ' := [some (.inr a0), some (.inl x1), some (.inl (x2 + 1))]) rfl ?_
    refine z_goto (tgt := 51) (pc := 82) hc dX7_ends_82 rfl ?_
    exact hX51 _ _ H
  · refine z_aload_n (pc := 85) hc dX7_ends_85 rfl ?_
    refine z_dup (pc := 86) hc dX7_ends_86 ?_
    refine z_getI (pc := 87) hc dX7_ends_87 zf_RX7_62 rfl rfl rfl H (fun v2 H => ?_)
    refine z_iconst (pc := 90) hc dX7_ends_90 ?_
    refine z_iadd (pc := 91) hc dX7_ends_91 ?_
    refine z_putI (pc := 92) hc dX7_ends_92 zf_RX7_62 rfl rfl rfl H (fun h3 H => ?_)
    refine z_iload_n (pc := 95) hc dX7_ends_95 rfl ?_
    exact z_ireturn (pc := 96) hc dX7_ends_96 H
theorem rX7_ends_H51 (hc : zOk p s m args meth c D cX7_ends 3 RX7 (some .int))  {a0 : Nat} {x1 : Int} {x2 : Int} {h : Zm} {Q : Int → Zm → Prop}  (H : mX7_ends_H51  a0 x1 x2 h Q) : zW p l e zrX7_ends s m args below meth c D base 3 (MQ below (zQi D base Q) args s 0 0 (zFree base)) 0 0 51 [some (.inr a0), some (.inl x1), some (.inl x2)] [] h :=
  H (fun x2 h => zW p l e zrX7_ends s m args below meth c D base 3 (MQ below (zQi D base Q) args s 0 0 (zFree base)) 0 0 51 [some (.inr a0), some (.inl x1), some (.inl x2)] [] h) (fun x2 h H => rX7_ends_B51 hc (fun _ _ q => q) H)
set_option maxRecDepth 100000 in
set_option maxHeartbeats 4000000 in
theorem rX7_ends_B10 (hc : zOk p s m args meth c D cX7_ends 3 RX7 (some .int)) {X10 : Int → Zm → Prop} {a0 : Nat} {x1 : Int} {x2 : Int} {h : Zm} {Q : Int → Zm → Prop} (hX10 : ∀ (x2 : Int) (h : Zm), X10 x2 h → zW p l e zrX7_ends s m args below meth c D base 3 (MQ below (zQi D base Q) args s 0 0 (zFree base)) 0 0 10 [some (.inr a0), some (.inl x1), some (.inl x2)] [] h) (H : mX7_ends_B10 X10 a0 x1 x2 h Q) : zW p l e zrX7_ends s m args below meth c D base 3 (MQ below (zQi D base Q) args s 0 0 (zFree base)) 0 0 10 [some (.inr a0), some (.inl x1), some (.inl x2)] [] h := by
  unfold mX7_ends_B10 at H
  refine z_iload_n (pc := 10) hc dX7_ends_10 rfl ?_
  refine z_sipush (pc := 11) hc dX7_ends_11 (by decide) ?_
  refine z_icmp_ge (tgt := 39) (pc := 14) hc dX7_ends_14 rfl H (fun H => ?_) (fun H => ?_)
  · refine z_aload_n (pc := 17) hc dX7_ends_17 rfl ?_
    refine z_getR (pc := 18) hc dX7_ends_18 zf_RX7_13 rfl rfl rfl H (fun r11 H => ?_)
    refine z_iload_n (pc := 21) hc dX7_ends_21 rfl ?_
    refine z_aload_n (pc := 22) hc dX7_ends_22 rfl ?_
    refine z_getR (pc := 23) hc dX7_ends_23 zf_RX7_13 rfl rfl rfl H (fun r12 H => ?_)
    refine z_iload_n (pc := 26) hc dX7_ends_26 rfl ?_
    refine z_sipush (pc := 27) hc dX7_ends_27 (by decide) ?_
    refine z_iadd (pc := 30) hc dX7_ends_30 ?_
    refine z_iaload (pc := 31) hc dX7_ends_31 H (fun v13 H => ?_)
    refine z_iastore (pc := 32) hc dX7_ends_32 H (fun h14 H => ?_)
    refine z_iinc (pc := 33) hc dX7_ends_33 (by decide) rfl (ρ' := [some (.inr a0), some (.inl x1), some (.inl (x2 + 1))]) rfl ?_
    refine z_goto (tgt := 10) (pc := 36) hc dX7_ends_36 rfl ?_
    exact hX10 _ _ H
  · refine z_aload_n (pc := 39) hc dX7_ends_39 rfl ?_
    refine z_dup (pc := 40) hc dX7_ends_40 ?_
    refine z_getI (pc := 41) hc dX7_ends_41 zf_RX7_62 rfl rfl rfl H (fun v9 H => ?_)
    refine z_iconst (pc := 44) hc dX7_ends_44 ?_
    refine z_isub (pc := 45) hc dX7_ends_45 ?_
    refine z_putI (pc := 46) hc dX7_ends_46 zf_RX7_62 rfl rfl rfl H (fun h10 H => ?_)
    refine z_iconst (pc := 49) hc dX7_ends_49 ?_
    refine z_istore_n (pc := 50) hc dX7_ends_50 (by decide) (ρ' := [some (.inr a0), some (.inl x1), some (.inl 0)]) rfl ?_
    exact rX7_ends_H51 hc H
theorem rX7_ends_H10 (hc : zOk p s m args meth c D cX7_ends 3 RX7 (some .int))  {a0 : Nat} {x1 : Int} {x2 : Int} {h : Zm} {Q : Int → Zm → Prop}  (H : mX7_ends_H10  a0 x1 x2 h Q) : zW p l e zrX7_ends s m args below meth c D base 3 (MQ below (zQi D base Q) args s 0 0 (zFree base)) 0 0 10 [some (.inr a0), some (.inl x1), some (.inl x2)] [] h :=
  H (fun x2 h => zW p l e zrX7_ends s m args below meth c D base 3 (MQ below (zQi D base Q) args s 0 0 (zFree base)) 0 0 10 [some (.inr a0), some (.inl x1), some (.inl x2)] [] h) (fun x2 h H => rX7_ends_B10 hc (fun _ _ q => q) H)
set_option maxRecDepth 100000 in
set_option maxHeartbeats 4000000 in
theorem rX7_ends (hc : zOk p s m args meth c D cX7_ends 3 RX7 (some .int)) {a0 : Nat} {x1 : Int} {h : Zm} {Q : Int → Zm → Prop} (H : mX7_ends a0 x1 h Q) : zW p l e zrX7_ends s m args below meth c D base 3 (MQ below (zQi D base Q) args s 0 0 (zFree base)) 0 0 0 [some (.inr a0), some (.inl x1), none] [] h := by
  unfold mX7_ends at H
  refine z_aload_n (pc := 0) hc dX7_ends_0 rfl ?_
  refine z_getI (pc := 1) hc dX7_ends_1 zf_RX7_62 rfl rfl rfl H (fun v1 H => ?_)
  refine z_iconst (pc := 4) hc dX7_ends_4 ?_
  refine z_icmp_ne (tgt := 49) (pc := 5) hc dX7_ends_5 rfl H (fun H => ?_) (fun H => ?_)
  · refine z_iconst (pc := 8) hc dX7_ends_8 ?_
    refine z_istore_n (pc := 9) hc dX7_ends_9 (by decide) (ρ' := [some (.inr a0), some (.inl x1), some (.inl 0)]) rfl ?_
    exact rX7_ends_H10 hc H
  · refine z_iconst (pc := 49) hc dX7_ends_49 ?_
    refine z_istore_n (pc := 50) hc dX7_ends_50 (by decide) (ρ' := [some (.inr a0), some (.inl x1), some (.inl 0)]) rfl ?_
    exact rX7_ends_H51 hc H
end
theorem metX7_ends (l : Launch) (D : Zd) (base : Nat) {a0 : Nat} {x1 : Int} {h : Zm} {Q : Int → Zm → Prop} (H : mX7_ends a0 x1 h Q) : zMet l D base yX7_ends cX7_ends 3 (some .int) zrX7_ends [.inr a0, .inl x1] h (zQi D base Q) :=
  z_met (by decide +kernel) (Nat.le_of_ble_eq_true rfl) (fun p e s m args below meth c hc hn => rX7_ends hc H)
def zrX7_becomes : Room := { frames := 1, cells := 0, slots := 0, locals := 22 }
def mX7_becomes (a0 : Nat) (x1 : Int) (x2 : Int) (h : Zm) (Q : Int → Zm → Prop) : Prop :=
  cRc h 17 a0 <| mX7_hold a0 h fun h1 => cGr h1 17 a0 0 fun r2 => cLd h1 1 r2 x1 fun v3 => cGr h1 17 a0 0 fun r4 => cSt h1 r4 x1 x2 fun h5 => cRc h5 17 a0 <| mX7_ends a0 v3 h5 fun v7 h6 => Q v7 h6
section
variable {p : Program} {l : Launch} {e : Env} {s : State} {m : MethodId} {args : Array Value} {below : List Frame} {meth : Method} {c : Code} {D : Zd} {base : Nat}
set_option maxRecDepth 100000 in
set_option maxHeartbeats 4000000 in
theorem rX7_becomes (hc : zOk p s m args meth c D cX7_becomes 4 RX7 (some .int)) {a0 : Nat} {x1 : Int} {x2 : Int} {h : Zm} {Q : Int → Zm → Prop} (H : mX7_becomes a0 x1 x2 h Q) : zW p l e zrX7_becomes s m args below meth c D base 4 (MQ below (zQi D base Q) args s 0 0 (zFree base)) 0 0 0 [some (.inr a0), some (.inl x1), some (.inl x2), none] [] h := by
  unfold mX7_becomes at H
  refine z_aload_n (pc := 0) hc dX7_becomes_0 rfl ?_
  refine z_calV0 (z_runV (pc := 1) (ci := 7) (T := TX7) (N := 20) hc dX7_becomes_1 zw_RX7_66 (metX7_hold _ _ _ H.2) rfl (Nat.le_of_ble_eq_true rfl) ⟨Nat.le_of_ble_eq_true rfl, Nat.le_of_ble_eq_true rfl⟩ ⟨by exact Nat.le_of_ble_eq_true rfl, by exact Nat.le_of_ble_eq_true rfl⟩ rfl H.1) rfl ⟨rfl, rfl⟩ (fun h1 H => ?_)
  refine z_aload_n (pc := 4) hc dX7_becomes_4 rfl ?_
  refine z_getR (pc := 5) hc dX7_becomes_5 zf_RX7_7 rfl rfl rfl H (fun r2 H => ?_)
  refine z_iload_n (pc := 8) hc dX7_becomes_8 rfl ?_
  refine z_iaload (pc := 9) hc dX7_becomes_9 H (fun v3 H => ?_)
  refine z_istore_n (pc := 10) hc dX7_becomes_10 (by decide) (ρ' := [some (.inr a0), some (.inl x1), some (.inl x2), some (.inl v3)]) rfl ?_
  refine z_aload_n (pc := 11) hc dX7_becomes_11 rfl ?_
  refine z_getR (pc := 12) hc dX7_becomes_12 zf_RX7_7 rfl rfl rfl H (fun r4 H => ?_)
  refine z_iload_n (pc := 15) hc dX7_becomes_15 rfl ?_
  refine z_iload_n (pc := 16) hc dX7_becomes_16 rfl ?_
  refine z_iastore (pc := 17) hc dX7_becomes_17 H (fun h5 H => ?_)
  refine z_aload_n (pc := 18) hc dX7_becomes_18 rfl ?_
  refine z_iload_n (pc := 19) hc dX7_becomes_19 rfl ?_
  refine z_calI (z_runV (pc := 20) (ci := 7) (T := TX7) (N := 20) hc dX7_becomes_20 zw_RX7_69 (metX7_ends _ _ _ H.2) rfl (Nat.le_of_ble_eq_true rfl) ⟨Nat.le_of_ble_eq_true rfl, Nat.le_of_ble_eq_true rfl⟩ ⟨by exact Nat.le_of_ble_eq_true rfl, by exact Nat.le_of_ble_eq_true rfl⟩ rfl H.1) rfl ⟨rfl, rfl⟩ (fun v7 h6 H => ?_)
  exact z_ireturn (pc := 23) hc dX7_becomes_23 H
end
theorem metX7_becomes (l : Launch) (D : Zd) (base : Nat) {a0 : Nat} {x1 : Int} {x2 : Int} {h : Zm} {Q : Int → Zm → Prop} (H : mX7_becomes a0 x1 x2 h Q) : zMet l D base yX7_becomes cX7_becomes 4 (some .int) zrX7_becomes [.inr a0, .inl x1, .inl x2] h (zQi D base Q) :=
  z_met (by decide +kernel) (Nat.le_of_ble_eq_true rfl) (fun p e s m args below meth c hc hn => rX7_becomes hc H)
def zrX7_setSize : Room := { frames := 1, cells := 0, slots := 0, locals := 22 }
def mX7_setSize (a0 : Nat) (x1 : Int) (x2 : Int) (h : Zm) (Q : Int → Zm → Prop) : Prop :=
  mX7_in x1 1 12 h fun v2 h1 => cEq v2 0
  (Q (-1) h1)
  (mX7_in x2 1 12 h1 fun v4 h3 => cEq v4 0
    (Q (-1) h3)
    (cRc h3 17 a0 <| mX7_hold a0 h3 fun h5 => cGr h5 17 a0 0 fun r6 => cLd h5 1 r6 0 fun v7 => cGr h5 17 a0 0 fun r8 => cLd h5 1 r8 1 fun v9 => cGr h5 17 a0 0 fun r10 => cSt h5 r10 0 x1 fun h11 => cGr h11 17 a0 0 fun r12 => cSt h11 r12 1 x2 fun h13 => cRc h13 17 a0 <| mX7_ends a0 ((100 * v7) + v9) h13 fun v15 h14 => Q v15 h14))
section
variable {p : Program} {l : Launch} {e : Env} {s : State} {m : MethodId} {args : Array Value} {below : List Frame} {meth : Method} {c : Code} {D : Zd} {base : Nat}
set_option maxRecDepth 100000 in
set_option maxHeartbeats 4000000 in
theorem rX7_setSize (hc : zOk p s m args meth c D cX7_setSize 4 RX7 (some .int)) {a0 : Nat} {x1 : Int} {x2 : Int} {h : Zm} {Q : Int → Zm → Prop} (H : mX7_setSize a0 x1 x2 h Q) : zW p l e zrX7_setSize s m args below meth c D base 4 (MQ below (zQi D base Q) args s 0 0 (zFree base)) 0 0 0 [some (.inr a0), some (.inl x1), some (.inl x2), none] [] h := by
  unfold mX7_setSize at H
  refine z_iload_n (pc := 0) hc dX7_setSize_0 rfl ?_
  refine z_iconst (pc := 1) hc dX7_setSize_1 ?_
  refine z_bipush (pc := 2) hc dX7_setSize_2 (by decide) ?_
  refine z_calI (z_runS (pc := 4) hc dX7_setSize_4 zw_RX7_73 (metX7_in _ _ _ H) rfl (Nat.le_of_ble_eq_true rfl) ⟨Nat.le_of_ble_eq_true rfl, Nat.le_of_ble_eq_true rfl⟩ ⟨by exact Nat.le_of_ble_eq_true rfl, by exact Nat.le_of_ble_eq_true rfl⟩) rfl ⟨rfl, rfl⟩ (fun v2 h1 H => ?_)
  refine z_if_eq (tgt := 20) (pc := 7) hc dX7_setSize_7 rfl H (fun H => ?_) (fun H => ?_)
  · refine z_iconst (pc := 20) hc dX7_setSize_20 ?_
    exact z_ireturn (pc := 21) hc dX7_setSize_21 H
  · refine z_iload_n (pc := 10) hc dX7_setSize_10 rfl ?_
    refine z_iconst (pc := 11) hc dX7_setSize_11 ?_
    refine z_bipush (pc := 12) hc dX7_setSize_12 (by decide) ?_
    refine z_calI (z_runS (pc := 14) hc dX7_setSize_14 zw_RX7_73 (metX7_in _ _ _ H) rfl (Nat.le_of_ble_eq_true rfl) ⟨Nat.le_of_ble_eq_true rfl, Nat.le_of_ble_eq_true rfl⟩ ⟨by exact Nat.le_of_ble_eq_true rfl, by exact Nat.le_of_ble_eq_true rfl⟩) rfl ⟨rfl, rfl⟩ (fun v4 h3 H => ?_)
    refine z_if_ne (tgt := 22) (pc := 17) hc dX7_setSize_17 rfl H (fun H => ?_) (fun H => ?_)
    · refine z_iconst (pc := 20) hc dX7_setSize_20 ?_
      exact z_ireturn (pc := 21) hc dX7_setSize_21 H
    · refine z_aload_n (pc := 22) hc dX7_setSize_22 rfl ?_
      refine z_calV0 (z_runV (pc := 23) (ci := 7) (T := TX7) (N := 20) hc dX7_setSize_23 zw_RX7_66 (metX7_hold _ _ _ H.2) rfl (Nat.le_of_ble_eq_true rfl) ⟨Nat.le_of_ble_eq_true rfl, Nat.le_of_ble_eq_true rfl⟩ ⟨by exact Nat.le_of_ble_eq_true rfl, by exact Nat.le_of_ble_eq_true rfl⟩ rfl H.1) rfl ⟨rfl, rfl⟩ (fun h5 H => ?_)
      refine z_bipush (pc := 26) hc dX7_setSize_26 (by decide) ?_
      refine z_aload_n (pc := 28) hc dX7_setSize_28 rfl ?_
      refine z_getR (pc := 29) hc dX7_setSize_29 zf_RX7_7 rfl rfl rfl H (fun r6 H => ?_)
      refine z_iconst (pc := 32) hc dX7_setSize_32 ?_
      refine z_iaload (pc := 33) hc dX7_setSize_33 H (fun v7 H => ?_)
      refine z_imul (pc := 34) hc dX7_setSize_34 ?_
      refine z_aload_n (pc := 35) hc dX7_setSize_35 rfl ?_
      refine z_getR (pc := 36) hc dX7_setSize_36 zf_RX7_7 rfl rfl rfl H (fun r8 H => ?_)
      refine z_iconst (pc := 39) hc dX7_setSize_39 ?_
      refine z_iaload (pc := 40) hc dX7_setSize_40 H (fun v9 H => ?_)
      refine z_iadd (pc := 41) hc dX7_setSize_41 ?_
      refine z_istore_n (pc := 42) hc dX7_setSize_42 (by decide) (ρ' := [some (.inr a0), some (.inl x1), some (.inl x2), some (.inl ((100 * v7) + v9))]) rfl ?_
      refine z_aload_n (pc := 43) hc dX7_setSize_43 rfl ?_
      refine z_getR (pc := 44) hc dX7_setSize_44 zf_RX7_7 rfl rfl rfl H (fun r10 H => ?_)
      refine z_iconst (pc := 47) hc dX7_setSize_47 ?_
      refine z_iload_n (pc := 48) hc dX7_setSize_48 rfl ?_
      refine z_iastore (pc := 49) hc dX7_setSize_49 H (fun h11 H => ?_)
      refine z_aload_n (pc := 50) hc dX7_setSize_50 rfl ?_
      refine z_getR (pc := 51) hc dX7_setSize_51 zf_RX7_7 rfl rfl rfl H (fun r12 H => ?_)
      refine z_iconst (pc := 54) hc dX7_setSize_54 ?_
      refine z_iload_n (pc := 55) hc dX7_setSize_55 rfl ?_
      refine z_iastore (pc := 56) hc dX7_setSize_56 H (fun h13 H => ?_)
      refine z_aload_n (pc := 57) hc dX7_setSize_57 rfl ?_
      refine z_iload_n (pc := 58) hc dX7_setSize_58 rfl ?_
      refine z_calI (z_runV (pc := 59) (ci := 7) (T := TX7) (N := 20) hc dX7_setSize_59 zw_RX7_69 (metX7_ends _ _ _ H.2) rfl (Nat.le_of_ble_eq_true rfl) ⟨Nat.le_of_ble_eq_true rfl, Nat.le_of_ble_eq_true rfl⟩ ⟨by exact Nat.le_of_ble_eq_true rfl, by exact Nat.le_of_ble_eq_true rfl⟩ rfl H.1) rfl ⟨rfl, rfl⟩ (fun v15 h14 H => ?_)
      exact z_ireturn (pc := 62) hc dX7_setSize_62 H
end
theorem metX7_setSize (l : Launch) (D : Zd) (base : Nat) {a0 : Nat} {x1 : Int} {x2 : Int} {h : Zm} {Q : Int → Zm → Prop} (H : mX7_setSize a0 x1 x2 h Q) : zMet l D base yX7_setSize cX7_setSize 4 (some .int) zrX7_setSize [.inr a0, .inl x1, .inl x2] h (zQi D base Q) :=
  z_met (by decide +kernel) (Nat.le_of_ble_eq_true rfl) (fun p e s m args below meth c hc hn => rX7_setSize hc H)
def zrX7_of : Room := { frames := 0, cells := 0, slots := 0, locals := 0 }
def mX7_of (a0 : Nat) (x1 : Int) (x2 : Int) (h : Zm) (Q : Int → Zm → Prop) : Prop :=
  cGr h 17 a0 0 fun r1 => cLd h 1 r1 ((128 + (10 * x1)) + x2) fun v2 => Q v2 h
section
variable {p : Program} {l : Launch} {e : Env} {s : State} {m : MethodId} {args : Array Value} {below : List Frame} {meth : Method} {c : Code} {D : Zd} {base : Nat}
set_option maxRecDepth 100000 in
set_option maxHeartbeats 4000000 in
theorem rX7_of (hc : zOk p s m args meth c D cX7_of 3 RX7 (some .int)) {a0 : Nat} {x1 : Int} {x2 : Int} {h : Zm} {Q : Int → Zm → Prop} (H : mX7_of a0 x1 x2 h Q) : zW p l e zrX7_of s m args below meth c D base 3 (MQ below (zQi D base Q) args s 0 0 (zFree base)) 0 0 0 [some (.inr a0), some (.inl x1), some (.inl x2)] [] h := by
  unfold mX7_of at H
  refine z_aload_n (pc := 0) hc dX7_of_0 rfl ?_
  refine z_getR (pc := 1) hc dX7_of_1 zf_RX7_7 rfl rfl rfl H (fun r1 H => ?_)
  refine z_sipush (pc := 4) hc dX7_of_4 (by decide) ?_
  refine z_bipush (pc := 7) hc dX7_of_7 (by decide) ?_
  refine z_iload_n (pc := 9) hc dX7_of_9 rfl ?_
  refine z_imul (pc := 10) hc dX7_of_10 ?_
  refine z_iadd (pc := 11) hc dX7_of_11 ?_
  refine z_iload_n (pc := 12) hc dX7_of_12 rfl ?_
  refine z_iadd (pc := 13) hc dX7_of_13 ?_
  refine z_iaload (pc := 14) hc dX7_of_14 H (fun v2 H => ?_)
  exact z_ireturn (pc := 15) hc dX7_of_15 H
end
theorem metX7_of (l : Launch) (D : Zd) (base : Nat) {a0 : Nat} {x1 : Int} {x2 : Int} {h : Zm} {Q : Int → Zm → Prop} (H : mX7_of a0 x1 x2 h Q) : zMet l D base yX7_of cX7_of 3 (some .int) zrX7_of [.inr a0, .inl x1, .inl x2] h (zQi D base Q) :=
  z_met (by decide +kernel) (Nat.le_of_ble_eq_true rfl) (fun p e s m args below meth c hc hn => rX7_of hc H)
def zrX7_isNode : Room := { frames := 1, cells := 0, slots := 0, locals := 22 }
def mX7_isNode (a0 : Nat) (x1 : Int) (h : Zm) (Q : Int → Zm → Prop) : Prop :=
  mX7_in x1 0 23 h fun v2 h1 => cEq v2 0
  (Q 0 h1)
  (cRc h1 17 a0 <| mX7_of a0 x1 0 h1 fun v4 h3 => cLt v4 0
    (Q 0 h3)
    (Q 1 h3))
section
variable {p : Program} {l : Launch} {e : Env} {s : State} {m : MethodId} {args : Array Value} {below : List Frame} {meth : Method} {c : Code} {D : Zd} {base : Nat}
set_option maxRecDepth 100000 in
set_option maxHeartbeats 4000000 in
theorem rX7_isNode (hc : zOk p s m args meth c D cX7_isNode 2 RX7 (some .boolean)) {a0 : Nat} {x1 : Int} {h : Zm} {Q : Int → Zm → Prop} (H : mX7_isNode a0 x1 h Q) : zW p l e zrX7_isNode s m args below meth c D base 2 (MQ below (zQi D base Q) args s 0 0 (zFree base)) 0 0 0 [some (.inr a0), some (.inl x1)] [] h := by
  unfold mX7_isNode at H
  refine z_iload_n (pc := 0) hc dX7_isNode_0 rfl ?_
  refine z_iconst (pc := 1) hc dX7_isNode_1 ?_
  refine z_bipush (pc := 2) hc dX7_isNode_2 (by decide) ?_
  refine z_calI (z_runS (pc := 4) hc dX7_isNode_4 zw_RX7_73 (metX7_in _ _ _ H) rfl (Nat.le_of_ble_eq_true rfl) ⟨Nat.le_of_ble_eq_true rfl, Nat.le_of_ble_eq_true rfl⟩ ⟨by exact Nat.le_of_ble_eq_true rfl, by exact Nat.le_of_ble_eq_true rfl⟩) rfl ⟨rfl, rfl⟩ (fun v2 h1 H => ?_)
  refine z_if_eq (tgt := 23) (pc := 7) hc dX7_isNode_7 rfl H (fun H => ?_) (fun H => ?_)
  · refine z_iconst (pc := 23) hc dX7_isNode_23 ?_
    exact z_zreturn (pc := 24) hc dX7_isNode_24 ⟨Or.inl rfl, H⟩
  · refine z_aload_n (pc := 10) hc dX7_isNode_10 rfl ?_
    refine z_iload_n (pc := 11) hc dX7_isNode_11 rfl ?_
    refine z_iconst (pc := 12) hc dX7_isNode_12 ?_
    refine z_calI (z_runV (pc := 13) (ci := 7) (T := TX7) (N := 20) hc dX7_isNode_13 zw_RX7_77 (metX7_of _ _ _ H.2) rfl (Nat.le_of_ble_eq_true rfl) ⟨Nat.le_of_ble_eq_true rfl, Nat.le_of_ble_eq_true rfl⟩ ⟨by exact Nat.le_of_ble_eq_true rfl, by exact Nat.le_of_ble_eq_true rfl⟩ rfl H.1) rfl ⟨rfl, rfl⟩ (fun v4 h3 H => ?_)
    refine z_if_lt (tgt := 23) (pc := 16) hc dX7_isNode_16 rfl H (fun H => ?_) (fun H => ?_)
    · refine z_iconst (pc := 23) hc dX7_isNode_23 ?_
      exact z_zreturn (pc := 24) hc dX7_isNode_24 ⟨Or.inl rfl, H⟩
    · refine z_iconst (pc := 19) hc dX7_isNode_19 ?_
      refine z_goto (tgt := 24) (pc := 20) hc dX7_isNode_20 rfl ?_
      exact z_zreturn (pc := 24) hc dX7_isNode_24 ⟨Or.inr rfl, H⟩
end
theorem metX7_isNode (l : Launch) (D : Zd) (base : Nat) {a0 : Nat} {x1 : Int} {h : Zm} {Q : Int → Zm → Prop} (H : mX7_isNode a0 x1 h Q) : zMet l D base yX7_isNode cX7_isNode 2 (some .boolean) zrX7_isNode [.inr a0, .inl x1] h (zQi D base Q) :=
  z_met (by decide +kernel) (Nat.le_of_ble_eq_true rfl) (fun p e s m args below meth c hc hn => rX7_isNode hc H)
def zrX7_depth : Room := { frames := 1, cells := 0, slots := 0, locals := 22 }
def mX7_depth_B4 (X4 : Int → Int → Zm → Prop) (a0 : Nat) (x2 : Int) (x3 : Int) (h : Zm) (Q : Int → Zm → Prop) : Prop :=
  cEq x3 0
  (Q x2 h)
  (cRc h 17 a0 <| mX7_of a0 x3 1 h fun v2 h1 => X4 (x2 + 1) v2 h1)
def mX7_depth_H4  (a0 : Nat) (x2 : Int) (x3 : Int) (h : Zm) (Q : Int → Zm → Prop) : Prop :=
  lfp2 (fun X4 x2 x3 h => mX7_depth_B4 X4 a0 x2 x3 h Q) x2 x3 h
def mX7_depth (a0 : Nat) (x1 : Int) (h : Zm) (Q : Int → Zm → Prop) : Prop :=
  mX7_depth_H4  a0 0 x1 h Q
section
variable {p : Program} {l : Launch} {e : Env} {s : State} {m : MethodId} {args : Array Value} {below : List Frame} {meth : Method} {c : Code} {D : Zd} {base : Nat}
set_option maxRecDepth 100000 in
set_option maxHeartbeats 4000000 in
theorem rX7_depth_B4 (hc : zOk p s m args meth c D cX7_depth 4 RX7 (some .int)) {X4 : Int → Int → Zm → Prop} {a0 : Nat} {x2 : Int} {x3 : Int} {h : Zm} {Q : Int → Zm → Prop} (hX4 : ∀ (x2 : Int) (x3 : Int) (h : Zm), X4 x2 x3 h → zW p l e zrX7_depth s m args below meth c D base 4 (MQ below (zQi D base Q) args s 0 0 (zFree base)) 0 0 4 [some (.inr a0), none, some (.inl x2), some (.inl x3)] [] h) (H : mX7_depth_B4 X4 a0 x2 x3 h Q) : zW p l e zrX7_depth s m args below meth c D base 4 (MQ below (zQi D base Q) args s 0 0 (zFree base)) 0 0 4 [some (.inr a0), none, some (.inl x2), some (.inl x3)] [] h := by
  unfold mX7_depth_B4 at H
  refine z_iload_n (pc := 4) hc dX7_depth_4 rfl ?_
  refine z_if_eq (tgt := 21) (pc := 5) hc dX7_depth_5 rfl H (fun H => ?_) (fun H => ?_)
  · refine z_iload_n (pc := 21) hc dX7_depth_21 rfl ?_
    exact z_ireturn (pc := 22) hc dX7_depth_22 H
  · refine z_iinc (pc := 8) hc dX7_depth_8 (by decide) rfl (ρ' := [some (.inr a0), none, some (.inl (x2 + 1)), some (.inl x3)]) rfl ?_
    refine z_aload_n (pc := 11) hc dX7_depth_11 rfl ?_
    refine z_iload_n (pc := 12) hc dX7_depth_12 rfl ?_
    refine z_iconst (pc := 13) hc dX7_depth_13 ?_
    refine z_calI (z_runV (pc := 14) (ci := 7) (T := TX7) (N := 20) hc dX7_depth_14 zw_RX7_77 (metX7_of _ _ _ H.2) rfl (Nat.le_of_ble_eq_true rfl) ⟨Nat.le_of_ble_eq_true rfl, Nat.le_of_ble_eq_true rfl⟩ ⟨by exact Nat.le_of_ble_eq_true rfl, by exact Nat.le_of_ble_eq_true rfl⟩ rfl H.1) rfl ⟨rfl, rfl⟩ (fun v2 h1 H => ?_)
    refine z_istore_n (pc := 17) hc dX7_depth_17 (by decide) (ρ' := [some (.inr a0), none, some (.inl (x2 + 1)), some (.inl v2)]) rfl ?_
    refine z_goto (tgt := 4) (pc := 18) hc dX7_depth_18 rfl ?_
    exact hX4 _ _ _ H
theorem rX7_depth_H4 (hc : zOk p s m args meth c D cX7_depth 4 RX7 (some .int))  {a0 : Nat} {x2 : Int} {x3 : Int} {h : Zm} {Q : Int → Zm → Prop}  (H : mX7_depth_H4  a0 x2 x3 h Q) : zW p l e zrX7_depth s m args below meth c D base 4 (MQ below (zQi D base Q) args s 0 0 (zFree base)) 0 0 4 [some (.inr a0), none, some (.inl x2), some (.inl x3)] [] h :=
  H (fun x2 x3 h => zW p l e zrX7_depth s m args below meth c D base 4 (MQ below (zQi D base Q) args s 0 0 (zFree base)) 0 0 4 [some (.inr a0), none, some (.inl x2), some (.inl x3)] [] h) (fun x2 x3 h H => rX7_depth_B4 hc (fun _ _ _ q => q) H)
set_option maxRecDepth 100000 in
set_option maxHeartbeats 4000000 in
theorem rX7_depth (hc : zOk p s m args meth c D cX7_depth 4 RX7 (some .int)) {a0 : Nat} {x1 : Int} {h : Zm} {Q : Int → Zm → Prop} (H : mX7_depth a0 x1 h Q) : zW p l e zrX7_depth s m args below meth c D base 4 (MQ below (zQi D base Q) args s 0 0 (zFree base)) 0 0 0 [some (.inr a0), some (.inl x1), none, none] [] h := by
  unfold mX7_depth at H
  refine z_iconst (pc := 0) hc dX7_depth_0 ?_
  refine z_istore_n (pc := 1) hc dX7_depth_1 (by decide) (ρ' := [some (.inr a0), some (.inl x1), some (.inl 0), none]) rfl ?_
  refine z_iload_n (pc := 2) hc dX7_depth_2 rfl ?_
  refine z_istore_n (pc := 3) hc dX7_depth_3 (by decide) (ρ' := [some (.inr a0), some (.inl x1), some (.inl 0), some (.inl x1)]) rfl ?_
  refine z_mask [true, false, true, true] (ρ' := [some (.inr a0), none, some (.inl 0), some (.inl x1)]) rfl ?_
  exact rX7_depth_H4 hc H
end
theorem metX7_depth (l : Launch) (D : Zd) (base : Nat) {a0 : Nat} {x1 : Int} {h : Zm} {Q : Int → Zm → Prop} (H : mX7_depth a0 x1 h Q) : zMet l D base yX7_depth cX7_depth 4 (some .int) zrX7_depth [.inr a0, .inl x1] h (zQi D base Q) :=
  z_met (by decide +kernel) (Nat.le_of_ble_eq_true rfl) (fun p e s m args below meth c hc hn => rX7_depth hc H)
def zrX7_isBelow : Room := { frames := 1, cells := 0, slots := 0, locals := 22 }
def mX7_isBelow_B2 (X2 : Int → Zm → Prop) (a0 : Nat) (x2 : Int) (x3 : Int) (h : Zm) (Q : Int → Zm → Prop) : Prop :=
  cEq x3 x2
  (cEq x3 x2
    (Q 1 h)
    (Q 0 h))
  (cEq x3 0
    (cEq x3 x2
      (Q 1 h)
      (Q 0 h))
    (cRc h 17 a0 <| mX7_of a0 x3 1 h fun v2 h1 => X2 v2 h1))
def mX7_isBelow_H2  (a0 : Nat) (x2 : Int) (x3 : Int) (h : Zm) (Q : Int → Zm → Prop) : Prop :=
  lfp1 (fun X2 x3 h => mX7_isBelow_B2 X2 a0 x2 x3 h Q) x3 h
def mX7_isBelow (a0 : Nat) (x1 : Int) (x2 : Int) (h : Zm) (Q : Int → Zm → Prop) : Prop :=
  mX7_isBelow_H2  a0 x2 x1 h Q
section
variable {p : Program} {l : Launch} {e : Env} {s : State} {m : MethodId} {args : Array Value} {below : List Frame} {meth : Method} {c : Code} {D : Zd} {base : Nat}
set_option maxRecDepth 100000 in
set_option maxHeartbeats 4000000 in
theorem rX7_isBelow_B2 (hc : zOk p s m args meth c D cX7_isBelow 4 RX7 (some .boolean)) {X2 : Int → Zm → Prop} {a0 : Nat} {x2 : Int} {x3 : Int} {h : Zm} {Q : Int → Zm → Prop} (hX2 : ∀ (x3 : Int) (h : Zm), X2 x3 h → zW p l e zrX7_isBelow s m args below meth c D base 4 (MQ below (zQi D base Q) args s 0 0 (zFree base)) 0 0 2 [some (.inr a0), none, some (.inl x2), some (.inl x3)] [] h) (H : mX7_isBelow_B2 X2 a0 x2 x3 h Q) : zW p l e zrX7_isBelow s m args below meth c D base 4 (MQ below (zQi D base Q) args s 0 0 (zFree base)) 0 0 2 [some (.inr a0), none, some (.inl x2), some (.inl x3)] [] h := by
  unfold mX7_isBelow_B2 at H
  refine z_iload_n (pc := 2) hc dX7_isBelow_2 rfl ?_
  refine z_iload_n (pc := 3) hc dX7_isBelow_3 rfl ?_
  refine z_icmp_eq (tgt := 21) (pc := 4) hc dX7_isBelow_4 rfl H (fun H => ?_) (fun H => ?_)
  · refine z_iload_n (pc := 21) hc dX7_isBelow_21 rfl ?_
    refine z_iload_n (pc := 22) hc dX7_isBelow_22 rfl ?_
    refine z_icmp_ne (tgt := 30) (pc := 23) hc dX7_isBelow_23 rfl H (fun H => ?_) (fun H => ?_)
    · refine z_iconst (pc := 26) hc dX7_isBelow_26 ?_
      refine z_goto (tgt := 31) (pc := 27) hc dX7_isBelow_27 rfl ?_
      exact z_zreturn (pc := 31) hc dX7_isBelow_31 ⟨Or.inr rfl, H⟩
    · refine z_iconst (pc := 30) hc dX7_isBelow_30 ?_
      exact z_zreturn (pc := 31) hc dX7_isBelow_31 ⟨Or.inl rfl, H⟩
  · refine z_iload_n (pc := 7) hc dX7_isBelow_7 rfl ?_
    refine z_if_eq (tgt := 21) (pc := 8) hc dX7_isBelow_8 rfl H (fun H => ?_) (fun H => ?_)
    · refine z_iload_n (pc := 21) hc dX7_isBelow_21 rfl ?_
      refine z_iload_n (pc := 22) hc dX7_isBelow_22 rfl ?_
      refine z_icmp_ne (tgt := 30) (pc := 23) hc dX7_isBelow_23 rfl H (fun H => ?_) (fun H => ?_)
      · refine z_iconst (pc := 26) hc dX7_isBelow_26 ?_
        refine z_goto (tgt := 31) (pc := 27) hc dX7_isBelow_27 rfl ?_
        exact z_zreturn (pc := 31) hc dX7_isBelow_31 ⟨Or.inr rfl, H⟩
      · refine z_iconst (pc := 30) hc dX7_isBelow_30 ?_
        exact z_zreturn (pc := 31) hc dX7_isBelow_31 ⟨Or.inl rfl, H⟩
    · refine z_aload_n (pc := 11) hc dX7_isBelow_11 rfl ?_
      refine z_iload_n (pc := 12) hc dX7_isBelow_12 rfl ?_
      refine z_iconst (pc := 13) hc dX7_isBelow_13 ?_
      refine z_calI (z_runV (pc := 14) (ci := 7) (T := TX7) (N := 20) hc dX7_isBelow_14 zw_RX7_77 (metX7_of _ _ _ H.2) rfl (Nat.le_of_ble_eq_true rfl) ⟨Nat.le_of_ble_eq_true rfl, Nat.le_of_ble_eq_true rfl⟩ ⟨by exact Nat.le_of_ble_eq_true rfl, by exact Nat.le_of_ble_eq_true rfl⟩ rfl H.1) rfl ⟨rfl, rfl⟩ (fun v2 h1 H => ?_)
      refine z_istore_n (pc := 17) hc dX7_isBelow_17 (by decide) (ρ' := [some (.inr a0), none, some (.inl x2), some (.inl v2)]) rfl ?_
      refine z_goto (tgt := 2) (pc := 18) hc dX7_isBelow_18 rfl ?_
      exact hX2 _ _ H
theorem rX7_isBelow_H2 (hc : zOk p s m args meth c D cX7_isBelow 4 RX7 (some .boolean))  {a0 : Nat} {x2 : Int} {x3 : Int} {h : Zm} {Q : Int → Zm → Prop}  (H : mX7_isBelow_H2  a0 x2 x3 h Q) : zW p l e zrX7_isBelow s m args below meth c D base 4 (MQ below (zQi D base Q) args s 0 0 (zFree base)) 0 0 2 [some (.inr a0), none, some (.inl x2), some (.inl x3)] [] h :=
  H (fun x3 h => zW p l e zrX7_isBelow s m args below meth c D base 4 (MQ below (zQi D base Q) args s 0 0 (zFree base)) 0 0 2 [some (.inr a0), none, some (.inl x2), some (.inl x3)] [] h) (fun x3 h H => rX7_isBelow_B2 hc (fun _ _ q => q) H)
set_option maxRecDepth 100000 in
set_option maxHeartbeats 4000000 in
theorem rX7_isBelow (hc : zOk p s m args meth c D cX7_isBelow 4 RX7 (some .boolean)) {a0 : Nat} {x1 : Int} {x2 : Int} {h : Zm} {Q : Int → Zm → Prop} (H : mX7_isBelow a0 x1 x2 h Q) : zW p l e zrX7_isBelow s m args below meth c D base 4 (MQ below (zQi D base Q) args s 0 0 (zFree base)) 0 0 0 [some (.inr a0), some (.inl x1), some (.inl x2), none] [] h := by
  unfold mX7_isBelow at H
  refine z_iload_n (pc := 0) hc dX7_isBelow_0 rfl ?_
  refine z_istore_n (pc := 1) hc dX7_isBelow_1 (by decide) (ρ' := [some (.inr a0), some (.inl x1), some (.inl x2), some (.inl x1)]) rfl ?_
  refine z_mask [true, false, true, true] (ρ' := [some (.inr a0), none, some (.inl x2), some (.inl x1)]) rfl ?_
  exact rX7_isBelow_H2 hc H
end
theorem metX7_isBelow (l : Launch) (D : Zd) (base : Nat) {a0 : Nat} {x1 : Int} {x2 : Int} {h : Zm} {Q : Int → Zm → Prop} (H : mX7_isBelow a0 x1 x2 h Q) : zMet l D base yX7_isBelow cX7_isBelow 4 (some .boolean) zrX7_isBelow [.inr a0, .inl x1, .inl x2] h (zQi D base Q) :=
  z_met (by decide +kernel) (Nat.le_of_ble_eq_true rfl) (fun p e s m args below meth c hc hn => rX7_isBelow hc H)
