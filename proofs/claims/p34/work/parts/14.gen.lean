/-! printed by gen.py: X6_ink X6_touchedBy X6_addUpPlates X6_coverage X6_greatestSum X6_sameValues X6_limitedPixels X6_neededLimit X6_disorderedPixels L_cell L_low L_down L_begins L_depthOf -/
def zrX6_ink : Room := { frames := 6, cells := 0, slots := 0, locals := 141 }
def mX6_ink (a0 : Nat) (x1 : Int) (x2 : Int) (x3 : Int) (h : Zm) (Q : Int → Zm → Prop) : Prop :=
  cRc h 16 a0 <| mX6_isPixel a0 x1 x2 h fun v2 h1 => cEq v2 0
  (Q (-1) h1)
  (mX6_within x3 0 7 h1 fun v4 h3 => cEq v4 0
    (Q (-1) h3)
    (cRc h3 16 a0 <| mX6_separateAt a0 x1 x2 h3 fun h5 => cGr h5 16 a0 4 fun r6 => cRc h5 13 r6 <| mX3_valueOf r6 x3 h5 fun v8 h7 => Q v8 h7))
section
variable {p : Program} {l : Launch} {e : Env} {s : State} {m : MethodId} {args : Array Value} {below : List Frame} {meth : Method} {c : Code} {D : Zd} {base : Nat}
set_option maxRecDepth 100000 in
set_option maxHeartbeats 4000000 in
theorem rX6_ink (hc : zOk p s m args meth c D cX6_ink 4 RX6 (some .int)) {a0 : Nat} {x1 : Int} {x2 : Int} {x3 : Int} {h : Zm} {Q : Int → Zm → Prop} (H : mX6_ink a0 x1 x2 x3 h Q) : zW p l e zrX6_ink s m args below meth c D base 4 (MQ below (zQi D base Q) args s 0 0 (zFree base)) 0 0 0 [some (.inr (.inl a0)), some (.inl x1), some (.inl x2), some (.inl x3)] [] h := by
  unfold mX6_ink at H
  refine z_aload_n (pc := 0) hc dX6_ink_0 rfl ?_
  refine z_iload_n (pc := 1) hc dX6_ink_1 rfl ?_
  refine z_iload_n (pc := 2) hc dX6_ink_2 rfl ?_
  refine z_calI (z_runV (pc := 3) (ci := 6) (T := TX6) (N := 8) hc dX6_ink_3 zw_RX6_215 (metX6_isPixel _ _ _ H.2) rfl (Nat.le_of_ble_eq_true rfl) ⟨Nat.le_of_ble_eq_true rfl, Nat.le_of_ble_eq_true rfl⟩ ⟨by exact Nat.le_of_ble_eq_true rfl, by exact Nat.le_of_ble_eq_true rfl⟩ rfl H.1) rfl ⟨rfl, rfl⟩ (fun v2 h1 H => ?_)
  refine z_if_eq (tgt := 19) (pc := 6) hc dX6_ink_6 rfl H (fun H => ?_) (fun H => ?_)
  · refine z_iconst (pc := 19) hc dX6_ink_19 ?_
    exact z_ireturn (pc := 20) hc dX6_ink_20 H
  · refine z_iload_n (pc := 9) hc dX6_ink_9 rfl ?_
    refine z_iconst (pc := 10) hc dX6_ink_10 ?_
    refine z_bipush (pc := 11) hc dX6_ink_11 (by decide) ?_
    refine z_calI (z_runS (pc := 13) hc dX6_ink_13 zw_RX6_52 (metX6_within _ _ _ H) rfl (Nat.le_of_ble_eq_true rfl) ⟨Nat.le_of_ble_eq_true rfl, Nat.le_of_ble_eq_true rfl⟩ ⟨by exact Nat.le_of_ble_eq_true rfl, by exact Nat.le_of_ble_eq_true rfl⟩) rfl ⟨rfl, rfl⟩ (fun v4 h3 H => ?_)
    refine z_if_ne (tgt := 21) (pc := 16) hc dX6_ink_16 rfl H (fun H => ?_) (fun H => ?_)
    · refine z_iconst (pc := 19) hc dX6_ink_19 ?_
      exact z_ireturn (pc := 20) hc dX6_ink_20 H
    · refine z_aload_n (pc := 21) hc dX6_ink_21 rfl ?_
      refine z_iload_n (pc := 22) hc dX6_ink_22 rfl ?_
      refine z_iload_n (pc := 23) hc dX6_ink_23 rfl ?_
      refine z_calV0 (z_runV (pc := 24) (ci := 6) (T := TX6) (N := 8) hc dX6_ink_24 zw_RX6_225 (metX6_separateAt _ _ _ H.2) rfl (Nat.le_of_ble_eq_true rfl) ⟨Nat.le_of_ble_eq_true rfl, Nat.le_of_ble_eq_true rfl⟩ ⟨by exact Nat.le_of_ble_eq_true rfl, by exact Nat.le_of_ble_eq_true rfl⟩ rfl H.1) rfl ⟨rfl, rfl⟩ (fun h5 H => ?_)
      refine z_aload_n (pc := 27) hc dX6_ink_27 rfl ?_
      refine z_getR (pc := 28) hc dX6_ink_28 zf_RX6_34 rfl rfl rfl H (fun r6 H => ?_)
      refine z_iload_n (pc := 31) hc dX6_ink_31 rfl ?_
      refine z_calI (z_runV (pc := 32) (ci := 3) (T := TX3) (N := 3) hc dX6_ink_32 zw_RX6_228 (metX3_valueOf _ _ _ H.2) rfl (Nat.le_of_ble_eq_true rfl) ⟨Nat.le_of_ble_eq_true rfl, Nat.le_of_ble_eq_true rfl⟩ ⟨by exact Nat.le_of_ble_eq_true rfl, by exact Nat.le_of_ble_eq_true rfl⟩ rfl H.1) rfl ⟨rfl, rfl⟩ (fun v8 h7 H => ?_)
      exact z_ireturn (pc := 35) hc dX6_ink_35 H
end
theorem metX6_ink (l : Launch) (D : Zd) (base : Nat) {a0 : Nat} {x1 : Int} {x2 : Int} {x3 : Int} {h : Zm} {Q : Int → Zm → Prop} (H : mX6_ink a0 x1 x2 x3 h Q) : zMet l D base yX6_ink cX6_ink 4 (some .int) zrX6_ink [.inr (.inl a0), .inl x1, .inl x2, .inl x3] h (zQi D base Q) :=
  z_met (by decide +kernel) (Nat.le_of_ble_eq_true rfl) rfl (fun p e s m args below meth c hc hn => rX6_ink hc H)
def zrX6_touchedBy : Room := { frames := 2, cells := 0, slots := 0, locals := 44 }
def mX6_touchedBy_B27 (X27 : Int → Zm → Prop) (x1 : Int) (x2 : Int) (a3 : Nat) (x4 : Int) (h : Zm) (Q : Int → Zm → Prop) : Prop :=
  cLe x4 0
  (Q (-4) h)
  (cGr h 15 a3 1 fun r6 => cLd h 1 r6 x4 fun v7 => cRc h 15 a3 <| mX5_nodeAt a3 v7 h fun r9 h8 => cGi h8 12 r9 1 fun v10 => cRc h8 15 a3 <| mX5_nodeAt a3 v10 h8 fun r12 h11 => cGi h11 12 r12 6 fun v13 => cLe v13 0
    (X27 (x4 + (-1)) h11)
    (cGi h11 12 r12 7 fun v14 => cGi h11 12 r12 8 fun v15 => cRc h11 12 r9 <| mX2_contains r9 (x1 - v14) (x2 - v15) h11 fun v17 h16 => cEq v17 0
      (X27 (x4 + (-1)) h16)
      (Q v7 h16)))
def mX6_touchedBy_H27  (x1 : Int) (x2 : Int) (a3 : Nat) (x4 : Int) (h : Zm) (Q : Int → Zm → Prop) : Prop :=
  lfp1 (fun X27 x4 h => mX6_touchedBy_B27 X27 x1 x2 a3 x4 h Q) x4 h
def mX6_touchedBy (a0 : Nat) (x1 : Int) (x2 : Int) (h : Zm) (Q : Int → Zm → Prop) : Prop :=
  cRc h 16 a0 <| mX6_isPixel a0 x1 x2 h fun v2 h1 => cEq v2 0
  (Q (-1) h1)
  (cGr h1 16 a0 0 fun r3 => cGr h1 14 r3 6 fun r4 => cGi h1 15 r4 3 fun v5 => mX6_touchedBy_H27  x1 x2 r4 (v5 - 1) h1 Q)
section
variable {p : Program} {l : Launch} {e : Env} {s : State} {m : MethodId} {args : Array Value} {below : List Frame} {meth : Method} {c : Code} {D : Zd} {base : Nat}
set_option maxRecDepth 100000 in
set_option maxHeartbeats 4000000 in
theorem rX6_touchedBy_B27 (hc : zOk p s m args meth c D cX6_touchedBy 8 RX6 (some .int)) {X27 : Int → Zm → Prop} {x1 : Int} {x2 : Int} {a3 : Nat} {x4 : Int} {h : Zm} {Q : Int → Zm → Prop} (hX27 : ∀ (x4 : Int) (h : Zm), X27 x4 h → zW p l e zrX6_touchedBy s m args below meth c D base 8 (MQ below (zQi D base Q) args s 0 0 (zFree base)) 0 0 27 [none, some (.inl x1), some (.inl x2), some (.inr (.inl a3)), some (.inl x4), none, none, none] [] h) (H : mX6_touchedBy_B27 X27 x1 x2 a3 x4 h Q) : zW p l e zrX6_touchedBy s m args below meth c D base 8 (MQ below (zQi D base Q) args s 0 0 (zFree base)) 0 0 27 [none, some (.inl x1), some (.inl x2), some (.inr (.inl a3)), some (.inl x4), none, none, none] [] h := by
  unfold mX6_touchedBy_B27 at H
  refine z_iload (pc := 27) hc dX6_touchedBy_27 rfl ?_
  refine z_if_le (tgt := 99) (pc := 29) hc dX6_touchedBy_29 rfl H (fun H => ?_) (fun H => ?_)
  · refine z_bipush (pc := 99) hc dX6_touchedBy_99 (by decide) ?_
    exact z_ireturn (pc := 101) hc dX6_touchedBy_101 H
  · refine z_aload_n (pc := 32) hc dX6_touchedBy_32 rfl ?_
    refine z_getR (pc := 33) hc dX6_touchedBy_33 zf_RX6_239 rfl rfl rfl H (fun r6 H => ?_)
    refine z_iload (pc := 36) hc dX6_touchedBy_36 rfl ?_
    refine z_iaload (pc := 38) hc dX6_touchedBy_38 H (fun v7 H => ?_)
    refine z_istore (pc := 39) hc dX6_touchedBy_39 (by decide) (ρ' := [none, some (.inl x1), some (.inl x2), some (.inr (.inl a3)), some (.inl x4), some (.inl v7), none, none]) rfl rfl ?_
    refine z_aload_n (pc := 41) hc dX6_touchedBy_41 rfl ?_
    refine z_iload (pc := 42) hc dX6_touchedBy_42 rfl ?_
    refine z_calR (z_runV (pc := 44) (ci := 5) (T := TX5) (N := 4) hc dX6_touchedBy_44 zw_RX6_77 (metX5_nodeAt _ _ _ H.2) rfl (Nat.le_of_ble_eq_true rfl) ⟨Nat.le_of_ble_eq_true rfl, Nat.le_of_ble_eq_true rfl⟩ ⟨by exact Nat.le_of_ble_eq_true rfl, by exact Nat.le_of_ble_eq_true rfl⟩ rfl H.1) rfl ⟨rfl, rfl⟩ (fun r9 h8 H => ?_)
    refine z_astore (pc := 47) hc dX6_touchedBy_47 (by decide) (ρ' := [none, some (.inl x1), some (.inl x2), some (.inr (.inl a3)), some (.inl x4), some (.inl v7), some (.inr (.inl r9)), none]) rfl rfl ?_
    refine z_aload_n (pc := 49) hc dX6_touchedBy_49 rfl ?_
    refine z_aload (pc := 50) hc dX6_touchedBy_50 rfl ?_
    refine z_getI (pc := 52) hc dX6_touchedBy_52 zf_RX6_153 rfl rfl rfl H (fun v10 H => ?_)
    refine z_calR (z_runV (pc := 55) (ci := 5) (T := TX5) (N := 4) hc dX6_touchedBy_55 zw_RX6_77 (metX5_nodeAt _ _ _ H.2) rfl (Nat.le_of_ble_eq_true rfl) ⟨Nat.le_of_ble_eq_true rfl, Nat.le_of_ble_eq_true rfl⟩ ⟨by exact Nat.le_of_ble_eq_true rfl, by exact Nat.le_of_ble_eq_true rfl⟩ rfl H.1) rfl ⟨rfl, rfl⟩ (fun r12 h11 H => ?_)
    refine z_astore (pc := 58) hc dX6_touchedBy_58 (by decide) (ρ' := [none, some (.inl x1), some (.inl x2), some (.inr (.inl a3)), some (.inl x4), some (.inl v7), some (.inr (.inl r9)), some (.inr (.inl r12))]) rfl rfl ?_
    refine z_aload (pc := 60) hc dX6_touchedBy_60 rfl ?_
    refine z_getI (pc := 62) hc dX6_touchedBy_62 zf_RX6_242 rfl rfl rfl H (fun v13 H => ?_)
    refine z_if_le (tgt := 93) (pc := 65) hc dX6_touchedBy_65 rfl H (fun H => ?_) (fun H => ?_)
    · refine z_iinc (pc := 93) hc dX6_touchedBy_93 (by decide) rfl (ρ' := [none, some (.inl x1), some (.inl x2), some (.inr (.inl a3)), some (.inl (x4 + (-1))), some (.inl v7), some (.inr (.inl r9)), some (.inr (.inl r12))]) rfl rfl ?_
      refine z_goto (tgt := 27) (pc := 96) hc dX6_touchedBy_96 rfl ?_
      refine z_mask [false, true, true, true, true, false, false, false] (ρ' := [none, some (.inl x1), some (.inl x2), some (.inr (.inl a3)), some (.inl (x4 + (-1))), none, none, none]) rfl ?_
      exact hX27 _ _ H
    · refine z_aload (pc := 68) hc dX6_touchedBy_68 rfl ?_
      refine z_iload_n (pc := 70) hc dX6_touchedBy_70 rfl ?_
      refine z_aload (pc := 71) hc dX6_touchedBy_71 rfl ?_
      refine z_getI (pc := 73) hc dX6_touchedBy_73 zf_RX6_245 rfl rfl rfl H (fun v14 H => ?_)
      refine z_isub (pc := 76) hc dX6_touchedBy_76 ?_
      refine z_iload_n (pc := 77) hc dX6_touchedBy_77 rfl ?_
      refine z_aload (pc := 78) hc dX6_touchedBy_78 rfl ?_
      refine z_getI (pc := 80) hc dX6_touchedBy_80 zf_RX6_248 rfl rfl rfl H (fun v15 H => ?_)
      refine z_isub (pc := 83) hc dX6_touchedBy_83 ?_
      refine z_calI (z_runV (pc := 84) (ci := 2) (T := TX2) (N := 18) hc dX6_touchedBy_84 zw_RX6_251 (metX2_contains _ _ _ H.2) rfl (Nat.le_of_ble_eq_true rfl) ⟨Nat.le_of_ble_eq_true rfl, Nat.le_of_ble_eq_true rfl⟩ ⟨by exact Nat.le_of_ble_eq_true rfl, by exact Nat.le_of_ble_eq_true rfl⟩ rfl H.1) rfl ⟨rfl, rfl⟩ (fun v17 h16 H => ?_)
      refine z_if_eq (tgt := 93) (pc := 87) hc dX6_touchedBy_87 rfl H (fun H => ?_) (fun H => ?_)
      · refine z_iinc (pc := 93) hc dX6_touchedBy_93 (by decide) rfl (ρ' := [none, some (.inl x1), some (.inl x2), some (.inr (.inl a3)), some (.inl (x4 + (-1))), some (.inl v7), some (.inr (.inl r9)), some (.inr (.inl r12))]) rfl rfl ?_
        refine z_goto (tgt := 27) (pc := 96) hc dX6_touchedBy_96 rfl ?_
        refine z_mask [false, true, true, true, true, false, false, false] (ρ' := [none, some (.inl x1), some (.inl x2), some (.inr (.inl a3)), some (.inl (x4 + (-1))), none, none, none]) rfl ?_
        exact hX27 _ _ H
      · refine z_iload (pc := 90) hc dX6_touchedBy_90 rfl ?_
        exact z_ireturn (pc := 92) hc dX6_touchedBy_92 H
theorem rX6_touchedBy_H27 (hc : zOk p s m args meth c D cX6_touchedBy 8 RX6 (some .int))  {x1 : Int} {x2 : Int} {a3 : Nat} {x4 : Int} {h : Zm} {Q : Int → Zm → Prop}  (H : mX6_touchedBy_H27  x1 x2 a3 x4 h Q) : zW p l e zrX6_touchedBy s m args below meth c D base 8 (MQ below (zQi D base Q) args s 0 0 (zFree base)) 0 0 27 [none, some (.inl x1), some (.inl x2), some (.inr (.inl a3)), some (.inl x4), none, none, none] [] h :=
  H (fun x4 h => zW p l e zrX6_touchedBy s m args below meth c D base 8 (MQ below (zQi D base Q) args s 0 0 (zFree base)) 0 0 27 [none, some (.inl x1), some (.inl x2), some (.inr (.inl a3)), some (.inl x4), none, none, none] [] h) (fun x4 h H => rX6_touchedBy_B27 hc (fun _ _ q => q) H)
set_option maxRecDepth 100000 in
set_option maxHeartbeats 4000000 in
theorem rX6_touchedBy (hc : zOk p s m args meth c D cX6_touchedBy 8 RX6 (some .int)) {a0 : Nat} {x1 : Int} {x2 : Int} {h : Zm} {Q : Int → Zm → Prop} (H : mX6_touchedBy a0 x1 x2 h Q) : zW p l e zrX6_touchedBy s m args below meth c D base 8 (MQ below (zQi D base Q) args s 0 0 (zFree base)) 0 0 0 [some (.inr (.inl a0)), some (.inl x1), some (.inl x2), none, none, none, none, none] [] h := by
  unfold mX6_touchedBy at H
  refine z_aload_n (pc := 0) hc dX6_touchedBy_0 rfl ?_
  refine z_iload_n (pc := 1) hc dX6_touchedBy_1 rfl ?_
  refine z_iload_n (pc := 2) hc dX6_touchedBy_2 rfl ?_
  refine z_calI (z_runV (pc := 3) (ci := 6) (T := TX6) (N := 8) hc dX6_touchedBy_3 zw_RX6_215 (metX6_isPixel _ _ _ H.2) rfl (Nat.le_of_ble_eq_true rfl) ⟨Nat.le_of_ble_eq_true rfl, Nat.le_of_ble_eq_true rfl⟩ ⟨by exact Nat.le_of_ble_eq_true rfl, by exact Nat.le_of_ble_eq_true rfl⟩ rfl H.1) rfl ⟨rfl, rfl⟩ (fun v2 h1 H => ?_)
  refine z_if_ne (tgt := 11) (pc := 6) hc dX6_touchedBy_6 rfl H (fun H => ?_) (fun H => ?_)
  · refine z_iconst (pc := 9) hc dX6_touchedBy_9 ?_
    exact z_ireturn (pc := 10) hc dX6_touchedBy_10 H
  · refine z_aload_n (pc := 11) hc dX6_touchedBy_11 rfl ?_
    refine z_getR (pc := 12) hc dX6_touchedBy_12 zf_RX6_12 rfl rfl rfl H (fun r3 H => ?_)
    refine z_getR (pc := 15) hc dX6_touchedBy_15 zf_RX6_73 rfl rfl rfl H (fun r4 H => ?_)
    refine z_astore_n (pc := 18) hc dX6_touchedBy_18 (by decide) (ρ' := [some (.inr (.inl a0)), some (.inl x1), some (.inl x2), some (.inr (.inl r4)), none, none, none, none]) rfl rfl ?_
    refine z_aload_n (pc := 19) hc dX6_touchedBy_19 rfl ?_
    refine z_getI (pc := 20) hc dX6_touchedBy_20 zf_RX6_165 rfl rfl rfl H (fun v5 H => ?_)
    refine z_iconst (pc := 23) hc dX6_touchedBy_23 ?_
    refine z_isub (pc := 24) hc dX6_touchedBy_24 ?_
    refine z_istore (pc := 25) hc dX6_touchedBy_25 (by decide) (ρ' := [some (.inr (.inl a0)), some (.inl x1), some (.inl x2), some (.inr (.inl r4)), some (.inl (v5 - 1)), none, none, none]) rfl rfl ?_
    refine z_mask [false, true, true, true, true, false, false, false] (ρ' := [none, some (.inl x1), some (.inl x2), some (.inr (.inl r4)), some (.inl (v5 - 1)), none, none, none]) rfl ?_
    exact rX6_touchedBy_H27 hc H
end
theorem metX6_touchedBy (l : Launch) (D : Zd) (base : Nat) {a0 : Nat} {x1 : Int} {x2 : Int} {h : Zm} {Q : Int → Zm → Prop} (H : mX6_touchedBy a0 x1 x2 h Q) : zMet l D base yX6_touchedBy cX6_touchedBy 8 (some .int) zrX6_touchedBy [.inr (.inl a0), .inl x1, .inl x2] h (zQi D base Q) :=
  z_met (by decide +kernel) (Nat.le_of_ble_eq_true rfl) rfl (fun p e s m args below meth c hc hn => rX6_touchedBy hc H)
def zrX6_addUpPlates : Room := { frames := 6, cells := 0, slots := 0, locals := 141 }
def mX6_addUpPlates_B55 (X23 : Int → Zm → Prop) (X36 : Int → Zm → Prop) (X55 : Int → Zm → Prop) (a0 : Nat) (x1 : Int) (x2 : Int) (x3 : Int) (h : Zm) (Q : Zm → Prop) : Prop :=
  cLt x3 7
  (cGr h 16 a0 6 fun r8 => cLd h 1 r8 x3 fun v9 => cGr h 16 a0 4 fun r10 => cGr h 13 r10 2 fun r11 => cLd h 1 r11 x3 fun v12 => cSt h r8 x3 (v9 + v12) fun h13 => X55 (x3 + 1) h13)
  (X36 (x2 + 1) h)
def mX6_addUpPlates_H55 (X23 : Int → Zm → Prop) (X36 : Int → Zm → Prop) (a0 : Nat) (x1 : Int) (x2 : Int) (x3 : Int) (h : Zm) (Q : Zm → Prop) : Prop :=
  lfp1 (fun X55 x3 h => mX6_addUpPlates_B55 X23 X36 X55 a0 x1 x2 x3 h Q) x3 h
def mX6_addUpPlates_B36 (X23 : Int → Zm → Prop) (X36 : Int → Zm → Prop) (a0 : Nat) (x1 : Int) (x2 : Int) (h : Zm) (Q : Zm → Prop) : Prop :=
  cGr h 16 a0 0 fun r5 => cGi h 14 r5 0 fun v6 => cLt x2 v6
  (cRc h 16 a0 <| mX6_separateAt a0 x2 x1 h fun h7 => mX6_addUpPlates_H55 X23 X36 a0 x1 x2 0 h7 Q)
  (X23 (x1 + 1) h)
def mX6_addUpPlates_H36 (X23 : Int → Zm → Prop) (a0 : Nat) (x1 : Int) (x2 : Int) (h : Zm) (Q : Zm → Prop) : Prop :=
  lfp1 (fun X36 x2 h => mX6_addUpPlates_B36 X23 X36 a0 x1 x2 h Q) x2 h
def mX6_addUpPlates_B23 (X23 : Int → Zm → Prop) (a0 : Nat) (x1 : Int) (h : Zm) (Q : Zm → Prop) : Prop :=
  cGr h 16 a0 0 fun r3 => cGi h 14 r3 1 fun v4 => cLt x1 v4
  (mX6_addUpPlates_H36 X23 a0 x1 0 h Q)
  (Q h)
def mX6_addUpPlates_H23  (a0 : Nat) (x1 : Int) (h : Zm) (Q : Zm → Prop) : Prop :=
  lfp1 (fun X23 x1 h => mX6_addUpPlates_B23 X23 a0 x1 h Q) x1 h
def mX6_addUpPlates_B2 (X2 : Int → Zm → Prop) (a0 : Nat) (x1 : Int) (h : Zm) (Q : Zm → Prop) : Prop :=
  cLt x1 7
  (cGr h 16 a0 6 fun r1 => cSt h r1 x1 0 fun h2 => X2 (x1 + 1) h2)
  (mX6_addUpPlates_H23  a0 0 h Q)
def mX6_addUpPlates_H2  (a0 : Nat) (x1 : Int) (h : Zm) (Q : Zm → Prop) : Prop :=
  lfp1 (fun X2 x1 h => mX6_addUpPlates_B2 X2 a0 x1 h Q) x1 h
def mX6_addUpPlates (a0 : Nat) (h : Zm) (Q : Zm → Prop) : Prop :=
  mX6_addUpPlates_H2  a0 0 h Q
section
variable {p : Program} {l : Launch} {e : Env} {s : State} {m : MethodId} {args : Array Value} {below : List Frame} {meth : Method} {c : Code} {D : Zd} {base : Nat}
set_option maxRecDepth 100000 in
set_option maxHeartbeats 4000000 in
theorem rX6_addUpPlates_B55 (hc : zOk p s m args meth c D cX6_addUpPlates 4 RX6 none) {X23 : Int → Zm → Prop} {X36 : Int → Zm → Prop} {X55 : Int → Zm → Prop} {a0 : Nat} {x1 : Int} {x2 : Int} {x3 : Int} {h : Zm} {Q : Zm → Prop} (hX23 : ∀ (x1 : Int) (h : Zm), X23 x1 h → zW p l e zrX6_addUpPlates s m args below meth c D base 4 (MQ below (zQv D base Q) args s 0 0 (zFree base)) 0 0 23 [some (.inr (.inl a0)), some (.inl x1), none, none] [] h) (hX36 : ∀ (x2 : Int) (h : Zm), X36 x2 h → zW p l e zrX6_addUpPlates s m args below meth c D base 4 (MQ below (zQv D base Q) args s 0 0 (zFree base)) 0 0 36 [some (.inr (.inl a0)), some (.inl x1), some (.inl x2), none] [] h) (hX55 : ∀ (x3 : Int) (h : Zm), X55 x3 h → zW p l e zrX6_addUpPlates s m args below meth c D base 4 (MQ below (zQv D base Q) args s 0 0 (zFree base)) 0 0 55 [some (.inr (.inl a0)), some (.inl x1), some (.inl x2), some (.inl x3)] [] h) (H : mX6_addUpPlates_B55 X23 X36 X55 a0 x1 x2 x3 h Q) : zW p l e zrX6_addUpPlates s m args below meth c D base 4 (MQ below (zQv D base Q) args s 0 0 (zFree base)) 0 0 55 [some (.inr (.inl a0)), some (.inl x1), some (.inl x2), some (.inl x3)] [] h := by
  unfold mX6_addUpPlates_B55 at H
  refine z_iload_n (pc := 55) hc dX6_addUpPlates_55 rfl ?_
  refine z_bipush (pc := 56) hc dX6_addUpPlates_56 (by decide) ?_
  refine z_icmp_ge (tgt := 85) (pc := 58) hc dX6_addUpPlates_58 rfl H (fun H => ?_) (fun H => ?_)
  · refine z_aload_n (pc := 61) hc dX6_addUpPlates_61 rfl ?_
    refine z_getR (pc := 62) hc dX6_addUpPlates_62 zf_RX6_45 rfl rfl rfl H (fun r8 H => ?_)
    refine z_iload_n (pc := 65) hc dX6_addUpPlates_65 rfl ?_
    refine z_dup2 (pc := 66) hc dX6_addUpPlates_66 rfl rfl ?_
    refine z_iaload (pc := 67) hc dX6_addUpPlates_67 H (fun v9 H => ?_)
    refine z_aload_n (pc := 68) hc dX6_addUpPlates_68 rfl ?_
    refine z_getR (pc := 69) hc dX6_addUpPlates_69 zf_RX6_34 rfl rfl rfl H (fun r10 H => ?_)
    refine z_getR (pc := 72) hc dX6_addUpPlates_72 zf_RX6_264 rfl rfl rfl H (fun r11 H => ?_)
    refine z_iload_n (pc := 75) hc dX6_addUpPlates_75 rfl ?_
    refine z_iaload (pc := 76) hc dX6_addUpPlates_76 H (fun v12 H => ?_)
    refine z_iadd (pc := 77) hc dX6_addUpPlates_77 ?_
    refine z_iastore (pc := 78) hc dX6_addUpPlates_78 H (fun h13 H => ?_)
    refine z_iinc (pc := 79) hc dX6_addUpPlates_79 (by decide) rfl (ρ' := [some (.inr (.inl a0)), some (.inl x1), some (.inl x2), some (.inl (x3 + 1))]) rfl rfl ?_
    refine z_goto (tgt := 55) (pc := 82) hc dX6_addUpPlates_82 rfl ?_
    exact hX55 _ _ H
  · refine z_iinc (pc := 85) hc dX6_addUpPlates_85 (by decide) rfl (ρ' := [some (.inr (.inl a0)), some (.inl x1), some (.inl (x2 + 1)), some (.inl x3)]) rfl rfl ?_
    refine z_goto (tgt := 36) (pc := 88) hc dX6_addUpPlates_88 rfl ?_
    refine z_mask [true, true, true, false] (ρ' := [some (.inr (.inl a0)), some (.inl x1), some (.inl (x2 + 1)), none]) rfl ?_
    exact hX36 _ _ H
theorem rX6_addUpPlates_H55 (hc : zOk p s m args meth c D cX6_addUpPlates 4 RX6 none) {X23 : Int → Zm → Prop} {X36 : Int → Zm → Prop} {a0 : Nat} {x1 : Int} {x2 : Int} {x3 : Int} {h : Zm} {Q : Zm → Prop} (hX23 : ∀ (x1 : Int) (h : Zm), X23 x1 h → zW p l e zrX6_addUpPlates s m args below meth c D base 4 (MQ below (zQv D base Q) args s 0 0 (zFree base)) 0 0 23 [some (.inr (.inl a0)), some (.inl x1), none, none] [] h) (hX36 : ∀ (x2 : Int) (h : Zm), X36 x2 h → zW p l e zrX6_addUpPlates s m args below meth c D base 4 (MQ below (zQv D base Q) args s 0 0 (zFree base)) 0 0 36 [some (.inr (.inl a0)), some (.inl x1), some (.inl x2), none] [] h) (H : mX6_addUpPlates_H55 X23 X36 a0 x1 x2 x3 h Q) : zW p l e zrX6_addUpPlates s m args below meth c D base 4 (MQ below (zQv D base Q) args s 0 0 (zFree base)) 0 0 55 [some (.inr (.inl a0)), some (.inl x1), some (.inl x2), some (.inl x3)] [] h :=
  H (fun x3 h => zW p l e zrX6_addUpPlates s m args below meth c D base 4 (MQ below (zQv D base Q) args s 0 0 (zFree base)) 0 0 55 [some (.inr (.inl a0)), some (.inl x1), some (.inl x2), some (.inl x3)] [] h) (fun x3 h H => rX6_addUpPlates_B55 hc hX23 hX36 (fun _ _ q => q) H)
set_option maxRecDepth 100000 in
set_option maxHeartbeats 4000000 in
theorem rX6_addUpPlates_B36 (hc : zOk p s m args meth c D cX6_addUpPlates 4 RX6 none) {X23 : Int → Zm → Prop} {X36 : Int → Zm → Prop} {a0 : Nat} {x1 : Int} {x2 : Int} {h : Zm} {Q : Zm → Prop} (hX23 : ∀ (x1 : Int) (h : Zm), X23 x1 h → zW p l e zrX6_addUpPlates s m args below meth c D base 4 (MQ below (zQv D base Q) args s 0 0 (zFree base)) 0 0 23 [some (.inr (.inl a0)), some (.inl x1), none, none] [] h) (hX36 : ∀ (x2 : Int) (h : Zm), X36 x2 h → zW p l e zrX6_addUpPlates s m args below meth c D base 4 (MQ below (zQv D base Q) args s 0 0 (zFree base)) 0 0 36 [some (.inr (.inl a0)), some (.inl x1), some (.inl x2), none] [] h) (H : mX6_addUpPlates_B36 X23 X36 a0 x1 x2 h Q) : zW p l e zrX6_addUpPlates s m args below meth c D base 4 (MQ below (zQv D base Q) args s 0 0 (zFree base)) 0 0 36 [some (.inr (.inl a0)), some (.inl x1), some (.inl x2), none] [] h := by
  unfold mX6_addUpPlates_B36 at H
  refine z_iload_n (pc := 36) hc dX6_addUpPlates_36 rfl ?_
  refine z_aload_n (pc := 37) hc dX6_addUpPlates_37 rfl ?_
  refine z_getR (pc := 38) hc dX6_addUpPlates_38 zf_RX6_12 rfl rfl rfl H (fun r5 H => ?_)
  refine z_getI (pc := 41) hc dX6_addUpPlates_41 zf_RX6_56 rfl rfl rfl H (fun v6 H => ?_)
  refine z_icmp_ge (tgt := 91) (pc := 44) hc dX6_addUpPlates_44 rfl H (fun H => ?_) (fun H => ?_)
  · refine z_aload_n (pc := 47) hc dX6_addUpPlates_47 rfl ?_
    refine z_iload_n (pc := 48) hc dX6_addUpPlates_48 rfl ?_
    refine z_iload_n (pc := 49) hc dX6_addUpPlates_49 rfl ?_
    refine z_calV0 (z_runV (pc := 50) (ci := 6) (T := TX6) (N := 8) hc dX6_addUpPlates_50 zw_RX6_225 (metX6_separateAt _ _ _ H.2) rfl (Nat.le_of_ble_eq_true rfl) ⟨Nat.le_of_ble_eq_true rfl, Nat.le_of_ble_eq_true rfl⟩ ⟨by exact Nat.le_of_ble_eq_true rfl, by exact Nat.le_of_ble_eq_true rfl⟩ rfl H.1) rfl ⟨rfl, rfl⟩ (fun h7 H => ?_)
    refine z_iconst (pc := 53) hc dX6_addUpPlates_53 ?_
    refine z_istore_n (pc := 54) hc dX6_addUpPlates_54 (by decide) (ρ' := [some (.inr (.inl a0)), some (.inl x1), some (.inl x2), some (.inl 0)]) rfl rfl ?_
    exact rX6_addUpPlates_H55 hc hX23 hX36 H
  · refine z_iinc (pc := 91) hc dX6_addUpPlates_91 (by decide) rfl (ρ' := [some (.inr (.inl a0)), some (.inl (x1 + 1)), some (.inl x2), none]) rfl rfl ?_
    refine z_goto (tgt := 23) (pc := 94) hc dX6_addUpPlates_94 rfl ?_
    refine z_mask [true, true, false, false] (ρ' := [some (.inr (.inl a0)), some (.inl (x1 + 1)), none, none]) rfl ?_
    exact hX23 _ _ H
theorem rX6_addUpPlates_H36 (hc : zOk p s m args meth c D cX6_addUpPlates 4 RX6 none) {X23 : Int → Zm → Prop} {a0 : Nat} {x1 : Int} {x2 : Int} {h : Zm} {Q : Zm → Prop} (hX23 : ∀ (x1 : Int) (h : Zm), X23 x1 h → zW p l e zrX6_addUpPlates s m args below meth c D base 4 (MQ below (zQv D base Q) args s 0 0 (zFree base)) 0 0 23 [some (.inr (.inl a0)), some (.inl x1), none, none] [] h) (H : mX6_addUpPlates_H36 X23 a0 x1 x2 h Q) : zW p l e zrX6_addUpPlates s m args below meth c D base 4 (MQ below (zQv D base Q) args s 0 0 (zFree base)) 0 0 36 [some (.inr (.inl a0)), some (.inl x1), some (.inl x2), none] [] h :=
  H (fun x2 h => zW p l e zrX6_addUpPlates s m args below meth c D base 4 (MQ below (zQv D base Q) args s 0 0 (zFree base)) 0 0 36 [some (.inr (.inl a0)), some (.inl x1), some (.inl x2), none] [] h) (fun x2 h H => rX6_addUpPlates_B36 hc hX23 (fun _ _ q => q) H)
set_option maxRecDepth 100000 in
set_option maxHeartbeats 4000000 in
theorem rX6_addUpPlates_B23 (hc : zOk p s m args meth c D cX6_addUpPlates 4 RX6 none) {X23 : Int → Zm → Prop} {a0 : Nat} {x1 : Int} {h : Zm} {Q : Zm → Prop} (hX23 : ∀ (x1 : Int) (h : Zm), X23 x1 h → zW p l e zrX6_addUpPlates s m args below meth c D base 4 (MQ below (zQv D base Q) args s 0 0 (zFree base)) 0 0 23 [some (.inr (.inl a0)), some (.inl x1), none, none] [] h) (H : mX6_addUpPlates_B23 X23 a0 x1 h Q) : zW p l e zrX6_addUpPlates s m args below meth c D base 4 (MQ below (zQv D base Q) args s 0 0 (zFree base)) 0 0 23 [some (.inr (.inl a0)), some (.inl x1), none, none] [] h := by
  unfold mX6_addUpPlates_B23 at H
  refine z_iload_n (pc := 23) hc dX6_addUpPlates_23 rfl ?_
  refine z_aload_n (pc := 24) hc dX6_addUpPlates_24 rfl ?_
  refine z_getR (pc := 25) hc dX6_addUpPlates_25 zf_RX6_12 rfl rfl rfl H (fun r3 H => ?_)
  refine z_getI (pc := 28) hc dX6_addUpPlates_28 zf_RX6_59 rfl rfl rfl H (fun v4 H => ?_)
  refine z_icmp_ge (tgt := 97) (pc := 31) hc dX6_addUpPlates_31 rfl H (fun H => ?_) (fun H => ?_)
  · refine z_iconst (pc := 34) hc dX6_addUpPlates_34 ?_
    refine z_istore_n (pc := 35) hc dX6_addUpPlates_35 (by decide) (ρ' := [some (.inr (.inl a0)), some (.inl x1), some (.inl 0), none]) rfl rfl ?_
    exact rX6_addUpPlates_H36 hc hX23 H
  · exact z_return (pc := 97) hc dX6_addUpPlates_97 H
theorem rX6_addUpPlates_H23 (hc : zOk p s m args meth c D cX6_addUpPlates 4 RX6 none)  {a0 : Nat} {x1 : Int} {h : Zm} {Q : Zm → Prop}  (H : mX6_addUpPlates_H23  a0 x1 h Q) : zW p l e zrX6_addUpPlates s m args below meth c D base 4 (MQ below (zQv D base Q) args s 0 0 (zFree base)) 0 0 23 [some (.inr (.inl a0)), some (.inl x1), none, none] [] h :=
  H (fun x1 h => zW p l e zrX6_addUpPlates s m args below meth c D base 4 (MQ below (zQv D base Q) args s 0 0 (zFree base)) 0 0 23 [some (.inr (.inl a0)), some (.inl x1), none, none] [] h) (fun x1 h H => rX6_addUpPlates_B23 hc (fun _ _ q => q) H)
set_option maxRecDepth 100000 in
set_option maxHeartbeats 4000000 in
theorem rX6_addUpPlates_B2 (hc : zOk p s m args meth c D cX6_addUpPlates 4 RX6 none) {X2 : Int → Zm → Prop} {a0 : Nat} {x1 : Int} {h : Zm} {Q : Zm → Prop} (hX2 : ∀ (x1 : Int) (h : Zm), X2 x1 h → zW p l e zrX6_addUpPlates s m args below meth c D base 4 (MQ below (zQv D base Q) args s 0 0 (zFree base)) 0 0 2 [some (.inr (.inl a0)), some (.inl x1), none, none] [] h) (H : mX6_addUpPlates_B2 X2 a0 x1 h Q) : zW p l e zrX6_addUpPlates s m args below meth c D base 4 (MQ below (zQv D base Q) args s 0 0 (zFree base)) 0 0 2 [some (.inr (.inl a0)), some (.inl x1), none, none] [] h := by
  unfold mX6_addUpPlates_B2 at H
  refine z_iload_n (pc := 2) hc dX6_addUpPlates_2 rfl ?_
  refine z_bipush (pc := 3) hc dX6_addUpPlates_3 (by decide) ?_
  refine z_icmp_ge (tgt := 21) (pc := 5) hc dX6_addUpPlates_5 rfl H (fun H => ?_) (fun H => ?_)
  · refine z_aload_n (pc := 8) hc dX6_addUpPlates_8 rfl ?_
    refine z_getR (pc := 9) hc dX6_addUpPlates_9 zf_RX6_45 rfl rfl rfl H (fun r1 H => ?_)
    refine z_iload_n (pc := 12) hc dX6_addUpPlates_12 rfl ?_
    refine z_iconst (pc := 13) hc dX6_addUpPlates_13 ?_
    refine z_iastore (pc := 14) hc dX6_addUpPlates_14 H (fun h2 H => ?_)
    refine z_iinc (pc := 15) hc dX6_addUpPlates_15 (by decide) rfl (ρ' := [some (.inr (.inl a0)), some (.inl (x1 + 1)), none, none]) rfl rfl ?_
    refine z_goto (tgt := 2) (pc := 18) hc dX6_addUpPlates_18 rfl ?_
    exact hX2 _ _ H
  · refine z_iconst (pc := 21) hc dX6_addUpPlates_21 ?_
    refine z_istore_n (pc := 22) hc dX6_addUpPlates_22 (by decide) (ρ' := [some (.inr (.inl a0)), some (.inl 0), none, none]) rfl rfl ?_
    exact rX6_addUpPlates_H23 hc H
theorem rX6_addUpPlates_H2 (hc : zOk p s m args meth c D cX6_addUpPlates 4 RX6 none)  {a0 : Nat} {x1 : Int} {h : Zm} {Q : Zm → Prop}  (H : mX6_addUpPlates_H2  a0 x1 h Q) : zW p l e zrX6_addUpPlates s m args below meth c D base 4 (MQ below (zQv D base Q) args s 0 0 (zFree base)) 0 0 2 [some (.inr (.inl a0)), some (.inl x1), none, none] [] h :=
  H (fun x1 h => zW p l e zrX6_addUpPlates s m args below meth c D base 4 (MQ below (zQv D base Q) args s 0 0 (zFree base)) 0 0 2 [some (.inr (.inl a0)), some (.inl x1), none, none] [] h) (fun x1 h H => rX6_addUpPlates_B2 hc (fun _ _ q => q) H)
set_option maxRecDepth 100000 in
set_option maxHeartbeats 4000000 in
theorem rX6_addUpPlates (hc : zOk p s m args meth c D cX6_addUpPlates 4 RX6 none) {a0 : Nat} {h : Zm} {Q : Zm → Prop} (H : mX6_addUpPlates a0 h Q) : zW p l e zrX6_addUpPlates s m args below meth c D base 4 (MQ below (zQv D base Q) args s 0 0 (zFree base)) 0 0 0 [some (.inr (.inl a0)), none, none, none] [] h := by
  unfold mX6_addUpPlates at H
  refine z_iconst (pc := 0) hc dX6_addUpPlates_0 ?_
  refine z_istore_n (pc := 1) hc dX6_addUpPlates_1 (by decide) (ρ' := [some (.inr (.inl a0)), some (.inl 0), none, none]) rfl rfl ?_
  exact rX6_addUpPlates_H2 hc H
end
theorem metX6_addUpPlates (l : Launch) (D : Zd) (base : Nat) {a0 : Nat} {h : Zm} {Q : Zm → Prop} (H : mX6_addUpPlates a0 h Q) : zMet l D base yX6_addUpPlates cX6_addUpPlates 4 none zrX6_addUpPlates [.inr (.inl a0)] h (zQv D base Q) :=
  z_met (by decide +kernel) (Nat.le_of_ble_eq_true rfl) rfl (fun p e s m args below meth c hc hn => rX6_addUpPlates hc H)
def zrX6_coverage : Room := { frames := 7, cells := 0, slots := 0, locals := 164 }
def mX6_coverage (a0 : Nat) (x1 : Int) (h : Zm) (Q : Int → Zm → Prop) : Prop :=
  mX6_within x1 0 7 h fun v2 h1 => cEq v2 0
  (Q (-1) h1)
  (cRc h1 16 a0 <| mX6_addUpPlates a0 h1 fun h3 => cEq x1 7
    (cGr h3 16 a0 6 fun r6 => mX6_sumOf r6 h3 fun v8 h7 => Q v8 h7)
    (cGr h3 16 a0 6 fun r4 => cLd h3 1 r4 x1 fun v5 => Q v5 h3))
section
variable {p : Program} {l : Launch} {e : Env} {s : State} {m : MethodId} {args : Array Value} {below : List Frame} {meth : Method} {c : Code} {D : Zd} {base : Nat}
set_option maxRecDepth 100000 in
set_option maxHeartbeats 4000000 in
theorem rX6_coverage (hc : zOk p s m args meth c D cX6_coverage 2 RX6 (some .int)) {a0 : Nat} {x1 : Int} {h : Zm} {Q : Int → Zm → Prop} (H : mX6_coverage a0 x1 h Q) : zW p l e zrX6_coverage s m args below meth c D base 2 (MQ below (zQi D base Q) args s 0 0 (zFree base)) 0 0 0 [some (.inr (.inl a0)), some (.inl x1)] [] h := by
  unfold mX6_coverage at H
  refine z_iload_n (pc := 0) hc dX6_coverage_0 rfl ?_
  refine z_iconst (pc := 1) hc dX6_coverage_1 ?_
  refine z_bipush (pc := 2) hc dX6_coverage_2 (by decide) ?_
  refine z_calI (z_runS (pc := 4) hc dX6_coverage_4 zw_RX6_52 (metX6_within _ _ _ H) rfl (Nat.le_of_ble_eq_true rfl) ⟨Nat.le_of_ble_eq_true rfl, Nat.le_of_ble_eq_true rfl⟩ ⟨by exact Nat.le_of_ble_eq_true rfl, by exact Nat.le_of_ble_eq_true rfl⟩) rfl ⟨rfl, rfl⟩ (fun v2 h1 H => ?_)
  refine z_if_ne (tgt := 12) (pc := 7) hc dX6_coverage_7 rfl H (fun H => ?_) (fun H => ?_)
  · refine z_iconst (pc := 10) hc dX6_coverage_10 ?_
    exact z_ireturn (pc := 11) hc dX6_coverage_11 H
  · refine z_aload_n (pc := 12) hc dX6_coverage_12 rfl ?_
    refine z_calV0 (z_runV (pc := 13) (ci := 6) (T := TX6) (N := 8) hc dX6_coverage_13 zw_RX6_254 (metX6_addUpPlates _ _ _ H.2) rfl (Nat.le_of_ble_eq_true rfl) ⟨Nat.le_of_ble_eq_true rfl, Nat.le_of_ble_eq_true rfl⟩ ⟨by exact Nat.le_of_ble_eq_true rfl, by exact Nat.le_of_ble_eq_true rfl⟩ rfl H.1) rfl ⟨rfl, rfl⟩ (fun h3 H => ?_)
    refine z_iload_n (pc := 16) hc dX6_coverage_16 rfl ?_
    refine z_bipush (pc := 17) hc dX6_coverage_17 (by decide) ?_
    refine z_icmp_ne (tgt := 32) (pc := 19) hc dX6_coverage_19 rfl H (fun H => ?_) (fun H => ?_)
    · refine z_aload_n (pc := 22) hc dX6_coverage_22 rfl ?_
      refine z_getR (pc := 23) hc dX6_coverage_23 zf_RX6_45 rfl rfl rfl H (fun r6 H => ?_)
      refine z_calI (z_runS (pc := 26) hc dX6_coverage_26 zw_RX6_257 (metX6_sumOf _ _ _ H) rfl (Nat.le_of_ble_eq_true rfl) ⟨Nat.le_of_ble_eq_true rfl, Nat.le_of_ble_eq_true rfl⟩ ⟨by exact Nat.le_of_ble_eq_true rfl, by exact Nat.le_of_ble_eq_true rfl⟩) rfl ⟨rfl, rfl⟩ (fun v8 h7 H => ?_)
      refine z_goto (tgt := 38) (pc := 29) hc dX6_coverage_29 rfl ?_
      exact z_ireturn (pc := 38) hc dX6_coverage_38 H
    · refine z_aload_n (pc := 32) hc dX6_coverage_32 rfl ?_
      refine z_getR (pc := 33) hc dX6_coverage_33 zf_RX6_45 rfl rfl rfl H (fun r4 H => ?_)
      refine z_iload_n (pc := 36) hc dX6_coverage_36 rfl ?_
      refine z_iaload (pc := 37) hc dX6_coverage_37 H (fun v5 H => ?_)
      exact z_ireturn (pc := 38) hc dX6_coverage_38 H
end
theorem metX6_coverage (l : Launch) (D : Zd) (base : Nat) {a0 : Nat} {x1 : Int} {h : Zm} {Q : Int → Zm → Prop} (H : mX6_coverage a0 x1 h Q) : zMet l D base yX6_coverage cX6_coverage 2 (some .int) zrX6_coverage [.inr (.inl a0), .inl x1] h (zQi D base Q) :=
  z_met (by decide +kernel) (Nat.le_of_ble_eq_true rfl) rfl (fun p e s m args below meth c hc hn => rX6_coverage hc H)
def zrX6_greatestSum : Room := { frames := 6, cells := 0, slots := 0, locals := 141 }
def mX6_greatestSum_B17 (X4 : Int → Int → Zm → Prop) (X17 : Int → Int → Zm → Prop) (a0 : Nat) (x1 : Int) (x2 : Int) (x3 : Int) (h : Zm) (Q : Int → Zm → Prop) : Prop :=
  cGr h 16 a0 0 fun r3 => cGi h 14 r3 0 fun v4 => cLt x3 v4
  (cRc h 16 a0 <| mX6_separateAt a0 x3 x2 h fun h5 => cGr h5 16 a0 4 fun r6 => cGr h5 13 r6 2 fun r7 => mX6_sumOf r7 h5 fun v9 h8 => mJ9_max_7cf53 x1 v9 h8 fun v11 h10 => X17 v11 (x3 + 1) h10)
  (X4 x1 (x2 + 1) h)
def mX6_greatestSum_H17 (X4 : Int → Int → Zm → Prop) (a0 : Nat) (x1 : Int) (x2 : Int) (x3 : Int) (h : Zm) (Q : Int → Zm → Prop) : Prop :=
  lfp2 (fun X17 x1 x3 h => mX6_greatestSum_B17 X4 X17 a0 x1 x2 x3 h Q) x1 x3 h
def mX6_greatestSum_B4 (X4 : Int → Int → Zm → Prop) (a0 : Nat) (x1 : Int) (x2 : Int) (h : Zm) (Q : Int → Zm → Prop) : Prop :=
  cGr h 16 a0 0 fun r1 => cGi h 14 r1 1 fun v2 => cLt x2 v2
  (mX6_greatestSum_H17 X4 a0 x1 x2 0 h Q)
  (Q x1 h)
def mX6_greatestSum_H4  (a0 : Nat) (x1 : Int) (x2 : Int) (h : Zm) (Q : Int → Zm → Prop) : Prop :=
  lfp2 (fun X4 x1 x2 h => mX6_greatestSum_B4 X4 a0 x1 x2 h Q) x1 x2 h
def mX6_greatestSum (a0 : Nat) (h : Zm) (Q : Int → Zm → Prop) : Prop :=
  mX6_greatestSum_H4  a0 0 0 h Q
section
variable {p : Program} {l : Launch} {e : Env} {s : State} {m : MethodId} {args : Array Value} {below : List Frame} {meth : Method} {c : Code} {D : Zd} {base : Nat}
set_option maxRecDepth 100000 in
set_option maxHeartbeats 4000000 in
theorem rX6_greatestSum_B17 (hc : zOk p s m args meth c D cX6_greatestSum 4 RX6 (some .int)) {X4 : Int → Int → Zm → Prop} {X17 : Int → Int → Zm → Prop} {a0 : Nat} {x1 : Int} {x2 : Int} {x3 : Int} {h : Zm} {Q : Int → Zm → Prop} (hX4 : ∀ (x1 : Int) (x2 : Int) (h : Zm), X4 x1 x2 h → zW p l e zrX6_greatestSum s m args below meth c D base 4 (MQ below (zQi D base Q) args s 0 0 (zFree base)) 0 0 4 [some (.inr (.inl a0)), some (.inl x1), some (.inl x2), none] [] h) (hX17 : ∀ (x1 : Int) (x3 : Int) (h : Zm), X17 x1 x3 h → zW p l e zrX6_greatestSum s m args below meth c D base 4 (MQ below (zQi D base Q) args s 0 0 (zFree base)) 0 0 17 [some (.inr (.inl a0)), some (.inl x1), some (.inl x2), some (.inl x3)] [] h) (H : mX6_greatestSum_B17 X4 X17 a0 x1 x2 x3 h Q) : zW p l e zrX6_greatestSum s m args below meth c D base 4 (MQ below (zQi D base Q) args s 0 0 (zFree base)) 0 0 17 [some (.inr (.inl a0)), some (.inl x1), some (.inl x2), some (.inl x3)] [] h := by
  unfold mX6_greatestSum_B17 at H
  refine z_iload_n (pc := 17) hc dX6_greatestSum_17 rfl ?_
  refine z_aload_n (pc := 18) hc dX6_greatestSum_18 rfl ?_
  refine z_getR (pc := 19) hc dX6_greatestSum_19 zf_RX6_12 rfl rfl rfl H (fun r3 H => ?_)
  refine z_getI (pc := 22) hc dX6_greatestSum_22 zf_RX6_56 rfl rfl rfl H (fun v4 H => ?_)
  refine z_icmp_ge (tgt := 55) (pc := 25) hc dX6_greatestSum_25 rfl H (fun H => ?_) (fun H => ?_)
  · refine z_aload_n (pc := 28) hc dX6_greatestSum_28 rfl ?_
    refine z_iload_n (pc := 29) hc dX6_greatestSum_29 rfl ?_
    refine z_iload_n (pc := 30) hc dX6_greatestSum_30 rfl ?_
    refine z_calV0 (z_runV (pc := 31) (ci := 6) (T := TX6) (N := 8) hc dX6_greatestSum_31 zw_RX6_225 (metX6_separateAt _ _ _ H.2) rfl (Nat.le_of_ble_eq_true rfl) ⟨Nat.le_of_ble_eq_true rfl, Nat.le_of_ble_eq_true rfl⟩ ⟨by exact Nat.le_of_ble_eq_true rfl, by exact Nat.le_of_ble_eq_true rfl⟩ rfl H.1) rfl ⟨rfl, rfl⟩ (fun h5 H => ?_)
    refine z_iload_n (pc := 34) hc dX6_greatestSum_34 rfl ?_
    refine z_aload_n (pc := 35) hc dX6_greatestSum_35 rfl ?_
    refine z_getR (pc := 36) hc dX6_greatestSum_36 zf_RX6_34 rfl rfl rfl H (fun r6 H => ?_)
    refine z_getR (pc := 39) hc dX6_greatestSum_39 zf_RX6_264 rfl rfl rfl H (fun r7 H => ?_)
    refine z_calI (z_runS (pc := 42) hc dX6_greatestSum_42 zw_RX6_257 (metX6_sumOf _ _ _ H) rfl (Nat.le_of_ble_eq_true rfl) ⟨Nat.le_of_ble_eq_true rfl, Nat.le_of_ble_eq_true rfl⟩ ⟨by exact Nat.le_of_ble_eq_true rfl, by exact Nat.le_of_ble_eq_true rfl⟩) rfl ⟨rfl, rfl⟩ (fun v9 h8 H => ?_)
    refine z_calI (z_runS (pc := 45) hc dX6_greatestSum_45 zw_RX6_267 (metJ9_max_7cf53 _ _ _ H) rfl (Nat.le_of_ble_eq_true rfl) ⟨Nat.le_of_ble_eq_true rfl, Nat.le_of_ble_eq_true rfl⟩ ⟨by exact Nat.le_of_ble_eq_true rfl, by exact Nat.le_of_ble_eq_true rfl⟩) rfl ⟨rfl, rfl⟩ (fun v11 h10 H => ?_)
    refine z_istore_n (pc := 48) hc dX6_greatestSum_48 (by decide) (ρ' := [some (.inr (.inl a0)), some (.inl v11), some (.inl x2), some (.inl x3)]) rfl rfl ?_
    refine z_iinc (pc := 49) hc dX6_greatestSum_49 (by decide) rfl (ρ' := [some (.inr (.inl a0)), some (.inl v11), some (.inl x2), some (.inl (x3 + 1))]) rfl rfl ?_
    refine z_goto (tgt := 17) (pc := 52) hc dX6_greatestSum_52 rfl ?_
    exact hX17 _ _ _ H
  · refine z_iinc (pc := 55) hc dX6_greatestSum_55 (by decide) rfl (ρ' := [some (.inr (.inl a0)), some (.inl x1), some (.inl (x2 + 1)), some (.inl x3)]) rfl rfl ?_
    refine z_goto (tgt := 4) (pc := 58) hc dX6_greatestSum_58 rfl ?_
    refine z_mask [true, true, true, false] (ρ' := [some (.inr (.inl a0)), some (.inl x1), some (.inl (x2 + 1)), none]) rfl ?_
    exact hX4 _ _ _ H
theorem rX6_greatestSum_H17 (hc : zOk p s m args meth c D cX6_greatestSum 4 RX6 (some .int)) {X4 : Int → Int → Zm → Prop} {a0 : Nat} {x1 : Int} {x2 : Int} {x3 : Int} {h : Zm} {Q : Int → Zm → Prop} (hX4 : ∀ (x1 : Int) (x2 : Int) (h : Zm), X4 x1 x2 h → zW p l e zrX6_greatestSum s m args below meth c D base 4 (MQ below (zQi D base Q) args s 0 0 (zFree base)) 0 0 4 [some (.inr (.inl a0)), some (.inl x1), some (.inl x2), none] [] h) (H : mX6_greatestSum_H17 X4 a0 x1 x2 x3 h Q) : zW p l e zrX6_greatestSum s m args below meth c D base 4 (MQ below (zQi D base Q) args s 0 0 (zFree base)) 0 0 17 [some (.inr (.inl a0)), some (.inl x1), some (.inl x2), some (.inl x3)] [] h :=
  H (fun x1 x3 h => zW p l e zrX6_greatestSum s m args below meth c D base 4 (MQ below (zQi D base Q) args s 0 0 (zFree base)) 0 0 17 [some (.inr (.inl a0)), some (.inl x1), some (.inl x2), some (.inl x3)] [] h) (fun x1 x3 h H => rX6_greatestSum_B17 hc hX4 (fun _ _ _ q => q) H)
set_option maxRecDepth 100000 in
set_option maxHeartbeats 4000000 in
theorem rX6_greatestSum_B4 (hc : zOk p s m args meth c D cX6_greatestSum 4 RX6 (some .int)) {X4 : Int → Int → Zm → Prop} {a0 : Nat} {x1 : Int} {x2 : Int} {h : Zm} {Q : Int → Zm → Prop} (hX4 : ∀ (x1 : Int) (x2 : Int) (h : Zm), X4 x1 x2 h → zW p l e zrX6_greatestSum s m args below meth c D base 4 (MQ below (zQi D base Q) args s 0 0 (zFree base)) 0 0 4 [some (.inr (.inl a0)), some (.inl x1), some (.inl x2), none] [] h) (H : mX6_greatestSum_B4 X4 a0 x1 x2 h Q) : zW p l e zrX6_greatestSum s m args below meth c D base 4 (MQ below (zQi D base Q) args s 0 0 (zFree base)) 0 0 4 [some (.inr (.inl a0)), some (.inl x1), some (.inl x2), none] [] h := by
  unfold mX6_greatestSum_B4 at H
  refine z_iload_n (pc := 4) hc dX6_greatestSum_4 rfl ?_
  refine z_aload_n (pc := 5) hc dX6_greatestSum_5 rfl ?_
  refine z_getR (pc := 6) hc dX6_greatestSum_6 zf_RX6_12 rfl rfl rfl H (fun r1 H => ?_)
  refine z_getI (pc := 9) hc dX6_greatestSum_9 zf_RX6_59 rfl rfl rfl H (fun v2 H => ?_)
  refine z_icmp_ge (tgt := 61) (pc := 12) hc dX6_greatestSum_12 rfl H (fun H => ?_) (fun H => ?_)
  · refine z_iconst (pc := 15) hc dX6_greatestSum_15 ?_
    refine z_istore_n (pc := 16) hc dX6_greatestSum_16 (by decide) (ρ' := [some (.inr (.inl a0)), some (.inl x1), some (.inl x2), some (.inl 0)]) rfl rfl ?_
    exact rX6_greatestSum_H17 hc hX4 H
  · refine z_iload_n (pc := 61) hc dX6_greatestSum_61 rfl ?_
    exact z_ireturn (pc := 62) hc dX6_greatestSum_62 H
theorem rX6_greatestSum_H4 (hc : zOk p s m args meth c D cX6_greatestSum 4 RX6 (some .int))  {a0 : Nat} {x1 : Int} {x2 : Int} {h : Zm} {Q : Int → Zm → Prop}  (H : mX6_greatestSum_H4  a0 x1 x2 h Q) : zW p l e zrX6_greatestSum s m args below meth c D base 4 (MQ below (zQi D base Q) args s 0 0 (zFree base)) 0 0 4 [some (.inr (.inl a0)), some (.inl x1), some (.inl x2), none] [] h :=
  H (fun x1 x2 h => zW p l e zrX6_greatestSum s m args below meth c D base 4 (MQ below (zQi D base Q) args s 0 0 (zFree base)) 0 0 4 [some (.inr (.inl a0)), some (.inl x1), some (.inl x2), none] [] h) (fun x1 x2 h H => rX6_greatestSum_B4 hc (fun _ _ _ q => q) H)
set_option maxRecDepth 100000 in
set_option maxHeartbeats 4000000 in
theorem rX6_greatestSum (hc : zOk p s m args meth c D cX6_greatestSum 4 RX6 (some .int)) {a0 : Nat} {h : Zm} {Q : Int → Zm → Prop} (H : mX6_greatestSum a0 h Q) : zW p l e zrX6_greatestSum s m args below meth c D base 4 (MQ below (zQi D base Q) args s 0 0 (zFree base)) 0 0 0 [some (.inr (.inl a0)), none, none, none] [] h := by
  unfold mX6_greatestSum at H
  refine z_iconst (pc := 0) hc dX6_greatestSum_0 ?_
  refine z_istore_n (pc := 1) hc dX6_greatestSum_1 (by decide) (ρ' := [some (.inr (.inl a0)), some (.inl 0), none, none]) rfl rfl ?_
  refine z_iconst (pc := 2) hc dX6_greatestSum_2 ?_
  refine z_istore_n (pc := 3) hc dX6_greatestSum_3 (by decide) (ρ' := [some (.inr (.inl a0)), some (.inl 0), some (.inl 0), none]) rfl rfl ?_
  exact rX6_greatestSum_H4 hc H
end
theorem metX6_greatestSum (l : Launch) (D : Zd) (base : Nat) {a0 : Nat} {h : Zm} {Q : Int → Zm → Prop} (H : mX6_greatestSum a0 h Q) : zMet l D base yX6_greatestSum cX6_greatestSum 4 (some .int) zrX6_greatestSum [.inr (.inl a0)] h (zQi D base Q) :=
  z_met (by decide +kernel) (Nat.le_of_ble_eq_true rfl) rfl (fun p e s m args below meth c hc hn => rX6_greatestSum hc H)
def zrX6_sameValues : Room := { frames := 0, cells := 0, slots := 0, locals := 0 }
def mX6_sameValues_B2 (X2 : Int → Zm → Prop) (a0 : Nat) (a1 : Nat) (x2 : Int) (h : Zm) (Q : Int → Zm → Prop) : Prop :=
  cLt x2 7
  (cLd h 1 a0 x2 fun v1 => cLd h 1 a1 x2 fun v2 => cEq v1 v2
    (X2 (x2 + 1) h)
    (Q 0 h))
  (Q 1 h)
def mX6_sameValues_H2  (a0 : Nat) (a1 : Nat) (x2 : Int) (h : Zm) (Q : Int → Zm → Prop) : Prop :=
  lfp1 (fun X2 x2 h => mX6_sameValues_B2 X2 a0 a1 x2 h Q) x2 h
def mX6_sameValues (a0 : Nat) (a1 : Nat) (h : Zm) (Q : Int → Zm → Prop) : Prop :=
  mX6_sameValues_H2  a0 a1 0 h Q
section
variable {p : Program} {l : Launch} {e : Env} {s : State} {m : MethodId} {args : Array Value} {below : List Frame} {meth : Method} {c : Code} {D : Zd} {base : Nat}
set_option maxRecDepth 100000 in
set_option maxHeartbeats 4000000 in
theorem rX6_sameValues_B2 (hc : zOk p s m args meth c D cX6_sameValues 3 RX6 (some .boolean)) {X2 : Int → Zm → Prop} {a0 : Nat} {a1 : Nat} {x2 : Int} {h : Zm} {Q : Int → Zm → Prop} (hX2 : ∀ (x2 : Int) (h : Zm), X2 x2 h → zW p l e zrX6_sameValues s m args below meth c D base 3 (MQ below (zQi D base Q) args s 0 0 (zFree base)) 0 0 2 [some (.inr (.inl a0)), some (.inr (.inl a1)), some (.inl x2)] [] h) (H : mX6_sameValues_B2 X2 a0 a1 x2 h Q) : zW p l e zrX6_sameValues s m args below meth c D base 3 (MQ below (zQi D base Q) args s 0 0 (zFree base)) 0 0 2 [some (.inr (.inl a0)), some (.inr (.inl a1)), some (.inl x2)] [] h := by
  unfold mX6_sameValues_B2 at H
  refine z_iload_n (pc := 2) hc dX6_sameValues_2 rfl ?_
  refine z_bipush (pc := 3) hc dX6_sameValues_3 (by decide) ?_
  refine z_icmp_ge (tgt := 25) (pc := 5) hc dX6_sameValues_5 rfl H (fun H => ?_) (fun H => ?_)
  · refine z_aload_n (pc := 8) hc dX6_sameValues_8 rfl ?_
    refine z_iload_n (pc := 9) hc dX6_sameValues_9 rfl ?_
    refine z_iaload (pc := 10) hc dX6_sameValues_10 H (fun v1 H => ?_)
    refine z_aload_n (pc := 11) hc dX6_sameValues_11 rfl ?_
    refine z_iload_n (pc := 12) hc dX6_sameValues_12 rfl ?_
    refine z_iaload (pc := 13) hc dX6_sameValues_13 H (fun v2 H => ?_)
    refine z_icmp_eq (tgt := 19) (pc := 14) hc dX6_sameValues_14 rfl H (fun H => ?_) (fun H => ?_)
    · refine z_iinc (pc := 19) hc dX6_sameValues_19 (by decide) rfl (ρ' := [some (.inr (.inl a0)), some (.inr (.inl a1)), some (.inl (x2 + 1))]) rfl rfl ?_
      refine z_goto (tgt := 2) (pc := 22) hc dX6_sameValues_22 rfl ?_
      exact hX2 _ _ H
    · refine z_iconst (pc := 17) hc dX6_sameValues_17 ?_
      exact z_zreturn (pc := 18) hc dX6_sameValues_18 ⟨Or.inl rfl, H⟩
  · refine z_iconst (pc := 25) hc dX6_sameValues_25 ?_
    exact z_zreturn (pc := 26) hc dX6_sameValues_26 ⟨Or.inr rfl, H⟩
theorem rX6_sameValues_H2 (hc : zOk p s m args meth c D cX6_sameValues 3 RX6 (some .boolean))  {a0 : Nat} {a1 : Nat} {x2 : Int} {h : Zm} {Q : Int → Zm → Prop}  (H : mX6_sameValues_H2  a0 a1 x2 h Q) : zW p l e zrX6_sameValues s m args below meth c D base 3 (MQ below (zQi D base Q) args s 0 0 (zFree base)) 0 0 2 [some (.inr (.inl a0)), some (.inr (.inl a1)), some (.inl x2)] [] h :=
  H (fun x2 h => zW p l e zrX6_sameValues s m args below meth c D base 3 (MQ below (zQi D base Q) args s 0 0 (zFree base)) 0 0 2 [some (.inr (.inl a0)), some (.inr (.inl a1)), some (.inl x2)] [] h) (fun x2 h H => rX6_sameValues_B2 hc (fun _ _ q => q) H)
set_option maxRecDepth 100000 in
set_option maxHeartbeats 4000000 in
theorem rX6_sameValues (hc : zOk p s m args meth c D cX6_sameValues 3 RX6 (some .boolean)) {a0 : Nat} {a1 : Nat} {h : Zm} {Q : Int → Zm → Prop} (H : mX6_sameValues a0 a1 h Q) : zW p l e zrX6_sameValues s m args below meth c D base 3 (MQ below (zQi D base Q) args s 0 0 (zFree base)) 0 0 0 [some (.inr (.inl a0)), some (.inr (.inl a1)), none] [] h := by
  unfold mX6_sameValues at H
  refine z_iconst (pc := 0) hc dX6_sameValues_0 ?_
  refine z_istore_n (pc := 1) hc dX6_sameValues_1 (by decide) (ρ' := [some (.inr (.inl a0)), some (.inr (.inl a1)), some (.inl 0)]) rfl rfl ?_
  exact rX6_sameValues_H2 hc H
end
theorem metX6_sameValues (l : Launch) (D : Zd) (base : Nat) {a0 : Nat} {a1 : Nat} {h : Zm} {Q : Int → Zm → Prop} (H : mX6_sameValues a0 a1 h Q) : zMet l D base yX6_sameValues cX6_sameValues 3 (some .boolean) zrX6_sameValues [.inr (.inl a0), .inr (.inl a1)] h (zQi D base Q) :=
  z_met (by decide +kernel) (Nat.le_of_ble_eq_true rfl) rfl (fun p e s m args below meth c hc hn => rX6_sameValues hc H)
def zrX6_limitedPixels : Room := { frames := 6, cells := 0, slots := 0, locals := 141 }
def mX6_limitedPixels_B17 (X4 : Int → Int → Zm → Prop) (X17 : Int → Int → Zm → Prop) (a0 : Nat) (x1 : Int) (x2 : Int) (x3 : Int) (h : Zm) (Q : Int → Zm → Prop) : Prop :=
  cGr h 16 a0 0 fun r3 => cGi h 14 r3 0 fun v4 => cLt x3 v4
  (cRc h 16 a0 <| mX6_separateAt a0 x3 x2 h fun h5 => cGr h5 16 a0 4 fun r6 => cGr h5 13 r6 1 fun r7 => cGr h5 16 a0 4 fun r8 => cGr h5 13 r8 2 fun r9 => mX6_sameValues r7 r9 h5 fun v11 h10 => cEq v11 0
    (X17 (x1 + 1) (x3 + 1) h10)
    (X17 x1 (x3 + 1) h10))
  (X4 x1 (x2 + 1) h)
def mX6_limitedPixels_H17 (X4 : Int → Int → Zm → Prop) (a0 : Nat) (x1 : Int) (x2 : Int) (x3 : Int) (h : Zm) (Q : Int → Zm → Prop) : Prop :=
  lfp2 (fun X17 x1 x3 h => mX6_limitedPixels_B17 X4 X17 a0 x1 x2 x3 h Q) x1 x3 h
def mX6_limitedPixels_B4 (X4 : Int → Int → Zm → Prop) (a0 : Nat) (x1 : Int) (x2 : Int) (h : Zm) (Q : Int → Zm → Prop) : Prop :=
  cGr h 16 a0 0 fun r1 => cGi h 14 r1 1 fun v2 => cLt x2 v2
  (mX6_limitedPixels_H17 X4 a0 x1 x2 0 h Q)
  (Q x1 h)
def mX6_limitedPixels_H4  (a0 : Nat) (x1 : Int) (x2 : Int) (h : Zm) (Q : Int → Zm → Prop) : Prop :=
  lfp2 (fun X4 x1 x2 h => mX6_limitedPixels_B4 X4 a0 x1 x2 h Q) x1 x2 h
def mX6_limitedPixels (a0 : Nat) (h : Zm) (Q : Int → Zm → Prop) : Prop :=
  mX6_limitedPixels_H4  a0 0 0 h Q
section
variable {p : Program} {l : Launch} {e : Env} {s : State} {m : MethodId} {args : Array Value} {below : List Frame} {meth : Method} {c : Code} {D : Zd} {base : Nat}
set_option maxRecDepth 100000 in
set_option maxHeartbeats 4000000 in
theorem rX6_limitedPixels_B17 (hc : zOk p s m args meth c D cX6_limitedPixels 4 RX6 (some .int)) {X4 : Int → Int → Zm → Prop} {X17 : Int → Int → Zm → Prop} {a0 : Nat} {x1 : Int} {x2 : Int} {x3 : Int} {h : Zm} {Q : Int → Zm → Prop} (hX4 : ∀ (x1 : Int) (x2 : Int) (h : Zm), X4 x1 x2 h → zW p l e zrX6_limitedPixels s m args below meth c D base 4 (MQ below (zQi D base Q) args s 0 0 (zFree base)) 0 0 4 [some (.inr (.inl a0)), some (.inl x1), some (.inl x2), none] [] h) (hX17 : ∀ (x1 : Int) (x3 : Int) (h : Zm), X17 x1 x3 h → zW p l e zrX6_limitedPixels s m args below meth c D base 4 (MQ below (zQi D base Q) args s 0 0 (zFree base)) 0 0 17 [some (.inr (.inl a0)), some (.inl x1), some (.inl x2), some (.inl x3)] [] h) (H : mX6_limitedPixels_B17 X4 X17 a0 x1 x2 x3 h Q) : zW p l e zrX6_limitedPixels s m args below meth c D base 4 (MQ below (zQi D base Q) args s 0 0 (zFree base)) 0 0 17 [some (.inr (.inl a0)), some (.inl x1), some (.inl x2), some (.inl x3)] [] h := by
  unfold mX6_limitedPixels_B17 at H
  refine z_iload_n (pc := 17) hc dX6_limitedPixels_17 rfl ?_
  refine z_aload_n (pc := 18) hc dX6_limitedPixels_18 rfl ?_
  refine z_getR (pc := 19) hc dX6_limitedPixels_19 zf_RX6_12 rfl rfl rfl H (fun r3 H => ?_)
  refine z_getI (pc := 22) hc dX6_limitedPixels_22 zf_RX6_56 rfl rfl rfl H (fun v4 H => ?_)
  refine z_icmp_ge (tgt := 63) (pc := 25) hc dX6_limitedPixels_25 rfl H (fun H => ?_) (fun H => ?_)
  · refine z_aload_n (pc := 28) hc dX6_limitedPixels_28 rfl ?_
    refine z_iload_n (pc := 29) hc dX6_limitedPixels_29 rfl ?_
    refine z_iload_n (pc := 30) hc dX6_limitedPixels_30 rfl ?_
    refine z_calV0 (z_runV (pc := 31) (ci := 6) (T := TX6) (N := 8) hc dX6_limitedPixels_31 zw_RX6_225 (metX6_separateAt _ _ _ H.2) rfl (Nat.le_of_ble_eq_true rfl) ⟨Nat.le_of_ble_eq_true rfl, Nat.le_of_ble_eq_true rfl⟩ ⟨by exact Nat.le_of_ble_eq_true rfl, by exact Nat.le_of_ble_eq_true rfl⟩ rfl H.1) rfl ⟨rfl, rfl⟩ (fun h5 H => ?_)
    refine z_aload_n (pc := 34) hc dX6_limitedPixels_34 rfl ?_
    refine z_getR (pc := 35) hc dX6_limitedPixels_35 zf_RX6_34 rfl rfl rfl H (fun r6 H => ?_)
    refine z_getR (pc := 38) hc dX6_limitedPixels_38 zf_RX6_273 rfl rfl rfl H (fun r7 H => ?_)
    refine z_aload_n (pc := 41) hc dX6_limitedPixels_41 rfl ?_
    refine z_getR (pc := 42) hc dX6_limitedPixels_42 zf_RX6_34 rfl rfl rfl H (fun r8 H => ?_)
    refine z_getR (pc := 45) hc dX6_limitedPixels_45 zf_RX6_264 rfl rfl rfl H (fun r9 H => ?_)
    refine z_calI (z_runS (pc := 48) hc dX6_limitedPixels_48 zw_RX6_276 (metX6_sameValues _ _ _ H) rfl (Nat.le_of_ble_eq_true rfl) ⟨Nat.le_of_ble_eq_true rfl, Nat.le_of_ble_eq_true rfl⟩ ⟨by exact Nat.le_of_ble_eq_true rfl, by exact Nat.le_of_ble_eq_true rfl⟩) rfl ⟨rfl, rfl⟩ (fun v11 h10 H => ?_)
    refine z_if_ne (tgt := 57) (pc := 51) hc dX6_limitedPixels_51 rfl H (fun H => ?_) (fun H => ?_)
    · refine z_iinc (pc := 54) hc dX6_limitedPixels_54 (by decide) rfl (ρ' := [some (.inr (.inl a0)), some (.inl (x1 + 1)), some (.inl x2), some (.inl x3)]) rfl rfl ?_
      refine z_iinc (pc := 57) hc dX6_limitedPixels_57 (by decide) rfl (ρ' := [some (.inr (.inl a0)), some (.inl (x1 + 1)), some (.inl x2), some (.inl (x3 + 1))]) rfl rfl ?_
      refine z_goto (tgt := 17) (pc := 60) hc dX6_limitedPixels_60 rfl ?_
      exact hX17 _ _ _ H
    · refine z_iinc (pc := 57) hc dX6_limitedPixels_57 (by decide) rfl (ρ' := [some (.inr (.inl a0)), some (.inl x1), some (.inl x2), some (.inl (x3 + 1))]) rfl rfl ?_
      refine z_goto (tgt := 17) (pc := 60) hc dX6_limitedPixels_60 rfl ?_
      exact hX17 _ _ _ H
  · refine z_iinc (pc := 63) hc dX6_limitedPixels_63 (by decide) rfl (ρ' := [some (.inr (.inl a0)), some (.inl x1), some (.inl (x2 + 1)), some (.inl x3)]) rfl rfl ?_
    refine z_goto (tgt := 4) (pc := 66) hc dX6_limitedPixels_66 rfl ?_
    refine z_mask [true, true, true, false] (ρ' := [some (.inr (.inl a0)), some (.inl x1), some (.inl (x2 + 1)), none]) rfl ?_
    exact hX4 _ _ _ H
theorem rX6_limitedPixels_H17 (hc : zOk p s m args meth c D cX6_limitedPixels 4 RX6 (some .int)) {X4 : Int → Int → Zm → Prop} {a0 : Nat} {x1 : Int} {x2 : Int} {x3 : Int} {h : Zm} {Q : Int → Zm → Prop} (hX4 : ∀ (x1 : Int) (x2 : Int) (h : Zm), X4 x1 x2 h → zW p l e zrX6_limitedPixels s m args below meth c D base 4 (MQ below (zQi D base Q) args s 0 0 (zFree base)) 0 0 4 [some (.inr (.inl a0)), some (.inl x1), some (.inl x2), none] [] h) (H : mX6_limitedPixels_H17 X4 a0 x1 x2 x3 h Q) : zW p l e zrX6_limitedPixels s m args below meth c D base 4 (MQ below (zQi D base Q) args s 0 0 (zFree base)) 0 0 17 [some (.inr (.inl a0)), some (.inl x1), some (.inl x2), some (.inl x3)] [] h :=
  H (fun x1 x3 h => zW p l e zrX6_limitedPixels s m args below meth c D base 4 (MQ below (zQi D base Q) args s 0 0 (zFree base)) 0 0 17 [some (.inr (.inl a0)), some (.inl x1), some (.inl x2), some (.inl x3)] [] h) (fun x1 x3 h H => rX6_limitedPixels_B17 hc hX4 (fun _ _ _ q => q) H)
set_option maxRecDepth 100000 in
set_option maxHeartbeats 4000000 in
theorem rX6_limitedPixels_B4 (hc : zOk p s m args meth c D cX6_limitedPixels 4 RX6 (some .int)) {X4 : Int → Int → Zm → Prop} {a0 : Nat} {x1 : Int} {x2 : Int} {h : Zm} {Q : Int → Zm → Prop} (hX4 : ∀ (x1 : Int) (x2 : Int) (h : Zm), X4 x1 x2 h → zW p l e zrX6_limitedPixels s m args below meth c D base 4 (MQ below (zQi D base Q) args s 0 0 (zFree base)) 0 0 4 [some (.inr (.inl a0)), some (.inl x1), some (.inl x2), none] [] h) (H : mX6_limitedPixels_B4 X4 a0 x1 x2 h Q) : zW p l e zrX6_limitedPixels s m args below meth c D base 4 (MQ below (zQi D base Q) args s 0 0 (zFree base)) 0 0 4 [some (.inr (.inl a0)), some (.inl x1), some (.inl x2), none] [] h := by
  unfold mX6_limitedPixels_B4 at H
  refine z_iload_n (pc := 4) hc dX6_limitedPixels_4 rfl ?_
  refine z_aload_n (pc := 5) hc dX6_limitedPixels_5 rfl ?_
  refine z_getR (pc := 6) hc dX6_limitedPixels_6 zf_RX6_12 rfl rfl rfl H (fun r1 H => ?_)
  refine z_getI (pc := 9) hc dX6_limitedPixels_9 zf_RX6_59 rfl rfl rfl H (fun v2 H => ?_)
  refine z_icmp_ge (tgt := 69) (pc := 12) hc dX6_limitedPixels_12 rfl H (fun H => ?_) (fun H => ?_)
  · refine z_iconst (pc := 15) hc dX6_limitedPixels_15 ?_
    refine z_istore_n (pc := 16) hc dX6_limitedPixels_16 (by decide) (ρ' := [some (.inr (.inl a0)), some (.inl x1), some (.inl x2), some (.inl 0)]) rfl rfl ?_
    exact rX6_limitedPixels_H17 hc hX4 H
  · refine z_iload_n (pc := 69) hc dX6_limitedPixels_69 rfl ?_
    exact z_ireturn (pc := 70) hc dX6_limitedPixels_70 H
theorem rX6_limitedPixels_H4 (hc : zOk p s m args meth c D cX6_limitedPixels 4 RX6 (some .int))  {a0 : Nat} {x1 : Int} {x2 : Int} {h : Zm} {Q : Int → Zm → Prop}  (H : mX6_limitedPixels_H4  a0 x1 x2 h Q) : zW p l e zrX6_limitedPixels s m args below meth c D base 4 (MQ below (zQi D base Q) args s 0 0 (zFree base)) 0 0 4 [some (.inr (.inl a0)), some (.inl x1), some (.inl x2), none] [] h :=
  H (fun x1 x2 h => zW p l e zrX6_limitedPixels s m args below meth c D base 4 (MQ below (zQi D base Q) args s 0 0 (zFree base)) 0 0 4 [some (.inr (.inl a0)), some (.inl x1), some (.inl x2), none] [] h) (fun x1 x2 h H => rX6_limitedPixels_B4 hc (fun _ _ _ q => q) H)
set_option maxRecDepth 100000 in
set_option maxHeartbeats 4000000 in
theorem rX6_limitedPixels (hc : zOk p s m args meth c D cX6_limitedPixels 4 RX6 (some .int)) {a0 : Nat} {h : Zm} {Q : Int → Zm → Prop} (H : mX6_limitedPixels a0 h Q) : zW p l e zrX6_limitedPixels s m args below meth c D base 4 (MQ below (zQi D base Q) args s 0 0 (zFree base)) 0 0 0 [some (.inr (.inl a0)), none, none, none] [] h := by
  unfold mX6_limitedPixels at H
  refine z_iconst (pc := 0) hc dX6_limitedPixels_0 ?_
  refine z_istore_n (pc := 1) hc dX6_limitedPixels_1 (by decide) (ρ' := [some (.inr (.inl a0)), some (.inl 0), none, none]) rfl rfl ?_
  refine z_iconst (pc := 2) hc dX6_limitedPixels_2 ?_
  refine z_istore_n (pc := 3) hc dX6_limitedPixels_3 (by decide) (ρ' := [some (.inr (.inl a0)), some (.inl 0), some (.inl 0), none]) rfl rfl ?_
  exact rX6_limitedPixels_H4 hc H
end
theorem metX6_limitedPixels (l : Launch) (D : Zd) (base : Nat) {a0 : Nat} {h : Zm} {Q : Int → Zm → Prop} (H : mX6_limitedPixels a0 h Q) : zMet l D base yX6_limitedPixels cX6_limitedPixels 4 (some .int) zrX6_limitedPixels [.inr (.inl a0)] h (zQi D base Q) :=
  z_met (by decide +kernel) (Nat.le_of_ble_eq_true rfl) rfl (fun p e s m args below meth c hc hn => rX6_limitedPixels hc H)
def zrX6_neededLimit : Room := { frames := 6, cells := 0, slots := 0, locals := 141 }
def mX6_neededLimit_B17 (X4 : Int → Int → Zm → Prop) (X17 : Int → Int → Zm → Prop) (a0 : Nat) (x1 : Int) (x2 : Int) (x3 : Int) (h : Zm) (Q : Int → Zm → Prop) : Prop :=
  cGr h 16 a0 0 fun r3 => cGi h 14 r3 0 fun v4 => cLt x3 v4
  (cRc h 16 a0 <| mX6_separateAt a0 x3 x2 h fun h5 => cGr h5 16 a0 4 fun r6 => cGr h5 13 r6 1 fun r7 => mX6_sumOf r7 h5 fun v9 h8 => mJ9_max_7cf53 x1 v9 h8 fun v11 h10 => X17 v11 (x3 + 1) h10)
  (X4 x1 (x2 + 1) h)
def mX6_neededLimit_H17 (X4 : Int → Int → Zm → Prop) (a0 : Nat) (x1 : Int) (x2 : Int) (x3 : Int) (h : Zm) (Q : Int → Zm → Prop) : Prop :=
  lfp2 (fun X17 x1 x3 h => mX6_neededLimit_B17 X4 X17 a0 x1 x2 x3 h Q) x1 x3 h
def mX6_neededLimit_B4 (X4 : Int → Int → Zm → Prop) (a0 : Nat) (x1 : Int) (x2 : Int) (h : Zm) (Q : Int → Zm → Prop) : Prop :=
  cGr h 16 a0 0 fun r1 => cGi h 14 r1 1 fun v2 => cLt x2 v2
  (mX6_neededLimit_H17 X4 a0 x1 x2 0 h Q)
  (Q x1 h)
def mX6_neededLimit_H4  (a0 : Nat) (x1 : Int) (x2 : Int) (h : Zm) (Q : Int → Zm → Prop) : Prop :=
  lfp2 (fun X4 x1 x2 h => mX6_neededLimit_B4 X4 a0 x1 x2 h Q) x1 x2 h
def mX6_neededLimit (a0 : Nat) (h : Zm) (Q : Int → Zm → Prop) : Prop :=
  mX6_neededLimit_H4  a0 0 0 h Q
section
variable {p : Program} {l : Launch} {e : Env} {s : State} {m : MethodId} {args : Array Value} {below : List Frame} {meth : Method} {c : Code} {D : Zd} {base : Nat}
set_option maxRecDepth 100000 in
set_option maxHeartbeats 4000000 in
theorem rX6_neededLimit_B17 (hc : zOk p s m args meth c D cX6_neededLimit 4 RX6 (some .int)) {X4 : Int → Int → Zm → Prop} {X17 : Int → Int → Zm → Prop} {a0 : Nat} {x1 : Int} {x2 : Int} {x3 : Int} {h : Zm} {Q : Int → Zm → Prop} (hX4 : ∀ (x1 : Int) (x2 : Int) (h : Zm), X4 x1 x2 h → zW p l e zrX6_neededLimit s m args below meth c D base 4 (MQ below (zQi D base Q) args s 0 0 (zFree base)) 0 0 4 [some (.inr (.inl a0)), some (.inl x1), some (.inl x2), none] [] h) (hX17 : ∀ (x1 : Int) (x3 : Int) (h : Zm), X17 x1 x3 h → zW p l e zrX6_neededLimit s m args below meth c D base 4 (MQ below (zQi D base Q) args s 0 0 (zFree base)) 0 0 17 [some (.inr (.inl a0)), some (.inl x1), some (.inl x2), some (.inl x3)] [] h) (H : mX6_neededLimit_B17 X4 X17 a0 x1 x2 x3 h Q) : zW p l e zrX6_neededLimit s m args below meth c D base 4 (MQ below (zQi D base Q) args s 0 0 (zFree base)) 0 0 17 [some (.inr (.inl a0)), some (.inl x1), some (.inl x2), some (.inl x3)] [] h := by
  unfold mX6_neededLimit_B17 at H
  refine z_iload_n (pc := 17) hc dX6_neededLimit_17 rfl ?_
  refine z_aload_n (pc := 18) hc dX6_neededLimit_18 rfl ?_
  refine z_getR (pc := 19) hc dX6_neededLimit_19 zf_RX6_12 rfl rfl rfl H (fun r3 H => ?_)
  refine z_getI (pc := 22) hc dX6_neededLimit_22 zf_RX6_56 rfl rfl rfl H (fun v4 H => ?_)
  refine z_icmp_ge (tgt := 55) (pc := 25) hc dX6_neededLimit_25 rfl H (fun H => ?_) (fun H => ?_)
  · refine z_aload_n (pc := 28) hc dX6_neededLimit_28 rfl ?_
    refine z_iload_n (pc := 29) hc dX6_neededLimit_29 rfl ?_
    refine z_iload_n (pc := 30) hc dX6_neededLimit_30 rfl ?_
    refine z_calV0 (z_runV (pc := 31) (ci := 6) (T := TX6) (N := 8) hc dX6_neededLimit_31 zw_RX6_225 (metX6_separateAt _ _ _ H.2) rfl (Nat.le_of_ble_eq_true rfl) ⟨Nat.le_of_ble_eq_true rfl, Nat.le_of_ble_eq_true rfl⟩ ⟨by exact Nat.le_of_ble_eq_true rfl, by exact Nat.le_of_ble_eq_true rfl⟩ rfl H.1) rfl ⟨rfl, rfl⟩ (fun h5 H => ?_)
    refine z_iload_n (pc := 34) hc dX6_neededLimit_34 rfl ?_
    refine z_aload_n (pc := 35) hc dX6_neededLimit_35 rfl ?_
    refine z_getR (pc := 36) hc dX6_neededLimit_36 zf_RX6_34 rfl rfl rfl H (fun r6 H => ?_)
    refine z_getR (pc := 39) hc dX6_neededLimit_39 zf_RX6_273 rfl rfl rfl H (fun r7 H => ?_)
    refine z_calI (z_runS (pc := 42) hc dX6_neededLimit_42 zw_RX6_257 (metX6_sumOf _ _ _ H) rfl (Nat.le_of_ble_eq_true rfl) ⟨Nat.le_of_ble_eq_true rfl, Nat.le_of_ble_eq_true rfl⟩ ⟨by exact Nat.le_of_ble_eq_true rfl, by exact Nat.le_of_ble_eq_true rfl⟩) rfl ⟨rfl, rfl⟩ (fun v9 h8 H => ?_)
    refine z_calI (z_runS (pc := 45) hc dX6_neededLimit_45 zw_RX6_267 (metJ9_max_7cf53 _ _ _ H) rfl (Nat.le_of_ble_eq_true rfl) ⟨Nat.le_of_ble_eq_true rfl, Nat.le_of_ble_eq_true rfl⟩ ⟨by exact Nat.le_of_ble_eq_true rfl, by exact Nat.le_of_ble_eq_true rfl⟩) rfl ⟨rfl, rfl⟩ (fun v11 h10 H => ?_)
    refine z_istore_n (pc := 48) hc dX6_neededLimit_48 (by decide) (ρ' := [some (.inr (.inl a0)), some (.inl v11), some (.inl x2), some (.inl x3)]) rfl rfl ?_
    refine z_iinc (pc := 49) hc dX6_neededLimit_49 (by decide) rfl (ρ' := [some (.inr (.inl a0)), some (.inl v11), some (.inl x2), some (.inl (x3 + 1))]) rfl rfl ?_
    refine z_goto (tgt := 17) (pc := 52) hc dX6_neededLimit_52 rfl ?_
    exact hX17 _ _ _ H
  · refine z_iinc (pc := 55) hc dX6_neededLimit_55 (by decide) rfl (ρ' := [some (.inr (.inl a0)), some (.inl x1), some (.inl (x2 + 1)), some (.inl x3)]) rfl rfl ?_
    refine z_goto (tgt := 4) (pc := 58) hc dX6_neededLimit_58 rfl ?_
    refine z_mask [true, true, true, false] (ρ' := [some (.inr (.inl a0)), some (.inl x1), some (.inl (x2 + 1)), none]) rfl ?_
    exact hX4 _ _ _ H
theorem rX6_neededLimit_H17 (hc : zOk p s m args meth c D cX6_neededLimit 4 RX6 (some .int)) {X4 : Int → Int → Zm → Prop} {a0 : Nat} {x1 : Int} {x2 : Int} {x3 : Int} {h : Zm} {Q : Int → Zm → Prop} (hX4 : ∀ (x1 : Int) (x2 : Int) (h : Zm), X4 x1 x2 h → zW p l e zrX6_neededLimit s m args below meth c D base 4 (MQ below (zQi D base Q) args s 0 0 (zFree base)) 0 0 4 [some (.inr (.inl a0)), some (.inl x1), some (.inl x2), none] [] h) (H : mX6_neededLimit_H17 X4 a0 x1 x2 x3 h Q) : zW p l e zrX6_neededLimit s m args below meth c D base 4 (MQ below (zQi D base Q) args s 0 0 (zFree base)) 0 0 17 [some (.inr (.inl a0)), some (.inl x1), some (.inl x2), some (.inl x3)] [] h :=
  H (fun x1 x3 h => zW p l e zrX6_neededLimit s m args below meth c D base 4 (MQ below (zQi D base Q) args s 0 0 (zFree base)) 0 0 17 [some (.inr (.inl a0)), some (.inl x1), some (.inl x2), some (.inl x3)] [] h) (fun x1 x3 h H => rX6_neededLimit_B17 hc hX4 (fun _ _ _ q => q) H)
set_option maxRecDepth 100000 in
set_option maxHeartbeats 4000000 in
theorem rX6_neededLimit_B4 (hc : zOk p s m args meth c D cX6_neededLimit 4 RX6 (some .int)) {X4 : Int → Int → Zm → Prop} {a0 : Nat} {x1 : Int} {x2 : Int} {h : Zm} {Q : Int → Zm → Prop} (hX4 : ∀ (x1 : Int) (x2 : Int) (h : Zm), X4 x1 x2 h → zW p l e zrX6_neededLimit s m args below meth c D base 4 (MQ below (zQi D base Q) args s 0 0 (zFree base)) 0 0 4 [some (.inr (.inl a0)), some (.inl x1), some (.inl x2), none] [] h) (H : mX6_neededLimit_B4 X4 a0 x1 x2 h Q) : zW p l e zrX6_neededLimit s m args below meth c D base 4 (MQ below (zQi D base Q) args s 0 0 (zFree base)) 0 0 4 [some (.inr (.inl a0)), some (.inl x1), some (.inl x2), none] [] h := by
  unfold mX6_neededLimit_B4 at H
  refine z_iload_n (pc := 4) hc dX6_neededLimit_4 rfl ?_
  refine z_aload_n (pc := 5) hc dX6_neededLimit_5 rfl ?_
  refine z_getR (pc := 6) hc dX6_neededLimit_6 zf_RX6_12 rfl rfl rfl H (fun r1 H => ?_)
  refine z_getI (pc := 9) hc dX6_neededLimit_9 zf_RX6_59 rfl rfl rfl H (fun v2 H => ?_)
  refine z_icmp_ge (tgt := 61) (pc := 12) hc dX6_neededLimit_12 rfl H (fun H => ?_) (fun H => ?_)
  · refine z_iconst (pc := 15) hc dX6_neededLimit_15 ?_
    refine z_istore_n (pc := 16) hc dX6_neededLimit_16 (by decide) (ρ' := [some (.inr (.inl a0)), some (.inl x1), some (.inl x2), some (.inl 0)]) rfl rfl ?_
    exact rX6_neededLimit_H17 hc hX4 H
  · refine z_iload_n (pc := 61) hc dX6_neededLimit_61 rfl ?_
    exact z_ireturn (pc := 62) hc dX6_neededLimit_62 H
theorem rX6_neededLimit_H4 (hc : zOk p s m args meth c D cX6_neededLimit 4 RX6 (some .int))  {a0 : Nat} {x1 : Int} {x2 : Int} {h : Zm} {Q : Int → Zm → Prop}  (H : mX6_neededLimit_H4  a0 x1 x2 h Q) : zW p l e zrX6_neededLimit s m args below meth c D base 4 (MQ below (zQi D base Q) args s 0 0 (zFree base)) 0 0 4 [some (.inr (.inl a0)), some (.inl x1), some (.inl x2), none] [] h :=
  H (fun x1 x2 h => zW p l e zrX6_neededLimit s m args below meth c D base 4 (MQ below (zQi D base Q) args s 0 0 (zFree base)) 0 0 4 [some (.inr (.inl a0)), some (.inl x1), some (.inl x2), none] [] h) (fun x1 x2 h H => rX6_neededLimit_B4 hc (fun _ _ _ q => q) H)
set_option maxRecDepth 100000 in
set_option maxHeartbeats 4000000 in
theorem rX6_neededLimit (hc : zOk p s m args meth c D cX6_neededLimit 4 RX6 (some .int)) {a0 : Nat} {h : Zm} {Q : Int → Zm → Prop} (H : mX6_neededLimit a0 h Q) : zW p l e zrX6_neededLimit s m args below meth c D base 4 (MQ below (zQi D base Q) args s 0 0 (zFree base)) 0 0 0 [some (.inr (.inl a0)), none, none, none] [] h := by
  unfold mX6_neededLimit at H
  refine z_iconst (pc := 0) hc dX6_neededLimit_0 ?_
  refine z_istore_n (pc := 1) hc dX6_neededLimit_1 (by decide) (ρ' := [some (.inr (.inl a0)), some (.inl 0), none, none]) rfl rfl ?_
  refine z_iconst (pc := 2) hc dX6_neededLimit_2 ?_
  refine z_istore_n (pc := 3) hc dX6_neededLimit_3 (by decide) (ρ' := [some (.inr (.inl a0)), some (.inl 0), some (.inl 0), none]) rfl rfl ?_
  exact rX6_neededLimit_H4 hc H
end
theorem metX6_neededLimit (l : Launch) (D : Zd) (base : Nat) {a0 : Nat} {h : Zm} {Q : Int → Zm → Prop} (H : mX6_neededLimit a0 h Q) : zMet l D base yX6_neededLimit cX6_neededLimit 4 (some .int) zrX6_neededLimit [.inr (.inl a0)] h (zQi D base Q) :=
  z_met (by decide +kernel) (Nat.le_of_ble_eq_true rfl) rfl (fun p e s m args below meth c hc hn => rX6_neededLimit hc H)
def zrX6_disorderedPixels : Room := { frames := 6, cells := 0, slots := 0, locals := 141 }
def mX6_disorderedPixels_B17 (X4 : Int → Int → Zm → Prop) (X17 : Int → Int → Zm → Prop) (a0 : Nat) (x1 : Int) (x2 : Int) (x3 : Int) (h : Zm) (Q : Int → Zm → Prop) : Prop :=
  cGr h 16 a0 0 fun r3 => cGi h 14 r3 0 fun v4 => cLt x3 v4
  (cRc h 16 a0 <| mX6_separateAt a0 x3 x2 h fun h5 => cGr h5 16 a0 4 fun r6 => cRc h5 13 r6 <| mX3_isDisordered r6 h5 fun v8 h7 => cEq v8 0
    (X17 x1 (x3 + 1) h7)
    (X17 (x1 + 1) (x3 + 1) h7))
  (X4 x1 (x2 + 1) h)
def mX6_disorderedPixels_H17 (X4 : Int → Int → Zm → Prop) (a0 : Nat) (x1 : Int) (x2 : Int) (x3 : Int) (h : Zm) (Q : Int → Zm → Prop) : Prop :=
  lfp2 (fun X17 x1 x3 h => mX6_disorderedPixels_B17 X4 X17 a0 x1 x2 x3 h Q) x1 x3 h
def mX6_disorderedPixels_B4 (X4 : Int → Int → Zm → Prop) (a0 : Nat) (x1 : Int) (x2 : Int) (h : Zm) (Q : Int → Zm → Prop) : Prop :=
  cGr h 16 a0 0 fun r1 => cGi h 14 r1 1 fun v2 => cLt x2 v2
  (mX6_disorderedPixels_H17 X4 a0 x1 x2 0 h Q)
  (Q x1 h)
def mX6_disorderedPixels_H4  (a0 : Nat) (x1 : Int) (x2 : Int) (h : Zm) (Q : Int → Zm → Prop) : Prop :=
  lfp2 (fun X4 x1 x2 h => mX6_disorderedPixels_B4 X4 a0 x1 x2 h Q) x1 x2 h
def mX6_disorderedPixels (a0 : Nat) (h : Zm) (Q : Int → Zm → Prop) : Prop :=
  mX6_disorderedPixels_H4  a0 0 0 h Q
section
variable {p : Program} {l : Launch} {e : Env} {s : State} {m : MethodId} {args : Array Value} {below : List Frame} {meth : Method} {c : Code} {D : Zd} {base : Nat}
set_option maxRecDepth 100000 in
set_option maxHeartbeats 4000000 in
theorem rX6_disorderedPixels_B17 (hc : zOk p s m args meth c D cX6_disorderedPixels 4 RX6 (some .int)) {X4 : Int → Int → Zm → Prop} {X17 : Int → Int → Zm → Prop} {a0 : Nat} {x1 : Int} {x2 : Int} {x3 : Int} {h : Zm} {Q : Int → Zm → Prop} (hX4 : ∀ (x1 : Int) (x2 : Int) (h : Zm), X4 x1 x2 h → zW p l e zrX6_disorderedPixels s m args below meth c D base 4 (MQ below (zQi D base Q) args s 0 0 (zFree base)) 0 0 4 [some (.inr (.inl a0)), some (.inl x1), some (.inl x2), none] [] h) (hX17 : ∀ (x1 : Int) (x3 : Int) (h : Zm), X17 x1 x3 h → zW p l e zrX6_disorderedPixels s m args below meth c D base 4 (MQ below (zQi D base Q) args s 0 0 (zFree base)) 0 0 17 [some (.inr (.inl a0)), some (.inl x1), some (.inl x2), some (.inl x3)] [] h) (H : mX6_disorderedPixels_B17 X4 X17 a0 x1 x2 x3 h Q) : zW p l e zrX6_disorderedPixels s m args below meth c D base 4 (MQ below (zQi D base Q) args s 0 0 (zFree base)) 0 0 17 [some (.inr (.inl a0)), some (.inl x1), some (.inl x2), some (.inl x3)] [] h := by
  unfold mX6_disorderedPixels_B17 at H
  refine z_iload_n (pc := 17) hc dX6_disorderedPixels_17 rfl ?_
  refine z_aload_n (pc := 18) hc dX6_disorderedPixels_18 rfl ?_
  refine z_getR (pc := 19) hc dX6_disorderedPixels_19 zf_RX6_12 rfl rfl rfl H (fun r3 H => ?_)
  refine z_getI (pc := 22) hc dX6_disorderedPixels_22 zf_RX6_56 rfl rfl rfl H (fun v4 H => ?_)
  refine z_icmp_ge (tgt := 53) (pc := 25) hc dX6_disorderedPixels_25 rfl H (fun H => ?_) (fun H => ?_)
  · refine z_aload_n (pc := 28) hc dX6_disorderedPixels_28 rfl ?_
    refine z_iload_n (pc := 29) hc dX6_disorderedPixels_29 rfl ?_
    refine z_iload_n (pc := 30) hc dX6_disorderedPixels_30 rfl ?_
    refine z_calV0 (z_runV (pc := 31) (ci := 6) (T := TX6) (N := 8) hc dX6_disorderedPixels_31 zw_RX6_225 (metX6_separateAt _ _ _ H.2) rfl (Nat.le_of_ble_eq_true rfl) ⟨Nat.le_of_ble_eq_true rfl, Nat.le_of_ble_eq_true rfl⟩ ⟨by exact Nat.le_of_ble_eq_true rfl, by exact Nat.le_of_ble_eq_true rfl⟩ rfl H.1) rfl ⟨rfl, rfl⟩ (fun h5 H => ?_)
    refine z_aload_n (pc := 34) hc dX6_disorderedPixels_34 rfl ?_
    refine z_getR (pc := 35) hc dX6_disorderedPixels_35 zf_RX6_34 rfl rfl rfl H (fun r6 H => ?_)
    refine z_calI (z_runV (pc := 38) (ci := 3) (T := TX3) (N := 3) hc dX6_disorderedPixels_38 zw_RX6_294 (metX3_isDisordered _ _ _ H.2) rfl (Nat.le_of_ble_eq_true rfl) ⟨Nat.le_of_ble_eq_true rfl, Nat.le_of_ble_eq_true rfl⟩ ⟨by exact Nat.le_of_ble_eq_true rfl, by exact Nat.le_of_ble_eq_true rfl⟩ rfl H.1) rfl ⟨rfl, rfl⟩ (fun v8 h7 H => ?_)
    refine z_if_eq (tgt := 47) (pc := 41) hc dX6_disorderedPixels_41 rfl H (fun H => ?_) (fun H => ?_)
    · refine z_iinc (pc := 47) hc dX6_disorderedPixels_47 (by decide) rfl (ρ' := [some (.inr (.inl a0)), some (.inl x1), some (.inl x2), some (.inl (x3 + 1))]) rfl rfl ?_
      refine z_goto (tgt := 17) (pc := 50) hc dX6_disorderedPixels_50 rfl ?_
      exact hX17 _ _ _ H
    · refine z_iinc (pc := 44) hc dX6_disorderedPixels_44 (by decide) rfl (ρ' := [some (.inr (.inl a0)), some (.inl (x1 + 1)), some (.inl x2), some (.inl x3)]) rfl rfl ?_
      refine z_iinc (pc := 47) hc dX6_disorderedPixels_47 (by decide) rfl (ρ' := [some (.inr (.inl a0)), some (.inl (x1 + 1)), some (.inl x2), some (.inl (x3 + 1))]) rfl rfl ?_
      refine z_goto (tgt := 17) (pc := 50) hc dX6_disorderedPixels_50 rfl ?_
      exact hX17 _ _ _ H
  · refine z_iinc (pc := 53) hc dX6_disorderedPixels_53 (by decide) rfl (ρ' := [some (.inr (.inl a0)), some (.inl x1), some (.inl (x2 + 1)), some (.inl x3)]) rfl rfl ?_
    refine z_goto (tgt := 4) (pc := 56) hc dX6_disorderedPixels_56 rfl ?_
    refine z_mask [true, true, true, false] (ρ' := [some (.inr (.inl a0)), some (.inl x1), some (.inl (x2 + 1)), none]) rfl ?_
    exact hX4 _ _ _ H
theorem rX6_disorderedPixels_H17 (hc : zOk p s m args meth c D cX6_disorderedPixels 4 RX6 (some .int)) {X4 : Int → Int → Zm → Prop} {a0 : Nat} {x1 : Int} {x2 : Int} {x3 : Int} {h : Zm} {Q : Int → Zm → Prop} (hX4 : ∀ (x1 : Int) (x2 : Int) (h : Zm), X4 x1 x2 h → zW p l e zrX6_disorderedPixels s m args below meth c D base 4 (MQ below (zQi D base Q) args s 0 0 (zFree base)) 0 0 4 [some (.inr (.inl a0)), some (.inl x1), some (.inl x2), none] [] h) (H : mX6_disorderedPixels_H17 X4 a0 x1 x2 x3 h Q) : zW p l e zrX6_disorderedPixels s m args below meth c D base 4 (MQ below (zQi D base Q) args s 0 0 (zFree base)) 0 0 17 [some (.inr (.inl a0)), some (.inl x1), some (.inl x2), some (.inl x3)] [] h :=
  H (fun x1 x3 h => zW p l e zrX6_disorderedPixels s m args below meth c D base 4 (MQ below (zQi D base Q) args s 0 0 (zFree base)) 0 0 17 [some (.inr (.inl a0)), some (.inl x1), some (.inl x2), some (.inl x3)] [] h) (fun x1 x3 h H => rX6_disorderedPixels_B17 hc hX4 (fun _ _ _ q => q) H)
set_option maxRecDepth 100000 in
set_option maxHeartbeats 4000000 in
theorem rX6_disorderedPixels_B4 (hc : zOk p s m args meth c D cX6_disorderedPixels 4 RX6 (some .int)) {X4 : Int → Int → Zm → Prop} {a0 : Nat} {x1 : Int} {x2 : Int} {h : Zm} {Q : Int → Zm → Prop} (hX4 : ∀ (x1 : Int) (x2 : Int) (h : Zm), X4 x1 x2 h → zW p l e zrX6_disorderedPixels s m args below meth c D base 4 (MQ below (zQi D base Q) args s 0 0 (zFree base)) 0 0 4 [some (.inr (.inl a0)), some (.inl x1), some (.inl x2), none] [] h) (H : mX6_disorderedPixels_B4 X4 a0 x1 x2 h Q) : zW p l e zrX6_disorderedPixels s m args below meth c D base 4 (MQ below (zQi D base Q) args s 0 0 (zFree base)) 0 0 4 [some (.inr (.inl a0)), some (.inl x1), some (.inl x2), none] [] h := by
  unfold mX6_disorderedPixels_B4 at H
  refine z_iload_n (pc := 4) hc dX6_disorderedPixels_4 rfl ?_
  refine z_aload_n (pc := 5) hc dX6_disorderedPixels_5 rfl ?_
  refine z_getR (pc := 6) hc dX6_disorderedPixels_6 zf_RX6_12 rfl rfl rfl H (fun r1 H => ?_)
  refine z_getI (pc := 9) hc dX6_disorderedPixels_9 zf_RX6_59 rfl rfl rfl H (fun v2 H => ?_)
  refine z_icmp_ge (tgt := 59) (pc := 12) hc dX6_disorderedPixels_12 rfl H (fun H => ?_) (fun H => ?_)
  · refine z_iconst (pc := 15) hc dX6_disorderedPixels_15 ?_
    refine z_istore_n (pc := 16) hc dX6_disorderedPixels_16 (by decide) (ρ' := [some (.inr (.inl a0)), some (.inl x1), some (.inl x2), some (.inl 0)]) rfl rfl ?_
    exact rX6_disorderedPixels_H17 hc hX4 H
  · refine z_iload_n (pc := 59) hc dX6_disorderedPixels_59 rfl ?_
    exact z_ireturn (pc := 60) hc dX6_disorderedPixels_60 H
theorem rX6_disorderedPixels_H4 (hc : zOk p s m args meth c D cX6_disorderedPixels 4 RX6 (some .int))  {a0 : Nat} {x1 : Int} {x2 : Int} {h : Zm} {Q : Int → Zm → Prop}  (H : mX6_disorderedPixels_H4  a0 x1 x2 h Q) : zW p l e zrX6_disorderedPixels s m args below meth c D base 4 (MQ below (zQi D base Q) args s 0 0 (zFree base)) 0 0 4 [some (.inr (.inl a0)), some (.inl x1), some (.inl x2), none] [] h :=
  H (fun x1 x2 h => zW p l e zrX6_disorderedPixels s m args below meth c D base 4 (MQ below (zQi D base Q) args s 0 0 (zFree base)) 0 0 4 [some (.inr (.inl a0)), some (.inl x1), some (.inl x2), none] [] h) (fun x1 x2 h H => rX6_disorderedPixels_B4 hc (fun _ _ _ q => q) H)
set_option maxRecDepth 100000 in
set_option maxHeartbeats 4000000 in
theorem rX6_disorderedPixels (hc : zOk p s m args meth c D cX6_disorderedPixels 4 RX6 (some .int)) {a0 : Nat} {h : Zm} {Q : Int → Zm → Prop} (H : mX6_disorderedPixels a0 h Q) : zW p l e zrX6_disorderedPixels s m args below meth c D base 4 (MQ below (zQi D base Q) args s 0 0 (zFree base)) 0 0 0 [some (.inr (.inl a0)), none, none, none] [] h := by
  unfold mX6_disorderedPixels at H
  refine z_iconst (pc := 0) hc dX6_disorderedPixels_0 ?_
  refine z_istore_n (pc := 1) hc dX6_disorderedPixels_1 (by decide) (ρ' := [some (.inr (.inl a0)), some (.inl 0), none, none]) rfl rfl ?_
  refine z_iconst (pc := 2) hc dX6_disorderedPixels_2 ?_
  refine z_istore_n (pc := 3) hc dX6_disorderedPixels_3 (by decide) (ρ' := [some (.inr (.inl a0)), some (.inl 0), some (.inl 0), none]) rfl rfl ?_
  exact rX6_disorderedPixels_H4 hc H
end
theorem metX6_disorderedPixels (l : Launch) (D : Zd) (base : Nat) {a0 : Nat} {h : Zm} {Q : Int → Zm → Prop} (H : mX6_disorderedPixels a0 h Q) : zMet l D base yX6_disorderedPixels cX6_disorderedPixels 4 (some .int) zrX6_disorderedPixels [.inr (.inl a0)] h (zQi D base Q) :=
  z_met (by decide +kernel) (Nat.le_of_ble_eq_true rfl) rfl (fun p e s m args below meth c hc hn => rX6_disorderedPixels hc H)
def zrL_cell : Room := { frames := 0, cells := 0, slots := 0, locals := 0 }
def mL_cell (L : Nat) (sc : Int → Int) (a0 : Nat) (x1 : Int) (h : Zm) (Q : Int → Zm → Prop) : Prop :=
  cLt x1 (L : Int)
  (cSld L sc x1 fun v1 => Q v1 h)
  (Q (40503 * (x1 + 3)) h)
section
variable {p : Program} {l : Launch} {e : Env} {s : State} {m : MethodId} {args : Array Value} {below : List Frame} {meth : Method} {c : Code} {D : Zd} {base : Nat}
set_option maxRecDepth 100000 in
set_option maxHeartbeats 4000000 in
theorem rL_cell (hc : zOk p s m args meth c D cL_cell 2 RL (some .int)) {a0 L : Nat} {sc : Int → Int} (hX0 : zScr s base L sc a0) {x1 : Int} {h : Zm} {Q : Int → Zm → Prop} (H : mL_cell L sc a0 x1 h Q) : zW p l e zrL_cell s m args below meth c D base 2 (MQ below (zQi D base Q) args s 0 0 (zFree base)) 0 0 0 [some (.inr (.inl a0)), some (.inl x1)] [] h := by
  unfold mL_cell at H
  refine z_iload_n (pc := 0) hc dL_cell_0 rfl ?_
  refine z_aload_n (pc := 1) hc dL_cell_1 rfl ?_
  refine z_slen (pc := 2) hc hX0 dL_cell_2 ?_
  refine z_icmp_ge (tgt := 12) (pc := 3) hc dL_cell_3 rfl H (fun H => ?_) (fun H => ?_)
  · refine z_aload_n (pc := 6) hc dL_cell_6 rfl ?_
    refine z_iload_n (pc := 7) hc dL_cell_7 rfl ?_
    refine z_sld (pc := 8) hc hX0 dL_cell_8 H (fun v1 H => ?_)
    refine z_goto (tgt := 18) (pc := 9) hc dL_cell_9 rfl ?_
    exact z_ireturn (pc := 18) hc dL_cell_18 H
  · refine z_ldc (n := 40503) (pc := 12) hc dL_cell_12 (zT_mem 435 (by decide +kernel) rfl) ?_
    refine z_iload_n (pc := 14) hc dL_cell_14 rfl ?_
    refine z_iconst (pc := 15) hc dL_cell_15 ?_
    refine z_iadd (pc := 16) hc dL_cell_16 ?_
    refine z_imul (pc := 17) hc dL_cell_17 ?_
    exact z_ireturn (pc := 18) hc dL_cell_18 H
end
theorem metL_cell (l : Launch) (D : Zd) (base : Nat) {L : Nat} {sc : Int → Int} {a0 : Nat} {x1 : Int} {h : Zm} {Q : Int → Zm → Prop} (H : mL_cell L sc a0 x1 h Q) : zMetX l D base L sc a0 yL_cell cL_cell 2 (some .int) zrL_cell [.inr (.inl a0), .inl x1] h (zQi D base Q) :=
  z_metX (by decide +kernel) (Nat.le_of_ble_eq_true rfl) rfl (fun p e s m args below meth c hc hX0 => rL_cell hc hX0 H)
def zrL_low : Room := { frames := 0, cells := 0, slots := 0, locals := 0 }
def mL_low (x0 : Int) (x1 : Int) (h : Zm) (Q : Int → Zm → Prop) : Prop :=
  cAnd x0 2147483648 fun v1 => cRem v1 x1 fun v2 => Q v2 h
section
variable {p : Program} {l : Launch} {e : Env} {s : State} {m : MethodId} {args : Array Value} {below : List Frame} {meth : Method} {c : Code} {D : Zd} {base : Nat}
set_option maxRecDepth 100000 in
set_option maxHeartbeats 4000000 in
theorem rL_low (hc : zOk p s m args meth c D cL_low 2 RL (some .int)) {x0 : Int} {x1 : Int} {h : Zm} {Q : Int → Zm → Prop} (H : mL_low x0 x1 h Q) : zW p l e zrL_low s m args below meth c D base 2 (MQ below (zQi D base Q) args s 0 0 (zFree base)) 0 0 0 [some (.inl x0), some (.inl x1)] [] h := by
  unfold mL_low at H
  refine z_iload_n (pc := 0) hc dL_low_0 rfl ?_
  refine z_ldc (n := 2147483647) (pc := 1) hc dL_low_1 (zT_mem 439 (by decide +kernel) rfl) ?_
  refine z_iand (n := 2147483648) (pc := 3) hc 31 (by decide) rfl (by decide) dL_low_3 H (fun v1 H => ?_)
  refine z_iload_n (pc := 4) hc dL_low_4 rfl ?_
  refine z_irem (pc := 5) hc dL_low_5 H (fun v2 H => ?_)
  exact z_ireturn (pc := 6) hc dL_low_6 H
end
theorem metL_low (l : Launch) (D : Zd) (base : Nat) {x0 : Int} {x1 : Int} {h : Zm} {Q : Int → Zm → Prop} (H : mL_low x0 x1 h Q) : zMet l D base yL_low cL_low 2 (some .int) zrL_low [.inl x0, .inl x1] h (zQi D base Q) :=
  z_met (by decide +kernel) (Nat.le_of_ble_eq_true rfl) rfl (fun p e s m args below meth c hc hn => rL_low hc H)
def zrL_down : Room := { frames := 0, cells := 0, slots := 0, locals := 0 }
def mL_down (x0 : Int) (x1 : Int) (h : Zm) (Q : Int → Zm → Prop) : Prop :=
  cRem x0 x1 fun v1 => cLt v1 0
  (cDiv (x0 - (v1 + x1)) x1 fun v3 => Q v3 h)
  (cDiv (x0 - v1) x1 fun v2 => Q v2 h)
section
variable {p : Program} {l : Launch} {e : Env} {s : State} {m : MethodId} {args : Array Value} {below : List Frame} {meth : Method} {c : Code} {D : Zd} {base : Nat}
set_option maxRecDepth 100000 in
set_option maxHeartbeats 4000000 in
theorem rL_down (hc : zOk p s m args meth c D cL_down 3 RL (some .int)) {x0 : Int} {x1 : Int} {h : Zm} {Q : Int → Zm → Prop} (H : mL_down x0 x1 h Q) : zW p l e zrL_down s m args below meth c D base 3 (MQ below (zQi D base Q) args s 0 0 (zFree base)) 0 0 0 [some (.inl x0), some (.inl x1), none] [] h := by
  unfold mL_down at H
  refine z_iload_n (pc := 0) hc dL_down_0 rfl ?_
  refine z_iload_n (pc := 1) hc dL_down_1 rfl ?_
  refine z_irem (pc := 2) hc dL_down_2 H (fun v1 H => ?_)
  refine z_istore_n (pc := 3) hc dL_down_3 (by decide) (ρ' := [some (.inl x0), some (.inl x1), some (.inl v1)]) rfl rfl ?_
  refine z_iload_n (pc := 4) hc dL_down_4 rfl ?_
  refine z_iload_n (pc := 5) hc dL_down_5 rfl ?_
  refine z_if_ge (tgt := 15) (pc := 6) hc dL_down_6 rfl H (fun H => ?_) (fun H => ?_)
  · refine z_iload_n (pc := 9) hc dL_down_9 rfl ?_
    refine z_iload_n (pc := 10) hc dL_down_10 rfl ?_
    refine z_iadd (pc := 11) hc dL_down_11 ?_
    refine z_goto (tgt := 16) (pc := 12) hc dL_down_12 rfl ?_
    refine z_isub (pc := 16) hc dL_down_16 ?_
    refine z_iload_n (pc := 17) hc dL_down_17 rfl ?_
    refine z_idiv (pc := 18) hc dL_down_18 H (fun v3 H => ?_)
    exact z_ireturn (pc := 19) hc dL_down_19 H
  · refine z_iload_n (pc := 15) hc dL_down_15 rfl ?_
    refine z_isub (pc := 16) hc dL_down_16 ?_
    refine z_iload_n (pc := 17) hc dL_down_17 rfl ?_
    refine z_idiv (pc := 18) hc dL_down_18 H (fun v2 H => ?_)
    exact z_ireturn (pc := 19) hc dL_down_19 H
end
theorem metL_down (l : Launch) (D : Zd) (base : Nat) {x0 : Int} {x1 : Int} {h : Zm} {Q : Int → Zm → Prop} (H : mL_down x0 x1 h Q) : zMet l D base yL_down cL_down 3 (some .int) zrL_down [.inl x0, .inl x1] h (zQi D base Q) :=
  z_met (by decide +kernel) (Nat.le_of_ble_eq_true rfl) rfl (fun p e s m args below meth c hc hn => rL_down hc H)
def zrL_begins : Room := { frames := 0, cells := 0, slots := 0, locals := 0 }
def mL_begins_B3 (X3 : Int → Zm → Prop) (a0 : Nat) (a1 : Nat) (a3 : Nat) (x5 : Int) (h : Zm) (Q : Zm → Prop) : Prop :=
  cLt x5 24
  (cSt h a0 x5 (-1) fun h4 => X3 (x5 + 1) h4)
  (cSt h a0 0 0 fun h1 => cSt h1 a1 0 (-1) fun h2 => cSt h2 a3 0 50788 fun h3 => Q h3)
def mL_begins_H3  (a0 : Nat) (a1 : Nat) (a3 : Nat) (x5 : Int) (h : Zm) (Q : Zm → Prop) : Prop :=
  lfp1 (fun X3 x5 h => mL_begins_B3 X3 a0 a1 a3 x5 h Q) x5 h
def mL_begins (a0 : Nat) (a1 : Nat) (a2 : Nat) (a3 : Nat) (a4 : Nat) (h : Zm) (Q : Zm → Prop) : Prop :=
  mL_begins_H3  a0 a1 a3 0 h Q
section
variable {p : Program} {l : Launch} {e : Env} {s : State} {m : MethodId} {args : Array Value} {below : List Frame} {meth : Method} {c : Code} {D : Zd} {base : Nat}
set_option maxRecDepth 100000 in
set_option maxHeartbeats 4000000 in
theorem rL_begins_B3 (hc : zOk p s m args meth c D cL_begins 6 RL none) {X3 : Int → Zm → Prop} {a0 : Nat} {a1 : Nat} {a3 : Nat} {x5 : Int} {h : Zm} {Q : Zm → Prop} (hX3 : ∀ (x5 : Int) (h : Zm), X3 x5 h → zW p l e zrL_begins s m args below meth c D base 6 (MQ below (zQv D base Q) args s 0 0 (zFree base)) 0 0 3 [some (.inr (.inl a0)), some (.inr (.inl a1)), none, some (.inr (.inl a3)), none, some (.inl x5)] [] h) (H : mL_begins_B3 X3 a0 a1 a3 x5 h Q) : zW p l e zrL_begins s m args below meth c D base 6 (MQ below (zQv D base Q) args s 0 0 (zFree base)) 0 0 3 [some (.inr (.inl a0)), some (.inr (.inl a1)), none, some (.inr (.inl a3)), none, some (.inl x5)] [] h := by
  unfold mL_begins_B3 at H
  refine z_iload (pc := 3) hc dL_begins_3 rfl ?_
  refine z_bipush (pc := 5) hc dL_begins_5 (by decide) ?_
  refine z_icmp_ge (tgt := 21) (pc := 7) hc dL_begins_7 rfl H (fun H => ?_) (fun H => ?_)
  · refine z_aload_n (pc := 10) hc dL_begins_10 rfl ?_
    refine z_iload (pc := 11) hc dL_begins_11 rfl ?_
    refine z_iconst (pc := 13) hc dL_begins_13 ?_
    refine z_iastore (pc := 14) hc dL_begins_14 H (fun h4 H => ?_)
    refine z_iinc (pc := 15) hc dL_begins_15 (by decide) rfl (ρ' := [some (.inr (.inl a0)), some (.inr (.inl a1)), none, some (.inr (.inl a3)), none, some (.inl (x5 + 1))]) rfl rfl ?_
    refine z_goto (tgt := 3) (pc := 18) hc dL_begins_18 rfl ?_
    exact hX3 _ _ H
  · refine z_aload_n (pc := 21) hc dL_begins_21 rfl ?_
    refine z_iconst (pc := 22) hc dL_begins_22 ?_
    refine z_iconst (pc := 23) hc dL_begins_23 ?_
    refine z_iastore (pc := 24) hc dL_begins_24 H (fun h1 H => ?_)
    refine z_aload_n (pc := 25) hc dL_begins_25 rfl ?_
    refine z_iconst (pc := 26) hc dL_begins_26 ?_
    refine z_iconst (pc := 27) hc dL_begins_27 ?_
    refine z_iastore (pc := 28) hc dL_begins_28 H (fun h2 H => ?_)
    refine z_aload_n (pc := 29) hc dL_begins_29 rfl ?_
    refine z_iconst (pc := 30) hc dL_begins_30 ?_
    refine z_ldc (n := 50788) (pc := 31) hc dL_begins_31 (zT_mem 443 (by decide +kernel) rfl) ?_
    refine z_iastore (pc := 33) hc dL_begins_33 H (fun h3 H => ?_)
    exact z_return (pc := 34) hc dL_begins_34 H
theorem rL_begins_H3 (hc : zOk p s m args meth c D cL_begins 6 RL none)  {a0 : Nat} {a1 : Nat} {a3 : Nat} {x5 : Int} {h : Zm} {Q : Zm → Prop}  (H : mL_begins_H3  a0 a1 a3 x5 h Q) : zW p l e zrL_begins s m args below meth c D base 6 (MQ below (zQv D base Q) args s 0 0 (zFree base)) 0 0 3 [some (.inr (.inl a0)), some (.inr (.inl a1)), none, some (.inr (.inl a3)), none, some (.inl x5)] [] h :=
  H (fun x5 h => zW p l e zrL_begins s m args below meth c D base 6 (MQ below (zQv D base Q) args s 0 0 (zFree base)) 0 0 3 [some (.inr (.inl a0)), some (.inr (.inl a1)), none, some (.inr (.inl a3)), none, some (.inl x5)] [] h) (fun x5 h H => rL_begins_B3 hc (fun _ _ q => q) H)
set_option maxRecDepth 100000 in
set_option maxHeartbeats 4000000 in
theorem rL_begins (hc : zOk p s m args meth c D cL_begins 6 RL none) {a0 : Nat} {a1 : Nat} {a2 : Nat} {a3 : Nat} {a4 : Nat} {h : Zm} {Q : Zm → Prop} (H : mL_begins a0 a1 a2 a3 a4 h Q) : zW p l e zrL_begins s m args below meth c D base 6 (MQ below (zQv D base Q) args s 0 0 (zFree base)) 0 0 0 [some (.inr (.inl a0)), some (.inr (.inl a1)), some (.inr (.inl a2)), some (.inr (.inl a3)), some (.inr (.inl a4)), none] [] h := by
  unfold mL_begins at H
  refine z_iconst (pc := 0) hc dL_begins_0 ?_
  refine z_istore (pc := 1) hc dL_begins_1 (by decide) (ρ' := [some (.inr (.inl a0)), some (.inr (.inl a1)), some (.inr (.inl a2)), some (.inr (.inl a3)), some (.inr (.inl a4)), some (.inl 0)]) rfl rfl ?_
  refine z_mask [true, true, false, true, false, true] (ρ' := [some (.inr (.inl a0)), some (.inr (.inl a1)), none, some (.inr (.inl a3)), none, some (.inl 0)]) rfl ?_
  exact rL_begins_H3 hc H
end
theorem metL_begins (l : Launch) (D : Zd) (base : Nat) {a0 : Nat} {a1 : Nat} {a2 : Nat} {a3 : Nat} {a4 : Nat} {h : Zm} {Q : Zm → Prop} (H : mL_begins a0 a1 a2 a3 a4 h Q) : zMet l D base yL_begins cL_begins 6 none zrL_begins [.inr (.inl a0), .inr (.inl a1), .inr (.inl a2), .inr (.inl a3), .inr (.inl a4)] h (zQv D base Q) :=
  z_met (by decide +kernel) (Nat.le_of_ble_eq_true rfl) rfl (fun p e s m args below meth c hc hn => rL_begins hc H)
def zrL_depthOf : Room := { frames := 0, cells := 0, slots := 0, locals := 0 }
def mL_depthOf_B4 (X4 : Int → Int → Zm → Prop) (a0 : Nat) (x2 : Int) (x3 : Int) (h : Zm) (Q : Int → Zm → Prop) : Prop :=
  cLe x3 0
  (Q x2 h)
  (cLd h 1 a0 x3 fun v1 => X4 (x2 + 1) v1 h)
def mL_depthOf_H4  (a0 : Nat) (x2 : Int) (x3 : Int) (h : Zm) (Q : Int → Zm → Prop) : Prop :=
  lfp2 (fun X4 x2 x3 h => mL_depthOf_B4 X4 a0 x2 x3 h Q) x2 x3 h
def mL_depthOf (a0 : Nat) (x1 : Int) (h : Zm) (Q : Int → Zm → Prop) : Prop :=
  mL_depthOf_H4  a0 0 x1 h Q
section
variable {p : Program} {l : Launch} {e : Env} {s : State} {m : MethodId} {args : Array Value} {below : List Frame} {meth : Method} {c : Code} {D : Zd} {base : Nat}
set_option maxRecDepth 100000 in
set_option maxHeartbeats 4000000 in
theorem rL_depthOf_B4 (hc : zOk p s m args meth c D cL_depthOf 4 RL (some .int)) {X4 : Int → Int → Zm → Prop} {a0 : Nat} {x2 : Int} {x3 : Int} {h : Zm} {Q : Int → Zm → Prop} (hX4 : ∀ (x2 : Int) (x3 : Int) (h : Zm), X4 x2 x3 h → zW p l e zrL_depthOf s m args below meth c D base 4 (MQ below (zQi D base Q) args s 0 0 (zFree base)) 0 0 4 [some (.inr (.inl a0)), none, some (.inl x2), some (.inl x3)] [] h) (H : mL_depthOf_B4 X4 a0 x2 x3 h Q) : zW p l e zrL_depthOf s m args below meth c D base 4 (MQ below (zQi D base Q) args s 0 0 (zFree base)) 0 0 4 [some (.inr (.inl a0)), none, some (.inl x2), some (.inl x3)] [] h := by
  unfold mL_depthOf_B4 at H
  refine z_iload_n (pc := 4) hc dL_depthOf_4 rfl ?_
  refine z_if_le (tgt := 18) (pc := 5) hc dL_depthOf_5 rfl H (fun H => ?_) (fun H => ?_)
  · refine z_iload_n (pc := 18) hc dL_depthOf_18 rfl ?_
    exact z_ireturn (pc := 19) hc dL_depthOf_19 H
  · refine z_aload_n (pc := 8) hc dL_depthOf_8 rfl ?_
    refine z_iload_n (pc := 9) hc dL_depthOf_9 rfl ?_
    refine z_iaload (pc := 10) hc dL_depthOf_10 H (fun v1 H => ?_)
    refine z_istore_n (pc := 11) hc dL_depthOf_11 (by decide) (ρ' := [some (.inr (.inl a0)), none, some (.inl x2), some (.inl v1)]) rfl rfl ?_
    refine z_iinc (pc := 12) hc dL_depthOf_12 (by decide) rfl (ρ' := [some (.inr (.inl a0)), none, some (.inl (x2 + 1)), some (.inl v1)]) rfl rfl ?_
    refine z_goto (tgt := 4) (pc := 15) hc dL_depthOf_15 rfl ?_
    exact hX4 _ _ _ H
theorem rL_depthOf_H4 (hc : zOk p s m args meth c D cL_depthOf 4 RL (some .int))  {a0 : Nat} {x2 : Int} {x3 : Int} {h : Zm} {Q : Int → Zm → Prop}  (H : mL_depthOf_H4  a0 x2 x3 h Q) : zW p l e zrL_depthOf s m args below meth c D base 4 (MQ below (zQi D base Q) args s 0 0 (zFree base)) 0 0 4 [some (.inr (.inl a0)), none, some (.inl x2), some (.inl x3)] [] h :=
  H (fun x2 x3 h => zW p l e zrL_depthOf s m args below meth c D base 4 (MQ below (zQi D base Q) args s 0 0 (zFree base)) 0 0 4 [some (.inr (.inl a0)), none, some (.inl x2), some (.inl x3)] [] h) (fun x2 x3 h H => rL_depthOf_B4 hc (fun _ _ _ q => q) H)
set_option maxRecDepth 100000 in
set_option maxHeartbeats 4000000 in
theorem rL_depthOf (hc : zOk p s m args meth c D cL_depthOf 4 RL (some .int)) {a0 : Nat} {x1 : Int} {h : Zm} {Q : Int → Zm → Prop} (H : mL_depthOf a0 x1 h Q) : zW p l e zrL_depthOf s m args below meth c D base 4 (MQ below (zQi D base Q) args s 0 0 (zFree base)) 0 0 0 [some (.inr (.inl a0)), some (.inl x1), none, none] [] h := by
  unfold mL_depthOf at H
  refine z_iconst (pc := 0) hc dL_depthOf_0 ?_
  refine z_istore_n (pc := 1) hc dL_depthOf_1 (by decide) (ρ' := [some (.inr (.inl a0)), some (.inl x1), some (.inl 0), none]) rfl rfl ?_
  refine z_iload_n (pc := 2) hc dL_depthOf_2 rfl ?_
  refine z_istore_n (pc := 3) hc dL_depthOf_3 (by decide) (ρ' := [some (.inr (.inl a0)), some (.inl x1), some (.inl 0), some (.inl x1)]) rfl rfl ?_
  refine z_mask [true, false, true, true] (ρ' := [some (.inr (.inl a0)), none, some (.inl 0), some (.inl x1)]) rfl ?_
  exact rL_depthOf_H4 hc H
end
theorem metL_depthOf (l : Launch) (D : Zd) (base : Nat) {a0 : Nat} {x1 : Int} {h : Zm} {Q : Int → Zm → Prop} (H : mL_depthOf a0 x1 h Q) : zMet l D base yL_depthOf cL_depthOf 4 (some .int) zrL_depthOf [.inr (.inl a0), .inl x1] h (zQi D base Q) :=
  z_met (by decide +kernel) (Nat.le_of_ble_eq_true rfl) rfl (fun p e s m args below meth c hc hn => rL_depthOf hc H)
