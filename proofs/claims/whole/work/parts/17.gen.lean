/-! printed by gen.py: X7_free X7_comes X7_isOffset X7_addGroup X7_addRect X7_addSpot X7_setBox X7_setInk X7_countBelow X7_remove X7_move X7_isChild X7_children -/
def zrX7_free : Room := { frames := 1, cells := 0, slots := 0, locals := 22 }
def mX7_free_B6 (X6 : Int → Int → Zm → Prop) (a0 : Nat) (x1 : Int) (x2 : Int) (h : Zm) (Q : Int → Zm → Prop) : Prop :=
  cLe x2 0
  (Q x1 h)
  (cRc h 17 a0 <| mX7_of a0 x2 0 h fun v2 h1 => cLt v2 0
    (X6 x2 (x2 + (-1)) h1)
    (X6 x1 (x2 + (-1)) h1))
def mX7_free_H6  (a0 : Nat) (x1 : Int) (x2 : Int) (h : Zm) (Q : Int → Zm → Prop) : Prop :=
  lfp2 (fun X6 x1 x2 h => mX7_free_B6 X6 a0 x1 x2 h Q) x1 x2 h
def mX7_free (a0 : Nat) (h : Zm) (Q : Int → Zm → Prop) : Prop :=
  mX7_free_H6  a0 (-4) 23 h Q
section
variable {p : Program} {l : Launch} {e : Env} {s : State} {m : MethodId} {args : Array Value} {below : List Frame} {meth : Method} {c : Code} {D : Zd} {base : Nat}
set_option maxRecDepth 100000 in
set_option maxHeartbeats 4000000 in
theorem rX7_free_B6 (hc : zOk p s m args meth c D cX7_free 3 RX7 (some .int)) {X6 : Int → Int → Zm → Prop} {a0 : Nat} {x1 : Int} {x2 : Int} {h : Zm} {Q : Int → Zm → Prop} (hX6 : ∀ (x1 : Int) (x2 : Int) (h : Zm), X6 x1 x2 h → zW p l e zrX7_free s m args below meth c D base 3 (MQ below (zQi D base Q) args s 0 0 (zFree base)) 0 0 6 [some (.inr a0), some (.inl x1), some (.inl x2)] [] h) (H : mX7_free_B6 X6 a0 x1 x2 h Q) : zW p l e zrX7_free s m args below meth c D base 3 (MQ below (zQi D base Q) args s 0 0 (zFree base)) 0 0 6 [some (.inr a0), some (.inl x1), some (.inl x2)] [] h := by
  unfold mX7_free_B6 at H
  refine z_iload_n (pc := 6) hc dX7_free_6 rfl ?_
  refine z_if_le (tgt := 31) (pc := 7) hc dX7_free_7 rfl H (fun H => ?_) (fun H => ?_)
  · refine z_iload_n (pc := 31) hc dX7_free_31 rfl ?_
    exact z_ireturn (pc := 32) hc dX7_free_32 H
  · refine z_aload_n (pc := 10) hc dX7_free_10 rfl ?_
    refine z_iload_n (pc := 11) hc dX7_free_11 rfl ?_
    refine z_iconst (pc := 12) hc dX7_free_12 ?_
    refine z_calI (z_runV (pc := 13) (ci := 7) (T := TX7) (N := 20) hc dX7_free_13 zw_RX7_77 (metX7_of _ _ _ H.2) rfl (Nat.le_of_ble_eq_true rfl) ⟨Nat.le_of_ble_eq_true rfl, Nat.le_of_ble_eq_true rfl⟩ ⟨by exact Nat.le_of_ble_eq_true rfl, by exact Nat.le_of_ble_eq_true rfl⟩ rfl H.1) rfl ⟨rfl, rfl⟩ (fun v2 h1 H => ?_)
    refine z_if_ge (tgt := 23) (pc := 16) hc dX7_free_16 rfl H (fun H => ?_) (fun H => ?_)
    · refine z_iload_n (pc := 19) hc dX7_free_19 rfl ?_
      refine z_goto (tgt := 24) (pc := 20) hc dX7_free_20 rfl ?_
      refine z_istore_n (pc := 24) hc dX7_free_24 (by decide) (ρ' := [some (.inr a0), some (.inl x2), some (.inl x2)]) rfl ?_
      refine z_iinc (pc := 25) hc dX7_free_25 (by decide) rfl (ρ' := [some (.inr a0), some (.inl x2), some (.inl (x2 + (-1)))]) rfl ?_
      refine z_goto (tgt := 6) (pc := 28) hc dX7_free_28 rfl ?_
      exact hX6 _ _ _ H
    · refine z_iload_n (pc := 23) hc dX7_free_23 rfl ?_
      refine z_istore_n (pc := 24) hc dX7_free_24 (by decide) (ρ' := [some (.inr a0), some (.inl x1), some (.inl x2)]) rfl ?_
      refine z_iinc (pc := 25) hc dX7_free_25 (by decide) rfl (ρ' := [some (.inr a0), some (.inl x1), some (.inl (x2 + (-1)))]) rfl ?_
      refine z_goto (tgt := 6) (pc := 28) hc dX7_free_28 rfl ?_
      exact hX6 _ _ _ H
theorem rX7_free_H6 (hc : zOk p s m args meth c D cX7_free 3 RX7 (some .int))  {a0 : Nat} {x1 : Int} {x2 : Int} {h : Zm} {Q : Int → Zm → Prop}  (H : mX7_free_H6  a0 x1 x2 h Q) : zW p l e zrX7_free s m args below meth c D base 3 (MQ below (zQi D base Q) args s 0 0 (zFree base)) 0 0 6 [some (.inr a0), some (.inl x1), some (.inl x2)] [] h :=
  H (fun x1 x2 h => zW p l e zrX7_free s m args below meth c D base 3 (MQ below (zQi D base Q) args s 0 0 (zFree base)) 0 0 6 [some (.inr a0), some (.inl x1), some (.inl x2)] [] h) (fun x1 x2 h H => rX7_free_B6 hc (fun _ _ _ q => q) H)
set_option maxRecDepth 100000 in
set_option maxHeartbeats 4000000 in
theorem rX7_free (hc : zOk p s m args meth c D cX7_free 3 RX7 (some .int)) {a0 : Nat} {h : Zm} {Q : Int → Zm → Prop} (H : mX7_free a0 h Q) : zW p l e zrX7_free s m args below meth c D base 3 (MQ below (zQi D base Q) args s 0 0 (zFree base)) 0 0 0 [some (.inr a0), none, none] [] h := by
  unfold mX7_free at H
  refine z_bipush (pc := 0) hc dX7_free_0 (by decide) ?_
  refine z_istore_n (pc := 2) hc dX7_free_2 (by decide) (ρ' := [some (.inr a0), some (.inl (-4)), none]) rfl ?_
  refine z_bipush (pc := 3) hc dX7_free_3 (by decide) ?_
  refine z_istore_n (pc := 5) hc dX7_free_5 (by decide) (ρ' := [some (.inr a0), some (.inl (-4)), some (.inl 23)]) rfl ?_
  exact rX7_free_H6 hc H
end
theorem metX7_free (l : Launch) (D : Zd) (base : Nat) {a0 : Nat} {h : Zm} {Q : Int → Zm → Prop} (H : mX7_free a0 h Q) : zMet l D base yX7_free cX7_free 3 (some .int) zrX7_free [.inr a0] h (zQi D base Q) :=
  z_met (by decide +kernel) (Nat.le_of_ble_eq_true rfl) (fun p e s m args below meth c hc hn => rX7_free hc H)
def zrX7_comes : Room := { frames := 2, cells := 0, slots := 0, locals := 45 }
def mX7_comes_B95 (X95 : Int → Zm → Prop) (a0 : Nat) (x3 : Int) (x4 : Int) (x5 : Int) (h : Zm) (Q : Int → Zm → Prop) : Prop :=
  cLt x5 4
  (cGr h 17 a0 0 fun r19 => cGr h 17 a0 4 fun r20 => cLd h 1 r20 x5 fun v21 => cSt h r19 ((x4 + 3) + x5) v21 fun h22 => X95 (x5 + 1) h22)
  (Q x3 h)
def mX7_comes_H95  (a0 : Nat) (x3 : Int) (x4 : Int) (x5 : Int) (h : Zm) (Q : Int → Zm → Prop) : Prop :=
  lfp1 (fun X95 x5 h => mX7_comes_B95 X95 a0 x3 x4 x5 h Q) x5 h
def mX7_comes (a0 : Nat) (x1 : Int) (x2 : Int) (h : Zm) (Q : Int → Zm → Prop) : Prop :=
  cRc h 17 a0 <| mX7_of a0 x1 0 h fun v2 h1 => cEq v2 0
  (cRc h1 17 a0 <| mX7_depth a0 x1 h1 fun v4 h3 => cEq v4 4
    (Q (-2) h3)
    (cRc h3 17 a0 <| mX7_free a0 h3 fun v6 h5 => cLt v6 0
      (Q (-3) h5)
      (cRc h5 17 a0 <| mX7_hold a0 h5 fun h7 => cGr h7 17 a0 0 fun r8 => cLd h7 1 r8 8 fun v9 => cSt h7 r8 8 (v9 + 1) fun h10 => cGr h10 17 a0 0 fun r11 => cSt h10 r11 (128 + (10 * v6)) x2 fun h12 => cGr h12 17 a0 0 fun r13 => cSt h12 r13 ((128 + (10 * v6)) + 1) x1 fun h14 => cGr h14 17 a0 0 fun r15 => cGr h14 17 a0 0 fun r16 => cLd h14 1 r16 8 fun v17 => cSt h14 r15 ((128 + (10 * v6)) + 2) v17 fun h18 => mX7_comes_H95  a0 v6 (128 + (10 * v6)) 0 h18 Q)))
  (Q (-2) h1)
section
variable {p : Program} {l : Launch} {e : Env} {s : State} {m : MethodId} {args : Array Value} {below : List Frame} {meth : Method} {c : Code} {D : Zd} {base : Nat}
set_option maxRecDepth 100000 in
set_option maxHeartbeats 4000000 in
theorem rX7_comes_B95 (hc : zOk p s m args meth c D cX7_comes 6 RX7 (some .int)) {X95 : Int → Zm → Prop} {a0 : Nat} {x3 : Int} {x4 : Int} {x5 : Int} {h : Zm} {Q : Int → Zm → Prop} (hX95 : ∀ (x5 : Int) (h : Zm), X95 x5 h → zW p l e zrX7_comes s m args below meth c D base 6 (MQ below (zQi D base Q) args s 0 0 (zFree base)) 0 0 95 [some (.inr a0), none, none, some (.inl x3), some (.inl x4), some (.inl x5)] [] h) (H : mX7_comes_B95 X95 a0 x3 x4 x5 h Q) : zW p l e zrX7_comes s m args below meth c D base 6 (MQ below (zQi D base Q) args s 0 0 (zFree base)) 0 0 95 [some (.inr a0), none, none, some (.inl x3), some (.inl x4), some (.inl x5)] [] h := by
  unfold mX7_comes_B95 at H
  refine z_iload (pc := 95) hc dX7_comes_95 rfl ?_
  refine z_iconst (pc := 97) hc dX7_comes_97 ?_
  refine z_icmp_ge (tgt := 126) (pc := 98) hc dX7_comes_98 rfl H (fun H => ?_) (fun H => ?_)
  · refine z_aload_n (pc := 101) hc dX7_comes_101 rfl ?_
    refine z_getR (pc := 102) hc dX7_comes_102 zf_RX7_7 rfl rfl rfl H (fun r19 H => ?_)
    refine z_iload (pc := 105) hc dX7_comes_105 rfl ?_
    refine z_iconst (pc := 107) hc dX7_comes_107 ?_
    refine z_iadd (pc := 108) hc dX7_comes_108 ?_
    refine z_iload (pc := 109) hc dX7_comes_109 rfl ?_
    refine z_iadd (pc := 111) hc dX7_comes_111 ?_
    refine z_aload_n (pc := 112) hc dX7_comes_112 rfl ?_
    refine z_getR (pc := 113) hc dX7_comes_113 zf_RX7_19 rfl rfl rfl H (fun r20 H => ?_)
    refine z_iload (pc := 116) hc dX7_comes_116 rfl ?_
    refine z_iaload (pc := 118) hc dX7_comes_118 H (fun v21 H => ?_)
    refine z_iastore (pc := 119) hc dX7_comes_119 H (fun h22 H => ?_)
    refine z_iinc (pc := 120) hc dX7_comes_120 (by decide) rfl (ρ' := [some (.inr a0), none, none, some (.inl x3), some (.inl x4), some (.inl (x5 + 1))]) rfl ?_
    refine z_goto (tgt := 95) (pc := 123) hc dX7_comes_123 rfl ?_
    exact hX95 _ _ H
  · refine z_iload_n (pc := 126) hc dX7_comes_126 rfl ?_
    exact z_ireturn (pc := 127) hc dX7_comes_127 H
theorem rX7_comes_H95 (hc : zOk p s m args meth c D cX7_comes 6 RX7 (some .int))  {a0 : Nat} {x3 : Int} {x4 : Int} {x5 : Int} {h : Zm} {Q : Int → Zm → Prop}  (H : mX7_comes_H95  a0 x3 x4 x5 h Q) : zW p l e zrX7_comes s m args below meth c D base 6 (MQ below (zQi D base Q) args s 0 0 (zFree base)) 0 0 95 [some (.inr a0), none, none, some (.inl x3), some (.inl x4), some (.inl x5)] [] h :=
  H (fun x5 h => zW p l e zrX7_comes s m args below meth c D base 6 (MQ below (zQi D base Q) args s 0 0 (zFree base)) 0 0 95 [some (.inr a0), none, none, some (.inl x3), some (.inl x4), some (.inl x5)] [] h) (fun x5 h H => rX7_comes_B95 hc (fun _ _ q => q) H)
set_option maxRecDepth 100000 in
set_option maxHeartbeats 4000000 in
theorem rX7_comes (hc : zOk p s m args meth c D cX7_comes 6 RX7 (some .int)) {a0 : Nat} {x1 : Int} {x2 : Int} {h : Zm} {Q : Int → Zm → Prop} (H : mX7_comes a0 x1 x2 h Q) : zW p l e zrX7_comes s m args below meth c D base 6 (MQ below (zQi D base Q) args s 0 0 (zFree base)) 0 0 0 [some (.inr a0), some (.inl x1), some (.inl x2), none, none, none] [] h := by
  unfold mX7_comes at H
  refine z_aload_n (pc := 0) hc dX7_comes_0 rfl ?_
  refine z_iload_n (pc := 1) hc dX7_comes_1 rfl ?_
  refine z_iconst (pc := 2) hc dX7_comes_2 ?_
  refine z_calI (z_runV (pc := 3) (ci := 7) (T := TX7) (N := 20) hc dX7_comes_3 zw_RX7_77 (metX7_of _ _ _ H.2) rfl (Nat.le_of_ble_eq_true rfl) ⟨Nat.le_of_ble_eq_true rfl, Nat.le_of_ble_eq_true rfl⟩ ⟨by exact Nat.le_of_ble_eq_true rfl, by exact Nat.le_of_ble_eq_true rfl⟩ rfl H.1) rfl ⟨rfl, rfl⟩ (fun v2 h1 H => ?_)
  refine z_if_ne (tgt := 18) (pc := 6) hc dX7_comes_6 rfl H (fun H => ?_) (fun H => ?_)
  · refine z_aload_n (pc := 9) hc dX7_comes_9 rfl ?_
    refine z_iload_n (pc := 10) hc dX7_comes_10 rfl ?_
    refine z_calI (z_runV (pc := 11) (ci := 7) (T := TX7) (N := 20) hc dX7_comes_11 zw_RX7_81 (metX7_depth _ _ _ H.2) rfl (Nat.le_of_ble_eq_true rfl) ⟨Nat.le_of_ble_eq_true rfl, Nat.le_of_ble_eq_true rfl⟩ ⟨by exact Nat.le_of_ble_eq_true rfl, by exact Nat.le_of_ble_eq_true rfl⟩ rfl H.1) rfl ⟨rfl, rfl⟩ (fun v4 h3 H => ?_)
    refine z_iconst (pc := 14) hc dX7_comes_14 ?_
    refine z_icmp_ne (tgt := 21) (pc := 15) hc dX7_comes_15 rfl H (fun H => ?_) (fun H => ?_)
    · refine z_bipush (pc := 18) hc dX7_comes_18 (by decide) ?_
      exact z_ireturn (pc := 20) hc dX7_comes_20 H
    · refine z_aload_n (pc := 21) hc dX7_comes_21 rfl ?_
      refine z_calI (z_runV (pc := 22) (ci := 7) (T := TX7) (N := 20) hc dX7_comes_22 zw_RX7_84 (metX7_free _ _ _ H.2) rfl (Nat.le_of_ble_eq_true rfl) ⟨Nat.le_of_ble_eq_true rfl, Nat.le_of_ble_eq_true rfl⟩ ⟨by exact Nat.le_of_ble_eq_true rfl, by exact Nat.le_of_ble_eq_true rfl⟩ rfl H.1) rfl ⟨rfl, rfl⟩ (fun v6 h5 H => ?_)
      refine z_istore_n (pc := 25) hc dX7_comes_25 (by decide) (ρ' := [some (.inr a0), some (.inl x1), some (.inl x2), some (.inl v6), none, none]) rfl ?_
      refine z_iload_n (pc := 26) hc dX7_comes_26 rfl ?_
      refine z_if_ge (tgt := 33) (pc := 27) hc dX7_comes_27 rfl H (fun H => ?_) (fun H => ?_)
      · refine z_bipush (pc := 30) hc dX7_comes_30 (by decide) ?_
        exact z_ireturn (pc := 32) hc dX7_comes_32 H
      · refine z_aload_n (pc := 33) hc dX7_comes_33 rfl ?_
        refine z_calV0 (z_runV (pc := 34) (ci := 7) (T := TX7) (N := 20) hc dX7_comes_34 zw_RX7_66 (metX7_hold _ _ _ H.2) rfl (Nat.le_of_ble_eq_true rfl) ⟨Nat.le_of_ble_eq_true rfl, Nat.le_of_ble_eq_true rfl⟩ ⟨by exact Nat.le_of_ble_eq_true rfl, by exact Nat.le_of_ble_eq_true rfl⟩ rfl H.1) rfl ⟨rfl, rfl⟩ (fun h7 H => ?_)
        refine z_aload_n (pc := 37) hc dX7_comes_37 rfl ?_
        refine z_getR (pc := 38) hc dX7_comes_38 zf_RX7_7 rfl rfl rfl H (fun r8 H => ?_)
        refine z_bipush (pc := 41) hc dX7_comes_41 (by decide) ?_
        refine z_dup2 (pc := 43) hc dX7_comes_43 ?_
        refine z_iaload (pc := 44) hc dX7_comes_44 H (fun v9 H => ?_)
        refine z_iconst (pc := 45) hc dX7_comes_45 ?_
        refine z_iadd (pc := 46) hc dX7_comes_46 ?_
        refine z_iastore (pc := 47) hc dX7_comes_47 H (fun h10 H => ?_)
        refine z_sipush (pc := 48) hc dX7_comes_48 (by decide) ?_
        refine z_bipush (pc := 51) hc dX7_comes_51 (by decide) ?_
        refine z_iload_n (pc := 53) hc dX7_comes_53 rfl ?_
        refine z_imul (pc := 54) hc dX7_comes_54 ?_
        refine z_iadd (pc := 55) hc dX7_comes_55 ?_
        refine z_istore (pc := 56) hc dX7_comes_56 (by decide) (ρ' := [some (.inr a0), some (.inl x1), some (.inl x2), some (.inl v6), some (.inl (128 + (10 * v6))), none]) rfl ?_
        refine z_aload_n (pc := 58) hc dX7_comes_58 rfl ?_
        refine z_getR (pc := 59) hc dX7_comes_59 zf_RX7_7 rfl rfl rfl H (fun r11 H => ?_)
        refine z_iload (pc := 62) hc dX7_comes_62 rfl ?_
        refine z_iload_n (pc := 64) hc dX7_comes_64 rfl ?_
        refine z_iastore (pc := 65) hc dX7_comes_65 H (fun h12 H => ?_)
        refine z_aload_n (pc := 66) hc dX7_comes_66 rfl ?_
        refine z_getR (pc := 67) hc dX7_comes_67 zf_RX7_7 rfl rfl rfl H (fun r13 H => ?_)
        refine z_iload (pc := 70) hc dX7_comes_70 rfl ?_
        refine z_iconst (pc := 72) hc dX7_comes_72 ?_
        refine z_iadd (pc := 73) hc dX7_comes_73 ?_
        refine z_iload_n (pc := 74) hc dX7_comes_74 rfl ?_
        refine z_iastore (pc := 75) hc dX7_comes_75 H (fun h14 H => ?_)
        refine z_aload_n (pc := 76) hc dX7_comes_76 rfl ?_
        refine z_getR (pc := 77) hc dX7_comes_77 zf_RX7_7 rfl rfl rfl H (fun r15 H => ?_)
        refine z_iload (pc := 80) hc dX7_comes_80 rfl ?_
        refine z_iconst (pc := 82) hc dX7_comes_82 ?_
        refine z_iadd (pc := 83) hc dX7_comes_83 ?_
        refine z_aload_n (pc := 84) hc dX7_comes_84 rfl ?_
        refine z_getR (pc := 85) hc dX7_comes_85 zf_RX7_7 rfl rfl rfl H (fun r16 H => ?_)
        refine z_bipush (pc := 88) hc dX7_comes_88 (by decide) ?_
        refine z_iaload (pc := 90) hc dX7_comes_90 H (fun v17 H => ?_)
        refine z_iastore (pc := 91) hc dX7_comes_91 H (fun h18 H => ?_)
        refine z_iconst (pc := 92) hc dX7_comes_92 ?_
        refine z_istore (pc := 93) hc dX7_comes_93 (by decide) (ρ' := [some (.inr a0), some (.inl x1), some (.inl x2), some (.inl v6), some (.inl (128 + (10 * v6))), some (.inl 0)]) rfl ?_
        refine z_mask [true, false, false, true, true, true] (ρ' := [some (.inr a0), none, none, some (.inl v6), some (.inl (128 + (10 * v6))), some (.inl 0)]) rfl ?_
        exact rX7_comes_H95 hc H
  · refine z_bipush (pc := 18) hc dX7_comes_18 (by decide) ?_
    exact z_ireturn (pc := 20) hc dX7_comes_20 H
end
theorem metX7_comes (l : Launch) (D : Zd) (base : Nat) {a0 : Nat} {x1 : Int} {x2 : Int} {h : Zm} {Q : Int → Zm → Prop} (H : mX7_comes a0 x1 x2 h Q) : zMet l D base yX7_comes cX7_comes 6 (some .int) zrX7_comes [.inr a0, .inl x1, .inl x2] h (zQi D base Q) :=
  z_met (by decide +kernel) (Nat.le_of_ble_eq_true rfl) (fun p e s m args below meth c hc hn => rX7_comes hc H)
def zrX7_isOffset : Room := { frames := 1, cells := 0, slots := 0, locals := 22 }
def mX7_isOffset (x0 : Int) (h : Zm) (Q : Int → Zm → Prop) : Prop :=
  mX7_in x0 (-12) 12 h fun v2 h1 => cBr v2 (Q v2 h1)
section
variable {p : Program} {l : Launch} {e : Env} {s : State} {m : MethodId} {args : Array Value} {below : List Frame} {meth : Method} {c : Code} {D : Zd} {base : Nat}
set_option maxRecDepth 100000 in
set_option maxHeartbeats 4000000 in
theorem rX7_isOffset (hc : zOk p s m args meth c D cX7_isOffset 1 RX7 (some .boolean)) {x0 : Int} {h : Zm} {Q : Int → Zm → Prop} (H : mX7_isOffset x0 h Q) : zW p l e zrX7_isOffset s m args below meth c D base 1 (MQ below (zQi D base Q) args s 0 0 (zFree base)) 0 0 0 [some (.inl x0)] [] h := by
  unfold mX7_isOffset at H
  refine z_iload_n (pc := 0) hc dX7_isOffset_0 rfl ?_
  refine z_bipush (pc := 1) hc dX7_isOffset_1 (by decide) ?_
  refine z_bipush (pc := 3) hc dX7_isOffset_3 (by decide) ?_
  refine z_calI (z_runS (pc := 5) hc dX7_isOffset_5 zw_RX7_73 (metX7_in _ _ _ H) rfl (Nat.le_of_ble_eq_true rfl) ⟨Nat.le_of_ble_eq_true rfl, Nat.le_of_ble_eq_true rfl⟩ ⟨by exact Nat.le_of_ble_eq_true rfl, by exact Nat.le_of_ble_eq_true rfl⟩) rfl ⟨rfl, rfl⟩ (fun v2 h1 H => ?_)
  exact z_zreturn (pc := 8) hc dX7_isOffset_8 H
end
theorem metX7_isOffset (l : Launch) (D : Zd) (base : Nat) {x0 : Int} {h : Zm} {Q : Int → Zm → Prop} (H : mX7_isOffset x0 h Q) : zMet l D base yX7_isOffset cX7_isOffset 1 (some .boolean) zrX7_isOffset [.inl x0] h (zQi D base Q) :=
  z_met (by decide +kernel) (Nat.le_of_ble_eq_true rfl) (fun p e s m args below meth c hc hn => rX7_isOffset hc H)
def zrX7_addGroup : Room := { frames := 3, cells := 0, slots := 0, locals := 70 }
def mX7_addGroup (a0 : Nat) (x1 : Int) (x2 : Int) (x3 : Int) (x4 : Int) (h : Zm) (Q : Int → Zm → Prop) : Prop :=
  cRc h 17 a0 <| mX7_isNode a0 x1 h fun v2 h1 => cEq v2 0
  (Q (-1) h1)
  (mX7_in x2 0 100 h1 fun v4 h3 => cEq v4 0
    (Q (-1) h3)
    (mX7_isOffset x3 h3 fun v6 h5 => cEq v6 0
      (Q (-1) h5)
      (mX7_isOffset x4 h5 fun v8 h7 => cEq v8 0
        (Q (-1) h7)
        (cRc h7 17 a0 <| mX7_comes a0 x1 0 h7 fun v10 h9 => cLt v10 0
          (Q v10 h9)
          (cGr h9 17 a0 0 fun r11 => cSt h9 r11 ((128 + (10 * v10)) + 3) x2 fun h12 => cGr h12 17 a0 0 fun r13 => cSt h12 r13 (((128 + (10 * v10)) + 3) + 1) x3 fun h14 => cGr h14 17 a0 0 fun r15 => cSt h14 r15 (((128 + (10 * v10)) + 3) + 2) x4 fun h16 => cRc h16 17 a0 <| mX7_ends a0 v10 h16 fun v18 h17 => Q v18 h17)))))
section
variable {p : Program} {l : Launch} {e : Env} {s : State} {m : MethodId} {args : Array Value} {below : List Frame} {meth : Method} {c : Code} {D : Zd} {base : Nat}
set_option maxRecDepth 100000 in
set_option maxHeartbeats 4000000 in
theorem rX7_addGroup (hc : zOk p s m args meth c D cX7_addGroup 6 RX7 (some .int)) {a0 : Nat} {x1 : Int} {x2 : Int} {x3 : Int} {x4 : Int} {h : Zm} {Q : Int → Zm → Prop} (H : mX7_addGroup a0 x1 x2 x3 x4 h Q) : zW p l e zrX7_addGroup s m args below meth c D base 6 (MQ below (zQi D base Q) args s 0 0 (zFree base)) 0 0 0 [some (.inr a0), some (.inl x1), some (.inl x2), some (.inl x3), some (.inl x4), none] [] h := by
  unfold mX7_addGroup at H
  refine z_aload_n (pc := 0) hc dX7_addGroup_0 rfl ?_
  refine z_iload_n (pc := 1) hc dX7_addGroup_1 rfl ?_
  refine z_calI (z_runV (pc := 2) (ci := 7) (T := TX7) (N := 20) hc dX7_addGroup_2 zw_RX7_88 (metX7_isNode _ _ _ H.2) rfl (Nat.le_of_ble_eq_true rfl) ⟨Nat.le_of_ble_eq_true rfl, Nat.le_of_ble_eq_true rfl⟩ ⟨by exact Nat.le_of_ble_eq_true rfl, by exact Nat.le_of_ble_eq_true rfl⟩ rfl H.1) rfl ⟨rfl, rfl⟩ (fun v2 h1 H => ?_)
  refine z_if_eq (tgt := 33) (pc := 5) hc dX7_addGroup_5 rfl H (fun H => ?_) (fun H => ?_)
  · refine z_iconst (pc := 33) hc dX7_addGroup_33 ?_
    exact z_ireturn (pc := 34) hc dX7_addGroup_34 H
  · refine z_iload_n (pc := 8) hc dX7_addGroup_8 rfl ?_
    refine z_iconst (pc := 9) hc dX7_addGroup_9 ?_
    refine z_bipush (pc := 10) hc dX7_addGroup_10 (by decide) ?_
    refine z_calI (z_runS (pc := 12) hc dX7_addGroup_12 zw_RX7_73 (metX7_in _ _ _ H) rfl (Nat.le_of_ble_eq_true rfl) ⟨Nat.le_of_ble_eq_true rfl, Nat.le_of_ble_eq_true rfl⟩ ⟨by exact Nat.le_of_ble_eq_true rfl, by exact Nat.le_of_ble_eq_true rfl⟩) rfl ⟨rfl, rfl⟩ (fun v4 h3 H => ?_)
    refine z_if_eq (tgt := 33) (pc := 15) hc dX7_addGroup_15 rfl H (fun H => ?_) (fun H => ?_)
    · refine z_iconst (pc := 33) hc dX7_addGroup_33 ?_
      exact z_ireturn (pc := 34) hc dX7_addGroup_34 H
    · refine z_iload_n (pc := 18) hc dX7_addGroup_18 rfl ?_
      refine z_calI (z_runS (pc := 19) hc dX7_addGroup_19 zw_RX7_92 (metX7_isOffset _ _ _ H) rfl (Nat.le_of_ble_eq_true rfl) ⟨Nat.le_of_ble_eq_true rfl, Nat.le_of_ble_eq_true rfl⟩ ⟨by exact Nat.le_of_ble_eq_true rfl, by exact Nat.le_of_ble_eq_true rfl⟩) rfl ⟨rfl, rfl⟩ (fun v6 h5 H => ?_)
      refine z_if_eq (tgt := 33) (pc := 22) hc dX7_addGroup_22 rfl H (fun H => ?_) (fun H => ?_)
      · refine z_iconst (pc := 33) hc dX7_addGroup_33 ?_
        exact z_ireturn (pc := 34) hc dX7_addGroup_34 H
      · refine z_iload (pc := 25) hc dX7_addGroup_25 rfl ?_
        refine z_calI (z_runS (pc := 27) hc dX7_addGroup_27 zw_RX7_92 (metX7_isOffset _ _ _ H) rfl (Nat.le_of_ble_eq_true rfl) ⟨Nat.le_of_ble_eq_true rfl, Nat.le_of_ble_eq_true rfl⟩ ⟨by exact Nat.le_of_ble_eq_true rfl, by exact Nat.le_of_ble_eq_true rfl⟩) rfl ⟨rfl, rfl⟩ (fun v8 h7 H => ?_)
        refine z_if_ne (tgt := 35) (pc := 30) hc dX7_addGroup_30 rfl H (fun H => ?_) (fun H => ?_)
        · refine z_iconst (pc := 33) hc dX7_addGroup_33 ?_
          exact z_ireturn (pc := 34) hc dX7_addGroup_34 H
        · refine z_aload_n (pc := 35) hc dX7_addGroup_35 rfl ?_
          refine z_iload_n (pc := 36) hc dX7_addGroup_36 rfl ?_
          refine z_iconst (pc := 37) hc dX7_addGroup_37 ?_
          refine z_calI (z_runV (pc := 38) (ci := 7) (T := TX7) (N := 20) hc dX7_addGroup_38 zw_RX7_95 (metX7_comes _ _ _ H.2) rfl (Nat.le_of_ble_eq_true rfl) ⟨Nat.le_of_ble_eq_true rfl, Nat.le_of_ble_eq_true rfl⟩ ⟨by exact Nat.le_of_ble_eq_true rfl, by exact Nat.le_of_ble_eq_true rfl⟩ rfl H.1) rfl ⟨rfl, rfl⟩ (fun v10 h9 H => ?_)
          refine z_istore (pc := 41) hc dX7_addGroup_41 (by decide) (ρ' := [some (.inr a0), some (.inl x1), some (.inl x2), some (.inl x3), some (.inl x4), some (.inl v10)]) rfl ?_
          refine z_iload (pc := 43) hc dX7_addGroup_43 rfl ?_
          refine z_if_ge (tgt := 51) (pc := 45) hc dX7_addGroup_45 rfl H (fun H => ?_) (fun H => ?_)
          · refine z_iload (pc := 48) hc dX7_addGroup_48 rfl ?_
            exact z_ireturn (pc := 50) hc dX7_addGroup_50 H
          · refine z_aload_n (pc := 51) hc dX7_addGroup_51 rfl ?_
            refine z_getR (pc := 52) hc dX7_addGroup_52 zf_RX7_7 rfl rfl rfl H (fun r11 H => ?_)
            refine z_sipush (pc := 55) hc dX7_addGroup_55 (by decide) ?_
            refine z_bipush (pc := 58) hc dX7_addGroup_58 (by decide) ?_
            refine z_iload (pc := 60) hc dX7_addGroup_60 rfl ?_
            refine z_imul (pc := 62) hc dX7_addGroup_62 ?_
            refine z_iadd (pc := 63) hc dX7_addGroup_63 ?_
            refine z_iconst (pc := 64) hc dX7_addGroup_64 ?_
            refine z_iadd (pc := 65) hc dX7_addGroup_65 ?_
            refine z_iload_n (pc := 66) hc dX7_addGroup_66 rfl ?_
            refine z_iastore (pc := 67) hc dX7_addGroup_67 H (fun h12 H => ?_)
            refine z_aload_n (pc := 68) hc dX7_addGroup_68 rfl ?_
            refine z_getR (pc := 69) hc dX7_addGroup_69 zf_RX7_7 rfl rfl rfl H (fun r13 H => ?_)
            refine z_sipush (pc := 72) hc dX7_addGroup_72 (by decide) ?_
            refine z_bipush (pc := 75) hc dX7_addGroup_75 (by decide) ?_
            refine z_iload (pc := 77) hc dX7_addGroup_77 rfl ?_
            refine z_imul (pc := 79) hc dX7_addGroup_79 ?_
            refine z_iadd (pc := 80) hc dX7_addGroup_80 ?_
            refine z_iconst (pc := 81) hc dX7_addGroup_81 ?_
            refine z_iadd (pc := 82) hc dX7_addGroup_82 ?_
            refine z_iconst (pc := 83) hc dX7_addGroup_83 ?_
            refine z_iadd (pc := 84) hc dX7_addGroup_84 ?_
            refine z_iload_n (pc := 85) hc dX7_addGroup_85 rfl ?_
            refine z_iastore (pc := 86) hc dX7_addGroup_86 H (fun h14 H => ?_)
            refine z_aload_n (pc := 87) hc dX7_addGroup_87 rfl ?_
            refine z_getR (pc := 88) hc dX7_addGroup_88 zf_RX7_7 rfl rfl rfl H (fun r15 H => ?_)
            refine z_sipush (pc := 91) hc dX7_addGroup_91 (by decide) ?_
            refine z_bipush (pc := 94) hc dX7_addGroup_94 (by decide) ?_
            refine z_iload (pc := 96) hc dX7_addGroup_96 rfl ?_
            refine z_imul (pc := 98) hc dX7_addGroup_98 ?_
            refine z_iadd (pc := 99) hc dX7_addGroup_99 ?_
            refine z_iconst (pc := 100) hc dX7_addGroup_100 ?_
            refine z_iadd (pc := 101) hc dX7_addGroup_101 ?_
            refine z_iconst (pc := 102) hc dX7_addGroup_102 ?_
            refine z_iadd (pc := 103) hc dX7_addGroup_103 ?_
            refine z_iload (pc := 104) hc dX7_addGroup_104 rfl ?_
            refine z_iastore (pc := 106) hc dX7_addGroup_106 H (fun h16 H => ?_)
            refine z_aload_n (pc := 107) hc dX7_addGroup_107 rfl ?_
            refine z_iload (pc := 108) hc dX7_addGroup_108 rfl ?_
            refine z_calI (z_runV (pc := 110) (ci := 7) (T := TX7) (N := 20) hc dX7_addGroup_110 zw_RX7_69 (metX7_ends _ _ _ H.2) rfl (Nat.le_of_ble_eq_true rfl) ⟨Nat.le_of_ble_eq_true rfl, Nat.le_of_ble_eq_true rfl⟩ ⟨by exact Nat.le_of_ble_eq_true rfl, by exact Nat.le_of_ble_eq_true rfl⟩ rfl H.1) rfl ⟨rfl, rfl⟩ (fun v18 h17 H => ?_)
            exact z_ireturn (pc := 113) hc dX7_addGroup_113 H
end
theorem metX7_addGroup (l : Launch) (D : Zd) (base : Nat) {a0 : Nat} {x1 : Int} {x2 : Int} {x3 : Int} {x4 : Int} {h : Zm} {Q : Int → Zm → Prop} (H : mX7_addGroup a0 x1 x2 x3 x4 h Q) : zMet l D base yX7_addGroup cX7_addGroup 6 (some .int) zrX7_addGroup [.inr a0, .inl x1, .inl x2, .inl x3, .inl x4] h (zQi D base Q) :=
  z_met (by decide +kernel) (Nat.le_of_ble_eq_true rfl) (fun p e s m args below meth c hc hn => rX7_addGroup hc H)
def zrX7_addRect : Room := { frames := 3, cells := 0, slots := 0, locals := 70 }
def mX7_addRect_B25 (X25 : Int → Zm → Prop) (a0 : Nat) (x2 : Int) (x3 : Int) (h : Zm) (Q : Int → Zm → Prop) : Prop :=
  cLt x3 3
  (cGr h 17 a0 0 fun r7 => cGr h 17 a0 5 fun r8 => cLd h 1 r8 x3 fun v9 => cSt h r7 ((((128 + (10 * x2)) + 3) + 4) + x3) v9 fun h10 => X25 (x3 + 1) h10)
  (cRc h 17 a0 <| mX7_ends a0 x2 h fun v6 h5 => Q v6 h5)
def mX7_addRect_H25  (a0 : Nat) (x2 : Int) (x3 : Int) (h : Zm) (Q : Int → Zm → Prop) : Prop :=
  lfp1 (fun X25 x3 h => mX7_addRect_B25 X25 a0 x2 x3 h Q) x3 h
def mX7_addRect (a0 : Nat) (x1 : Int) (h : Zm) (Q : Int → Zm → Prop) : Prop :=
  cRc h 17 a0 <| mX7_isNode a0 x1 h fun v2 h1 => cEq v2 0
  (Q (-1) h1)
  (cRc h1 17 a0 <| mX7_comes a0 x1 1 h1 fun v4 h3 => cLt v4 0
    (Q v4 h3)
    (mX7_addRect_H25  a0 v4 0 h3 Q))
section
variable {p : Program} {l : Launch} {e : Env} {s : State} {m : MethodId} {args : Array Value} {below : List Frame} {meth : Method} {c : Code} {D : Zd} {base : Nat}
set_option maxRecDepth 100000 in
set_option maxHeartbeats 4000000 in
theorem rX7_addRect_B25 (hc : zOk p s m args meth c D cX7_addRect 4 RX7 (some .int)) {X25 : Int → Zm → Prop} {a0 : Nat} {x2 : Int} {x3 : Int} {h : Zm} {Q : Int → Zm → Prop} (hX25 : ∀ (x3 : Int) (h : Zm), X25 x3 h → zW p l e zrX7_addRect s m args below meth c D base 4 (MQ below (zQi D base Q) args s 0 0 (zFree base)) 0 0 25 [some (.inr a0), none, some (.inl x2), some (.inl x3)] [] h) (H : mX7_addRect_B25 X25 a0 x2 x3 h Q) : zW p l e zrX7_addRect s m args below meth c D base 4 (MQ below (zQi D base Q) args s 0 0 (zFree base)) 0 0 25 [some (.inr a0), none, some (.inl x2), some (.inl x3)] [] h := by
  unfold mX7_addRect_B25 at H
  refine z_iload_n (pc := 25) hc dX7_addRect_25 rfl ?_
  refine z_iconst (pc := 26) hc dX7_addRect_26 ?_
  refine z_icmp_ge (tgt := 61) (pc := 27) hc dX7_addRect_27 rfl H (fun H => ?_) (fun H => ?_)
  · refine z_aload_n (pc := 30) hc dX7_addRect_30 rfl ?_
    refine z_getR (pc := 31) hc dX7_addRect_31 zf_RX7_7 rfl rfl rfl H (fun r7 H => ?_)
    refine z_sipush (pc := 34) hc dX7_addRect_34 (by decide) ?_
    refine z_bipush (pc := 37) hc dX7_addRect_37 (by decide) ?_
    refine z_iload_n (pc := 39) hc dX7_addRect_39 rfl ?_
    refine z_imul (pc := 40) hc dX7_addRect_40 ?_
    refine z_iadd (pc := 41) hc dX7_addRect_41 ?_
    refine z_iconst (pc := 42) hc dX7_addRect_42 ?_
    refine z_iadd (pc := 43) hc dX7_addRect_43 ?_
    refine z_iconst (pc := 44) hc dX7_addRect_44 ?_
    refine z_iadd (pc := 45) hc dX7_addRect_45 ?_
    refine z_iload_n (pc := 46) hc dX7_addRect_46 rfl ?_
    refine z_iadd (pc := 47) hc dX7_addRect_47 ?_
    refine z_aload_n (pc := 48) hc dX7_addRect_48 rfl ?_
    refine z_getR (pc := 49) hc dX7_addRect_49 zf_RX7_22 rfl rfl rfl H (fun r8 H => ?_)
    refine z_iload_n (pc := 52) hc dX7_addRect_52 rfl ?_
    refine z_iaload (pc := 53) hc dX7_addRect_53 H (fun v9 H => ?_)
    refine z_iastore (pc := 54) hc dX7_addRect_54 H (fun h10 H => ?_)
    refine z_iinc (pc := 55) hc dX7_addRect_55 (by decide) rfl (ρ' := [some (.inr a0), none, some (.inl x2), some (.inl (x3 + 1))]) rfl ?_
    refine z_goto (tgt := 25) (pc := 58) hc dX7_addRect_58 rfl ?_
    exact hX25 _ _ H
  · refine z_aload_n (pc := 61) hc dX7_addRect_61 rfl ?_
    refine z_iload_n (pc := 62) hc dX7_addRect_62 rfl ?_
    refine z_calI (z_runV (pc := 63) (ci := 7) (T := TX7) (N := 20) hc dX7_addRect_63 zw_RX7_69 (metX7_ends _ _ _ H.2) rfl (Nat.le_of_ble_eq_true rfl) ⟨Nat.le_of_ble_eq_true rfl, Nat.le_of_ble_eq_true rfl⟩ ⟨by exact Nat.le_of_ble_eq_true rfl, by exact Nat.le_of_ble_eq_true rfl⟩ rfl H.1) rfl ⟨rfl, rfl⟩ (fun v6 h5 H => ?_)
    exact z_ireturn (pc := 66) hc dX7_addRect_66 H
theorem rX7_addRect_H25 (hc : zOk p s m args meth c D cX7_addRect 4 RX7 (some .int))  {a0 : Nat} {x2 : Int} {x3 : Int} {h : Zm} {Q : Int → Zm → Prop}  (H : mX7_addRect_H25  a0 x2 x3 h Q) : zW p l e zrX7_addRect s m args below meth c D base 4 (MQ below (zQi D base Q) args s 0 0 (zFree base)) 0 0 25 [some (.inr a0), none, some (.inl x2), some (.inl x3)] [] h :=
  H (fun x3 h => zW p l e zrX7_addRect s m args below meth c D base 4 (MQ below (zQi D base Q) args s 0 0 (zFree base)) 0 0 25 [some (.inr a0), none, some (.inl x2), some (.inl x3)] [] h) (fun x3 h H => rX7_addRect_B25 hc (fun _ _ q => q) H)
set_option maxRecDepth 100000 in
set_option maxHeartbeats 4000000 in
theorem rX7_addRect (hc : zOk p s m args meth c D cX7_addRect 4 RX7 (some .int)) {a0 : Nat} {x1 : Int} {h : Zm} {Q : Int → Zm → Prop} (H : mX7_addRect a0 x1 h Q) : zW p l e zrX7_addRect s m args below meth c D base 4 (MQ below (zQi D base Q) args s 0 0 (zFree base)) 0 0 0 [some (.inr a0), some (.inl x1), none, none] [] h := by
  unfold mX7_addRect at H
  refine z_aload_n (pc := 0) hc dX7_addRect_0 rfl ?_
  refine z_iload_n (pc := 1) hc dX7_addRect_1 rfl ?_
  refine z_calI (z_runV (pc := 2) (ci := 7) (T := TX7) (N := 20) hc dX7_addRect_2 zw_RX7_88 (metX7_isNode _ _ _ H.2) rfl (Nat.le_of_ble_eq_true rfl) ⟨Nat.le_of_ble_eq_true rfl, Nat.le_of_ble_eq_true rfl⟩ ⟨by exact Nat.le_of_ble_eq_true rfl, by exact Nat.le_of_ble_eq_true rfl⟩ rfl H.1) rfl ⟨rfl, rfl⟩ (fun v2 h1 H => ?_)
  refine z_if_ne (tgt := 10) (pc := 5) hc dX7_addRect_5 rfl H (fun H => ?_) (fun H => ?_)
  · refine z_iconst (pc := 8) hc dX7_addRect_8 ?_
    exact z_ireturn (pc := 9) hc dX7_addRect_9 H
  · refine z_aload_n (pc := 10) hc dX7_addRect_10 rfl ?_
    refine z_iload_n (pc := 11) hc dX7_addRect_11 rfl ?_
    refine z_iconst (pc := 12) hc dX7_addRect_12 ?_
    refine z_calI (z_runV (pc := 13) (ci := 7) (T := TX7) (N := 20) hc dX7_addRect_13 zw_RX7_95 (metX7_comes _ _ _ H.2) rfl (Nat.le_of_ble_eq_true rfl) ⟨Nat.le_of_ble_eq_true rfl, Nat.le_of_ble_eq_true rfl⟩ ⟨by exact Nat.le_of_ble_eq_true rfl, by exact Nat.le_of_ble_eq_true rfl⟩ rfl H.1) rfl ⟨rfl, rfl⟩ (fun v4 h3 H => ?_)
    refine z_istore_n (pc := 16) hc dX7_addRect_16 (by decide) (ρ' := [some (.inr a0), some (.inl x1), some (.inl v4), none]) rfl ?_
    refine z_iload_n (pc := 17) hc dX7_addRect_17 rfl ?_
    refine z_if_ge (tgt := 23) (pc := 18) hc dX7_addRect_18 rfl H (fun H => ?_) (fun H => ?_)
    · refine z_iload_n (pc := 21) hc dX7_addRect_21 rfl ?_
      exact z_ireturn (pc := 22) hc dX7_addRect_22 H
    · refine z_iconst (pc := 23) hc dX7_addRect_23 ?_
      refine z_istore_n (pc := 24) hc dX7_addRect_24 (by decide) (ρ' := [some (.inr a0), some (.inl x1), some (.inl v4), some (.inl 0)]) rfl ?_
      refine z_mask [true, false, true, true] (ρ' := [some (.inr a0), none, some (.inl v4), some (.inl 0)]) rfl ?_
      exact rX7_addRect_H25 hc H
end
theorem metX7_addRect (l : Launch) (D : Zd) (base : Nat) {a0 : Nat} {x1 : Int} {h : Zm} {Q : Int → Zm → Prop} (H : mX7_addRect a0 x1 h Q) : zMet l D base yX7_addRect cX7_addRect 4 (some .int) zrX7_addRect [.inr a0, .inl x1] h (zQi D base Q) :=
  z_met (by decide +kernel) (Nat.le_of_ble_eq_true rfl) (fun p e s m args below meth c hc hn => rX7_addRect hc H)
def zrX7_addSpot : Room := { frames := 3, cells := 0, slots := 0, locals := 70 }
def mX7_addSpot (a0 : Nat) (x1 : Int) (x2 : Int) (x3 : Int) (h : Zm) (Q : Int → Zm → Prop) : Prop :=
  cRc h 17 a0 <| mX7_isNode a0 x1 h fun v2 h1 => cEq v2 0
  (Q (-1) h1)
  (mX7_in x2 0 2 h1 fun v4 h3 => cEq v4 0
    (Q (-1) h3)
    (mX7_in x3 0 255 h3 fun v6 h5 => cEq v6 0
      (Q (-1) h5)
      (cRc h5 17 a0 <| mX7_comes a0 x1 2 h5 fun v8 h7 => cLt v8 0
        (Q v8 h7)
        (cGr h7 17 a0 0 fun r9 => cSt h7 r9 (((128 + (10 * v8)) + 3) + 4) x2 fun h10 => cGr h10 17 a0 0 fun r11 => cSt h10 r11 (((128 + (10 * v8)) + 3) + 5) x3 fun h12 => cRc h12 17 a0 <| mX7_ends a0 v8 h12 fun v14 h13 => Q v14 h13))))
section
variable {p : Program} {l : Launch} {e : Env} {s : State} {m : MethodId} {args : Array Value} {below : List Frame} {meth : Method} {c : Code} {D : Zd} {base : Nat}
set_option maxRecDepth 100000 in
set_option maxHeartbeats 4000000 in
theorem rX7_addSpot (hc : zOk p s m args meth c D cX7_addSpot 5 RX7 (some .int)) {a0 : Nat} {x1 : Int} {x2 : Int} {x3 : Int} {h : Zm} {Q : Int → Zm → Prop} (H : mX7_addSpot a0 x1 x2 x3 h Q) : zW p l e zrX7_addSpot s m args below meth c D base 5 (MQ below (zQi D base Q) args s 0 0 (zFree base)) 0 0 0 [some (.inr a0), some (.inl x1), some (.inl x2), some (.inl x3), none] [] h := by
  unfold mX7_addSpot at H
  refine z_aload_n (pc := 0) hc dX7_addSpot_0 rfl ?_
  refine z_iload_n (pc := 1) hc dX7_addSpot_1 rfl ?_
  refine z_calI (z_runV (pc := 2) (ci := 7) (T := TX7) (N := 20) hc dX7_addSpot_2 zw_RX7_88 (metX7_isNode _ _ _ H.2) rfl (Nat.le_of_ble_eq_true rfl) ⟨Nat.le_of_ble_eq_true rfl, Nat.le_of_ble_eq_true rfl⟩ ⟨by exact Nat.le_of_ble_eq_true rfl, by exact Nat.le_of_ble_eq_true rfl⟩ rfl H.1) rfl ⟨rfl, rfl⟩ (fun v2 h1 H => ?_)
  refine z_if_eq (tgt := 28) (pc := 5) hc dX7_addSpot_5 rfl H (fun H => ?_) (fun H => ?_)
  · refine z_iconst (pc := 28) hc dX7_addSpot_28 ?_
    exact z_ireturn (pc := 29) hc dX7_addSpot_29 H
  · refine z_iload_n (pc := 8) hc dX7_addSpot_8 rfl ?_
    refine z_iconst (pc := 9) hc dX7_addSpot_9 ?_
    refine z_iconst (pc := 10) hc dX7_addSpot_10 ?_
    refine z_calI (z_runS (pc := 11) hc dX7_addSpot_11 zw_RX7_73 (metX7_in _ _ _ H) rfl (Nat.le_of_ble_eq_true rfl) ⟨Nat.le_of_ble_eq_true rfl, Nat.le_of_ble_eq_true rfl⟩ ⟨by exact Nat.le_of_ble_eq_true rfl, by exact Nat.le_of_ble_eq_true rfl⟩) rfl ⟨rfl, rfl⟩ (fun v4 h3 H => ?_)
    refine z_if_eq (tgt := 28) (pc := 14) hc dX7_addSpot_14 rfl H (fun H => ?_) (fun H => ?_)
    · refine z_iconst (pc := 28) hc dX7_addSpot_28 ?_
      exact z_ireturn (pc := 29) hc dX7_addSpot_29 H
    · refine z_iload_n (pc := 17) hc dX7_addSpot_17 rfl ?_
      refine z_iconst (pc := 18) hc dX7_addSpot_18 ?_
      refine z_sipush (pc := 19) hc dX7_addSpot_19 (by decide) ?_
      refine z_calI (z_runS (pc := 22) hc dX7_addSpot_22 zw_RX7_73 (metX7_in _ _ _ H) rfl (Nat.le_of_ble_eq_true rfl) ⟨Nat.le_of_ble_eq_true rfl, Nat.le_of_ble_eq_true rfl⟩ ⟨by exact Nat.le_of_ble_eq_true rfl, by exact Nat.le_of_ble_eq_true rfl⟩) rfl ⟨rfl, rfl⟩ (fun v6 h5 H => ?_)
      refine z_if_ne (tgt := 30) (pc := 25) hc dX7_addSpot_25 rfl H (fun H => ?_) (fun H => ?_)
      · refine z_iconst (pc := 28) hc dX7_addSpot_28 ?_
        exact z_ireturn (pc := 29) hc dX7_addSpot_29 H
      · refine z_aload_n (pc := 30) hc dX7_addSpot_30 rfl ?_
        refine z_iload_n (pc := 31) hc dX7_addSpot_31 rfl ?_
        refine z_iconst (pc := 32) hc dX7_addSpot_32 ?_
        refine z_calI (z_runV (pc := 33) (ci := 7) (T := TX7) (N := 20) hc dX7_addSpot_33 zw_RX7_95 (metX7_comes _ _ _ H.2) rfl (Nat.le_of_ble_eq_true rfl) ⟨Nat.le_of_ble_eq_true rfl, Nat.le_of_ble_eq_true rfl⟩ ⟨by exact Nat.le_of_ble_eq_true rfl, by exact Nat.le_of_ble_eq_true rfl⟩ rfl H.1) rfl ⟨rfl, rfl⟩ (fun v8 h7 H => ?_)
        refine z_istore (pc := 36) hc dX7_addSpot_36 (by decide) (ρ' := [some (.inr a0), some (.inl x1), some (.inl x2), some (.inl x3), some (.inl v8)]) rfl ?_
        refine z_iload (pc := 38) hc dX7_addSpot_38 rfl ?_
        refine z_if_ge (tgt := 46) (pc := 40) hc dX7_addSpot_40 rfl H (fun H => ?_) (fun H => ?_)
        · refine z_iload (pc := 43) hc dX7_addSpot_43 rfl ?_
          exact z_ireturn (pc := 45) hc dX7_addSpot_45 H
        · refine z_aload_n (pc := 46) hc dX7_addSpot_46 rfl ?_
          refine z_getR (pc := 47) hc dX7_addSpot_47 zf_RX7_7 rfl rfl rfl H (fun r9 H => ?_)
          refine z_sipush (pc := 50) hc dX7_addSpot_50 (by decide) ?_
          refine z_bipush (pc := 53) hc dX7_addSpot_53 (by decide) ?_
          refine z_iload (pc := 55) hc dX7_addSpot_55 rfl ?_
          refine z_imul (pc := 57) hc dX7_addSpot_57 ?_
          refine z_iadd (pc := 58) hc dX7_addSpot_58 ?_
          refine z_iconst (pc := 59) hc dX7_addSpot_59 ?_
          refine z_iadd (pc := 60) hc dX7_addSpot_60 ?_
          refine z_iconst (pc := 61) hc dX7_addSpot_61 ?_
          refine z_iadd (pc := 62) hc dX7_addSpot_62 ?_
          refine z_iload_n (pc := 63) hc dX7_addSpot_63 rfl ?_
          refine z_iastore (pc := 64) hc dX7_addSpot_64 H (fun h10 H => ?_)
          refine z_aload_n (pc := 65) hc dX7_addSpot_65 rfl ?_
          refine z_getR (pc := 66) hc dX7_addSpot_66 zf_RX7_7 rfl rfl rfl H (fun r11 H => ?_)
          refine z_sipush (pc := 69) hc dX7_addSpot_69 (by decide) ?_
          refine z_bipush (pc := 72) hc dX7_addSpot_72 (by decide) ?_
          refine z_iload (pc := 74) hc dX7_addSpot_74 rfl ?_
          refine z_imul (pc := 76) hc dX7_addSpot_76 ?_
          refine z_iadd (pc := 77) hc dX7_addSpot_77 ?_
          refine z_iconst (pc := 78) hc dX7_addSpot_78 ?_
          refine z_iadd (pc := 79) hc dX7_addSpot_79 ?_
          refine z_iconst (pc := 80) hc dX7_addSpot_80 ?_
          refine z_iadd (pc := 81) hc dX7_addSpot_81 ?_
          refine z_iload_n (pc := 82) hc dX7_addSpot_82 rfl ?_
          refine z_iastore (pc := 83) hc dX7_addSpot_83 H (fun h12 H => ?_)
          refine z_aload_n (pc := 84) hc dX7_addSpot_84 rfl ?_
          refine z_iload (pc := 85) hc dX7_addSpot_85 rfl ?_
          refine z_calI (z_runV (pc := 87) (ci := 7) (T := TX7) (N := 20) hc dX7_addSpot_87 zw_RX7_69 (metX7_ends _ _ _ H.2) rfl (Nat.le_of_ble_eq_true rfl) ⟨Nat.le_of_ble_eq_true rfl, Nat.le_of_ble_eq_true rfl⟩ ⟨by exact Nat.le_of_ble_eq_true rfl, by exact Nat.le_of_ble_eq_true rfl⟩ rfl H.1) rfl ⟨rfl, rfl⟩ (fun v14 h13 H => ?_)
          exact z_ireturn (pc := 90) hc dX7_addSpot_90 H
end
theorem metX7_addSpot (l : Launch) (D : Zd) (base : Nat) {a0 : Nat} {x1 : Int} {x2 : Int} {x3 : Int} {h : Zm} {Q : Int → Zm → Prop} (H : mX7_addSpot a0 x1 x2 x3 h Q) : zMet l D base yX7_addSpot cX7_addSpot 5 (some .int) zrX7_addSpot [.inr a0, .inl x1, .inl x2, .inl x3] h (zQi D base Q) :=
  z_met (by decide +kernel) (Nat.le_of_ble_eq_true rfl) (fun p e s m args below meth c hc hn => rX7_addSpot hc H)
def zrX7_setBox : Room := { frames := 2, cells := 0, slots := 0, locals := 42 }
def mX7_setBox (a0 : Nat) (x1 : Int) (x2 : Int) (x3 : Int) (x4 : Int) (h : Zm) (Q : Int → Zm → Prop) : Prop :=
  mX7_isOffset x1 h fun v2 h1 => cEq v2 0
  (Q (-1) h1)
  (mX7_isOffset x2 h1 fun v4 h3 => cEq v4 0
    (Q (-1) h3)
    (mX7_in x3 1 12 h3 fun v6 h5 => cEq v6 0
      (Q (-1) h5)
      (mX7_in x4 1 12 h5 fun v8 h7 => cEq v8 0
        (Q (-1) h7)
        (cGr h7 17 a0 4 fun r9 => cSt h7 r9 0 x1 fun h10 => cGr h10 17 a0 4 fun r11 => cSt h10 r11 1 x2 fun h12 => cGr h12 17 a0 4 fun r13 => cSt h12 r13 2 x3 fun h14 => cGr h14 17 a0 4 fun r15 => cSt h14 r15 3 x4 fun h16 => Q (x3 * x4) h16))))
section
variable {p : Program} {l : Launch} {e : Env} {s : State} {m : MethodId} {args : Array Value} {below : List Frame} {meth : Method} {c : Code} {D : Zd} {base : Nat}
set_option maxRecDepth 100000 in
set_option maxHeartbeats 4000000 in
theorem rX7_setBox (hc : zOk p s m args meth c D cX7_setBox 5 RX7 (some .int)) {a0 : Nat} {x1 : Int} {x2 : Int} {x3 : Int} {x4 : Int} {h : Zm} {Q : Int → Zm → Prop} (H : mX7_setBox a0 x1 x2 x3 x4 h Q) : zW p l e zrX7_setBox s m args below meth c D base 5 (MQ below (zQi D base Q) args s 0 0 (zFree base)) 0 0 0 [some (.inr a0), some (.inl x1), some (.inl x2), some (.inl x3), some (.inl x4)] [] h := by
  unfold mX7_setBox at H
  refine z_iload_n (pc := 0) hc dX7_setBox_0 rfl ?_
  refine z_calI (z_runS (pc := 1) hc dX7_setBox_1 zw_RX7_92 (metX7_isOffset _ _ _ H) rfl (Nat.le_of_ble_eq_true rfl) ⟨Nat.le_of_ble_eq_true rfl, Nat.le_of_ble_eq_true rfl⟩ ⟨by exact Nat.le_of_ble_eq_true rfl, by exact Nat.le_of_ble_eq_true rfl⟩) rfl ⟨rfl, rfl⟩ (fun v2 h1 H => ?_)
  refine z_if_eq (tgt := 35) (pc := 4) hc dX7_setBox_4 rfl H (fun H => ?_) (fun H => ?_)
  · refine z_iconst (pc := 35) hc dX7_setBox_35 ?_
    exact z_ireturn (pc := 36) hc dX7_setBox_36 H
  · refine z_iload_n (pc := 7) hc dX7_setBox_7 rfl ?_
    refine z_calI (z_runS (pc := 8) hc dX7_setBox_8 zw_RX7_92 (metX7_isOffset _ _ _ H) rfl (Nat.le_of_ble_eq_true rfl) ⟨Nat.le_of_ble_eq_true rfl, Nat.le_of_ble_eq_true rfl⟩ ⟨by exact Nat.le_of_ble_eq_true rfl, by exact Nat.le_of_ble_eq_true rfl⟩) rfl ⟨rfl, rfl⟩ (fun v4 h3 H => ?_)
    refine z_if_eq (tgt := 35) (pc := 11) hc dX7_setBox_11 rfl H (fun H => ?_) (fun H => ?_)
    · refine z_iconst (pc := 35) hc dX7_setBox_35 ?_
      exact z_ireturn (pc := 36) hc dX7_setBox_36 H
    · refine z_iload_n (pc := 14) hc dX7_setBox_14 rfl ?_
      refine z_iconst (pc := 15) hc dX7_setBox_15 ?_
      refine z_bipush (pc := 16) hc dX7_setBox_16 (by decide) ?_
      refine z_calI (z_runS (pc := 18) hc dX7_setBox_18 zw_RX7_73 (metX7_in _ _ _ H) rfl (Nat.le_of_ble_eq_true rfl) ⟨Nat.le_of_ble_eq_true rfl, Nat.le_of_ble_eq_true rfl⟩ ⟨by exact Nat.le_of_ble_eq_true rfl, by exact Nat.le_of_ble_eq_true rfl⟩) rfl ⟨rfl, rfl⟩ (fun v6 h5 H => ?_)
      refine z_if_eq (tgt := 35) (pc := 21) hc dX7_setBox_21 rfl H (fun H => ?_) (fun H => ?_)
      · refine z_iconst (pc := 35) hc dX7_setBox_35 ?_
        exact z_ireturn (pc := 36) hc dX7_setBox_36 H
      · refine z_iload (pc := 24) hc dX7_setBox_24 rfl ?_
        refine z_iconst (pc := 26) hc dX7_setBox_26 ?_
        refine z_bipush (pc := 27) hc dX7_setBox_27 (by decide) ?_
        refine z_calI (z_runS (pc := 29) hc dX7_setBox_29 zw_RX7_73 (metX7_in _ _ _ H) rfl (Nat.le_of_ble_eq_true rfl) ⟨Nat.le_of_ble_eq_true rfl, Nat.le_of_ble_eq_true rfl⟩ ⟨by exact Nat.le_of_ble_eq_true rfl, by exact Nat.le_of_ble_eq_true rfl⟩) rfl ⟨rfl, rfl⟩ (fun v8 h7 H => ?_)
        refine z_if_ne (tgt := 37) (pc := 32) hc dX7_setBox_32 rfl H (fun H => ?_) (fun H => ?_)
        · refine z_iconst (pc := 35) hc dX7_setBox_35 ?_
          exact z_ireturn (pc := 36) hc dX7_setBox_36 H
        · refine z_aload_n (pc := 37) hc dX7_setBox_37 rfl ?_
          refine z_getR (pc := 38) hc dX7_setBox_38 zf_RX7_19 rfl rfl rfl H (fun r9 H => ?_)
          refine z_iconst (pc := 41) hc dX7_setBox_41 ?_
          refine z_iload_n (pc := 42) hc dX7_setBox_42 rfl ?_
          refine z_iastore (pc := 43) hc dX7_setBox_43 H (fun h10 H => ?_)
          refine z_aload_n (pc := 44) hc dX7_setBox_44 rfl ?_
          refine z_getR (pc := 45) hc dX7_setBox_45 zf_RX7_19 rfl rfl rfl H (fun r11 H => ?_)
          refine z_iconst (pc := 48) hc dX7_setBox_48 ?_
          refine z_iload_n (pc := 49) hc dX7_setBox_49 rfl ?_
          refine z_iastore (pc := 50) hc dX7_setBox_50 H (fun h12 H => ?_)
          refine z_aload_n (pc := 51) hc dX7_setBox_51 rfl ?_
          refine z_getR (pc := 52) hc dX7_setBox_52 zf_RX7_19 rfl rfl rfl H (fun r13 H => ?_)
          refine z_iconst (pc := 55) hc dX7_setBox_55 ?_
          refine z_iload_n (pc := 56) hc dX7_setBox_56 rfl ?_
          refine z_iastore (pc := 57) hc dX7_setBox_57 H (fun h14 H => ?_)
          refine z_aload_n (pc := 58) hc dX7_setBox_58 rfl ?_
          refine z_getR (pc := 59) hc dX7_setBox_59 zf_RX7_19 rfl rfl rfl H (fun r15 H => ?_)
          refine z_iconst (pc := 62) hc dX7_setBox_62 ?_
          refine z_iload (pc := 63) hc dX7_setBox_63 rfl ?_
          refine z_iastore (pc := 65) hc dX7_setBox_65 H (fun h16 H => ?_)
          refine z_iload_n (pc := 66) hc dX7_setBox_66 rfl ?_
          refine z_iload (pc := 67) hc dX7_setBox_67 rfl ?_
          refine z_imul (pc := 69) hc dX7_setBox_69 ?_
          exact z_ireturn (pc := 70) hc dX7_setBox_70 H
end
theorem metX7_setBox (l : Launch) (D : Zd) (base : Nat) {a0 : Nat} {x1 : Int} {x2 : Int} {x3 : Int} {x4 : Int} {h : Zm} {Q : Int → Zm → Prop} (H : mX7_setBox a0 x1 x2 x3 x4 h Q) : zMet l D base yX7_setBox cX7_setBox 5 (some .int) zrX7_setBox [.inr a0, .inl x1, .inl x2, .inl x3, .inl x4] h (zQi D base Q) :=
  z_met (by decide +kernel) (Nat.le_of_ble_eq_true rfl) (fun p e s m args below meth c hc hn => rX7_setBox hc H)
def zrX7_setInk : Room := { frames := 1, cells := 0, slots := 0, locals := 22 }
def mX7_setInk (a0 : Nat) (x1 : Int) (x2 : Int) (x3 : Int) (h : Zm) (Q : Int → Zm → Prop) : Prop :=
  mX7_in x1 0 255 h fun v2 h1 => cEq v2 0
  (Q (-1) h1)
  (mX7_in x2 0 255 h1 fun v4 h3 => cEq v4 0
    (Q (-1) h3)
    (mX7_in x3 0 255 h3 fun v6 h5 => cEq v6 0
      (Q (-1) h5)
      (cGr h5 17 a0 5 fun r7 => cSt h5 r7 0 x1 fun h8 => cGr h8 17 a0 5 fun r9 => cSt h8 r9 1 x2 fun h10 => cGr h10 17 a0 5 fun r11 => cSt h10 r11 2 x3 fun h12 => Q ((x1 + x2) + x3) h12)))
section
variable {p : Program} {l : Launch} {e : Env} {s : State} {m : MethodId} {args : Array Value} {below : List Frame} {meth : Method} {c : Code} {D : Zd} {base : Nat}
set_option maxRecDepth 100000 in
set_option maxHeartbeats 4000000 in
theorem rX7_setInk (hc : zOk p s m args meth c D cX7_setInk 4 RX7 (some .int)) {a0 : Nat} {x1 : Int} {x2 : Int} {x3 : Int} {h : Zm} {Q : Int → Zm → Prop} (H : mX7_setInk a0 x1 x2 x3 h Q) : zW p l e zrX7_setInk s m args below meth c D base 4 (MQ below (zQi D base Q) args s 0 0 (zFree base)) 0 0 0 [some (.inr a0), some (.inl x1), some (.inl x2), some (.inl x3)] [] h := by
  unfold mX7_setInk at H
  refine z_iload_n (pc := 0) hc dX7_setInk_0 rfl ?_
  refine z_iconst (pc := 1) hc dX7_setInk_1 ?_
  refine z_sipush (pc := 2) hc dX7_setInk_2 (by decide) ?_
  refine z_calI (z_runS (pc := 5) hc dX7_setInk_5 zw_RX7_73 (metX7_in _ _ _ H) rfl (Nat.le_of_ble_eq_true rfl) ⟨Nat.le_of_ble_eq_true rfl, Nat.le_of_ble_eq_true rfl⟩ ⟨by exact Nat.le_of_ble_eq_true rfl, by exact Nat.le_of_ble_eq_true rfl⟩) rfl ⟨rfl, rfl⟩ (fun v2 h1 H => ?_)
  refine z_if_eq (tgt := 33) (pc := 8) hc dX7_setInk_8 rfl H (fun H => ?_) (fun H => ?_)
  · refine z_iconst (pc := 33) hc dX7_setInk_33 ?_
    exact z_ireturn (pc := 34) hc dX7_setInk_34 H
  · refine z_iload_n (pc := 11) hc dX7_setInk_11 rfl ?_
    refine z_iconst (pc := 12) hc dX7_setInk_12 ?_
    refine z_sipush (pc := 13) hc dX7_setInk_13 (by decide) ?_
    refine z_calI (z_runS (pc := 16) hc dX7_setInk_16 zw_RX7_73 (metX7_in _ _ _ H) rfl (Nat.le_of_ble_eq_true rfl) ⟨Nat.le_of_ble_eq_true rfl, Nat.le_of_ble_eq_true rfl⟩ ⟨by exact Nat.le_of_ble_eq_true rfl, by exact Nat.le_of_ble_eq_true rfl⟩) rfl ⟨rfl, rfl⟩ (fun v4 h3 H => ?_)
    refine z_if_eq (tgt := 33) (pc := 19) hc dX7_setInk_19 rfl H (fun H => ?_) (fun H => ?_)
    · refine z_iconst (pc := 33) hc dX7_setInk_33 ?_
      exact z_ireturn (pc := 34) hc dX7_setInk_34 H
    · refine z_iload_n (pc := 22) hc dX7_setInk_22 rfl ?_
      refine z_iconst (pc := 23) hc dX7_setInk_23 ?_
      refine z_sipush (pc := 24) hc dX7_setInk_24 (by decide) ?_
      refine z_calI (z_runS (pc := 27) hc dX7_setInk_27 zw_RX7_73 (metX7_in _ _ _ H) rfl (Nat.le_of_ble_eq_true rfl) ⟨Nat.le_of_ble_eq_true rfl, Nat.le_of_ble_eq_true rfl⟩ ⟨by exact Nat.le_of_ble_eq_true rfl, by exact Nat.le_of_ble_eq_true rfl⟩) rfl ⟨rfl, rfl⟩ (fun v6 h5 H => ?_)
      refine z_if_ne (tgt := 35) (pc := 30) hc dX7_setInk_30 rfl H (fun H => ?_) (fun H => ?_)
      · refine z_iconst (pc := 33) hc dX7_setInk_33 ?_
        exact z_ireturn (pc := 34) hc dX7_setInk_34 H
      · refine z_aload_n (pc := 35) hc dX7_setInk_35 rfl ?_
        refine z_getR (pc := 36) hc dX7_setInk_36 zf_RX7_22 rfl rfl rfl H (fun r7 H => ?_)
        refine z_iconst (pc := 39) hc dX7_setInk_39 ?_
        refine z_iload_n (pc := 40) hc dX7_setInk_40 rfl ?_
        refine z_iastore (pc := 41) hc dX7_setInk_41 H (fun h8 H => ?_)
        refine z_aload_n (pc := 42) hc dX7_setInk_42 rfl ?_
        refine z_getR (pc := 43) hc dX7_setInk_43 zf_RX7_22 rfl rfl rfl H (fun r9 H => ?_)
        refine z_iconst (pc := 46) hc dX7_setInk_46 ?_
        refine z_iload_n (pc := 47) hc dX7_setInk_47 rfl ?_
        refine z_iastore (pc := 48) hc dX7_setInk_48 H (fun h10 H => ?_)
        refine z_aload_n (pc := 49) hc dX7_setInk_49 rfl ?_
        refine z_getR (pc := 50) hc dX7_setInk_50 zf_RX7_22 rfl rfl rfl H (fun r11 H => ?_)
        refine z_iconst (pc := 53) hc dX7_setInk_53 ?_
        refine z_iload_n (pc := 54) hc dX7_setInk_54 rfl ?_
        refine z_iastore (pc := 55) hc dX7_setInk_55 H (fun h12 H => ?_)
        refine z_iload_n (pc := 56) hc dX7_setInk_56 rfl ?_
        refine z_iload_n (pc := 57) hc dX7_setInk_57 rfl ?_
        refine z_iadd (pc := 58) hc dX7_setInk_58 ?_
        refine z_iload_n (pc := 59) hc dX7_setInk_59 rfl ?_
        refine z_iadd (pc := 60) hc dX7_setInk_60 ?_
        exact z_ireturn (pc := 61) hc dX7_setInk_61 H
end
theorem metX7_setInk (l : Launch) (D : Zd) (base : Nat) {a0 : Nat} {x1 : Int} {x2 : Int} {x3 : Int} {h : Zm} {Q : Int → Zm → Prop} (H : mX7_setInk a0 x1 x2 x3 h Q) : zMet l D base yX7_setInk cX7_setInk 4 (some .int) zrX7_setInk [.inr a0, .inl x1, .inl x2, .inl x3] h (zQi D base Q) :=
  z_met (by decide +kernel) (Nat.le_of_ble_eq_true rfl) (fun p e s m args below meth c hc hn => rX7_setInk hc H)
def zrX7_countBelow : Room := { frames := 2, cells := 0, slots := 0, locals := 45 }
def mX7_countBelow_B4 (X4 : Int → Int → Zm → Prop) (a0 : Nat) (x1 : Int) (x2 : Int) (x3 : Int) (h : Zm) (Q : Int → Zm → Prop) : Prop :=
  cLt x3 24
  (cEq x3 x1
    (X4 (x2 + 0) (x3 + 1) h)
    (cRc h 17 a0 <| mX7_of a0 x3 0 h fun v2 h1 => cLt v2 0
      (X4 (x2 + 0) (x3 + 1) h1)
      (cRc h1 17 a0 <| mX7_isBelow a0 x3 x1 h1 fun v4 h3 => cEq v4 0
        (X4 (x2 + 0) (x3 + 1) h3)
        (X4 (x2 + 1) (x3 + 1) h3))))
  (Q x2 h)
def mX7_countBelow_H4  (a0 : Nat) (x1 : Int) (x2 : Int) (x3 : Int) (h : Zm) (Q : Int → Zm → Prop) : Prop :=
  lfp2 (fun X4 x2 x3 h => mX7_countBelow_B4 X4 a0 x1 x2 x3 h Q) x2 x3 h
def mX7_countBelow (a0 : Nat) (x1 : Int) (h : Zm) (Q : Int → Zm → Prop) : Prop :=
  mX7_countBelow_H4  a0 x1 0 1 h Q
section
variable {p : Program} {l : Launch} {e : Env} {s : State} {m : MethodId} {args : Array Value} {below : List Frame} {meth : Method} {c : Code} {D : Zd} {base : Nat}
set_option maxRecDepth 100000 in
set_option maxHeartbeats 4000000 in
theorem rX7_countBelow_B4 (hc : zOk p s m args meth c D cX7_countBelow 4 RX7 (some .int)) {X4 : Int → Int → Zm → Prop} {a0 : Nat} {x1 : Int} {x2 : Int} {x3 : Int} {h : Zm} {Q : Int → Zm → Prop} (hX4 : ∀ (x2 : Int) (x3 : Int) (h : Zm), X4 x2 x3 h → zW p l e zrX7_countBelow s m args below meth c D base 4 (MQ below (zQi D base Q) args s 0 0 (zFree base)) 0 0 4 [some (.inr a0), some (.inl x1), some (.inl x2), some (.inl x3)] [] h) (H : mX7_countBelow_B4 X4 a0 x1 x2 x3 h Q) : zW p l e zrX7_countBelow s m args below meth c D base 4 (MQ below (zQi D base Q) args s 0 0 (zFree base)) 0 0 4 [some (.inr a0), some (.inl x1), some (.inl x2), some (.inl x3)] [] h := by
  unfold mX7_countBelow_B4 at H
  refine z_iload_n (pc := 4) hc dX7_countBelow_4 rfl ?_
  refine z_bipush (pc := 5) hc dX7_countBelow_5 (by decide) ?_
  refine z_icmp_ge (tgt := 47) (pc := 7) hc dX7_countBelow_7 rfl H (fun H => ?_) (fun H => ?_)
  · refine z_iload_n (pc := 10) hc dX7_countBelow_10 rfl ?_
    refine z_iload_n (pc := 11) hc dX7_countBelow_11 rfl ?_
    refine z_iload_n (pc := 12) hc dX7_countBelow_12 rfl ?_
    refine z_icmp_eq (tgt := 38) (pc := 13) hc dX7_countBelow_13 rfl H (fun H => ?_) (fun H => ?_)
    · refine z_iconst (pc := 38) hc dX7_countBelow_38 ?_
      refine z_iadd (pc := 39) hc dX7_countBelow_39 ?_
      refine z_istore_n (pc := 40) hc dX7_countBelow_40 (by decide) (ρ' := [some (.inr a0), some (.inl x1), some (.inl (x2 + 0)), some (.inl x3)]) rfl ?_
      refine z_iinc (pc := 41) hc dX7_countBelow_41 (by decide) rfl (ρ' := [some (.inr a0), some (.inl x1), some (.inl (x2 + 0)), some (.inl (x3 + 1))]) rfl ?_
      refine z_goto (tgt := 4) (pc := 44) hc dX7_countBelow_44 rfl ?_
      exact hX4 _ _ _ H
    · refine z_aload_n (pc := 16) hc dX7_countBelow_16 rfl ?_
      refine z_iload_n (pc := 17) hc dX7_countBelow_17 rfl ?_
      refine z_iconst (pc := 18) hc dX7_countBelow_18 ?_
      refine z_calI (z_runV (pc := 19) (ci := 7) (T := TX7) (N := 20) hc dX7_countBelow_19 zw_RX7_77 (metX7_of _ _ _ H.2) rfl (Nat.le_of_ble_eq_true rfl) ⟨Nat.le_of_ble_eq_true rfl, Nat.le_of_ble_eq_true rfl⟩ ⟨by exact Nat.le_of_ble_eq_true rfl, by exact Nat.le_of_ble_eq_true rfl⟩ rfl H.1) rfl ⟨rfl, rfl⟩ (fun v2 h1 H => ?_)
      refine z_if_lt (tgt := 38) (pc := 22) hc dX7_countBelow_22 rfl H (fun H => ?_) (fun H => ?_)
      · refine z_iconst (pc := 38) hc dX7_countBelow_38 ?_
        refine z_iadd (pc := 39) hc dX7_countBelow_39 ?_
        refine z_istore_n (pc := 40) hc dX7_countBelow_40 (by decide) (ρ' := [some (.inr a0), some (.inl x1), some (.inl (x2 + 0)), some (.inl x3)]) rfl ?_
        refine z_iinc (pc := 41) hc dX7_countBelow_41 (by decide) rfl (ρ' := [some (.inr a0), some (.inl x1), some (.inl (x2 + 0)), some (.inl (x3 + 1))]) rfl ?_
        refine z_goto (tgt := 4) (pc := 44) hc dX7_countBelow_44 rfl ?_
        exact hX4 _ _ _ H
      · refine z_aload_n (pc := 25) hc dX7_countBelow_25 rfl ?_
        refine z_iload_n (pc := 26) hc dX7_countBelow_26 rfl ?_
        refine z_iload_n (pc := 27) hc dX7_countBelow_27 rfl ?_
        refine z_calI (z_runV (pc := 28) (ci := 7) (T := TX7) (N := 20) hc dX7_countBelow_28 zw_RX7_98 (metX7_isBelow _ _ _ H.2) rfl (Nat.le_of_ble_eq_true rfl) ⟨Nat.le_of_ble_eq_true rfl, Nat.le_of_ble_eq_true rfl⟩ ⟨by exact Nat.le_of_ble_eq_true rfl, by exact Nat.le_of_ble_eq_true rfl⟩ rfl H.1) rfl ⟨rfl, rfl⟩ (fun v4 h3 H => ?_)
        refine z_if_eq (tgt := 38) (pc := 31) hc dX7_countBelow_31 rfl H (fun H => ?_) (fun H => ?_)
        · refine z_iconst (pc := 38) hc dX7_countBelow_38 ?_
          refine z_iadd (pc := 39) hc dX7_countBelow_39 ?_
          refine z_istore_n (pc := 40) hc dX7_countBelow_40 (by decide) (ρ' := [some (.inr a0), some (.inl x1), some (.inl (x2 + 0)), some (.inl x3)]) rfl ?_
          refine z_iinc (pc := 41) hc dX7_countBelow_41 (by decide) rfl (ρ' := [some (.inr a0), some (.inl x1), some (.inl (x2 + 0)), some (.inl (x3 + 1))]) rfl ?_
          refine z_goto (tgt := 4) (pc := 44) hc dX7_countBelow_44 rfl ?_
          exact hX4 _ _ _ H
        · refine z_iconst (pc := 34) hc dX7_countBelow_34 ?_
          refine z_goto (tgt := 39) (pc := 35) hc dX7_countBelow_35 rfl ?_
          refine z_iadd (pc := 39) hc dX7_countBelow_39 ?_
          refine z_istore_n (pc := 40) hc dX7_countBelow_40 (by decide) (ρ' := [some (.inr a0), some (.inl x1), some (.inl (x2 + 1)), some (.inl x3)]) rfl ?_
          refine z_iinc (pc := 41) hc dX7_countBelow_41 (by decide) rfl (ρ' := [some (.inr a0), some (.inl x1), some (.inl (x2 + 1)), some (.inl (x3 + 1))]) rfl ?_
          refine z_goto (tgt := 4) (pc := 44) hc dX7_countBelow_44 rfl ?_
          exact hX4 _ _ _ H
  · refine z_iload_n (pc := 47) hc dX7_countBelow_47 rfl ?_
    exact z_ireturn (pc := 48) hc dX7_countBelow_48 H
theorem rX7_countBelow_H4 (hc : zOk p s m args meth c D cX7_countBelow 4 RX7 (some .int))  {a0 : Nat} {x1 : Int} {x2 : Int} {x3 : Int} {h : Zm} {Q : Int → Zm → Prop}  (H : mX7_countBelow_H4  a0 x1 x2 x3 h Q) : zW p l e zrX7_countBelow s m args below meth c D base 4 (MQ below (zQi D base Q) args s 0 0 (zFree base)) 0 0 4 [some (.inr a0), some (.inl x1), some (.inl x2), some (.inl x3)] [] h :=
  H (fun x2 x3 h => zW p l e zrX7_countBelow s m args below meth c D base 4 (MQ below (zQi D base Q) args s 0 0 (zFree base)) 0 0 4 [some (.inr a0), some (.inl x1), some (.inl x2), some (.inl x3)] [] h) (fun x2 x3 h H => rX7_countBelow_B4 hc (fun _ _ _ q => q) H)
set_option maxRecDepth 100000 in
set_option maxHeartbeats 4000000 in
theorem rX7_countBelow (hc : zOk p s m args meth c D cX7_countBelow 4 RX7 (some .int)) {a0 : Nat} {x1 : Int} {h : Zm} {Q : Int → Zm → Prop} (H : mX7_countBelow a0 x1 h Q) : zW p l e zrX7_countBelow s m args below meth c D base 4 (MQ below (zQi D base Q) args s 0 0 (zFree base)) 0 0 0 [some (.inr a0), some (.inl x1), none, none] [] h := by
  unfold mX7_countBelow at H
  refine z_iconst (pc := 0) hc dX7_countBelow_0 ?_
  refine z_istore_n (pc := 1) hc dX7_countBelow_1 (by decide) (ρ' := [some (.inr a0), some (.inl x1), some (.inl 0), none]) rfl ?_
  refine z_iconst (pc := 2) hc dX7_countBelow_2 ?_
  refine z_istore_n (pc := 3) hc dX7_countBelow_3 (by decide) (ρ' := [some (.inr a0), some (.inl x1), some (.inl 0), some (.inl 1)]) rfl ?_
  exact rX7_countBelow_H4 hc H
end
theorem metX7_countBelow (l : Launch) (D : Zd) (base : Nat) {a0 : Nat} {x1 : Int} {h : Zm} {Q : Int → Zm → Prop} (H : mX7_countBelow a0 x1 h Q) : zMet l D base yX7_countBelow cX7_countBelow 4 (some .int) zrX7_countBelow [.inr a0, .inl x1] h (zQi D base Q) :=
  z_met (by decide +kernel) (Nat.le_of_ble_eq_true rfl) (fun p e s m args below meth c hc hn => rX7_countBelow hc H)
def zrX7_remove : Room := { frames := 2, cells := 0, slots := 0, locals := 45 }
def mX7_remove_B68 (X68 : Int → Int → Zm → Prop) (a0 : Nat) (x2 : Int) (x3 : Int) (h : Zm) (Q : Int → Zm → Prop) : Prop :=
  cLt x3 24
  (cGr h 17 a0 6 fun r14 => cLd h 2 r14 x3 fun v15 => cEq v15 0
    (X68 x2 (x3 + 1) h)
    (cGr h 17 a0 0 fun r16 => cSt h r16 (128 + (10 * x3)) (-1) fun h17 => X68 (x2 + 1) (x3 + 1) h17))
  (cRc h 17 a0 <| mX7_ends a0 x2 h fun v13 h12 => Q v13 h12)
def mX7_remove_H68  (a0 : Nat) (x2 : Int) (x3 : Int) (h : Zm) (Q : Int → Zm → Prop) : Prop :=
  lfp2 (fun X68 x2 x3 h => mX7_remove_B68 X68 a0 x2 x3 h Q) x2 x3 h
def mX7_remove_B25 (X25 : Int → Zm → Prop) (a0 : Nat) (x1 : Int) (x2 : Int) (x3 : Int) (h : Zm) (Q : Int → Zm → Prop) : Prop :=
  cLt x3 24
  (cGr h 17 a0 6 fun r4 => cRc h 17 a0 <| mX7_of a0 x3 0 h fun v6 h5 => cLt v6 0
    (cStZ h5 r4 x3 0 fun h7 => X25 (x3 + 1) h7)
    (cRc h5 17 a0 <| mX7_isBelow a0 x3 x1 h5 fun v9 h8 => cEq v9 0
      (cStZ h8 r4 x3 0 fun h10 => X25 (x3 + 1) h10)
      (cStZ h8 r4 x3 1 fun h11 => X25 (x3 + 1) h11)))
  (mX7_remove_H68  a0 x2 0 h Q)
def mX7_remove_H25  (a0 : Nat) (x1 : Int) (x2 : Int) (x3 : Int) (h : Zm) (Q : Int → Zm → Prop) : Prop :=
  lfp1 (fun X25 x3 h => mX7_remove_B25 X25 a0 x1 x2 x3 h Q) x3 h
def mX7_remove (a0 : Nat) (x1 : Int) (h : Zm) (Q : Int → Zm → Prop) : Prop :=
  cRc h 17 a0 <| mX7_isNode a0 x1 h fun v2 h1 => cEq v2 0
  (Q (-1) h1)
  (cEq x1 0
    (Q (-2) h1)
    (cRc h1 17 a0 <| mX7_hold a0 h1 fun h3 => mX7_remove_H25  a0 x1 0 0 h3 Q))
section
variable {p : Program} {l : Launch} {e : Env} {s : State} {m : MethodId} {args : Array Value} {below : List Frame} {meth : Method} {c : Code} {D : Zd} {base : Nat}
set_option maxRecDepth 100000 in
set_option maxHeartbeats 4000000 in
theorem rX7_remove_B68 (hc : zOk p s m args meth c D cX7_remove 4 RX7 (some .int)) {X68 : Int → Int → Zm → Prop} {a0 : Nat} {x2 : Int} {x3 : Int} {h : Zm} {Q : Int → Zm → Prop} (hX68 : ∀ (x2 : Int) (x3 : Int) (h : Zm), X68 x2 x3 h → zW p l e zrX7_remove s m args below meth c D base 4 (MQ below (zQi D base Q) args s 0 0 (zFree base)) 0 0 68 [some (.inr a0), none, some (.inl x2), some (.inl x3)] [] h) (H : mX7_remove_B68 X68 a0 x2 x3 h Q) : zW p l e zrX7_remove s m args below meth c D base 4 (MQ below (zQi D base Q) args s 0 0 (zFree base)) 0 0 68 [some (.inr a0), none, some (.inl x2), some (.inl x3)] [] h := by
  unfold mX7_remove_B68 at H
  refine z_iload_n (pc := 68) hc dX7_remove_68 rfl ?_
  refine z_bipush (pc := 69) hc dX7_remove_69 (by decide) ?_
  refine z_icmp_ge (tgt := 106) (pc := 71) hc dX7_remove_71 rfl H (fun H => ?_) (fun H => ?_)
  · refine z_aload_n (pc := 74) hc dX7_remove_74 rfl ?_
    refine z_getR (pc := 75) hc dX7_remove_75 zf_RX7_25 rfl rfl rfl H (fun r14 H => ?_)
    refine z_iload_n (pc := 78) hc dX7_remove_78 rfl ?_
    refine z_baload (pc := 79) hc dX7_remove_79 H (fun v15 H => ?_)
    refine z_if_eq (tgt := 100) (pc := 80) hc dX7_remove_80 rfl H (fun H => ?_) (fun H => ?_)
    · refine z_iinc (pc := 100) hc dX7_remove_100 (by decide) rfl (ρ' := [some (.inr a0), none, some (.inl x2), some (.inl (x3 + 1))]) rfl ?_
      refine z_goto (tgt := 68) (pc := 103) hc dX7_remove_103 rfl ?_
      exact hX68 _ _ _ H
    · refine z_aload_n (pc := 83) hc dX7_remove_83 rfl ?_
      refine z_getR (pc := 84) hc dX7_remove_84 zf_RX7_7 rfl rfl rfl H (fun r16 H => ?_)
      refine z_sipush (pc := 87) hc dX7_remove_87 (by decide) ?_
      refine z_bipush (pc := 90) hc dX7_remove_90 (by decide) ?_
      refine z_iload_n (pc := 92) hc dX7_remove_92 rfl ?_
      refine z_imul (pc := 93) hc dX7_remove_93 ?_
      refine z_iadd (pc := 94) hc dX7_remove_94 ?_
      refine z_iconst (pc := 95) hc dX7_remove_95 ?_
      refine z_iastore (pc := 96) hc dX7_remove_96 H (fun h17 H => ?_)
      refine z_iinc (pc := 97) hc dX7_remove_97 (by decide) rfl (ρ' := [some (.inr a0), none, some (.inl (x2 + 1)), some (.inl x3)]) rfl ?_
      refine z_iinc (pc := 100) hc dX7_remove_100 (by decide) rfl (ρ' := [some (.inr a0), none, some (.inl (x2 + 1)), some (.inl (x3 + 1))]) rfl ?_
      refine z_goto (tgt := 68) (pc := 103) hc dX7_remove_103 rfl ?_
      exact hX68 _ _ _ H
  · refine z_aload_n (pc := 106) hc dX7_remove_106 rfl ?_
    refine z_iload_n (pc := 107) hc dX7_remove_107 rfl ?_
    refine z_calI (z_runV (pc := 108) (ci := 7) (T := TX7) (N := 20) hc dX7_remove_108 zw_RX7_69 (metX7_ends _ _ _ H.2) rfl (Nat.le_of_ble_eq_true rfl) ⟨Nat.le_of_ble_eq_true rfl, Nat.le_of_ble_eq_true rfl⟩ ⟨by exact Nat.le_of_ble_eq_true rfl, by exact Nat.le_of_ble_eq_true rfl⟩ rfl H.1) rfl ⟨rfl, rfl⟩ (fun v13 h12 H => ?_)
    exact z_ireturn (pc := 111) hc dX7_remove_111 H
theorem rX7_remove_H68 (hc : zOk p s m args meth c D cX7_remove 4 RX7 (some .int))  {a0 : Nat} {x2 : Int} {x3 : Int} {h : Zm} {Q : Int → Zm → Prop}  (H : mX7_remove_H68  a0 x2 x3 h Q) : zW p l e zrX7_remove s m args below meth c D base 4 (MQ below (zQi D base Q) args s 0 0 (zFree base)) 0 0 68 [some (.inr a0), none, some (.inl x2), some (.inl x3)] [] h :=
  H (fun x2 x3 h => zW p l e zrX7_remove s m args below meth c D base 4 (MQ below (zQi D base Q) args s 0 0 (zFree base)) 0 0 68 [some (.inr a0), none, some (.inl x2), some (.inl x3)] [] h) (fun x2 x3 h H => rX7_remove_B68 hc (fun _ _ _ q => q) H)
set_option maxRecDepth 100000 in
set_option maxHeartbeats 4000000 in
theorem rX7_remove_B25 (hc : zOk p s m args meth c D cX7_remove 4 RX7 (some .int)) {X25 : Int → Zm → Prop} {a0 : Nat} {x1 : Int} {x2 : Int} {x3 : Int} {h : Zm} {Q : Int → Zm → Prop} (hX25 : ∀ (x3 : Int) (h : Zm), X25 x3 h → zW p l e zrX7_remove s m args below meth c D base 4 (MQ below (zQi D base Q) args s 0 0 (zFree base)) 0 0 25 [some (.inr a0), some (.inl x1), some (.inl x2), some (.inl x3)] [] h) (H : mX7_remove_B25 X25 a0 x1 x2 x3 h Q) : zW p l e zrX7_remove s m args below meth c D base 4 (MQ below (zQi D base Q) args s 0 0 (zFree base)) 0 0 25 [some (.inr a0), some (.inl x1), some (.inl x2), some (.inl x3)] [] h := by
  unfold mX7_remove_B25 at H
  refine z_iload_n (pc := 25) hc dX7_remove_25 rfl ?_
  refine z_bipush (pc := 26) hc dX7_remove_26 (by decide) ?_
  refine z_icmp_ge (tgt := 66) (pc := 28) hc dX7_remove_28 rfl H (fun H => ?_) (fun H => ?_)
  · refine z_aload_n (pc := 31) hc dX7_remove_31 rfl ?_
    refine z_getR (pc := 32) hc dX7_remove_32 zf_RX7_25 rfl rfl rfl H (fun r4 H => ?_)
    refine z_iload_n (pc := 35) hc dX7_remove_35 rfl ?_
    refine z_aload_n (pc := 36) hc dX7_remove_36 rfl ?_
    refine z_iload_n (pc := 37) hc dX7_remove_37 rfl ?_
    refine z_iconst (pc := 38) hc dX7_remove_38 ?_
    refine z_calI (z_runV (pc := 39) (ci := 7) (T := TX7) (N := 20) hc dX7_remove_39 zw_RX7_77 (metX7_of _ _ _ H.2) rfl (Nat.le_of_ble_eq_true rfl) ⟨Nat.le_of_ble_eq_true rfl, Nat.le_of_ble_eq_true rfl⟩ ⟨by exact Nat.le_of_ble_eq_true rfl, by exact Nat.le_of_ble_eq_true rfl⟩ rfl H.1) rfl ⟨rfl, rfl⟩ (fun v6 h5 H => ?_)
    refine z_if_lt (tgt := 58) (pc := 42) hc dX7_remove_42 rfl H (fun H => ?_) (fun H => ?_)
    · refine z_iconst (pc := 58) hc dX7_remove_58 ?_
      refine z_bastore (pc := 59) hc dX7_remove_59 H (fun h7 H => ?_)
      refine z_iinc (pc := 60) hc dX7_remove_60 (by decide) rfl (ρ' := [some (.inr a0), some (.inl x1), some (.inl x2), some (.inl (x3 + 1))]) rfl ?_
      refine z_goto (tgt := 25) (pc := 63) hc dX7_remove_63 rfl ?_
      exact hX25 _ _ H
    · refine z_aload_n (pc := 45) hc dX7_remove_45 rfl ?_
      refine z_iload_n (pc := 46) hc dX7_remove_46 rfl ?_
      refine z_iload_n (pc := 47) hc dX7_remove_47 rfl ?_
      refine z_calI (z_runV (pc := 48) (ci := 7) (T := TX7) (N := 20) hc dX7_remove_48 zw_RX7_98 (metX7_isBelow _ _ _ H.2) rfl (Nat.le_of_ble_eq_true rfl) ⟨Nat.le_of_ble_eq_true rfl, Nat.le_of_ble_eq_true rfl⟩ ⟨by exact Nat.le_of_ble_eq_true rfl, by exact Nat.le_of_ble_eq_true rfl⟩ rfl H.1) rfl ⟨rfl, rfl⟩ (fun v9 h8 H => ?_)
      refine z_if_eq (tgt := 58) (pc := 51) hc dX7_remove_51 rfl H (fun H => ?_) (fun H => ?_)
      · refine z_iconst (pc := 58) hc dX7_remove_58 ?_
        refine z_bastore (pc := 59) hc dX7_remove_59 H (fun h10 H => ?_)
        refine z_iinc (pc := 60) hc dX7_remove_60 (by decide) rfl (ρ' := [some (.inr a0), some (.inl x1), some (.inl x2), some (.inl (x3 + 1))]) rfl ?_
        refine z_goto (tgt := 25) (pc := 63) hc dX7_remove_63 rfl ?_
        exact hX25 _ _ H
      · refine z_iconst (pc := 54) hc dX7_remove_54 ?_
        refine z_goto (tgt := 59) (pc := 55) hc dX7_remove_55 rfl ?_
        refine z_bastore (pc := 59) hc dX7_remove_59 H (fun h11 H => ?_)
        refine z_iinc (pc := 60) hc dX7_remove_60 (by decide) rfl (ρ' := [some (.inr a0), some (.inl x1), some (.inl x2), some (.inl (x3 + 1))]) rfl ?_
        refine z_goto (tgt := 25) (pc := 63) hc dX7_remove_63 rfl ?_
        exact hX25 _ _ H
  · refine z_iconst (pc := 66) hc dX7_remove_66 ?_
    refine z_istore_n (pc := 67) hc dX7_remove_67 (by decide) (ρ' := [some (.inr a0), some (.inl x1), some (.inl x2), some (.inl 0)]) rfl ?_
    refine z_mask [true, false, true, true] (ρ' := [some (.inr a0), none, some (.inl x2), some (.inl 0)]) rfl ?_
    exact rX7_remove_H68 hc H
theorem rX7_remove_H25 (hc : zOk p s m args meth c D cX7_remove 4 RX7 (some .int))  {a0 : Nat} {x1 : Int} {x2 : Int} {x3 : Int} {h : Zm} {Q : Int → Zm → Prop}  (H : mX7_remove_H25  a0 x1 x2 x3 h Q) : zW p l e zrX7_remove s m args below meth c D base 4 (MQ below (zQi D base Q) args s 0 0 (zFree base)) 0 0 25 [some (.inr a0), some (.inl x1), some (.inl x2), some (.inl x3)] [] h :=
  H (fun x3 h => zW p l e zrX7_remove s m args below meth c D base 4 (MQ below (zQi D base Q) args s 0 0 (zFree base)) 0 0 25 [some (.inr a0), some (.inl x1), some (.inl x2), some (.inl x3)] [] h) (fun x3 h H => rX7_remove_B25 hc (fun _ _ q => q) H)
set_option maxRecDepth 100000 in
set_option maxHeartbeats 4000000 in
theorem rX7_remove (hc : zOk p s m args meth c D cX7_remove 4 RX7 (some .int)) {a0 : Nat} {x1 : Int} {h : Zm} {Q : Int → Zm → Prop} (H : mX7_remove a0 x1 h Q) : zW p l e zrX7_remove s m args below meth c D base 4 (MQ below (zQi D base Q) args s 0 0 (zFree base)) 0 0 0 [some (.inr a0), some (.inl x1), none, none] [] h := by
  unfold mX7_remove at H
  refine z_aload_n (pc := 0) hc dX7_remove_0 rfl ?_
  refine z_iload_n (pc := 1) hc dX7_remove_1 rfl ?_
  refine z_calI (z_runV (pc := 2) (ci := 7) (T := TX7) (N := 20) hc dX7_remove_2 zw_RX7_88 (metX7_isNode _ _ _ H.2) rfl (Nat.le_of_ble_eq_true rfl) ⟨Nat.le_of_ble_eq_true rfl, Nat.le_of_ble_eq_true rfl⟩ ⟨by exact Nat.le_of_ble_eq_true rfl, by exact Nat.le_of_ble_eq_true rfl⟩ rfl H.1) rfl ⟨rfl, rfl⟩ (fun v2 h1 H => ?_)
  refine z_if_ne (tgt := 10) (pc := 5) hc dX7_remove_5 rfl H (fun H => ?_) (fun H => ?_)
  · refine z_iconst (pc := 8) hc dX7_remove_8 ?_
    exact z_ireturn (pc := 9) hc dX7_remove_9 H
  · refine z_iload_n (pc := 10) hc dX7_remove_10 rfl ?_
    refine z_if_ne (tgt := 17) (pc := 11) hc dX7_remove_11 rfl H (fun H => ?_) (fun H => ?_)
    · refine z_bipush (pc := 14) hc dX7_remove_14 (by decide) ?_
      exact z_ireturn (pc := 16) hc dX7_remove_16 H
    · refine z_aload_n (pc := 17) hc dX7_remove_17 rfl ?_
      refine z_calV0 (z_runV (pc := 18) (ci := 7) (T := TX7) (N := 20) hc dX7_remove_18 zw_RX7_66 (metX7_hold _ _ _ H.2) rfl (Nat.le_of_ble_eq_true rfl) ⟨Nat.le_of_ble_eq_true rfl, Nat.le_of_ble_eq_true rfl⟩ ⟨by exact Nat.le_of_ble_eq_true rfl, by exact Nat.le_of_ble_eq_true rfl⟩ rfl H.1) rfl ⟨rfl, rfl⟩ (fun h3 H => ?_)
      refine z_iconst (pc := 21) hc dX7_remove_21 ?_
      refine z_istore_n (pc := 22) hc dX7_remove_22 (by decide) (ρ' := [some (.inr a0), some (.inl x1), some (.inl 0), none]) rfl ?_
      refine z_iconst (pc := 23) hc dX7_remove_23 ?_
      refine z_istore_n (pc := 24) hc dX7_remove_24 (by decide) (ρ' := [some (.inr a0), some (.inl x1), some (.inl 0), some (.inl 0)]) rfl ?_
      exact rX7_remove_H25 hc H
end
theorem metX7_remove (l : Launch) (D : Zd) (base : Nat) {a0 : Nat} {x1 : Int} {h : Zm} {Q : Int → Zm → Prop} (H : mX7_remove a0 x1 h Q) : zMet l D base yX7_remove cX7_remove 4 (some .int) zrX7_remove [.inr a0, .inl x1] h (zQi D base Q) :=
  z_met (by decide +kernel) (Nat.le_of_ble_eq_true rfl) (fun p e s m args below meth c hc hn => rX7_remove hc H)
def zrX7_move : Room := { frames := 2, cells := 0, slots := 0, locals := 45 }
def mX7_move_B60 (X60 : Int → Zm → Prop) (a0 : Nat) (x1 : Int) (x2 : Int) (x3 : Int) (x4 : Int) (h : Zm) (Q : Int → Zm → Prop) : Prop :=
  cLt x4 24
  (cRc h 17 a0 <| mX7_of a0 x4 0 h fun v28 h27 => cLt v28 0
    (X60 (x4 + 1) h27)
    (cRc h27 17 a0 <| mX7_isBelow a0 x4 x1 h27 fun v30 h29 => cEq v30 0
      (X60 (x4 + 1) h29)
      (cRc h29 17 a0 <| mX7_depth a0 x4 h29 fun v32 h31 => cLe (v32 + x3) 4
        (X60 (x4 + 1) h31)
        (Q (-2) h31))))
  (cRc h 17 a0 <| mX7_hold a0 h fun h13 => cGr h13 17 a0 0 fun r14 => cLd h13 1 r14 8 fun v15 => cSt h13 r14 8 (v15 + 1) fun h16 => cGr h16 17 a0 0 fun r17 => cSt h16 r17 ((128 + (10 * x1)) + 1) x2 fun h18 => cGr h18 17 a0 0 fun r19 => cGr h18 17 a0 0 fun r20 => cLd h18 1 r20 8 fun v21 => cSt h18 r19 ((128 + (10 * x1)) + 2) v21 fun h22 => cRc h22 17 a0 <| mX7_depth a0 x1 h22 fun v24 h23 => cRc h23 17 a0 <| mX7_ends a0 v24 h23 fun v26 h25 => Q v26 h25)
def mX7_move_H60  (a0 : Nat) (x1 : Int) (x2 : Int) (x3 : Int) (x4 : Int) (h : Zm) (Q : Int → Zm → Prop) : Prop :=
  lfp1 (fun X60 x4 h => mX7_move_B60 X60 a0 x1 x2 x3 x4 h Q) x4 h
def mX7_move (a0 : Nat) (x1 : Int) (x2 : Int) (h : Zm) (Q : Int → Zm → Prop) : Prop :=
  cRc h 17 a0 <| mX7_isNode a0 x1 h fun v2 h1 => cEq v2 0
  (Q (-1) h1)
  (cRc h1 17 a0 <| mX7_isNode a0 x2 h1 fun v4 h3 => cEq v4 0
    (Q (-1) h3)
    (cEq x1 0
      (Q (-2) h3)
      (cRc h3 17 a0 <| mX7_of a0 x2 0 h3 fun v6 h5 => cEq v6 0
        (cRc h5 17 a0 <| mX7_isBelow a0 x2 x1 h5 fun v8 h7 => cEq v8 0
          (cRc h7 17 a0 <| mX7_depth a0 x2 h7 fun v10 h9 => cRc h9 17 a0 <| mX7_depth a0 x1 h9 fun v12 h11 => mX7_move_H60  a0 x1 x2 ((v10 + 1) - v12) 1 h11 Q)
          (Q (-2) h7))
        (Q (-2) h5))))
section
variable {p : Program} {l : Launch} {e : Env} {s : State} {m : MethodId} {args : Array Value} {below : List Frame} {meth : Method} {c : Code} {D : Zd} {base : Nat}
set_option maxRecDepth 100000 in
set_option maxHeartbeats 4000000 in
theorem rX7_move_B60 (hc : zOk p s m args meth c D cX7_move 5 RX7 (some .int)) {X60 : Int → Zm → Prop} {a0 : Nat} {x1 : Int} {x2 : Int} {x3 : Int} {x4 : Int} {h : Zm} {Q : Int → Zm → Prop} (hX60 : ∀ (x4 : Int) (h : Zm), X60 x4 h → zW p l e zrX7_move s m args below meth c D base 5 (MQ below (zQi D base Q) args s 0 0 (zFree base)) 0 0 60 [some (.inr a0), some (.inl x1), some (.inl x2), some (.inl x3), some (.inl x4)] [] h) (H : mX7_move_B60 X60 a0 x1 x2 x3 x4 h Q) : zW p l e zrX7_move s m args below meth c D base 5 (MQ below (zQi D base Q) args s 0 0 (zFree base)) 0 0 60 [some (.inr a0), some (.inl x1), some (.inl x2), some (.inl x3), some (.inl x4)] [] h := by
  unfold mX7_move_B60 at H
  refine z_iload (pc := 60) hc dX7_move_60 rfl ?_
  refine z_bipush (pc := 62) hc dX7_move_62 (by decide) ?_
  refine z_icmp_ge (tgt := 108) (pc := 64) hc dX7_move_64 rfl H (fun H => ?_) (fun H => ?_)
  · refine z_aload_n (pc := 67) hc dX7_move_67 rfl ?_
    refine z_iload (pc := 68) hc dX7_move_68 rfl ?_
    refine z_iconst (pc := 70) hc dX7_move_70 ?_
    refine z_calI (z_runV (pc := 71) (ci := 7) (T := TX7) (N := 20) hc dX7_move_71 zw_RX7_77 (metX7_of _ _ _ H.2) rfl (Nat.le_of_ble_eq_true rfl) ⟨Nat.le_of_ble_eq_true rfl, Nat.le_of_ble_eq_true rfl⟩ ⟨by exact Nat.le_of_ble_eq_true rfl, by exact Nat.le_of_ble_eq_true rfl⟩ rfl H.1) rfl ⟨rfl, rfl⟩ (fun v28 h27 H => ?_)
    refine z_if_lt (tgt := 102) (pc := 74) hc dX7_move_74 rfl H (fun H => ?_) (fun H => ?_)
    · refine z_iinc (pc := 102) hc dX7_move_102 (by decide) rfl (ρ' := [some (.inr a0), some (.inl x1), some (.inl x2), some (.inl x3), some (.inl (x4 + 1))]) rfl ?_
      refine z_goto (tgt := 60) (pc := 105) hc dX7_move_105 rfl ?_
      exact hX60 _ _ H
    · refine z_aload_n (pc := 77) hc dX7_move_77 rfl ?_
      refine z_iload (pc := 78) hc dX7_move_78 rfl ?_
      refine z_iload_n (pc := 80) hc dX7_move_80 rfl ?_
      refine z_calI (z_runV (pc := 81) (ci := 7) (T := TX7) (N := 20) hc dX7_move_81 zw_RX7_98 (metX7_isBelow _ _ _ H.2) rfl (Nat.le_of_ble_eq_true rfl) ⟨Nat.le_of_ble_eq_true rfl, Nat.le_of_ble_eq_true rfl⟩ ⟨by exact Nat.le_of_ble_eq_true rfl, by exact Nat.le_of_ble_eq_true rfl⟩ rfl H.1) rfl ⟨rfl, rfl⟩ (fun v30 h29 H => ?_)
      refine z_if_eq (tgt := 102) (pc := 84) hc dX7_move_84 rfl H (fun H => ?_) (fun H => ?_)
      · refine z_iinc (pc := 102) hc dX7_move_102 (by decide) rfl (ρ' := [some (.inr a0), some (.inl x1), some (.inl x2), some (.inl x3), some (.inl (x4 + 1))]) rfl ?_
        refine z_goto (tgt := 60) (pc := 105) hc dX7_move_105 rfl ?_
        exact hX60 _ _ H
      · refine z_aload_n (pc := 87) hc dX7_move_87 rfl ?_
        refine z_iload (pc := 88) hc dX7_move_88 rfl ?_
        refine z_calI (z_runV (pc := 90) (ci := 7) (T := TX7) (N := 20) hc dX7_move_90 zw_RX7_81 (metX7_depth _ _ _ H.2) rfl (Nat.le_of_ble_eq_true rfl) ⟨Nat.le_of_ble_eq_true rfl, Nat.le_of_ble_eq_true rfl⟩ ⟨by exact Nat.le_of_ble_eq_true rfl, by exact Nat.le_of_ble_eq_true rfl⟩ rfl H.1) rfl ⟨rfl, rfl⟩ (fun v32 h31 H => ?_)
        refine z_iload_n (pc := 93) hc dX7_move_93 rfl ?_
        refine z_iadd (pc := 94) hc dX7_move_94 ?_
        refine z_iconst (pc := 95) hc dX7_move_95 ?_
        refine z_icmp_le (tgt := 102) (pc := 96) hc dX7_move_96 rfl H (fun H => ?_) (fun H => ?_)
        · refine z_iinc (pc := 102) hc dX7_move_102 (by decide) rfl (ρ' := [some (.inr a0), some (.inl x1), some (.inl x2), some (.inl x3), some (.inl (x4 + 1))]) rfl ?_
          refine z_goto (tgt := 60) (pc := 105) hc dX7_move_105 rfl ?_
          exact hX60 _ _ H
        · refine z_bipush (pc := 99) hc dX7_move_99 (by decide) ?_
          exact z_ireturn (pc := 101) hc dX7_move_101 H
  · refine z_aload_n (pc := 108) hc dX7_move_108 rfl ?_
    refine z_calV0 (z_runV (pc := 109) (ci := 7) (T := TX7) (N := 20) hc dX7_move_109 zw_RX7_66 (metX7_hold _ _ _ H.2) rfl (Nat.le_of_ble_eq_true rfl) ⟨Nat.le_of_ble_eq_true rfl, Nat.le_of_ble_eq_true rfl⟩ ⟨by exact Nat.le_of_ble_eq_true rfl, by exact Nat.le_of_ble_eq_true rfl⟩ rfl H.1) rfl ⟨rfl, rfl⟩ (fun h13 H => ?_)
    refine z_aload_n (pc := 112) hc dX7_move_112 rfl ?_
    refine z_getR (pc := 113) hc dX7_move_113 zf_RX7_7 rfl rfl rfl H (fun r14 H => ?_)
    refine z_bipush (pc := 116) hc dX7_move_116 (by decide) ?_
    refine z_dup2 (pc := 118) hc dX7_move_118 ?_
    refine z_iaload (pc := 119) hc dX7_move_119 H (fun v15 H => ?_)
    refine z_iconst (pc := 120) hc dX7_move_120 ?_
    refine z_iadd (pc := 121) hc dX7_move_121 ?_
    refine z_iastore (pc := 122) hc dX7_move_122 H (fun h16 H => ?_)
    refine z_aload_n (pc := 123) hc dX7_move_123 rfl ?_
    refine z_getR (pc := 124) hc dX7_move_124 zf_RX7_7 rfl rfl rfl H (fun r17 H => ?_)
    refine z_sipush (pc := 127) hc dX7_move_127 (by decide) ?_
    refine z_bipush (pc := 130) hc dX7_move_130 (by decide) ?_
    refine z_iload_n (pc := 132) hc dX7_move_132 rfl ?_
    refine z_imul (pc := 133) hc dX7_move_133 ?_
    refine z_iadd (pc := 134) hc dX7_move_134 ?_
    refine z_iconst (pc := 135) hc dX7_move_135 ?_
    refine z_iadd (pc := 136) hc dX7_move_136 ?_
    refine z_iload_n (pc := 137) hc dX7_move_137 rfl ?_
    refine z_iastore (pc := 138) hc dX7_move_138 H (fun h18 H => ?_)
    refine z_aload_n (pc := 139) hc dX7_move_139 rfl ?_
    refine z_getR (pc := 140) hc dX7_move_140 zf_RX7_7 rfl rfl rfl H (fun r19 H => ?_)
    refine z_sipush (pc := 143) hc dX7_move_143 (by decide) ?_
    refine z_bipush (pc := 146) hc dX7_move_146 (by decide) ?_
    refine z_iload_n (pc := 148) hc dX7_move_148 rfl ?_
    refine z_imul (pc := 149) hc dX7_move_149 ?_
    refine z_iadd (pc := 150) hc dX7_move_150 ?_
    refine z_iconst (pc := 151) hc dX7_move_151 ?_
    refine z_iadd (pc := 152) hc dX7_move_152 ?_
    refine z_aload_n (pc := 153) hc dX7_move_153 rfl ?_
    refine z_getR (pc := 154) hc dX7_move_154 zf_RX7_7 rfl rfl rfl H (fun r20 H => ?_)
    refine z_bipush (pc := 157) hc dX7_move_157 (by decide) ?_
    refine z_iaload (pc := 159) hc dX7_move_159 H (fun v21 H => ?_)
    refine z_iastore (pc := 160) hc dX7_move_160 H (fun h22 H => ?_)
    refine z_aload_n (pc := 161) hc dX7_move_161 rfl ?_
    refine z_aload_n (pc := 162) hc dX7_move_162 rfl ?_
    refine z_iload_n (pc := 163) hc dX7_move_163 rfl ?_
    refine z_calI (z_runV (pc := 164) (ci := 7) (T := TX7) (N := 20) hc dX7_move_164 zw_RX7_81 (metX7_depth _ _ _ H.2) rfl (Nat.le_of_ble_eq_true rfl) ⟨Nat.le_of_ble_eq_true rfl, Nat.le_of_ble_eq_true rfl⟩ ⟨by exact Nat.le_of_ble_eq_true rfl, by exact Nat.le_of_ble_eq_true rfl⟩ rfl H.1) rfl ⟨rfl, rfl⟩ (fun v24 h23 H => ?_)
    refine z_calI (z_runV (pc := 167) (ci := 7) (T := TX7) (N := 20) hc dX7_move_167 zw_RX7_69 (metX7_ends _ _ _ H.2) rfl (Nat.le_of_ble_eq_true rfl) ⟨Nat.le_of_ble_eq_true rfl, Nat.le_of_ble_eq_true rfl⟩ ⟨by exact Nat.le_of_ble_eq_true rfl, by exact Nat.le_of_ble_eq_true rfl⟩ rfl H.1) rfl ⟨rfl, rfl⟩ (fun v26 h25 H => ?_)
    exact z_ireturn (pc := 170) hc dX7_move_170 H
theorem rX7_move_H60 (hc : zOk p s m args meth c D cX7_move 5 RX7 (some .int))  {a0 : Nat} {x1 : Int} {x2 : Int} {x3 : Int} {x4 : Int} {h : Zm} {Q : Int → Zm → Prop}  (H : mX7_move_H60  a0 x1 x2 x3 x4 h Q) : zW p l e zrX7_move s m args below meth c D base 5 (MQ below (zQi D base Q) args s 0 0 (zFree base)) 0 0 60 [some (.inr a0), some (.inl x1), some (.inl x2), some (.inl x3), some (.inl x4)] [] h :=
  H (fun x4 h => zW p l e zrX7_move s m args below meth c D base 5 (MQ below (zQi D base Q) args s 0 0 (zFree base)) 0 0 60 [some (.inr a0), some (.inl x1), some (.inl x2), some (.inl x3), some (.inl x4)] [] h) (fun x4 h H => rX7_move_B60 hc (fun _ _ q => q) H)
set_option maxRecDepth 100000 in
set_option maxHeartbeats 4000000 in
theorem rX7_move (hc : zOk p s m args meth c D cX7_move 5 RX7 (some .int)) {a0 : Nat} {x1 : Int} {x2 : Int} {h : Zm} {Q : Int → Zm → Prop} (H : mX7_move a0 x1 x2 h Q) : zW p l e zrX7_move s m args below meth c D base 5 (MQ below (zQi D base Q) args s 0 0 (zFree base)) 0 0 0 [some (.inr a0), some (.inl x1), some (.inl x2), none, none] [] h := by
  unfold mX7_move at H
  refine z_aload_n (pc := 0) hc dX7_move_0 rfl ?_
  refine z_iload_n (pc := 1) hc dX7_move_1 rfl ?_
  refine z_calI (z_runV (pc := 2) (ci := 7) (T := TX7) (N := 20) hc dX7_move_2 zw_RX7_88 (metX7_isNode _ _ _ H.2) rfl (Nat.le_of_ble_eq_true rfl) ⟨Nat.le_of_ble_eq_true rfl, Nat.le_of_ble_eq_true rfl⟩ ⟨by exact Nat.le_of_ble_eq_true rfl, by exact Nat.le_of_ble_eq_true rfl⟩ rfl H.1) rfl ⟨rfl, rfl⟩ (fun v2 h1 H => ?_)
  refine z_if_eq (tgt := 16) (pc := 5) hc dX7_move_5 rfl H (fun H => ?_) (fun H => ?_)
  · refine z_iconst (pc := 16) hc dX7_move_16 ?_
    exact z_ireturn (pc := 17) hc dX7_move_17 H
  · refine z_aload_n (pc := 8) hc dX7_move_8 rfl ?_
    refine z_iload_n (pc := 9) hc dX7_move_9 rfl ?_
    refine z_calI (z_runV (pc := 10) (ci := 7) (T := TX7) (N := 20) hc dX7_move_10 zw_RX7_88 (metX7_isNode _ _ _ H.2) rfl (Nat.le_of_ble_eq_true rfl) ⟨Nat.le_of_ble_eq_true rfl, Nat.le_of_ble_eq_true rfl⟩ ⟨by exact Nat.le_of_ble_eq_true rfl, by exact Nat.le_of_ble_eq_true rfl⟩ rfl H.1) rfl ⟨rfl, rfl⟩ (fun v4 h3 H => ?_)
    refine z_if_ne (tgt := 18) (pc := 13) hc dX7_move_13 rfl H (fun H => ?_) (fun H => ?_)
    · refine z_iconst (pc := 16) hc dX7_move_16 ?_
      exact z_ireturn (pc := 17) hc dX7_move_17 H
    · refine z_iload_n (pc := 18) hc dX7_move_18 rfl ?_
      refine z_if_eq (tgt := 40) (pc := 19) hc dX7_move_19 rfl H (fun H => ?_) (fun H => ?_)
      · refine z_bipush (pc := 40) hc dX7_move_40 (by decide) ?_
        exact z_ireturn (pc := 42) hc dX7_move_42 H
      · refine z_aload_n (pc := 22) hc dX7_move_22 rfl ?_
        refine z_iload_n (pc := 23) hc dX7_move_23 rfl ?_
        refine z_iconst (pc := 24) hc dX7_move_24 ?_
        refine z_calI (z_runV (pc := 25) (ci := 7) (T := TX7) (N := 20) hc dX7_move_25 zw_RX7_77 (metX7_of _ _ _ H.2) rfl (Nat.le_of_ble_eq_true rfl) ⟨Nat.le_of_ble_eq_true rfl, Nat.le_of_ble_eq_true rfl⟩ ⟨by exact Nat.le_of_ble_eq_true rfl, by exact Nat.le_of_ble_eq_true rfl⟩ rfl H.1) rfl ⟨rfl, rfl⟩ (fun v6 h5 H => ?_)
        refine z_if_ne (tgt := 40) (pc := 28) hc dX7_move_28 rfl H (fun H => ?_) (fun H => ?_)
        · refine z_aload_n (pc := 31) hc dX7_move_31 rfl ?_
          refine z_iload_n (pc := 32) hc dX7_move_32 rfl ?_
          refine z_iload_n (pc := 33) hc dX7_move_33 rfl ?_
          refine z_calI (z_runV (pc := 34) (ci := 7) (T := TX7) (N := 20) hc dX7_move_34 zw_RX7_98 (metX7_isBelow _ _ _ H.2) rfl (Nat.le_of_ble_eq_true rfl) ⟨Nat.le_of_ble_eq_true rfl, Nat.le_of_ble_eq_true rfl⟩ ⟨by exact Nat.le_of_ble_eq_true rfl, by exact Nat.le_of_ble_eq_true rfl⟩ rfl H.1) rfl ⟨rfl, rfl⟩ (fun v8 h7 H => ?_)
          refine z_if_eq (tgt := 43) (pc := 37) hc dX7_move_37 rfl H (fun H => ?_) (fun H => ?_)
          · refine z_aload_n (pc := 43) hc dX7_move_43 rfl ?_
            refine z_iload_n (pc := 44) hc dX7_move_44 rfl ?_
            refine z_calI (z_runV (pc := 45) (ci := 7) (T := TX7) (N := 20) hc dX7_move_45 zw_RX7_81 (metX7_depth _ _ _ H.2) rfl (Nat.le_of_ble_eq_true rfl) ⟨Nat.le_of_ble_eq_true rfl, Nat.le_of_ble_eq_true rfl⟩ ⟨by exact Nat.le_of_ble_eq_true rfl, by exact Nat.le_of_ble_eq_true rfl⟩ rfl H.1) rfl ⟨rfl, rfl⟩ (fun v10 h9 H => ?_)
            refine z_iconst (pc := 48) hc dX7_move_48 ?_
            refine z_iadd (pc := 49) hc dX7_move_49 ?_
            refine z_aload_n (pc := 50) hc dX7_move_50 rfl ?_
            refine z_iload_n (pc := 51) hc dX7_move_51 rfl ?_
            refine z_calI (z_runV (pc := 52) (ci := 7) (T := TX7) (N := 20) hc dX7_move_52 zw_RX7_81 (metX7_depth _ _ _ H.2) rfl (Nat.le_of_ble_eq_true rfl) ⟨Nat.le_of_ble_eq_true rfl, Nat.le_of_ble_eq_true rfl⟩ ⟨by exact Nat.le_of_ble_eq_true rfl, by exact Nat.le_of_ble_eq_true rfl⟩ rfl H.1) rfl ⟨rfl, rfl⟩ (fun v12 h11 H => ?_)
            refine z_isub (pc := 55) hc dX7_move_55 ?_
            refine z_istore_n (pc := 56) hc dX7_move_56 (by decide) (ρ' := [some (.inr a0), some (.inl x1), some (.inl x2), some (.inl ((v10 + 1) - v12)), none]) rfl ?_
            refine z_iconst (pc := 57) hc dX7_move_57 ?_
            refine z_istore (pc := 58) hc dX7_move_58 (by decide) (ρ' := [some (.inr a0), some (.inl x1), some (.inl x2), some (.inl ((v10 + 1) - v12)), some (.inl 1)]) rfl ?_
            exact rX7_move_H60 hc H
          · refine z_bipush (pc := 40) hc dX7_move_40 (by decide) ?_
            exact z_ireturn (pc := 42) hc dX7_move_42 H
        · refine z_bipush (pc := 40) hc dX7_move_40 (by decide) ?_
          exact z_ireturn (pc := 42) hc dX7_move_42 H
end
theorem metX7_move (l : Launch) (D : Zd) (base : Nat) {a0 : Nat} {x1 : Int} {x2 : Int} {h : Zm} {Q : Int → Zm → Prop} (H : mX7_move a0 x1 x2 h Q) : zMet l D base yX7_move cX7_move 5 (some .int) zrX7_move [.inr a0, .inl x1, .inl x2] h (zQi D base Q) :=
  z_met (by decide +kernel) (Nat.le_of_ble_eq_true rfl) (fun p e s m args below meth c hc hn => rX7_move hc H)
def zrX7_isChild : Room := { frames := 1, cells := 0, slots := 0, locals := 22 }
def mX7_isChild (a0 : Nat) (x1 : Int) (x2 : Int) (h : Zm) (Q : Int → Zm → Prop) : Prop :=
  cLe x1 0
  (Q 0 h)
  (cRc h 17 a0 <| mX7_of a0 x1 0 h fun v2 h1 => cLt v2 0
    (Q 0 h1)
    (cRc h1 17 a0 <| mX7_of a0 x1 1 h1 fun v4 h3 => cEq v4 x2
      (Q 1 h3)
      (Q 0 h3)))
section
variable {p : Program} {l : Launch} {e : Env} {s : State} {m : MethodId} {args : Array Value} {below : List Frame} {meth : Method} {c : Code} {D : Zd} {base : Nat}
set_option maxRecDepth 100000 in
set_option maxHeartbeats 4000000 in
theorem rX7_isChild (hc : zOk p s m args meth c D cX7_isChild 3 RX7 (some .boolean)) {a0 : Nat} {x1 : Int} {x2 : Int} {h : Zm} {Q : Int → Zm → Prop} (H : mX7_isChild a0 x1 x2 h Q) : zW p l e zrX7_isChild s m args below meth c D base 3 (MQ below (zQi D base Q) args s 0 0 (zFree base)) 0 0 0 [some (.inr a0), some (.inl x1), some (.inl x2)] [] h := by
  unfold mX7_isChild at H
  refine z_iload_n (pc := 0) hc dX7_isChild_0 rfl ?_
  refine z_if_le (tgt := 27) (pc := 1) hc dX7_isChild_1 rfl H (fun H => ?_) (fun H => ?_)
  · refine z_iconst (pc := 27) hc dX7_isChild_27 ?_
    exact z_zreturn (pc := 28) hc dX7_isChild_28 ⟨Or.inl rfl, H⟩
  · refine z_aload_n (pc := 4) hc dX7_isChild_4 rfl ?_
    refine z_iload_n (pc := 5) hc dX7_isChild_5 rfl ?_
    refine z_iconst (pc := 6) hc dX7_isChild_6 ?_
    refine z_calI (z_runV (pc := 7) (ci := 7) (T := TX7) (N := 20) hc dX7_isChild_7 zw_RX7_77 (metX7_of _ _ _ H.2) rfl (Nat.le_of_ble_eq_true rfl) ⟨Nat.le_of_ble_eq_true rfl, Nat.le_of_ble_eq_true rfl⟩ ⟨by exact Nat.le_of_ble_eq_true rfl, by exact Nat.le_of_ble_eq_true rfl⟩ rfl H.1) rfl ⟨rfl, rfl⟩ (fun v2 h1 H => ?_)
    refine z_if_lt (tgt := 27) (pc := 10) hc dX7_isChild_10 rfl H (fun H => ?_) (fun H => ?_)
    · refine z_iconst (pc := 27) hc dX7_isChild_27 ?_
      exact z_zreturn (pc := 28) hc dX7_isChild_28 ⟨Or.inl rfl, H⟩
    · refine z_aload_n (pc := 13) hc dX7_isChild_13 rfl ?_
      refine z_iload_n (pc := 14) hc dX7_isChild_14 rfl ?_
      refine z_iconst (pc := 15) hc dX7_isChild_15 ?_
      refine z_calI (z_runV (pc := 16) (ci := 7) (T := TX7) (N := 20) hc dX7_isChild_16 zw_RX7_77 (metX7_of _ _ _ H.2) rfl (Nat.le_of_ble_eq_true rfl) ⟨Nat.le_of_ble_eq_true rfl, Nat.le_of_ble_eq_true rfl⟩ ⟨by exact Nat.le_of_ble_eq_true rfl, by exact Nat.le_of_ble_eq_true rfl⟩ rfl H.1) rfl ⟨rfl, rfl⟩ (fun v4 h3 H => ?_)
      refine z_iload_n (pc := 19) hc dX7_isChild_19 rfl ?_
      refine z_icmp_ne (tgt := 27) (pc := 20) hc dX7_isChild_20 rfl H (fun H => ?_) (fun H => ?_)
      · refine z_iconst (pc := 23) hc dX7_isChild_23 ?_
        refine z_goto (tgt := 28) (pc := 24) hc dX7_isChild_24 rfl ?_
        exact z_zreturn (pc := 28) hc dX7_isChild_28 ⟨Or.inr rfl, H⟩
      · refine z_iconst (pc := 27) hc dX7_isChild_27 ?_
        exact z_zreturn (pc := 28) hc dX7_isChild_28 ⟨Or.inl rfl, H⟩
end
theorem metX7_isChild (l : Launch) (D : Zd) (base : Nat) {a0 : Nat} {x1 : Int} {x2 : Int} {h : Zm} {Q : Int → Zm → Prop} (H : mX7_isChild a0 x1 x2 h Q) : zMet l D base yX7_isChild cX7_isChild 3 (some .boolean) zrX7_isChild [.inr a0, .inl x1, .inl x2] h (zQi D base Q) :=
  z_met (by decide +kernel) (Nat.le_of_ble_eq_true rfl) (fun p e s m args below meth c hc hn => rX7_isChild hc H)
def zrX7_children : Room := { frames := 2, cells := 0, slots := 0, locals := 44 }
def mX7_children_B5 (X5 : Int → Int → Zm → Prop) (a0 : Nat) (x1 : Int) (x2 : Int) (x3 : Int) (x4 : Int) (h : Zm) (Q : Int → Zm → Prop) : Prop :=
  cLt x4 24
  (cRc h 17 a0 <| mX7_isChild a0 x4 x1 h fun v2 h1 => cEq v2 0
    (X5 (x3 + 0) (x4 + 1) h1)
    (cRc h1 17 a0 <| mX7_of a0 x4 2 h1 fun v4 h3 => cLt v4 x2
      (X5 (x3 + 1) (x4 + 1) h3)
      (X5 (x3 + 0) (x4 + 1) h3)))
  (Q x3 h)
def mX7_children_H5  (a0 : Nat) (x1 : Int) (x2 : Int) (x3 : Int) (x4 : Int) (h : Zm) (Q : Int → Zm → Prop) : Prop :=
  lfp2 (fun X5 x3 x4 h => mX7_children_B5 X5 a0 x1 x2 x3 x4 h Q) x3 x4 h
def mX7_children (a0 : Nat) (x1 : Int) (x2 : Int) (h : Zm) (Q : Int → Zm → Prop) : Prop :=
  mX7_children_H5  a0 x1 x2 0 1 h Q
section
variable {p : Program} {l : Launch} {e : Env} {s : State} {m : MethodId} {args : Array Value} {below : List Frame} {meth : Method} {c : Code} {D : Zd} {base : Nat}
set_option maxRecDepth 100000 in
set_option maxHeartbeats 4000000 in
theorem rX7_children_B5 (hc : zOk p s m args meth c D cX7_children 5 RX7 (some .int)) {X5 : Int → Int → Zm → Prop} {a0 : Nat} {x1 : Int} {x2 : Int} {x3 : Int} {x4 : Int} {h : Zm} {Q : Int → Zm → Prop} (hX5 : ∀ (x3 : Int) (x4 : Int) (h : Zm), X5 x3 x4 h → zW p l e zrX7_children s m args below meth c D base 5 (MQ below (zQi D base Q) args s 0 0 (zFree base)) 0 0 5 [some (.inr a0), some (.inl x1), some (.inl x2), some (.inl x3), some (.inl x4)] [] h) (H : mX7_children_B5 X5 a0 x1 x2 x3 x4 h Q) : zW p l e zrX7_children s m args below meth c D base 5 (MQ below (zQi D base Q) args s 0 0 (zFree base)) 0 0 5 [some (.inr a0), some (.inl x1), some (.inl x2), some (.inl x3), some (.inl x4)] [] h := by
  unfold mX7_children_B5 at H
  refine z_iload (pc := 5) hc dX7_children_5 rfl ?_
  refine z_bipush (pc := 7) hc dX7_children_7 (by decide) ?_
  refine z_icmp_ge (tgt := 47) (pc := 9) hc dX7_children_9 rfl H (fun H => ?_) (fun H => ?_)
  · refine z_iload_n (pc := 12) hc dX7_children_12 rfl ?_
    refine z_aload_n (pc := 13) hc dX7_children_13 rfl ?_
    refine z_iload (pc := 14) hc dX7_children_14 rfl ?_
    refine z_iload_n (pc := 16) hc dX7_children_16 rfl ?_
    refine z_calI (z_runV (pc := 17) (ci := 7) (T := TX7) (N := 20) hc dX7_children_17 zw_RX7_102 (metX7_isChild _ _ _ H.2) rfl (Nat.le_of_ble_eq_true rfl) ⟨Nat.le_of_ble_eq_true rfl, Nat.le_of_ble_eq_true rfl⟩ ⟨by exact Nat.le_of_ble_eq_true rfl, by exact Nat.le_of_ble_eq_true rfl⟩ rfl H.1) rfl ⟨rfl, rfl⟩ (fun v2 h1 H => ?_)
    refine z_if_eq (tgt := 38) (pc := 20) hc dX7_children_20 rfl H (fun H => ?_) (fun H => ?_)
    · refine z_iconst (pc := 38) hc dX7_children_38 ?_
      refine z_iadd (pc := 39) hc dX7_children_39 ?_
      refine z_istore_n (pc := 40) hc dX7_children_40 (by decide) (ρ' := [some (.inr a0), some (.inl x1), some (.inl x2), some (.inl (x3 + 0)), some (.inl x4)]) rfl ?_
      refine z_iinc (pc := 41) hc dX7_children_41 (by decide) rfl (ρ' := [some (.inr a0), some (.inl x1), some (.inl x2), some (.inl (x3 + 0)), some (.inl (x4 + 1))]) rfl ?_
      refine z_goto (tgt := 5) (pc := 44) hc dX7_children_44 rfl ?_
      exact hX5 _ _ _ H
    · refine z_aload_n (pc := 23) hc dX7_children_23 rfl ?_
      refine z_iload (pc := 24) hc dX7_children_24 rfl ?_
      refine z_iconst (pc := 26) hc dX7_children_26 ?_
      refine z_calI (z_runV (pc := 27) (ci := 7) (T := TX7) (N := 20) hc dX7_children_27 zw_RX7_77 (metX7_of _ _ _ H.2) rfl (Nat.le_of_ble_eq_true rfl) ⟨Nat.le_of_ble_eq_true rfl, Nat.le_of_ble_eq_true rfl⟩ ⟨by exact Nat.le_of_ble_eq_true rfl, by exact Nat.le_of_ble_eq_true rfl⟩ rfl H.1) rfl ⟨rfl, rfl⟩ (fun v4 h3 H => ?_)
      refine z_iload_n (pc := 30) hc dX7_children_30 rfl ?_
      refine z_icmp_ge (tgt := 38) (pc := 31) hc dX7_children_31 rfl H (fun H => ?_) (fun H => ?_)
      · refine z_iconst (pc := 34) hc dX7_children_34 ?_
        refine z_goto (tgt := 39) (pc := 35) hc dX7_children_35 rfl ?_
        refine z_iadd (pc := 39) hc dX7_children_39 ?_
        refine z_istore_n (pc := 40) hc dX7_children_40 (by decide) (ρ' := [some (.inr a0), some (.inl x1), some (.inl x2), some (.inl (x3 + 1)), some (.inl x4)]) rfl ?_
        refine z_iinc (pc := 41) hc dX7_children_41 (by decide) rfl (ρ' := [some (.inr a0), some (.inl x1), some (.inl x2), some (.inl (x3 + 1)), some (.inl (x4 + 1))]) rfl ?_
        refine z_goto (tgt := 5) (pc := 44) hc dX7_children_44 rfl ?_
        exact hX5 _ _ _ H
      · refine z_iconst (pc := 38) hc dX7_children_38 ?_
        refine z_iadd (pc := 39) hc dX7_children_39 ?_
        refine z_istore_n (pc := 40) hc dX7_children_40 (by decide) (ρ' := [some (.inr a0), some (.inl x1), some (.inl x2), some (.inl (x3 + 0)), some (.inl x4)]) rfl ?_
        refine z_iinc (pc := 41) hc dX7_children_41 (by decide) rfl (ρ' := [some (.inr a0), some (.inl x1), some (.inl x2), some (.inl (x3 + 0)), some (.inl (x4 + 1))]) rfl ?_
        refine z_goto (tgt := 5) (pc := 44) hc dX7_children_44 rfl ?_
        exact hX5 _ _ _ H
  · refine z_iload_n (pc := 47) hc dX7_children_47 rfl ?_
    exact z_ireturn (pc := 48) hc dX7_children_48 H
theorem rX7_children_H5 (hc : zOk p s m args meth c D cX7_children 5 RX7 (some .int))  {a0 : Nat} {x1 : Int} {x2 : Int} {x3 : Int} {x4 : Int} {h : Zm} {Q : Int → Zm → Prop}  (H : mX7_children_H5  a0 x1 x2 x3 x4 h Q) : zW p l e zrX7_children s m args below meth c D base 5 (MQ below (zQi D base Q) args s 0 0 (zFree base)) 0 0 5 [some (.inr a0), some (.inl x1), some (.inl x2), some (.inl x3), some (.inl x4)] [] h :=
  H (fun x3 x4 h => zW p l e zrX7_children s m args below meth c D base 5 (MQ below (zQi D base Q) args s 0 0 (zFree base)) 0 0 5 [some (.inr a0), some (.inl x1), some (.inl x2), some (.inl x3), some (.inl x4)] [] h) (fun x3 x4 h H => rX7_children_B5 hc (fun _ _ _ q => q) H)
set_option maxRecDepth 100000 in
set_option maxHeartbeats 4000000 in
theorem rX7_children (hc : zOk p s m args meth c D cX7_children 5 RX7 (some .int)) {a0 : Nat} {x1 : Int} {x2 : Int} {h : Zm} {Q : Int → Zm → Prop} (H : mX7_children a0 x1 x2 h Q) : zW p l e zrX7_children s m args below meth c D base 5 (MQ below (zQi D base Q) args s 0 0 (zFree base)) 0 0 0 [some (.inr a0), some (.inl x1), some (.inl x2), none, none] [] h := by
  unfold mX7_children at H
  refine z_iconst (pc := 0) hc dX7_children_0 ?_
  refine z_istore_n (pc := 1) hc dX7_children_1 (by decide) (ρ' := [some (.inr a0), some (.inl x1), some (.inl x2), some (.inl 0), none]) rfl ?_
  refine z_iconst (pc := 2) hc dX7_children_2 ?_
  refine z_istore (pc := 3) hc dX7_children_3 (by decide) (ρ' := [some (.inr a0), some (.inl x1), some (.inl x2), some (.inl 0), some (.inl 1)]) rfl ?_
  exact rX7_children_H5 hc H
end
theorem metX7_children (l : Launch) (D : Zd) (base : Nat) {a0 : Nat} {x1 : Int} {x2 : Int} {h : Zm} {Q : Int → Zm → Prop} (H : mX7_children a0 x1 x2 h Q) : zMet l D base yX7_children cX7_children 5 (some .int) zrX7_children [.inr a0, .inl x1, .inl x2] h (zQi D base Q) :=
  z_met (by decide +kernel) (Nat.le_of_ble_eq_true rfl) (fun p e s m args below meth c hc hn => rX7_children hc H)
