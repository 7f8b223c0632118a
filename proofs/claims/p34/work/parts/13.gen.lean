/-! printed by gen.py: X5_putIn X5_append X6_init X6_remember X6_setSize X6_isOffset X6_numberBelow X6_addGroup X6_addRect X6_isPart X6_addSpot X6_setBox X6_setInk X6_greatestSetting X6_set X6_setKnockout X6_isPixel X6_rendered X6_separateAt -/
def zrX5_putIn : Room := { frames := 3, cells := 0, slots := 0, locals := 66 }
def mX5_putIn_B62 (X62 : Int → Zm → Prop) (a0 : Nat) (x1 : Int) (x2 : Int) (x3 : Int) (x4 : Int) (h : Zm) (Q : Zm → Prop) : Prop :=
  cLt x4 x1
  (cGr h 15 a0 1 fun r17 => cGr h 15 a0 2 fun r18 => cLd h 1 r18 x4 fun v19 => cSt h r17 (x3 + x4) v19 fun h20 => X62 (x4 + 1) h20)
  (cGi h 15 a0 3 fun v9 => cPi h 15 a0 3 (v9 + x1) fun h10 => cGr h10 15 a0 2 fun r11 => cLd h10 1 r11 0 fun v12 => cRc h10 15 a0 <| mX5_nodeAt a0 v12 h10 fun r14 h13 => cPi h13 12 r14 1 x2 fun h15 => cRc h15 15 a0 <| mX5_settle a0 h15 fun h16 => Q h16)
def mX5_putIn_H62  (a0 : Nat) (x1 : Int) (x2 : Int) (x3 : Int) (x4 : Int) (h : Zm) (Q : Zm → Prop) : Prop :=
  lfp1 (fun X62 x4 h => mX5_putIn_B62 X62 a0 x1 x2 x3 x4 h Q) x4 h
def mX5_putIn_B31 (X31 : Int → Zm → Prop) (a0 : Nat) (x1 : Int) (x2 : Int) (x3 : Int) (x4 : Int) (h : Zm) (Q : Zm → Prop) : Prop :=
  cLt x4 x3
  (mX5_putIn_H62  a0 x1 x2 x3 0 h Q)
  (cGr h 15 a0 1 fun r5 => cGr h 15 a0 1 fun r6 => cLd h 1 r6 x4 fun v7 => cSt h r5 (x4 + x1) v7 fun h8 => X31 (x4 + (-1)) h8)
def mX5_putIn_H31  (a0 : Nat) (x1 : Int) (x2 : Int) (x3 : Int) (x4 : Int) (h : Zm) (Q : Zm → Prop) : Prop :=
  lfp1 (fun X31 x4 h => mX5_putIn_B31 X31 a0 x1 x2 x3 x4 h Q) x4 h
def mX5_putIn (a0 : Nat) (x1 : Int) (x2 : Int) (h : Zm) (Q : Zm → Prop) : Prop :=
  cLt x1 1
  (Q h)
  (cGi h 15 a0 3 fun v1 => cLe (v1 + x1) 24
    (cRc h 15 a0 <| mX5_endOf a0 x2 h fun v3 h2 => cGi h2 15 a0 3 fun v4 => mX5_putIn_H31  a0 x1 x2 v3 (v4 - 1) h2 Q)
    (Q h))
section
variable {p : Program} {l : Launch} {e : Env} {s : State} {m : MethodId} {args : Array Value} {below : List Frame} {meth : Method} {c : Code} {D : Zd} {base : Nat}
set_option maxRecDepth 100000 in
set_option maxHeartbeats 4000000 in
theorem rX5_putIn_B62 (hc : zOk p s m args meth c D cX5_putIn 5 RX5 none) {X62 : Int → Zm → Prop} {a0 : Nat} {x1 : Int} {x2 : Int} {x3 : Int} {x4 : Int} {h : Zm} {Q : Zm → Prop} (hX62 : ∀ (x4 : Int) (h : Zm), X62 x4 h → zW p l e zrX5_putIn s m args below meth c D base 5 (MQ below (zQv D base Q) args s 0 0 (zFree base)) 0 0 62 [some (.inr (.inl a0)), some (.inl x1), some (.inl x2), some (.inl x3), some (.inl x4)] [] h) (H : mX5_putIn_B62 X62 a0 x1 x2 x3 x4 h Q) : zW p l e zrX5_putIn s m args below meth c D base 5 (MQ below (zQv D base Q) args s 0 0 (zFree base)) 0 0 62 [some (.inr (.inl a0)), some (.inl x1), some (.inl x2), some (.inl x3), some (.inl x4)] [] h := by
  unfold mX5_putIn_B62 at H
  refine z_iload (pc := 62) hc dX5_putIn_62 rfl ?_
  refine z_iload_n (pc := 64) hc dX5_putIn_64 rfl ?_
  refine z_icmp_ge (tgt := 90) (pc := 65) hc dX5_putIn_65 rfl H (fun H => ?_) (fun H => ?_)
  · refine z_aload_n (pc := 68) hc dX5_putIn_68 rfl ?_
    refine z_getR (pc := 69) hc dX5_putIn_69 zf_RX5_18 rfl rfl rfl H (fun r17 H => ?_)
    refine z_iload_n (pc := 72) hc dX5_putIn_72 rfl ?_
    refine z_iload (pc := 73) hc dX5_putIn_73 rfl ?_
    refine z_iadd (pc := 75) hc dX5_putIn_75 ?_
    refine z_aload_n (pc := 76) hc dX5_putIn_76 rfl ?_
    refine z_getR (pc := 77) hc dX5_putIn_77 zf_RX5_22 rfl rfl rfl H (fun r18 H => ?_)
    refine z_iload (pc := 80) hc dX5_putIn_80 rfl ?_
    refine z_iaload (pc := 82) hc dX5_putIn_82 H (fun v19 H => ?_)
    refine z_iastore (pc := 83) hc dX5_putIn_83 H (fun h20 H => ?_)
    refine z_iinc (pc := 84) hc dX5_putIn_84 (by decide) rfl (ρ' := [some (.inr (.inl a0)), some (.inl x1), some (.inl x2), some (.inl x3), some (.inl (x4 + 1))]) rfl rfl ?_
    refine z_goto (tgt := 62) (pc := 87) hc dX5_putIn_87 rfl ?_
    exact hX62 _ _ H
  · refine z_aload_n (pc := 90) hc dX5_putIn_90 rfl ?_
    refine z_dup (pc := 91) hc dX5_putIn_91 rfl ?_
    refine z_getI (pc := 92) hc dX5_putIn_92 zf_RX5_25 rfl rfl rfl H (fun v9 H => ?_)
    refine z_iload_n (pc := 95) hc dX5_putIn_95 rfl ?_
    refine z_iadd (pc := 96) hc dX5_putIn_96 ?_
    refine z_putI (pc := 97) hc dX5_putIn_97 zf_RX5_25 rfl rfl rfl H (fun h10 H => ?_)
    refine z_aload_n (pc := 100) hc dX5_putIn_100 rfl ?_
    refine z_aload_n (pc := 101) hc dX5_putIn_101 rfl ?_
    refine z_getR (pc := 102) hc dX5_putIn_102 zf_RX5_22 rfl rfl rfl H (fun r11 H => ?_)
    refine z_iconst (pc := 105) hc dX5_putIn_105 ?_
    refine z_iaload (pc := 106) hc dX5_putIn_106 H (fun v12 H => ?_)
    refine z_calR (z_runV (pc := 107) (ci := 5) (T := TX5) (N := 4) hc dX5_putIn_107 zw_RX5_50 (metX5_nodeAt _ _ _ H.2) rfl (Nat.le_of_ble_eq_true rfl) ⟨Nat.le_of_ble_eq_true rfl, Nat.le_of_ble_eq_true rfl⟩ ⟨by exact Nat.le_of_ble_eq_true rfl, by exact Nat.le_of_ble_eq_true rfl⟩ rfl H.1) rfl ⟨rfl, rfl⟩ (fun r14 h13 H => ?_)
    refine z_iload_n (pc := 110) hc dX5_putIn_110 rfl ?_
    refine z_putI (pc := 111) hc dX5_putIn_111 zf_RX5_66 rfl rfl rfl H (fun h15 H => ?_)
    refine z_aload_n (pc := 114) hc dX5_putIn_114 rfl ?_
    refine z_calV0 (z_runV (pc := 115) (ci := 5) (T := TX5) (N := 4) hc dX5_putIn_115 zw_RX5_79 (metX5_settle _ _ _ H.2) rfl (Nat.le_of_ble_eq_true rfl) ⟨Nat.le_of_ble_eq_true rfl, Nat.le_of_ble_eq_true rfl⟩ ⟨by exact Nat.le_of_ble_eq_true rfl, by exact Nat.le_of_ble_eq_true rfl⟩ rfl H.1) rfl ⟨rfl, rfl⟩ (fun h16 H => ?_)
    exact z_return (pc := 118) hc dX5_putIn_118 H
theorem rX5_putIn_H62 (hc : zOk p s m args meth c D cX5_putIn 5 RX5 none)  {a0 : Nat} {x1 : Int} {x2 : Int} {x3 : Int} {x4 : Int} {h : Zm} {Q : Zm → Prop}  (H : mX5_putIn_H62  a0 x1 x2 x3 x4 h Q) : zW p l e zrX5_putIn s m args below meth c D base 5 (MQ below (zQv D base Q) args s 0 0 (zFree base)) 0 0 62 [some (.inr (.inl a0)), some (.inl x1), some (.inl x2), some (.inl x3), some (.inl x4)] [] h :=
  H (fun x4 h => zW p l e zrX5_putIn s m args below meth c D base 5 (MQ below (zQv D base Q) args s 0 0 (zFree base)) 0 0 62 [some (.inr (.inl a0)), some (.inl x1), some (.inl x2), some (.inl x3), some (.inl x4)] [] h) (fun x4 h H => rX5_putIn_B62 hc (fun _ _ q => q) H)
set_option maxRecDepth 100000 in
set_option maxHeartbeats 4000000 in
theorem rX5_putIn_B31 (hc : zOk p s m args meth c D cX5_putIn 5 RX5 none) {X31 : Int → Zm → Prop} {a0 : Nat} {x1 : Int} {x2 : Int} {x3 : Int} {x4 : Int} {h : Zm} {Q : Zm → Prop} (hX31 : ∀ (x4 : Int) (h : Zm), X31 x4 h → zW p l e zrX5_putIn s m args below meth c D base 5 (MQ below (zQv D base Q) args s 0 0 (zFree base)) 0 0 31 [some (.inr (.inl a0)), some (.inl x1), some (.inl x2), some (.inl x3), some (.inl x4)] [] h) (H : mX5_putIn_B31 X31 a0 x1 x2 x3 x4 h Q) : zW p l e zrX5_putIn s m args below meth c D base 5 (MQ below (zQv D base Q) args s 0 0 (zFree base)) 0 0 31 [some (.inr (.inl a0)), some (.inl x1), some (.inl x2), some (.inl x3), some (.inl x4)] [] h := by
  unfold mX5_putIn_B31 at H
  refine z_iload (pc := 31) hc dX5_putIn_31 rfl ?_
  refine z_iload_n (pc := 33) hc dX5_putIn_33 rfl ?_
  refine z_icmp_lt (tgt := 59) (pc := 34) hc dX5_putIn_34 rfl H (fun H => ?_) (fun H => ?_)
  · refine z_iconst (pc := 59) hc dX5_putIn_59 ?_
    refine z_istore (pc := 60) hc dX5_putIn_60 (by decide) (ρ' := [some (.inr (.inl a0)), some (.inl x1), some (.inl x2), some (.inl x3), some (.inl 0)]) rfl rfl ?_
    exact rX5_putIn_H62 hc H
  · refine z_aload_n (pc := 37) hc dX5_putIn_37 rfl ?_
    refine z_getR (pc := 38) hc dX5_putIn_38 zf_RX5_18 rfl rfl rfl H (fun r5 H => ?_)
    refine z_iload (pc := 41) hc dX5_putIn_41 rfl ?_
    refine z_iload_n (pc := 43) hc dX5_putIn_43 rfl ?_
    refine z_iadd (pc := 44) hc dX5_putIn_44 ?_
    refine z_aload_n (pc := 45) hc dX5_putIn_45 rfl ?_
    refine z_getR (pc := 46) hc dX5_putIn_46 zf_RX5_18 rfl rfl rfl H (fun r6 H => ?_)
    refine z_iload (pc := 49) hc dX5_putIn_49 rfl ?_
    refine z_iaload (pc := 51) hc dX5_putIn_51 H (fun v7 H => ?_)
    refine z_iastore (pc := 52) hc dX5_putIn_52 H (fun h8 H => ?_)
    refine z_iinc (pc := 53) hc dX5_putIn_53 (by decide) rfl (ρ' := [some (.inr (.inl a0)), some (.inl x1), some (.inl x2), some (.inl x3), some (.inl (x4 + (-1)))]) rfl rfl ?_
    refine z_goto (tgt := 31) (pc := 56) hc dX5_putIn_56 rfl ?_
    exact hX31 _ _ H
theorem rX5_putIn_H31 (hc : zOk p s m args meth c D cX5_putIn 5 RX5 none)  {a0 : Nat} {x1 : Int} {x2 : Int} {x3 : Int} {x4 : Int} {h : Zm} {Q : Zm → Prop}  (H : mX5_putIn_H31  a0 x1 x2 x3 x4 h Q) : zW p l e zrX5_putIn s m args below meth c D base 5 (MQ below (zQv D base Q) args s 0 0 (zFree base)) 0 0 31 [some (.inr (.inl a0)), some (.inl x1), some (.inl x2), some (.inl x3), some (.inl x4)] [] h :=
  H (fun x4 h => zW p l e zrX5_putIn s m args below meth c D base 5 (MQ below (zQv D base Q) args s 0 0 (zFree base)) 0 0 31 [some (.inr (.inl a0)), some (.inl x1), some (.inl x2), some (.inl x3), some (.inl x4)] [] h) (fun x4 h H => rX5_putIn_B31 hc (fun _ _ q => q) H)
set_option maxRecDepth 100000 in
set_option maxHeartbeats 4000000 in
theorem rX5_putIn (hc : zOk p s m args meth c D cX5_putIn 5 RX5 none) {a0 : Nat} {x1 : Int} {x2 : Int} {h : Zm} {Q : Zm → Prop} (H : mX5_putIn a0 x1 x2 h Q) : zW p l e zrX5_putIn s m args below meth c D base 5 (MQ below (zQv D base Q) args s 0 0 (zFree base)) 0 0 0 [some (.inr (.inl a0)), some (.inl x1), some (.inl x2), none, none] [] h := by
  unfold mX5_putIn at H
  refine z_iload_n (pc := 0) hc dX5_putIn_0 rfl ?_
  refine z_iconst (pc := 1) hc dX5_putIn_1 ?_
  refine z_icmp_lt (tgt := 16) (pc := 2) hc dX5_putIn_2 rfl H (fun H => ?_) (fun H => ?_)
  · exact z_return (pc := 16) hc dX5_putIn_16 H
  · refine z_aload_n (pc := 5) hc dX5_putIn_5 rfl ?_
    refine z_getI (pc := 6) hc dX5_putIn_6 zf_RX5_25 rfl rfl rfl H (fun v1 H => ?_)
    refine z_iload_n (pc := 9) hc dX5_putIn_9 rfl ?_
    refine z_iadd (pc := 10) hc dX5_putIn_10 ?_
    refine z_bipush (pc := 11) hc dX5_putIn_11 (by decide) ?_
    refine z_icmp_le (tgt := 17) (pc := 13) hc dX5_putIn_13 rfl H (fun H => ?_) (fun H => ?_)
    · refine z_aload_n (pc := 17) hc dX5_putIn_17 rfl ?_
      refine z_iload_n (pc := 18) hc dX5_putIn_18 rfl ?_
      refine z_calI (z_runV (pc := 19) (ci := 5) (T := TX5) (N := 4) hc dX5_putIn_19 zw_RX5_63 (metX5_endOf _ _ _ H.2) rfl (Nat.le_of_ble_eq_true rfl) ⟨Nat.le_of_ble_eq_true rfl, Nat.le_of_ble_eq_true rfl⟩ ⟨by exact Nat.le_of_ble_eq_true rfl, by exact Nat.le_of_ble_eq_true rfl⟩ rfl H.1) rfl ⟨rfl, rfl⟩ (fun v3 h2 H => ?_)
      refine z_istore_n (pc := 22) hc dX5_putIn_22 (by decide) (ρ' := [some (.inr (.inl a0)), some (.inl x1), some (.inl x2), some (.inl v3), none]) rfl rfl ?_
      refine z_aload_n (pc := 23) hc dX5_putIn_23 rfl ?_
      refine z_getI (pc := 24) hc dX5_putIn_24 zf_RX5_25 rfl rfl rfl H (fun v4 H => ?_)
      refine z_iconst (pc := 27) hc dX5_putIn_27 ?_
      refine z_isub (pc := 28) hc dX5_putIn_28 ?_
      refine z_istore (pc := 29) hc dX5_putIn_29 (by decide) (ρ' := [some (.inr (.inl a0)), some (.inl x1), some (.inl x2), some (.inl v3), some (.inl (v4 - 1))]) rfl rfl ?_
      exact rX5_putIn_H31 hc H
    · exact z_return (pc := 16) hc dX5_putIn_16 H
end
theorem metX5_putIn (l : Launch) (D : Zd) (base : Nat) {a0 : Nat} {x1 : Int} {x2 : Int} {h : Zm} {Q : Zm → Prop} (H : mX5_putIn a0 x1 x2 h Q) : zMet l D base yX5_putIn cX5_putIn 5 none zrX5_putIn [.inr (.inl a0), .inl x1, .inl x2] h (zQv D base Q) :=
  z_met (by decide +kernel) (Nat.le_of_ble_eq_true rfl) rfl (fun p e s m args below meth c hc hn => rX5_putIn hc H)
def zrX5_append : Room := { frames := 4, cells := 0, slots := 0, locals := 90 }
def mX5_append (a0 : Nat) (x1 : Int) (x2 : Int) (x3 : Int) (h : Zm) (Q : Zm → Prop) : Prop :=
  cRc h 15 a0 <| mX5_nodeAt a0 x1 h fun r2 h1 => cPi h1 12 r2 0 x2 fun h3 => cGr h3 15 a0 2 fun r4 => cSt h3 r4 0 x1 fun h5 => cRc h5 15 a0 <| mX5_putIn a0 1 x3 h5 fun h6 => Q h6
section
variable {p : Program} {l : Launch} {e : Env} {s : State} {m : MethodId} {args : Array Value} {below : List Frame} {meth : Method} {c : Code} {D : Zd} {base : Nat}
set_option maxRecDepth 100000 in
set_option maxHeartbeats 4000000 in
theorem rX5_append (hc : zOk p s m args meth c D cX5_append 4 RX5 none) {a0 : Nat} {x1 : Int} {x2 : Int} {x3 : Int} {h : Zm} {Q : Zm → Prop} (H : mX5_append a0 x1 x2 x3 h Q) : zW p l e zrX5_append s m args below meth c D base 4 (MQ below (zQv D base Q) args s 0 0 (zFree base)) 0 0 0 [some (.inr (.inl a0)), some (.inl x1), some (.inl x2), some (.inl x3)] [] h := by
  unfold mX5_append at H
  refine z_aload_n (pc := 0) hc dX5_append_0 rfl ?_
  refine z_iload_n (pc := 1) hc dX5_append_1 rfl ?_
  refine z_calR (z_runV (pc := 2) (ci := 5) (T := TX5) (N := 4) hc dX5_append_2 zw_RX5_50 (metX5_nodeAt _ _ _ H.2) rfl (Nat.le_of_ble_eq_true rfl) ⟨Nat.le_of_ble_eq_true rfl, Nat.le_of_ble_eq_true rfl⟩ ⟨by exact Nat.le_of_ble_eq_true rfl, by exact Nat.le_of_ble_eq_true rfl⟩ rfl H.1) rfl ⟨rfl, rfl⟩ (fun r2 h1 H => ?_)
  refine z_iload_n (pc := 5) hc dX5_append_5 rfl ?_
  refine z_putI (pc := 6) hc dX5_append_6 zf_RX5_29 rfl rfl rfl H (fun h3 H => ?_)
  refine z_aload_n (pc := 9) hc dX5_append_9 rfl ?_
  refine z_getR (pc := 10) hc dX5_append_10 zf_RX5_22 rfl rfl rfl H (fun r4 H => ?_)
  refine z_iconst (pc := 13) hc dX5_append_13 ?_
  refine z_iload_n (pc := 14) hc dX5_append_14 rfl ?_
  refine z_iastore (pc := 15) hc dX5_append_15 H (fun h5 H => ?_)
  refine z_aload_n (pc := 16) hc dX5_append_16 rfl ?_
  refine z_iconst (pc := 17) hc dX5_append_17 ?_
  refine z_iload_n (pc := 18) hc dX5_append_18 rfl ?_
  refine z_calV0 (z_runV (pc := 19) (ci := 5) (T := TX5) (N := 4) hc dX5_append_19 zw_RX5_69 (metX5_putIn _ _ _ H.2) rfl (Nat.le_of_ble_eq_true rfl) ⟨Nat.le_of_ble_eq_true rfl, Nat.le_of_ble_eq_true rfl⟩ ⟨by exact Nat.le_of_ble_eq_true rfl, by exact Nat.le_of_ble_eq_true rfl⟩ rfl H.1) rfl ⟨rfl, rfl⟩ (fun h6 H => ?_)
  exact z_return (pc := 22) hc dX5_append_22 H
end
theorem metX5_append (l : Launch) (D : Zd) (base : Nat) {a0 : Nat} {x1 : Int} {x2 : Int} {x3 : Int} {h : Zm} {Q : Zm → Prop} (H : mX5_append a0 x1 x2 x3 h Q) : zMet l D base yX5_append cX5_append 4 none zrX5_append [.inr (.inl a0), .inl x1, .inl x2, .inl x3] h (zQv D base Q) :=
  z_met (by decide +kernel) (Nat.le_of_ble_eq_true rfl) rfl (fun p e s m args below meth c hc hn => rX5_append hc H)
def zrX6_init : Room := { frames := 4, cells := 466, slots := 5550, locals := 82 }
def mX6_init_B25 (X25 : Int → Zm → Prop) (a0 : Nat) (x1 : Int) (h : Zm) (Q : Zm → Prop) : Prop :=
  cLt x1 5
  (cGr h 16 a0 1 fun r8 => cNw h 14 8 fun r9 h10 => cRc h10 14 r9 <| mX4_init r9 h10 fun h11 => cStR h11 6 14 r8 x1 r9 fun h12 => X25 (x1 + 1) h12)
  (cPi h 16 a0 2 0 fun h13 => cNw h13 12 18 fun r14 h15 => cRc h15 12 r14 <| mX2_init r14 h15 fun h16 => cPr h16 16 a0 3 r14 fun h17 => cNw h17 13 3 fun r18 h19 => cRc h19 13 r18 <| mX3_init r18 h19 fun h20 => cPr h20 16 a0 4 r18 fun h21 => cNw h21 11 2 fun r22 h23 => cRc h23 11 r22 <| mX1_init r22 h23 fun h24 => cPr h24 16 a0 5 r22 fun h25 => cNw h25 1 7 fun r26 h27 => cPr h27 16 a0 6 r26 fun h28 => cNw h28 1 101 fun r29 h30 => cPr h30 16 a0 7 r29 fun h31 => Q h31)
def mX6_init_H25  (a0 : Nat) (x1 : Int) (h : Zm) (Q : Zm → Prop) : Prop :=
  lfp1 (fun X25 x1 h => mX6_init_B25 X25 a0 x1 h Q) x1 h
def mX6_init (a0 : Nat) (h : Zm) (Q : Zm → Prop) : Prop :=
  cRc h 16 a0 <| cNw h 14 8 fun r1 h2 => cRc h2 14 r1 <| mX4_init r1 h2 fun h3 => cPr h3 16 a0 0 r1 fun h4 => cNw h4 6 5 fun r5 h6 => cPr h6 16 a0 1 r5 fun h7 => mX6_init_H25  a0 0 h7 Q
section
variable {p : Program} {l : Launch} {e : Env} {s : State} {m : MethodId} {args : Array Value} {below : List Frame} {meth : Method} {c : Code} {D : Zd} {base : Nat}
set_option maxRecDepth 100000 in
set_option maxHeartbeats 4000000 in
theorem rX6_init_B25 (hc : zOk p s m args meth c D cX6_init 2 RX6 none) (hin : meth.name = "<init>") {X25 : Int → Zm → Prop} {a0 : Nat} {x1 : Int} {h : Zm} {Q : Zm → Prop} (hX25 : ∀ (x1 : Int) (h : Zm), 0 ≤ x1 ∧ x1 ≤ 5 → X25 x1 h → zW p l e zrX6_init s m args below meth c D base 2 (MQ below (zQv D base Q) args s 466 5550 (zFree base)) (53 + 52 * x1.toNat) (664 + 659 * x1.toNat) 25 [some (.inr (.inl a0)), some (.inl x1)] [] h) (hg : 0 ≤ x1 ∧ x1 ≤ 5) (H : mX6_init_B25 X25 a0 x1 h Q) : zW p l e zrX6_init s m args below meth c D base 2 (MQ below (zQv D base Q) args s 466 5550 (zFree base)) (53 + 52 * x1.toNat) (664 + 659 * x1.toNat) 25 [some (.inr (.inl a0)), some (.inl x1)] [] h := by
  unfold mX6_init_B25 at H
  refine z_iload_n (pc := 25) hc dX6_init_25 rfl ?_
  refine z_iconst (pc := 26) hc dX6_init_26 ?_
  refine z_icmp_geF (tgt := 49) (pc := 27) hc dX6_init_27 rfl H (fun hq H => ?_) (fun hq H => ?_)
  · refine z_aload_n (pc := 30) hc dX6_init_30 rfl ?_
    refine z_getR (pc := 31) hc dX6_init_31 zf_RX6_16 rfl rfl rfl H (fun r8 H => ?_)
    refine z_iload_n (pc := 34) hc dX6_init_34 rfl ?_
    refine z_new (pc := 35) (ci := 4) hc dX6_init_35 zc4 (by decide +kernel) (zT_mem 22 (by decide +kernel) rfl) (zT_mem 23 (by decide +kernel) rfl) (zT_mem 7 (by decide +kernel) rfl) (by (show _ + 1 ≤ 466; omega)) (by (show _ + 8 ≤ 5550; omega)) H (fun r9 h10 H => ?_)
    refine z_dup (pc := 38) hc dX6_init_38 rfl ?_
    refine z_calV (mc := 51) (ms := 651) (z_runI (pc := 39) hc dX6_init_39 zw_RX6_11 (metX4_init _ _ _ H.2) rfl (Nat.le_of_ble_eq_true rfl) ⟨Nat.le_of_ble_eq_true rfl, Nat.le_of_ble_eq_true rfl⟩ ⟨by (show _ + 51 ≤ 466; omega), by (show _ + 651 ≤ 5550; omega)⟩ (d := 14) (by decide) H.1) rfl ⟨rfl, rfl⟩ (fun h11 H => ?_)
    refine z_aastore (pc := 42) (ci := 4) (C := RX4) (T := TX4) (N := 8) hc dX6_init_42 (by decide) rfl rfl rfl H (fun h12 H => ?_)
    refine z_iinc (pc := 43) hc dX6_init_43 (by decide) rfl (ρ' := [some (.inr (.inl a0)), some (.inl (x1 + 1))]) rfl rfl ?_
    refine z_goto (tgt := 25) (pc := 46) hc dX6_init_46 rfl ?_
    refine z_cells (cells' := 53 + 52 * ((x1 + 1) : Int).toNat) (slots' := 664 + 659 * ((x1 + 1) : Int).toNat) (by omega) (by omega) ?_
    exact hX25 _ _ ⟨by omega, by omega⟩ H
  · refine z_cells (cells' := 313) (slots' := 3959) (by omega) (by omega) ?_
    refine z_aload_n (pc := 49) hc dX6_init_49 rfl ?_
    refine z_iconst (pc := 50) hc dX6_init_50 ?_
    refine z_putI (pc := 51) hc dX6_init_51 zf_RX6_20 rfl rfl rfl H (fun h13 H => ?_)
    refine z_aload_n (pc := 54) hc dX6_init_54 rfl ?_
    refine z_new (pc := 55) (ci := 2) hc dX6_init_55 zc2 (by decide +kernel) (zT_mem 202 (by decide +kernel) rfl) (zT_mem 36 (by decide +kernel) rfl) (zT_mem 9 (by decide +kernel) rfl) (by exact Nat.le_of_ble_eq_true rfl) (by exact Nat.le_of_ble_eq_true rfl) H (fun r14 h15 H => ?_)
    refine z_dup (pc := 58) hc dX6_init_58 rfl ?_
    refine z_calV (mc := 0) (ms := 0) (z_runI (pc := 59) hc dX6_init_59 zw_RX6_26 (metX2_init _ _ _ H.2) rfl (Nat.le_of_ble_eq_true rfl) ⟨Nat.le_of_ble_eq_true rfl, Nat.le_of_ble_eq_true rfl⟩ ⟨by exact Nat.le_of_ble_eq_true rfl, by exact Nat.le_of_ble_eq_true rfl⟩ (d := 12) (by decide) H.1) rfl ⟨rfl, rfl⟩ (fun h16 H => ?_)
    refine z_putR (pc := 62) hc dX6_init_62 zf_RX6_27 rfl rfl rfl hin (fun C T N q => by cases q; rfl) H (fun h17 H => ?_)
    refine z_aload_n (pc := 65) hc dX6_init_65 rfl ?_
    refine z_new (pc := 66) (ci := 3) hc dX6_init_66 zc3 (by decide +kernel) (zT_mem 204 (by decide +kernel) rfl) (zT_mem 205 (by decide +kernel) rfl) (zT_mem 11 (by decide +kernel) rfl) (by exact Nat.le_of_ble_eq_true rfl) (by exact Nat.le_of_ble_eq_true rfl) H (fun r18 h19 H => ?_)
    refine z_dup (pc := 69) hc dX6_init_69 rfl ?_
    refine z_calV (mc := 3) (ms := 20) (z_runI (pc := 70) hc dX6_init_70 zw_RX6_33 (metX3_init _ _ _ H.2) rfl (Nat.le_of_ble_eq_true rfl) ⟨Nat.le_of_ble_eq_true rfl, Nat.le_of_ble_eq_true rfl⟩ ⟨by exact Nat.le_of_ble_eq_true rfl, by exact Nat.le_of_ble_eq_true rfl⟩ (d := 13) (by decide) H.1) rfl ⟨rfl, rfl⟩ (fun h20 H => ?_)
    refine z_putR (pc := 73) hc dX6_init_73 zf_RX6_34 rfl rfl rfl hin (fun C T N q => by cases q; rfl) H (fun h21 H => ?_)
    refine z_aload_n (pc := 76) hc dX6_init_76 rfl ?_
    refine z_new (pc := 77) (ci := 1) hc dX6_init_77 zc1 (by decide +kernel) (zT_mem 223 (by decide +kernel) rfl) (zT_mem 224 (by decide +kernel) rfl) (zT_mem 12 (by decide +kernel) rfl) (by exact Nat.le_of_ble_eq_true rfl) (by exact Nat.le_of_ble_eq_true rfl) H (fun r22 h23 H => ?_)
    refine z_dup (pc := 80) hc dX6_init_80 rfl ?_
    refine z_calV (mc := 145) (ms := 1440) (z_runI (pc := 81) hc dX6_init_81 zw_RX6_40 (metX1_init _ _ _ H.2) rfl (Nat.le_of_ble_eq_true rfl) ⟨Nat.le_of_ble_eq_true rfl, Nat.le_of_ble_eq_true rfl⟩ ⟨by exact Nat.le_of_ble_eq_true rfl, by exact Nat.le_of_ble_eq_true rfl⟩ (d := 11) (by decide) H.1) rfl ⟨rfl, rfl⟩ (fun h24 H => ?_)
    refine z_putR (pc := 84) hc dX6_init_84 zf_RX6_41 rfl rfl rfl hin (fun C T N q => by cases q; rfl) H (fun h25 H => ?_)
    refine z_aload_n (pc := 87) hc dX6_init_87 rfl ?_
    refine z_bipush (pc := 88) hc dX6_init_88 (by decide) ?_
    refine z_newarr (pc := 90) (t := 1) (n := 7) hc dX6_init_90 (by decide) rfl (zT_mem 129 (by decide +kernel) rfl) (by decide) (by exact Nat.le_of_ble_eq_true rfl) (by exact Nat.le_of_ble_eq_true rfl) H (fun r26 h27 H => ?_)
    refine z_putR (pc := 92) hc dX6_init_92 zf_RX6_45 rfl rfl rfl hin (fun C T N q => by cases q; rfl) H (fun h28 H => ?_)
    refine z_aload_n (pc := 95) hc dX6_init_95 rfl ?_
    refine z_bipush (pc := 96) hc dX6_init_96 (by decide) ?_
    refine z_newarr (pc := 98) (t := 1) (n := 101) hc dX6_init_98 (by decide) rfl (zT_mem 129 (by decide +kernel) rfl) (by decide) (by exact Nat.le_of_ble_eq_true rfl) (by exact Nat.le_of_ble_eq_true rfl) H (fun r29 h30 H => ?_)
    refine z_putR (pc := 100) hc dX6_init_100 zf_RX6_49 rfl rfl rfl hin (fun C T N q => by cases q; rfl) H (fun h31 H => ?_)
    refine z_cells (cells' := 466) (slots' := 5550) (by omega) (by omega) ?_
    exact z_return (pc := 103) hc dX6_init_103 H
theorem rX6_init_H25 (hc : zOk p s m args meth c D cX6_init 2 RX6 none) (hin : meth.name = "<init>")  {a0 : Nat} {x1 : Int} {h : Zm} {Q : Zm → Prop}  (hg : 0 ≤ x1 ∧ x1 ≤ 5) (H : mX6_init_H25  a0 x1 h Q) : zW p l e zrX6_init s m args below meth c D base 2 (MQ below (zQv D base Q) args s 466 5550 (zFree base)) (53 + 52 * x1.toNat) (664 + 659 * x1.toNat) 25 [some (.inr (.inl a0)), some (.inl x1)] [] h :=
  H (fun x1 h => 0 ≤ x1 ∧ x1 ≤ 5 → zW p l e zrX6_init s m args below meth c D base 2 (MQ below (zQv D base Q) args s 466 5550 (zFree base)) (53 + 52 * x1.toNat) (664 + 659 * x1.toNat) 25 [some (.inr (.inl a0)), some (.inl x1)] [] h) (fun x1 h H hg => rX6_init_B25 hc hin (fun _ _ g q => q g) hg H) hg
set_option maxRecDepth 100000 in
set_option maxHeartbeats 4000000 in
theorem rX6_init (hc : zOk p s m args meth c D cX6_init 2 RX6 none) (hin : meth.name = "<init>") {a0 : Nat} {h : Zm} {Q : Zm → Prop} (H : mX6_init a0 h Q) : zW p l e zrX6_init s m args below meth c D base 2 (MQ below (zQv D base Q) args s 466 5550 (zFree base)) 0 0 0 [some (.inr (.inl a0)), none] [] h := by
  unfold mX6_init at H
  refine z_aload_n (pc := 0) hc dX6_init_0 rfl ?_
  refine z_objInit (pc := 1) hc dX6_init_1 (zT_mem 19 (by decide +kernel) rfl) (zT_mem 20 (by decide +kernel) rfl) (zT_mem 21 (by decide +kernel) rfl) (by decide) (by decide) (Nat.le_of_ble_eq_true rfl) (d := 16) (by decide) H (fun H => ?_)
  refine z_aload_n (pc := 4) hc dX6_init_4 rfl ?_
  refine z_new (pc := 5) (ci := 4) hc dX6_init_5 zc4 (by decide +kernel) (zT_mem 22 (by decide +kernel) rfl) (zT_mem 23 (by decide +kernel) rfl) (zT_mem 7 (by decide +kernel) rfl) (by exact Nat.le_of_ble_eq_true rfl) (by exact Nat.le_of_ble_eq_true rfl) H (fun r1 h2 H => ?_)
  refine z_dup (pc := 8) hc dX6_init_8 rfl ?_
  refine z_calV (mc := 51) (ms := 651) (z_runI (pc := 9) hc dX6_init_9 zw_RX6_11 (metX4_init _ _ _ H.2) rfl (Nat.le_of_ble_eq_true rfl) ⟨Nat.le_of_ble_eq_true rfl, Nat.le_of_ble_eq_true rfl⟩ ⟨by exact Nat.le_of_ble_eq_true rfl, by exact Nat.le_of_ble_eq_true rfl⟩ (d := 14) (by decide) H.1) rfl ⟨rfl, rfl⟩ (fun h3 H => ?_)
  refine z_putR (pc := 12) hc dX6_init_12 zf_RX6_12 rfl rfl rfl hin (fun C T N q => by cases q; rfl) H (fun h4 H => ?_)
  refine z_aload_n (pc := 15) hc dX6_init_15 rfl ?_
  refine z_iconst (pc := 16) hc dX6_init_16 ?_
  refine z_anew (pc := 17) (t := 6) (n := 5) (C := RX4) hc dX6_init_17 (by decide) rfl (zT_mem 22 (by decide +kernel) rfl) (by decide +kernel) (by decide) (by exact Nat.le_of_ble_eq_true rfl) (by exact Nat.le_of_ble_eq_true rfl) H (fun r5 h6 H => ?_)
  refine z_putR (pc := 20) hc dX6_init_20 zf_RX6_16 rfl rfl rfl hin (fun C T N q => by cases q; rfl) H (fun h7 H => ?_)
  refine z_iconst (pc := 23) hc dX6_init_23 ?_
  refine z_istore_n (pc := 24) hc dX6_init_24 (by decide) (ρ' := [some (.inr (.inl a0)), some (.inl 0)]) rfl rfl ?_
  refine z_cells (cells' := 53 + 52 * (0 : Int).toNat) (slots' := 664 + 659 * (0 : Int).toNat) (by omega) (by omega) ?_
  exact rX6_init_H25 hc hin ⟨by omega, by omega⟩ H
end
theorem metX6_init (l : Launch) (D : Zd) (base : Nat) {a0 : Nat} {h : Zm} {Q : Zm → Prop} (H : mX6_init a0 h Q) : zMet l D base yX6_init cX6_init 2 none zrX6_init [.inr (.inl a0)] h (zQv D base Q) :=
  z_met (by decide +kernel) (Nat.le_of_ble_eq_true rfl) rfl (fun p e s m args below meth c hc hn => rX6_init hc hn H)
def zrX6_remember : Room := { frames := 4, cells := 0, slots := 0, locals := 86 }
def mX6_remember_J59  (a0 : Nat) (h : Zm) (Q : Zm → Prop) : Prop :=
  cGr h 16 a0 1 fun r4 => cGi h 16 a0 2 fun v5 => cLdR h r4 v5 fun r6 => cGr h 16 a0 0 fun r7 => cRc h 14 r6 <| mX4_copyFrom r6 r7 h fun h8 => cGi h8 16 a0 2 fun v9 => cPi h8 16 a0 2 (v9 + 1) fun h10 => Q h10
def mX6_remember_B17 (X17 : Int → Zm → Prop) (a0 : Nat) (a1 : Nat) (x2 : Int) (h : Zm) (Q : Zm → Prop) : Prop :=
  cLt x2 5
  (cGr h 16 a0 1 fun r15 => cGr h 16 a0 1 fun r16 => cLdR h r16 x2 fun r17 => cStR h 6 14 r15 (x2 - 1) r17 fun h18 => X17 (x2 + 1) h18)
  (cGr h 16 a0 1 fun r11 => cStR h 6 14 r11 4 a1 fun h12 => cGi h12 16 a0 2 fun v13 => cPi h12 16 a0 2 (v13 - 1) fun h14 => mX6_remember_J59  a0 h14 Q)
def mX6_remember_H17  (a0 : Nat) (a1 : Nat) (x2 : Int) (h : Zm) (Q : Zm → Prop) : Prop :=
  lfp1 (fun X17 x2 h => mX6_remember_B17 X17 a0 a1 x2 h Q) x2 h
def mX6_remember (a0 : Nat) (h : Zm) (Q : Zm → Prop) : Prop :=
  cGi h 16 a0 2 fun v1 => cEq v1 5
  (cGr h 16 a0 1 fun r2 => cLdR h r2 0 fun r3 => mX6_remember_H17  a0 r3 1 h Q)
  (mX6_remember_J59  a0 h Q)
section
variable {p : Program} {l : Launch} {e : Env} {s : State} {m : MethodId} {args : Array Value} {below : List Frame} {meth : Method} {c : Code} {D : Zd} {base : Nat}
set_option maxRecDepth 100000 in
set_option maxHeartbeats 4000000 in
theorem rX6_remember_J59 (hc : zOk p s m args meth c D cX6_remember 3 RX6 none)  {a0 : Nat} {h : Zm} {Q : Zm → Prop}  (H : mX6_remember_J59  a0 h Q) : zW p l e zrX6_remember s m args below meth c D base 3 (MQ below (zQv D base Q) args s 0 0 (zFree base)) 0 0 59 [some (.inr (.inl a0)), none, none] [] h := by
  unfold mX6_remember_J59 at H
  refine z_aload_n (pc := 59) hc dX6_remember_59 rfl ?_
  refine z_getR (pc := 60) hc dX6_remember_60 zf_RX6_16 rfl rfl rfl H (fun r4 H => ?_)
  refine z_aload_n (pc := 63) hc dX6_remember_63 rfl ?_
  refine z_getI (pc := 64) hc dX6_remember_64 zf_RX6_20 rfl rfl rfl H (fun v5 H => ?_)
  refine z_aaload (pc := 67) hc dX6_remember_67 H (fun r6 H => ?_)
  refine z_aload_n (pc := 68) hc dX6_remember_68 rfl ?_
  refine z_getR (pc := 69) hc dX6_remember_69 zf_RX6_12 rfl rfl rfl H (fun r7 H => ?_)
  refine z_calV0 (z_runV (pc := 72) (ci := 4) (T := TX4) (N := 8) hc dX6_remember_72 zw_RX6_298 (metX4_copyFrom _ _ _ H.2) rfl (Nat.le_of_ble_eq_true rfl) ⟨Nat.le_of_ble_eq_true rfl, Nat.le_of_ble_eq_true rfl⟩ ⟨by exact Nat.le_of_ble_eq_true rfl, by exact Nat.le_of_ble_eq_true rfl⟩ rfl H.1) rfl ⟨rfl, rfl⟩ (fun h8 H => ?_)
  refine z_aload_n (pc := 75) hc dX6_remember_75 rfl ?_
  refine z_dup (pc := 76) hc dX6_remember_76 rfl ?_
  refine z_getI (pc := 77) hc dX6_remember_77 zf_RX6_20 rfl rfl rfl H (fun v9 H => ?_)
  refine z_iconst (pc := 80) hc dX6_remember_80 ?_
  refine z_iadd (pc := 81) hc dX6_remember_81 ?_
  refine z_putI (pc := 82) hc dX6_remember_82 zf_RX6_20 rfl rfl rfl H (fun h10 H => ?_)
  exact z_return (pc := 85) hc dX6_remember_85 H
set_option maxRecDepth 100000 in
set_option maxHeartbeats 4000000 in
theorem rX6_remember_B17 (hc : zOk p s m args meth c D cX6_remember 3 RX6 none) {X17 : Int → Zm → Prop} {a0 : Nat} {a1 : Nat} {x2 : Int} {h : Zm} {Q : Zm → Prop} (hX17 : ∀ (x2 : Int) (h : Zm), X17 x2 h → zW p l e zrX6_remember s m args below meth c D base 3 (MQ below (zQv D base Q) args s 0 0 (zFree base)) 0 0 17 [some (.inr (.inl a0)), some (.inr (.inl a1)), some (.inl x2)] [] h) (H : mX6_remember_B17 X17 a0 a1 x2 h Q) : zW p l e zrX6_remember s m args below meth c D base 3 (MQ below (zQv D base Q) args s 0 0 (zFree base)) 0 0 17 [some (.inr (.inl a0)), some (.inr (.inl a1)), some (.inl x2)] [] h := by
  unfold mX6_remember_B17 at H
  refine z_iload_n (pc := 17) hc dX6_remember_17 rfl ?_
  refine z_iconst (pc := 18) hc dX6_remember_18 ?_
  refine z_icmp_ge (tgt := 42) (pc := 19) hc dX6_remember_19 rfl H (fun H => ?_) (fun H => ?_)
  · refine z_aload_n (pc := 22) hc dX6_remember_22 rfl ?_
    refine z_getR (pc := 23) hc dX6_remember_23 zf_RX6_16 rfl rfl rfl H (fun r15 H => ?_)
    refine z_iload_n (pc := 26) hc dX6_remember_26 rfl ?_
    refine z_iconst (pc := 27) hc dX6_remember_27 ?_
    refine z_isub (pc := 28) hc dX6_remember_28 ?_
    refine z_aload_n (pc := 29) hc dX6_remember_29 rfl ?_
    refine z_getR (pc := 30) hc dX6_remember_30 zf_RX6_16 rfl rfl rfl H (fun r16 H => ?_)
    refine z_iload_n (pc := 33) hc dX6_remember_33 rfl ?_
    refine z_aaload (pc := 34) hc dX6_remember_34 H (fun r17 H => ?_)
    refine z_aastore (pc := 35) (ci := 4) (C := RX4) (T := TX4) (N := 8) hc dX6_remember_35 (by decide) rfl rfl rfl H (fun h18 H => ?_)
    refine z_iinc (pc := 36) hc dX6_remember_36 (by decide) rfl (ρ' := [some (.inr (.inl a0)), some (.inr (.inl a1)), some (.inl (x2 + 1))]) rfl rfl ?_
    refine z_goto (tgt := 17) (pc := 39) hc dX6_remember_39 rfl ?_
    exact hX17 _ _ H
  · refine z_aload_n (pc := 42) hc dX6_remember_42 rfl ?_
    refine z_getR (pc := 43) hc dX6_remember_43 zf_RX6_16 rfl rfl rfl H (fun r11 H => ?_)
    refine z_iconst (pc := 46) hc dX6_remember_46 ?_
    refine z_aload_n (pc := 47) hc dX6_remember_47 rfl ?_
    refine z_aastore (pc := 48) (ci := 4) (C := RX4) (T := TX4) (N := 8) hc dX6_remember_48 (by decide) rfl rfl rfl H (fun h12 H => ?_)
    refine z_aload_n (pc := 49) hc dX6_remember_49 rfl ?_
    refine z_dup (pc := 50) hc dX6_remember_50 rfl ?_
    refine z_getI (pc := 51) hc dX6_remember_51 zf_RX6_20 rfl rfl rfl H (fun v13 H => ?_)
    refine z_iconst (pc := 54) hc dX6_remember_54 ?_
    refine z_isub (pc := 55) hc dX6_remember_55 ?_
    refine z_putI (pc := 56) hc dX6_remember_56 zf_RX6_20 rfl rfl rfl H (fun h14 H => ?_)
    refine z_mask [true, false, false] (ρ' := [some (.inr (.inl a0)), none, none]) rfl ?_
    exact rX6_remember_J59 hc H
theorem rX6_remember_H17 (hc : zOk p s m args meth c D cX6_remember 3 RX6 none)  {a0 : Nat} {a1 : Nat} {x2 : Int} {h : Zm} {Q : Zm → Prop}  (H : mX6_remember_H17  a0 a1 x2 h Q) : zW p l e zrX6_remember s m args below meth c D base 3 (MQ below (zQv D base Q) args s 0 0 (zFree base)) 0 0 17 [some (.inr (.inl a0)), some (.inr (.inl a1)), some (.inl x2)] [] h :=
  H (fun x2 h => zW p l e zrX6_remember s m args below meth c D base 3 (MQ below (zQv D base Q) args s 0 0 (zFree base)) 0 0 17 [some (.inr (.inl a0)), some (.inr (.inl a1)), some (.inl x2)] [] h) (fun x2 h H => rX6_remember_B17 hc (fun _ _ q => q) H)
set_option maxRecDepth 100000 in
set_option maxHeartbeats 4000000 in
theorem rX6_remember (hc : zOk p s m args meth c D cX6_remember 3 RX6 none) {a0 : Nat} {h : Zm} {Q : Zm → Prop} (H : mX6_remember a0 h Q) : zW p l e zrX6_remember s m args below meth c D base 3 (MQ below (zQv D base Q) args s 0 0 (zFree base)) 0 0 0 [some (.inr (.inl a0)), none, none] [] h := by
  unfold mX6_remember at H
  refine z_aload_n (pc := 0) hc dX6_remember_0 rfl ?_
  refine z_getI (pc := 1) hc dX6_remember_1 zf_RX6_20 rfl rfl rfl H (fun v1 H => ?_)
  refine z_iconst (pc := 4) hc dX6_remember_4 ?_
  refine z_icmp_ne (tgt := 59) (pc := 5) hc dX6_remember_5 rfl H (fun H => ?_) (fun H => ?_)
  · refine z_aload_n (pc := 8) hc dX6_remember_8 rfl ?_
    refine z_getR (pc := 9) hc dX6_remember_9 zf_RX6_16 rfl rfl rfl H (fun r2 H => ?_)
    refine z_iconst (pc := 12) hc dX6_remember_12 ?_
    refine z_aaload (pc := 13) hc dX6_remember_13 H (fun r3 H => ?_)
    refine z_astore_n (pc := 14) hc dX6_remember_14 (by decide) (ρ' := [some (.inr (.inl a0)), some (.inr (.inl r3)), none]) rfl rfl ?_
    refine z_iconst (pc := 15) hc dX6_remember_15 ?_
    refine z_istore_n (pc := 16) hc dX6_remember_16 (by decide) (ρ' := [some (.inr (.inl a0)), some (.inr (.inl r3)), some (.inl 1)]) rfl rfl ?_
    exact rX6_remember_H17 hc H
  · exact rX6_remember_J59 hc H
end
theorem metX6_remember (l : Launch) (D : Zd) (base : Nat) {a0 : Nat} {h : Zm} {Q : Zm → Prop} (H : mX6_remember a0 h Q) : zMet l D base yX6_remember cX6_remember 3 none zrX6_remember [.inr (.inl a0)] h (zQv D base Q) :=
  z_met (by decide +kernel) (Nat.le_of_ble_eq_true rfl) rfl (fun p e s m args below meth c hc hn => rX6_remember hc H)
def zrX6_setSize : Room := { frames := 5, cells := 0, slots := 0, locals := 108 }
def mX6_setSize (a0 : Nat) (x1 : Int) (x2 : Int) (h : Zm) (Q : Int → Zm → Prop) : Prop :=
  mX6_within x1 1 12 h fun v2 h1 => cEq v2 0
  (Q (-1) h1)
  (mX6_within x2 1 12 h1 fun v4 h3 => cEq v4 0
    (Q (-1) h3)
    (cGr h3 16 a0 0 fun r5 => cGi h3 14 r5 0 fun v6 => cGr h3 16 a0 0 fun r7 => cGi h3 14 r7 1 fun v8 => cRc h3 16 a0 <| mX6_remember a0 h3 fun h9 => cGr h9 16 a0 0 fun r10 => cPi h9 14 r10 0 x1 fun h11 => cGr h11 16 a0 0 fun r12 => cPi h11 14 r12 1 x2 fun h13 => Q ((100 * v6) + v8) h13))
section
variable {p : Program} {l : Launch} {e : Env} {s : State} {m : MethodId} {args : Array Value} {below : List Frame} {meth : Method} {c : Code} {D : Zd} {base : Nat}
set_option maxRecDepth 100000 in
set_option maxHeartbeats 4000000 in
theorem rX6_setSize (hc : zOk p s m args meth c D cX6_setSize 4 RX6 (some .int)) {a0 : Nat} {x1 : Int} {x2 : Int} {h : Zm} {Q : Int → Zm → Prop} (H : mX6_setSize a0 x1 x2 h Q) : zW p l e zrX6_setSize s m args below meth c D base 4 (MQ below (zQi D base Q) args s 0 0 (zFree base)) 0 0 0 [some (.inr (.inl a0)), some (.inl x1), some (.inl x2), none] [] h := by
  unfold mX6_setSize at H
  refine z_iload_n (pc := 0) hc dX6_setSize_0 rfl ?_
  refine z_iconst (pc := 1) hc dX6_setSize_1 ?_
  refine z_bipush (pc := 2) hc dX6_setSize_2 (by decide) ?_
  refine z_calI (z_runS (pc := 4) hc dX6_setSize_4 zw_RX6_52 (metX6_within _ _ _ H) rfl (Nat.le_of_ble_eq_true rfl) ⟨Nat.le_of_ble_eq_true rfl, Nat.le_of_ble_eq_true rfl⟩ ⟨by exact Nat.le_of_ble_eq_true rfl, by exact Nat.le_of_ble_eq_true rfl⟩) rfl ⟨rfl, rfl⟩ (fun v2 h1 H => ?_)
  refine z_if_eq (tgt := 20) (pc := 7) hc dX6_setSize_7 rfl H (fun H => ?_) (fun H => ?_)
  · refine z_iconst (pc := 20) hc dX6_setSize_20 ?_
    exact z_ireturn (pc := 21) hc dX6_setSize_21 H
  · refine z_iload_n (pc := 10) hc dX6_setSize_10 rfl ?_
    refine z_iconst (pc := 11) hc dX6_setSize_11 ?_
    refine z_bipush (pc := 12) hc dX6_setSize_12 (by decide) ?_
    refine z_calI (z_runS (pc := 14) hc dX6_setSize_14 zw_RX6_52 (metX6_within _ _ _ H) rfl (Nat.le_of_ble_eq_true rfl) ⟨Nat.le_of_ble_eq_true rfl, Nat.le_of_ble_eq_true rfl⟩ ⟨by exact Nat.le_of_ble_eq_true rfl, by exact Nat.le_of_ble_eq_true rfl⟩) rfl ⟨rfl, rfl⟩ (fun v4 h3 H => ?_)
    refine z_if_ne (tgt := 22) (pc := 17) hc dX6_setSize_17 rfl H (fun H => ?_) (fun H => ?_)
    · refine z_iconst (pc := 20) hc dX6_setSize_20 ?_
      exact z_ireturn (pc := 21) hc dX6_setSize_21 H
    · refine z_bipush (pc := 22) hc dX6_setSize_22 (by decide) ?_
      refine z_aload_n (pc := 24) hc dX6_setSize_24 rfl ?_
      refine z_getR (pc := 25) hc dX6_setSize_25 zf_RX6_12 rfl rfl rfl H (fun r5 H => ?_)
      refine z_getI (pc := 28) hc dX6_setSize_28 zf_RX6_56 rfl rfl rfl H (fun v6 H => ?_)
      refine z_imul (pc := 31) hc dX6_setSize_31 ?_
      refine z_aload_n (pc := 32) hc dX6_setSize_32 rfl ?_
      refine z_getR (pc := 33) hc dX6_setSize_33 zf_RX6_12 rfl rfl rfl H (fun r7 H => ?_)
      refine z_getI (pc := 36) hc dX6_setSize_36 zf_RX6_59 rfl rfl rfl H (fun v8 H => ?_)
      refine z_iadd (pc := 39) hc dX6_setSize_39 ?_
      refine z_istore_n (pc := 40) hc dX6_setSize_40 (by decide) (ρ' := [some (.inr (.inl a0)), some (.inl x1), some (.inl x2), some (.inl ((100 * v6) + v8))]) rfl rfl ?_
      refine z_aload_n (pc := 41) hc dX6_setSize_41 rfl ?_
      refine z_calV0 (z_runV (pc := 42) (ci := 6) (T := TX6) (N := 8) hc dX6_setSize_42 zw_RX6_62 (metX6_remember _ _ _ H.2) rfl (Nat.le_of_ble_eq_true rfl) ⟨Nat.le_of_ble_eq_true rfl, Nat.le_of_ble_eq_true rfl⟩ ⟨by exact Nat.le_of_ble_eq_true rfl, by exact Nat.le_of_ble_eq_true rfl⟩ rfl H.1) rfl ⟨rfl, rfl⟩ (fun h9 H => ?_)
      refine z_aload_n (pc := 45) hc dX6_setSize_45 rfl ?_
      refine z_getR (pc := 46) hc dX6_setSize_46 zf_RX6_12 rfl rfl rfl H (fun r10 H => ?_)
      refine z_iload_n (pc := 49) hc dX6_setSize_49 rfl ?_
      refine z_putI (pc := 50) hc dX6_setSize_50 zf_RX6_56 rfl rfl rfl H (fun h11 H => ?_)
      refine z_aload_n (pc := 53) hc dX6_setSize_53 rfl ?_
      refine z_getR (pc := 54) hc dX6_setSize_54 zf_RX6_12 rfl rfl rfl H (fun r12 H => ?_)
      refine z_iload_n (pc := 57) hc dX6_setSize_57 rfl ?_
      refine z_putI (pc := 58) hc dX6_setSize_58 zf_RX6_59 rfl rfl rfl H (fun h13 H => ?_)
      refine z_iload_n (pc := 61) hc dX6_setSize_61 rfl ?_
      exact z_ireturn (pc := 62) hc dX6_setSize_62 H
end
theorem metX6_setSize (l : Launch) (D : Zd) (base : Nat) {a0 : Nat} {x1 : Int} {x2 : Int} {h : Zm} {Q : Int → Zm → Prop} (H : mX6_setSize a0 x1 x2 h Q) : zMet l D base yX6_setSize cX6_setSize 4 (some .int) zrX6_setSize [.inr (.inl a0), .inl x1, .inl x2] h (zQi D base Q) :=
  z_met (by decide +kernel) (Nat.le_of_ble_eq_true rfl) rfl (fun p e s m args below meth c hc hn => rX6_setSize hc H)
def zrX6_isOffset : Room := { frames := 1, cells := 0, slots := 0, locals := 22 }
def mX6_isOffset (x0 : Int) (h : Zm) (Q : Int → Zm → Prop) : Prop :=
  mX6_within x0 (-12) 12 h fun v2 h1 => cBr v2 (Q v2 h1)
section
variable {p : Program} {l : Launch} {e : Env} {s : State} {m : MethodId} {args : Array Value} {below : List Frame} {meth : Method} {c : Code} {D : Zd} {base : Nat}
set_option maxRecDepth 100000 in
set_option maxHeartbeats 4000000 in
theorem rX6_isOffset (hc : zOk p s m args meth c D cX6_isOffset 1 RX6 (some .boolean)) {x0 : Int} {h : Zm} {Q : Int → Zm → Prop} (H : mX6_isOffset x0 h Q) : zW p l e zrX6_isOffset s m args below meth c D base 1 (MQ below (zQi D base Q) args s 0 0 (zFree base)) 0 0 0 [some (.inl x0)] [] h := by
  unfold mX6_isOffset at H
  refine z_iload_n (pc := 0) hc dX6_isOffset_0 rfl ?_
  refine z_bipush (pc := 1) hc dX6_isOffset_1 (by decide) ?_
  refine z_bipush (pc := 3) hc dX6_isOffset_3 (by decide) ?_
  refine z_calI (z_runS (pc := 5) hc dX6_isOffset_5 zw_RX6_52 (metX6_within _ _ _ H) rfl (Nat.le_of_ble_eq_true rfl) ⟨Nat.le_of_ble_eq_true rfl, Nat.le_of_ble_eq_true rfl⟩ ⟨by exact Nat.le_of_ble_eq_true rfl, by exact Nat.le_of_ble_eq_true rfl⟩) rfl ⟨rfl, rfl⟩ (fun v2 h1 H => ?_)
  exact z_zreturn (pc := 8) hc dX6_isOffset_8 H
end
theorem metX6_isOffset (l : Launch) (D : Zd) (base : Nat) {x0 : Int} {h : Zm} {Q : Int → Zm → Prop} (H : mX6_isOffset x0 h Q) : zMet l D base yX6_isOffset cX6_isOffset 1 (some .boolean) zrX6_isOffset [.inl x0] h (zQi D base Q) :=
  z_met (by decide +kernel) (Nat.le_of_ble_eq_true rfl) rfl (fun p e s m args below meth c hc hn => rX6_isOffset hc H)
def zrX6_numberBelow : Room := { frames := 2, cells := 0, slots := 0, locals := 43 }
def mX6_numberBelow (a0 : Nat) (x1 : Int) (h : Zm) (Q : Int → Zm → Prop) : Prop :=
  cGr h 16 a0 0 fun r1 => cGr h 14 r1 6 fun r2 => cRc h 15 r2 <| mX5_has r2 x1 h fun v4 h3 => cEq v4 0
  (Q (-1) h3)
  (cGr h3 16 a0 0 fun r5 => cGr h3 14 r5 6 fun r6 => cRc h3 15 r6 <| mX5_nodeAt r6 x1 h3 fun r8 h7 => cGi h7 12 r8 0 fun v9 => cEq v9 0
    (cGi h7 12 r8 2 fun v10 => cLt v10 4
      (cGr h7 16 a0 0 fun r11 => cGr h7 14 r11 6 fun r12 => cRc h7 15 r12 <| mX5_freeNumber r12 h7 fun v14 h13 => cEq v14 (-1)
        (Q (-3) h13)
        (Q v14 h13))
      (Q (-2) h7))
    (Q (-2) h7))
section
variable {p : Program} {l : Launch} {e : Env} {s : State} {m : MethodId} {args : Array Value} {below : List Frame} {meth : Method} {c : Code} {D : Zd} {base : Nat}
set_option maxRecDepth 100000 in
set_option maxHeartbeats 4000000 in
theorem rX6_numberBelow (hc : zOk p s m args meth c D cX6_numberBelow 4 RX6 (some .int)) {a0 : Nat} {x1 : Int} {h : Zm} {Q : Int → Zm → Prop} (H : mX6_numberBelow a0 x1 h Q) : zW p l e zrX6_numberBelow s m args below meth c D base 4 (MQ below (zQi D base Q) args s 0 0 (zFree base)) 0 0 0 [some (.inr (.inl a0)), some (.inl x1), none, none] [] h := by
  unfold mX6_numberBelow at H
  refine z_aload_n (pc := 0) hc dX6_numberBelow_0 rfl ?_
  refine z_getR (pc := 1) hc dX6_numberBelow_1 zf_RX6_12 rfl rfl rfl H (fun r1 H => ?_)
  refine z_getR (pc := 4) hc dX6_numberBelow_4 zf_RX6_73 rfl rfl rfl H (fun r2 H => ?_)
  refine z_iload_n (pc := 7) hc dX6_numberBelow_7 rfl ?_
  refine z_calI (z_runV (pc := 8) (ci := 5) (T := TX5) (N := 4) hc dX6_numberBelow_8 zw_RX6_133 (metX5_has _ _ _ H.2) rfl (Nat.le_of_ble_eq_true rfl) ⟨Nat.le_of_ble_eq_true rfl, Nat.le_of_ble_eq_true rfl⟩ ⟨by exact Nat.le_of_ble_eq_true rfl, by exact Nat.le_of_ble_eq_true rfl⟩ rfl H.1) rfl ⟨rfl, rfl⟩ (fun v4 h3 H => ?_)
  refine z_if_ne (tgt := 16) (pc := 11) hc dX6_numberBelow_11 rfl H (fun H => ?_) (fun H => ?_)
  · refine z_iconst (pc := 14) hc dX6_numberBelow_14 ?_
    exact z_ireturn (pc := 15) hc dX6_numberBelow_15 H
  · refine z_aload_n (pc := 16) hc dX6_numberBelow_16 rfl ?_
    refine z_getR (pc := 17) hc dX6_numberBelow_17 zf_RX6_12 rfl rfl rfl H (fun r5 H => ?_)
    refine z_getR (pc := 20) hc dX6_numberBelow_20 zf_RX6_73 rfl rfl rfl H (fun r6 H => ?_)
    refine z_iload_n (pc := 23) hc dX6_numberBelow_23 rfl ?_
    refine z_calR (z_runV (pc := 24) (ci := 5) (T := TX5) (N := 4) hc dX6_numberBelow_24 zw_RX6_77 (metX5_nodeAt _ _ _ H.2) rfl (Nat.le_of_ble_eq_true rfl) ⟨Nat.le_of_ble_eq_true rfl, Nat.le_of_ble_eq_true rfl⟩ ⟨by exact Nat.le_of_ble_eq_true rfl, by exact Nat.le_of_ble_eq_true rfl⟩ rfl H.1) rfl ⟨rfl, rfl⟩ (fun r8 h7 H => ?_)
    refine z_astore_n (pc := 27) hc dX6_numberBelow_27 (by decide) (ρ' := [some (.inr (.inl a0)), some (.inl x1), some (.inr (.inl r8)), none]) rfl rfl ?_
    refine z_aload_n (pc := 28) hc dX6_numberBelow_28 rfl ?_
    refine z_getI (pc := 29) hc dX6_numberBelow_29 zf_RX6_150 rfl rfl rfl H (fun v9 H => ?_)
    refine z_if_ne (tgt := 43) (pc := 32) hc dX6_numberBelow_32 rfl H (fun H => ?_) (fun H => ?_)
    · refine z_aload_n (pc := 35) hc dX6_numberBelow_35 rfl ?_
      refine z_getI (pc := 36) hc dX6_numberBelow_36 zf_RX6_147 rfl rfl rfl H (fun v10 H => ?_)
      refine z_iconst (pc := 39) hc dX6_numberBelow_39 ?_
      refine z_icmp_lt (tgt := 46) (pc := 40) hc dX6_numberBelow_40 rfl H (fun H => ?_) (fun H => ?_)
      · refine z_aload_n (pc := 46) hc dX6_numberBelow_46 rfl ?_
        refine z_getR (pc := 47) hc dX6_numberBelow_47 zf_RX6_12 rfl rfl rfl H (fun r11 H => ?_)
        refine z_getR (pc := 50) hc dX6_numberBelow_50 zf_RX6_73 rfl rfl rfl H (fun r12 H => ?_)
        refine z_calI (z_runV (pc := 53) (ci := 5) (T := TX5) (N := 4) hc dX6_numberBelow_53 zw_RX6_302 (metX5_freeNumber _ _ _ H.2) rfl (Nat.le_of_ble_eq_true rfl) ⟨Nat.le_of_ble_eq_true rfl, Nat.le_of_ble_eq_true rfl⟩ ⟨by exact Nat.le_of_ble_eq_true rfl, by exact Nat.le_of_ble_eq_true rfl⟩ rfl H.1) rfl ⟨rfl, rfl⟩ (fun v14 h13 H => ?_)
        refine z_istore_n (pc := 56) hc dX6_numberBelow_56 (by decide) (ρ' := [some (.inr (.inl a0)), some (.inl x1), some (.inr (.inl r8)), some (.inl v14)]) rfl rfl ?_
        refine z_iload_n (pc := 57) hc dX6_numberBelow_57 rfl ?_
        refine z_iconst (pc := 58) hc dX6_numberBelow_58 ?_
        refine z_icmp_ne (tgt := 67) (pc := 59) hc dX6_numberBelow_59 rfl H (fun H => ?_) (fun H => ?_)
        · refine z_bipush (pc := 62) hc dX6_numberBelow_62 (by decide) ?_
          refine z_goto (tgt := 68) (pc := 64) hc dX6_numberBelow_64 rfl ?_
          exact z_ireturn (pc := 68) hc dX6_numberBelow_68 H
        · refine z_iload_n (pc := 67) hc dX6_numberBelow_67 rfl ?_
          exact z_ireturn (pc := 68) hc dX6_numberBelow_68 H
      · refine z_bipush (pc := 43) hc dX6_numberBelow_43 (by decide) ?_
        exact z_ireturn (pc := 45) hc dX6_numberBelow_45 H
    · refine z_bipush (pc := 43) hc dX6_numberBelow_43 (by decide) ?_
      exact z_ireturn (pc := 45) hc dX6_numberBelow_45 H
end
theorem metX6_numberBelow (l : Launch) (D : Zd) (base : Nat) {a0 : Nat} {x1 : Int} {h : Zm} {Q : Int → Zm → Prop} (H : mX6_numberBelow a0 x1 h Q) : zMet l D base yX6_numberBelow cX6_numberBelow 4 (some .int) zrX6_numberBelow [.inr (.inl a0), .inl x1] h (zQi D base Q) :=
  z_met (by decide +kernel) (Nat.le_of_ble_eq_true rfl) rfl (fun p e s m args below meth c hc hn => rX6_numberBelow hc H)
def zrX6_addGroup : Room := { frames := 5, cells := 0, slots := 0, locals := 113 }
def mX6_addGroup (a0 : Nat) (x1 : Int) (x2 : Int) (x3 : Int) (x4 : Int) (h : Zm) (Q : Int → Zm → Prop) : Prop :=
  mX6_within x2 0 100 h fun v2 h1 => cEq v2 0
  (Q (-1) h1)
  (mX6_isOffset x3 h1 fun v4 h3 => cEq v4 0
    (Q (-1) h3)
    (mX6_isOffset x4 h3 fun v6 h5 => cEq v6 0
      (Q (-1) h5)
      (cRc h5 16 a0 <| mX6_numberBelow a0 x1 h5 fun v8 h7 => cLt v8 0
        (Q v8 h7)
        (cRc h7 16 a0 <| mX6_remember a0 h7 fun h9 => cGr h9 16 a0 0 fun r10 => cGr h9 14 r10 6 fun r11 => cRc h9 15 r11 <| mX5_nodeAt r11 v8 h9 fun r13 h12 => cPi h12 12 r13 3 x2 fun h14 => cPi h14 12 r13 4 x3 fun h15 => cPi h15 12 r13 5 x4 fun h16 => cGr h16 16 a0 0 fun r17 => cGr h16 14 r17 6 fun r18 => cRc h16 15 r18 <| mX5_append r18 v8 0 x1 h16 fun h19 => Q v8 h19))))
section
variable {p : Program} {l : Launch} {e : Env} {s : State} {m : MethodId} {args : Array Value} {below : List Frame} {meth : Method} {c : Code} {D : Zd} {base : Nat}
set_option maxRecDepth 100000 in
set_option maxHeartbeats 4000000 in
theorem rX6_addGroup (hc : zOk p s m args meth c D cX6_addGroup 7 RX6 (some .int)) {a0 : Nat} {x1 : Int} {x2 : Int} {x3 : Int} {x4 : Int} {h : Zm} {Q : Int → Zm → Prop} (H : mX6_addGroup a0 x1 x2 x3 x4 h Q) : zW p l e zrX6_addGroup s m args below meth c D base 7 (MQ below (zQi D base Q) args s 0 0 (zFree base)) 0 0 0 [some (.inr (.inl a0)), some (.inl x1), some (.inl x2), some (.inl x3), some (.inl x4), none, none] [] h := by
  unfold mX6_addGroup at H
  refine z_iload_n (pc := 0) hc dX6_addGroup_0 rfl ?_
  refine z_iconst (pc := 1) hc dX6_addGroup_1 ?_
  refine z_bipush (pc := 2) hc dX6_addGroup_2 (by decide) ?_
  refine z_calI (z_runS (pc := 4) hc dX6_addGroup_4 zw_RX6_52 (metX6_within _ _ _ H) rfl (Nat.le_of_ble_eq_true rfl) ⟨Nat.le_of_ble_eq_true rfl, Nat.le_of_ble_eq_true rfl⟩ ⟨by exact Nat.le_of_ble_eq_true rfl, by exact Nat.le_of_ble_eq_true rfl⟩) rfl ⟨rfl, rfl⟩ (fun v2 h1 H => ?_)
  refine z_if_eq (tgt := 25) (pc := 7) hc dX6_addGroup_7 rfl H (fun H => ?_) (fun H => ?_)
  · refine z_iconst (pc := 25) hc dX6_addGroup_25 ?_
    exact z_ireturn (pc := 26) hc dX6_addGroup_26 H
  · refine z_iload_n (pc := 10) hc dX6_addGroup_10 rfl ?_
    refine z_calI (z_runS (pc := 11) hc dX6_addGroup_11 zw_RX6_65 (metX6_isOffset _ _ _ H) rfl (Nat.le_of_ble_eq_true rfl) ⟨Nat.le_of_ble_eq_true rfl, Nat.le_of_ble_eq_true rfl⟩ ⟨by exact Nat.le_of_ble_eq_true rfl, by exact Nat.le_of_ble_eq_true rfl⟩) rfl ⟨rfl, rfl⟩ (fun v4 h3 H => ?_)
    refine z_if_eq (tgt := 25) (pc := 14) hc dX6_addGroup_14 rfl H (fun H => ?_) (fun H => ?_)
    · refine z_iconst (pc := 25) hc dX6_addGroup_25 ?_
      exact z_ireturn (pc := 26) hc dX6_addGroup_26 H
    · refine z_iload (pc := 17) hc dX6_addGroup_17 rfl ?_
      refine z_calI (z_runS (pc := 19) hc dX6_addGroup_19 zw_RX6_65 (metX6_isOffset _ _ _ H) rfl (Nat.le_of_ble_eq_true rfl) ⟨Nat.le_of_ble_eq_true rfl, Nat.le_of_ble_eq_true rfl⟩ ⟨by exact Nat.le_of_ble_eq_true rfl, by exact Nat.le_of_ble_eq_true rfl⟩) rfl ⟨rfl, rfl⟩ (fun v6 h5 H => ?_)
      refine z_if_ne (tgt := 27) (pc := 22) hc dX6_addGroup_22 rfl H (fun H => ?_) (fun H => ?_)
      · refine z_iconst (pc := 25) hc dX6_addGroup_25 ?_
        exact z_ireturn (pc := 26) hc dX6_addGroup_26 H
      · refine z_aload_n (pc := 27) hc dX6_addGroup_27 rfl ?_
        refine z_iload_n (pc := 28) hc dX6_addGroup_28 rfl ?_
        refine z_calI (z_runV (pc := 29) (ci := 6) (T := TX6) (N := 8) hc dX6_addGroup_29 zw_RX6_69 (metX6_numberBelow _ _ _ H.2) rfl (Nat.le_of_ble_eq_true rfl) ⟨Nat.le_of_ble_eq_true rfl, Nat.le_of_ble_eq_true rfl⟩ ⟨by exact Nat.le_of_ble_eq_true rfl, by exact Nat.le_of_ble_eq_true rfl⟩ rfl H.1) rfl ⟨rfl, rfl⟩ (fun v8 h7 H => ?_)
        refine z_istore (pc := 32) hc dX6_addGroup_32 (by decide) (ρ' := [some (.inr (.inl a0)), some (.inl x1), some (.inl x2), some (.inl x3), some (.inl x4), some (.inl v8), none]) rfl rfl ?_
        refine z_iload (pc := 34) hc dX6_addGroup_34 rfl ?_
        refine z_if_ge (tgt := 42) (pc := 36) hc dX6_addGroup_36 rfl H (fun H => ?_) (fun H => ?_)
        · refine z_iload (pc := 39) hc dX6_addGroup_39 rfl ?_
          exact z_ireturn (pc := 41) hc dX6_addGroup_41 H
        · refine z_aload_n (pc := 42) hc dX6_addGroup_42 rfl ?_
          refine z_calV0 (z_runV (pc := 43) (ci := 6) (T := TX6) (N := 8) hc dX6_addGroup_43 zw_RX6_62 (metX6_remember _ _ _ H.2) rfl (Nat.le_of_ble_eq_true rfl) ⟨Nat.le_of_ble_eq_true rfl, Nat.le_of_ble_eq_true rfl⟩ ⟨by exact Nat.le_of_ble_eq_true rfl, by exact Nat.le_of_ble_eq_true rfl⟩ rfl H.1) rfl ⟨rfl, rfl⟩ (fun h9 H => ?_)
          refine z_aload_n (pc := 46) hc dX6_addGroup_46 rfl ?_
          refine z_getR (pc := 47) hc dX6_addGroup_47 zf_RX6_12 rfl rfl rfl H (fun r10 H => ?_)
          refine z_getR (pc := 50) hc dX6_addGroup_50 zf_RX6_73 rfl rfl rfl H (fun r11 H => ?_)
          refine z_iload (pc := 53) hc dX6_addGroup_53 rfl ?_
          refine z_calR (z_runV (pc := 55) (ci := 5) (T := TX5) (N := 4) hc dX6_addGroup_55 zw_RX6_77 (metX5_nodeAt _ _ _ H.2) rfl (Nat.le_of_ble_eq_true rfl) ⟨Nat.le_of_ble_eq_true rfl, Nat.le_of_ble_eq_true rfl⟩ ⟨by exact Nat.le_of_ble_eq_true rfl, by exact Nat.le_of_ble_eq_true rfl⟩ rfl H.1) rfl ⟨rfl, rfl⟩ (fun r13 h12 H => ?_)
          refine z_astore (pc := 58) hc dX6_addGroup_58 (by decide) (ρ' := [some (.inr (.inl a0)), some (.inl x1), some (.inl x2), some (.inl x3), some (.inl x4), some (.inl v8), some (.inr (.inl r13))]) rfl rfl ?_
          refine z_aload (pc := 60) hc dX6_addGroup_60 rfl ?_
          refine z_iload_n (pc := 62) hc dX6_addGroup_62 rfl ?_
          refine z_putI (pc := 63) hc dX6_addGroup_63 zf_RX6_83 rfl rfl rfl H (fun h14 H => ?_)
          refine z_aload (pc := 66) hc dX6_addGroup_66 rfl ?_
          refine z_iload_n (pc := 68) hc dX6_addGroup_68 rfl ?_
          refine z_putI (pc := 69) hc dX6_addGroup_69 zf_RX6_86 rfl rfl rfl H (fun h15 H => ?_)
          refine z_aload (pc := 72) hc dX6_addGroup_72 rfl ?_
          refine z_iload (pc := 74) hc dX6_addGroup_74 rfl ?_
          refine z_putI (pc := 76) hc dX6_addGroup_76 zf_RX6_89 rfl rfl rfl H (fun h16 H => ?_)
          refine z_aload_n (pc := 79) hc dX6_addGroup_79 rfl ?_
          refine z_getR (pc := 80) hc dX6_addGroup_80 zf_RX6_12 rfl rfl rfl H (fun r17 H => ?_)
          refine z_getR (pc := 83) hc dX6_addGroup_83 zf_RX6_73 rfl rfl rfl H (fun r18 H => ?_)
          refine z_iload (pc := 86) hc dX6_addGroup_86 rfl ?_
          refine z_iconst (pc := 88) hc dX6_addGroup_88 ?_
          refine z_iload_n (pc := 89) hc dX6_addGroup_89 rfl ?_
          refine z_calV0 (z_runV (pc := 90) (ci := 5) (T := TX5) (N := 4) hc dX6_addGroup_90 zw_RX6_92 (metX5_append _ _ _ H.2) rfl (Nat.le_of_ble_eq_true rfl) ⟨Nat.le_of_ble_eq_true rfl, Nat.le_of_ble_eq_true rfl⟩ ⟨by exact Nat.le_of_ble_eq_true rfl, by exact Nat.le_of_ble_eq_true rfl⟩ rfl H.1) rfl ⟨rfl, rfl⟩ (fun h19 H => ?_)
          refine z_iload (pc := 93) hc dX6_addGroup_93 rfl ?_
          exact z_ireturn (pc := 95) hc dX6_addGroup_95 H
end
theorem metX6_addGroup (l : Launch) (D : Zd) (base : Nat) {a0 : Nat} {x1 : Int} {x2 : Int} {x3 : Int} {x4 : Int} {h : Zm} {Q : Int → Zm → Prop} (H : mX6_addGroup a0 x1 x2 x3 x4 h Q) : zMet l D base yX6_addGroup cX6_addGroup 7 (some .int) zrX6_addGroup [.inr (.inl a0), .inl x1, .inl x2, .inl x3, .inl x4] h (zQi D base Q) :=
  z_met (by decide +kernel) (Nat.le_of_ble_eq_true rfl) rfl (fun p e s m args below meth c hc hn => rX6_addGroup hc H)
def zrX6_addRect : Room := { frames := 5, cells := 0, slots := 0, locals := 113 }
def mX6_addRect (a0 : Nat) (x1 : Int) (h : Zm) (Q : Int → Zm → Prop) : Prop :=
  cRc h 16 a0 <| mX6_numberBelow a0 x1 h fun v2 h1 => cLt v2 0
  (Q v2 h1)
  (cRc h1 16 a0 <| mX6_remember a0 h1 fun h3 => cGr h3 16 a0 0 fun r4 => cGr h3 14 r4 6 fun r5 => cRc h3 15 r5 <| mX5_nodeAt r5 v2 h3 fun r7 h6 => cGr h6 16 a0 3 fun r8 => cRc h6 12 r7 <| mX2_takeBox r7 r8 h6 fun h9 => cGr h9 16 a0 3 fun r10 => cRc h9 12 r7 <| mX2_takeColor r7 r10 h9 fun h11 => cGr h11 16 a0 0 fun r12 => cGr h11 14 r12 6 fun r13 => cRc h11 15 r13 <| mX5_append r13 v2 1 x1 h11 fun h14 => Q v2 h14)
section
variable {p : Program} {l : Launch} {e : Env} {s : State} {m : MethodId} {args : Array Value} {below : List Frame} {meth : Method} {c : Code} {D : Zd} {base : Nat}
set_option maxRecDepth 100000 in
set_option maxHeartbeats 4000000 in
theorem rX6_addRect (hc : zOk p s m args meth c D cX6_addRect 4 RX6 (some .int)) {a0 : Nat} {x1 : Int} {h : Zm} {Q : Int → Zm → Prop} (H : mX6_addRect a0 x1 h Q) : zW p l e zrX6_addRect s m args below meth c D base 4 (MQ below (zQi D base Q) args s 0 0 (zFree base)) 0 0 0 [some (.inr (.inl a0)), some (.inl x1), none, none] [] h := by
  unfold mX6_addRect at H
  refine z_aload_n (pc := 0) hc dX6_addRect_0 rfl ?_
  refine z_iload_n (pc := 1) hc dX6_addRect_1 rfl ?_
  refine z_calI (z_runV (pc := 2) (ci := 6) (T := TX6) (N := 8) hc dX6_addRect_2 zw_RX6_69 (metX6_numberBelow _ _ _ H.2) rfl (Nat.le_of_ble_eq_true rfl) ⟨Nat.le_of_ble_eq_true rfl, Nat.le_of_ble_eq_true rfl⟩ ⟨by exact Nat.le_of_ble_eq_true rfl, by exact Nat.le_of_ble_eq_true rfl⟩ rfl H.1) rfl ⟨rfl, rfl⟩ (fun v2 h1 H => ?_)
  refine z_istore_n (pc := 5) hc dX6_addRect_5 (by decide) (ρ' := [some (.inr (.inl a0)), some (.inl x1), some (.inl v2), none]) rfl rfl ?_
  refine z_iload_n (pc := 6) hc dX6_addRect_6 rfl ?_
  refine z_if_ge (tgt := 12) (pc := 7) hc dX6_addRect_7 rfl H (fun H => ?_) (fun H => ?_)
  · refine z_iload_n (pc := 10) hc dX6_addRect_10 rfl ?_
    exact z_ireturn (pc := 11) hc dX6_addRect_11 H
  · refine z_aload_n (pc := 12) hc dX6_addRect_12 rfl ?_
    refine z_calV0 (z_runV (pc := 13) (ci := 6) (T := TX6) (N := 8) hc dX6_addRect_13 zw_RX6_62 (metX6_remember _ _ _ H.2) rfl (Nat.le_of_ble_eq_true rfl) ⟨Nat.le_of_ble_eq_true rfl, Nat.le_of_ble_eq_true rfl⟩ ⟨by exact Nat.le_of_ble_eq_true rfl, by exact Nat.le_of_ble_eq_true rfl⟩ rfl H.1) rfl ⟨rfl, rfl⟩ (fun h3 H => ?_)
    refine z_aload_n (pc := 16) hc dX6_addRect_16 rfl ?_
    refine z_getR (pc := 17) hc dX6_addRect_17 zf_RX6_12 rfl rfl rfl H (fun r4 H => ?_)
    refine z_getR (pc := 20) hc dX6_addRect_20 zf_RX6_73 rfl rfl rfl H (fun r5 H => ?_)
    refine z_iload_n (pc := 23) hc dX6_addRect_23 rfl ?_
    refine z_calR (z_runV (pc := 24) (ci := 5) (T := TX5) (N := 4) hc dX6_addRect_24 zw_RX6_77 (metX5_nodeAt _ _ _ H.2) rfl (Nat.le_of_ble_eq_true rfl) ⟨Nat.le_of_ble_eq_true rfl, Nat.le_of_ble_eq_true rfl⟩ ⟨by exact Nat.le_of_ble_eq_true rfl, by exact Nat.le_of_ble_eq_true rfl⟩ rfl H.1) rfl ⟨rfl, rfl⟩ (fun r7 h6 H => ?_)
    refine z_astore_n (pc := 27) hc dX6_addRect_27 (by decide) (ρ' := [some (.inr (.inl a0)), some (.inl x1), some (.inl v2), some (.inr (.inl r7))]) rfl rfl ?_
    refine z_aload_n (pc := 28) hc dX6_addRect_28 rfl ?_
    refine z_aload_n (pc := 29) hc dX6_addRect_29 rfl ?_
    refine z_getR (pc := 30) hc dX6_addRect_30 zf_RX6_27 rfl rfl rfl H (fun r8 H => ?_)
    refine z_calV0 (z_runV (pc := 33) (ci := 2) (T := TX2) (N := 18) hc dX6_addRect_33 zw_RX6_96 (metX2_takeBox _ _ _ H.2) rfl (Nat.le_of_ble_eq_true rfl) ⟨Nat.le_of_ble_eq_true rfl, Nat.le_of_ble_eq_true rfl⟩ ⟨by exact Nat.le_of_ble_eq_true rfl, by exact Nat.le_of_ble_eq_true rfl⟩ rfl H.1) rfl ⟨rfl, rfl⟩ (fun h9 H => ?_)
    refine z_aload_n (pc := 36) hc dX6_addRect_36 rfl ?_
    refine z_aload_n (pc := 37) hc dX6_addRect_37 rfl ?_
    refine z_getR (pc := 38) hc dX6_addRect_38 zf_RX6_27 rfl rfl rfl H (fun r10 H => ?_)
    refine z_calV0 (z_runV (pc := 41) (ci := 2) (T := TX2) (N := 18) hc dX6_addRect_41 zw_RX6_100 (metX2_takeColor _ _ _ H.2) rfl (Nat.le_of_ble_eq_true rfl) ⟨Nat.le_of_ble_eq_true rfl, Nat.le_of_ble_eq_true rfl⟩ ⟨by exact Nat.le_of_ble_eq_true rfl, by exact Nat.le_of_ble_eq_true rfl⟩ rfl H.1) rfl ⟨rfl, rfl⟩ (fun h11 H => ?_)
    refine z_aload_n (pc := 44) hc dX6_addRect_44 rfl ?_
    refine z_getR (pc := 45) hc dX6_addRect_45 zf_RX6_12 rfl rfl rfl H (fun r12 H => ?_)
    refine z_getR (pc := 48) hc dX6_addRect_48 zf_RX6_73 rfl rfl rfl H (fun r13 H => ?_)
    refine z_iload_n (pc := 51) hc dX6_addRect_51 rfl ?_
    refine z_iconst (pc := 52) hc dX6_addRect_52 ?_
    refine z_iload_n (pc := 53) hc dX6_addRect_53 rfl ?_
    refine z_calV0 (z_runV (pc := 54) (ci := 5) (T := TX5) (N := 4) hc dX6_addRect_54 zw_RX6_92 (metX5_append _ _ _ H.2) rfl (Nat.le_of_ble_eq_true rfl) ⟨Nat.le_of_ble_eq_true rfl, Nat.le_of_ble_eq_true rfl⟩ ⟨by exact Nat.le_of_ble_eq_true rfl, by exact Nat.le_of_ble_eq_true rfl⟩ rfl H.1) rfl ⟨rfl, rfl⟩ (fun h14 H => ?_)
    refine z_iload_n (pc := 57) hc dX6_addRect_57 rfl ?_
    exact z_ireturn (pc := 58) hc dX6_addRect_58 H
end
theorem metX6_addRect (l : Launch) (D : Zd) (base : Nat) {a0 : Nat} {x1 : Int} {h : Zm} {Q : Int → Zm → Prop} (H : mX6_addRect a0 x1 h Q) : zMet l D base yX6_addRect cX6_addRect 4 (some .int) zrX6_addRect [.inr (.inl a0), .inl x1] h (zQi D base Q) :=
  z_met (by decide +kernel) (Nat.le_of_ble_eq_true rfl) rfl (fun p e s m args below meth c hc hn => rX6_addRect hc H)
def zrX6_isPart : Room := { frames := 1, cells := 0, slots := 0, locals := 22 }
def mX6_isPart (x0 : Int) (h : Zm) (Q : Int → Zm → Prop) : Prop :=
  mX6_within x0 0 255 h fun v2 h1 => cBr v2 (Q v2 h1)
section
variable {p : Program} {l : Launch} {e : Env} {s : State} {m : MethodId} {args : Array Value} {below : List Frame} {meth : Method} {c : Code} {D : Zd} {base : Nat}
set_option maxRecDepth 100000 in
set_option maxHeartbeats 4000000 in
theorem rX6_isPart (hc : zOk p s m args meth c D cX6_isPart 1 RX6 (some .boolean)) {x0 : Int} {h : Zm} {Q : Int → Zm → Prop} (H : mX6_isPart x0 h Q) : zW p l e zrX6_isPart s m args below meth c D base 1 (MQ below (zQi D base Q) args s 0 0 (zFree base)) 0 0 0 [some (.inl x0)] [] h := by
  unfold mX6_isPart at H
  refine z_iload_n (pc := 0) hc dX6_isPart_0 rfl ?_
  refine z_iconst (pc := 1) hc dX6_isPart_1 ?_
  refine z_sipush (pc := 2) hc dX6_isPart_2 (by decide) ?_
  refine z_calI (z_runS (pc := 5) hc dX6_isPart_5 zw_RX6_52 (metX6_within _ _ _ H) rfl (Nat.le_of_ble_eq_true rfl) ⟨Nat.le_of_ble_eq_true rfl, Nat.le_of_ble_eq_true rfl⟩ ⟨by exact Nat.le_of_ble_eq_true rfl, by exact Nat.le_of_ble_eq_true rfl⟩) rfl ⟨rfl, rfl⟩ (fun v2 h1 H => ?_)
  exact z_zreturn (pc := 8) hc dX6_isPart_8 H
end
theorem metX6_isPart (l : Launch) (D : Zd) (base : Nat) {x0 : Int} {h : Zm} {Q : Int → Zm → Prop} (H : mX6_isPart x0 h Q) : zMet l D base yX6_isPart cX6_isPart 1 (some .boolean) zrX6_isPart [.inl x0] h (zQi D base Q) :=
  z_met (by decide +kernel) (Nat.le_of_ble_eq_true rfl) rfl (fun p e s m args below meth c hc hn => rX6_isPart hc H)
def zrX6_addSpot : Room := { frames := 5, cells := 0, slots := 0, locals := 113 }
def mX6_addSpot (a0 : Nat) (x1 : Int) (x2 : Int) (x3 : Int) (h : Zm) (Q : Int → Zm → Prop) : Prop :=
  mX6_within x2 0 2 h fun v2 h1 => cEq v2 0
  (Q (-1) h1)
  (mX6_isPart x3 h1 fun v4 h3 => cEq v4 0
    (Q (-1) h3)
    (cRc h3 16 a0 <| mX6_numberBelow a0 x1 h3 fun v6 h5 => cLt v6 0
      (Q v6 h5)
      (cRc h5 16 a0 <| mX6_remember a0 h5 fun h7 => cGr h7 16 a0 0 fun r8 => cGr h7 14 r8 6 fun r9 => cRc h7 15 r9 <| mX5_nodeAt r9 v6 h7 fun r11 h10 => cGr h10 16 a0 3 fun r12 => cRc h10 12 r11 <| mX2_takeBox r11 r12 h10 fun h13 => cPi h13 12 r11 16 x2 fun h14 => cPi h14 12 r11 17 x3 fun h15 => cGr h15 16 a0 0 fun r16 => cGr h15 14 r16 6 fun r17 => cRc h15 15 r17 <| mX5_append r17 v6 2 x1 h15 fun h18 => Q v6 h18)))
section
variable {p : Program} {l : Launch} {e : Env} {s : State} {m : MethodId} {args : Array Value} {below : List Frame} {meth : Method} {c : Code} {D : Zd} {base : Nat}
set_option maxRecDepth 100000 in
set_option maxHeartbeats 4000000 in
theorem rX6_addSpot (hc : zOk p s m args meth c D cX6_addSpot 6 RX6 (some .int)) {a0 : Nat} {x1 : Int} {x2 : Int} {x3 : Int} {h : Zm} {Q : Int → Zm → Prop} (H : mX6_addSpot a0 x1 x2 x3 h Q) : zW p l e zrX6_addSpot s m args below meth c D base 6 (MQ below (zQi D base Q) args s 0 0 (zFree base)) 0 0 0 [some (.inr (.inl a0)), some (.inl x1), some (.inl x2), some (.inl x3), none, none] [] h := by
  unfold mX6_addSpot at H
  refine z_iload_n (pc := 0) hc dX6_addSpot_0 rfl ?_
  refine z_iconst (pc := 1) hc dX6_addSpot_1 ?_
  refine z_iconst (pc := 2) hc dX6_addSpot_2 ?_
  refine z_calI (z_runS (pc := 3) hc dX6_addSpot_3 zw_RX6_52 (metX6_within _ _ _ H) rfl (Nat.le_of_ble_eq_true rfl) ⟨Nat.le_of_ble_eq_true rfl, Nat.le_of_ble_eq_true rfl⟩ ⟨by exact Nat.le_of_ble_eq_true rfl, by exact Nat.le_of_ble_eq_true rfl⟩) rfl ⟨rfl, rfl⟩ (fun v2 h1 H => ?_)
  refine z_if_eq (tgt := 16) (pc := 6) hc dX6_addSpot_6 rfl H (fun H => ?_) (fun H => ?_)
  · refine z_iconst (pc := 16) hc dX6_addSpot_16 ?_
    exact z_ireturn (pc := 17) hc dX6_addSpot_17 H
  · refine z_iload_n (pc := 9) hc dX6_addSpot_9 rfl ?_
    refine z_calI (z_runS (pc := 10) hc dX6_addSpot_10 zw_RX6_103 (metX6_isPart _ _ _ H) rfl (Nat.le_of_ble_eq_true rfl) ⟨Nat.le_of_ble_eq_true rfl, Nat.le_of_ble_eq_true rfl⟩ ⟨by exact Nat.le_of_ble_eq_true rfl, by exact Nat.le_of_ble_eq_true rfl⟩) rfl ⟨rfl, rfl⟩ (fun v4 h3 H => ?_)
    refine z_if_ne (tgt := 18) (pc := 13) hc dX6_addSpot_13 rfl H (fun H => ?_) (fun H => ?_)
    · refine z_iconst (pc := 16) hc dX6_addSpot_16 ?_
      exact z_ireturn (pc := 17) hc dX6_addSpot_17 H
    · refine z_aload_n (pc := 18) hc dX6_addSpot_18 rfl ?_
      refine z_iload_n (pc := 19) hc dX6_addSpot_19 rfl ?_
      refine z_calI (z_runV (pc := 20) (ci := 6) (T := TX6) (N := 8) hc dX6_addSpot_20 zw_RX6_69 (metX6_numberBelow _ _ _ H.2) rfl (Nat.le_of_ble_eq_true rfl) ⟨Nat.le_of_ble_eq_true rfl, Nat.le_of_ble_eq_true rfl⟩ ⟨by exact Nat.le_of_ble_eq_true rfl, by exact Nat.le_of_ble_eq_true rfl⟩ rfl H.1) rfl ⟨rfl, rfl⟩ (fun v6 h5 H => ?_)
      refine z_istore (pc := 23) hc dX6_addSpot_23 (by decide) (ρ' := [some (.inr (.inl a0)), some (.inl x1), some (.inl x2), some (.inl x3), some (.inl v6), none]) rfl rfl ?_
      refine z_iload (pc := 25) hc dX6_addSpot_25 rfl ?_
      refine z_if_ge (tgt := 33) (pc := 27) hc dX6_addSpot_27 rfl H (fun H => ?_) (fun H => ?_)
      · refine z_iload (pc := 30) hc dX6_addSpot_30 rfl ?_
        exact z_ireturn (pc := 32) hc dX6_addSpot_32 H
      · refine z_aload_n (pc := 33) hc dX6_addSpot_33 rfl ?_
        refine z_calV0 (z_runV (pc := 34) (ci := 6) (T := TX6) (N := 8) hc dX6_addSpot_34 zw_RX6_62 (metX6_remember _ _ _ H.2) rfl (Nat.le_of_ble_eq_true rfl) ⟨Nat.le_of_ble_eq_true rfl, Nat.le_of_ble_eq_true rfl⟩ ⟨by exact Nat.le_of_ble_eq_true rfl, by exact Nat.le_of_ble_eq_true rfl⟩ rfl H.1) rfl ⟨rfl, rfl⟩ (fun h7 H => ?_)
        refine z_aload_n (pc := 37) hc dX6_addSpot_37 rfl ?_
        refine z_getR (pc := 38) hc dX6_addSpot_38 zf_RX6_12 rfl rfl rfl H (fun r8 H => ?_)
        refine z_getR (pc := 41) hc dX6_addSpot_41 zf_RX6_73 rfl rfl rfl H (fun r9 H => ?_)
        refine z_iload (pc := 44) hc dX6_addSpot_44 rfl ?_
        refine z_calR (z_runV (pc := 46) (ci := 5) (T := TX5) (N := 4) hc dX6_addSpot_46 zw_RX6_77 (metX5_nodeAt _ _ _ H.2) rfl (Nat.le_of_ble_eq_true rfl) ⟨Nat.le_of_ble_eq_true rfl, Nat.le_of_ble_eq_true rfl⟩ ⟨by exact Nat.le_of_ble_eq_true rfl, by exact Nat.le_of_ble_eq_true rfl⟩ rfl H.1) rfl ⟨rfl, rfl⟩ (fun r11 h10 H => ?_)
        refine z_astore (pc := 49) hc dX6_addSpot_49 (by decide) (ρ' := [some (.inr (.inl a0)), some (.inl x1), some (.inl x2), some (.inl x3), some (.inl v6), some (.inr (.inl r11))]) rfl rfl ?_
        refine z_aload (pc := 51) hc dX6_addSpot_51 rfl ?_
        refine z_aload_n (pc := 53) hc dX6_addSpot_53 rfl ?_
        refine z_getR (pc := 54) hc dX6_addSpot_54 zf_RX6_27 rfl rfl rfl H (fun r12 H => ?_)
        refine z_calV0 (z_runV (pc := 57) (ci := 2) (T := TX2) (N := 18) hc dX6_addSpot_57 zw_RX6_96 (metX2_takeBox _ _ _ H.2) rfl (Nat.le_of_ble_eq_true rfl) ⟨Nat.le_of_ble_eq_true rfl, Nat.le_of_ble_eq_true rfl⟩ ⟨by exact Nat.le_of_ble_eq_true rfl, by exact Nat.le_of_ble_eq_true rfl⟩ rfl H.1) rfl ⟨rfl, rfl⟩ (fun h13 H => ?_)
        refine z_aload (pc := 60) hc dX6_addSpot_60 rfl ?_
        refine z_iload_n (pc := 62) hc dX6_addSpot_62 rfl ?_
        refine z_putI (pc := 63) hc dX6_addSpot_63 zf_RX6_106 rfl rfl rfl H (fun h14 H => ?_)
        refine z_aload (pc := 66) hc dX6_addSpot_66 rfl ?_
        refine z_iload_n (pc := 68) hc dX6_addSpot_68 rfl ?_
        refine z_putI (pc := 69) hc dX6_addSpot_69 zf_RX6_109 rfl rfl rfl H (fun h15 H => ?_)
        refine z_aload_n (pc := 72) hc dX6_addSpot_72 rfl ?_
        refine z_getR (pc := 73) hc dX6_addSpot_73 zf_RX6_12 rfl rfl rfl H (fun r16 H => ?_)
        refine z_getR (pc := 76) hc dX6_addSpot_76 zf_RX6_73 rfl rfl rfl H (fun r17 H => ?_)
        refine z_iload (pc := 79) hc dX6_addSpot_79 rfl ?_
        refine z_iconst (pc := 81) hc dX6_addSpot_81 ?_
        refine z_iload_n (pc := 82) hc dX6_addSpot_82 rfl ?_
        refine z_calV0 (z_runV (pc := 83) (ci := 5) (T := TX5) (N := 4) hc dX6_addSpot_83 zw_RX6_92 (metX5_append _ _ _ H.2) rfl (Nat.le_of_ble_eq_true rfl) ⟨Nat.le_of_ble_eq_true rfl, Nat.le_of_ble_eq_true rfl⟩ ⟨by exact Nat.le_of_ble_eq_true rfl, by exact Nat.le_of_ble_eq_true rfl⟩ rfl H.1) rfl ⟨rfl, rfl⟩ (fun h18 H => ?_)
        refine z_iload (pc := 86) hc dX6_addSpot_86 rfl ?_
        exact z_ireturn (pc := 88) hc dX6_addSpot_88 H
end
theorem metX6_addSpot (l : Launch) (D : Zd) (base : Nat) {a0 : Nat} {x1 : Int} {x2 : Int} {x3 : Int} {h : Zm} {Q : Int → Zm → Prop} (H : mX6_addSpot a0 x1 x2 x3 h Q) : zMet l D base yX6_addSpot cX6_addSpot 6 (some .int) zrX6_addSpot [.inr (.inl a0), .inl x1, .inl x2, .inl x3] h (zQi D base Q) :=
  z_met (by decide +kernel) (Nat.le_of_ble_eq_true rfl) rfl (fun p e s m args below meth c hc hn => rX6_addSpot hc H)
def zrX6_setBox : Room := { frames := 2, cells := 0, slots := 0, locals := 42 }
def mX6_setBox (a0 : Nat) (x1 : Int) (x2 : Int) (x3 : Int) (x4 : Int) (h : Zm) (Q : Int → Zm → Prop) : Prop :=
  mX6_isOffset x1 h fun v2 h1 => cEq v2 0
  (Q (-1) h1)
  (mX6_isOffset x2 h1 fun v4 h3 => cEq v4 0
    (Q (-1) h3)
    (mX6_within x3 1 12 h3 fun v6 h5 => cEq v6 0
      (Q (-1) h5)
      (mX6_within x4 1 12 h5 fun v8 h7 => cEq v8 0
        (Q (-1) h7)
        (cGr h7 16 a0 3 fun r9 => cPi h7 12 r9 9 x1 fun h10 => cGr h10 16 a0 3 fun r11 => cPi h10 12 r11 10 x2 fun h12 => cGr h12 16 a0 3 fun r13 => cPi h12 12 r13 11 x3 fun h14 => cGr h14 16 a0 3 fun r15 => cPi h14 12 r15 12 x4 fun h16 => Q (x3 * x4) h16))))
section
variable {p : Program} {l : Launch} {e : Env} {s : State} {m : MethodId} {args : Array Value} {below : List Frame} {meth : Method} {c : Code} {D : Zd} {base : Nat}
set_option maxRecDepth 100000 in
set_option maxHeartbeats 4000000 in
theorem rX6_setBox (hc : zOk p s m args meth c D cX6_setBox 5 RX6 (some .int)) {a0 : Nat} {x1 : Int} {x2 : Int} {x3 : Int} {x4 : Int} {h : Zm} {Q : Int → Zm → Prop} (H : mX6_setBox a0 x1 x2 x3 x4 h Q) : zW p l e zrX6_setBox s m args below meth c D base 5 (MQ below (zQi D base Q) args s 0 0 (zFree base)) 0 0 0 [some (.inr (.inl a0)), some (.inl x1), some (.inl x2), some (.inl x3), some (.inl x4)] [] h := by
  unfold mX6_setBox at H
  refine z_iload_n (pc := 0) hc dX6_setBox_0 rfl ?_
  refine z_calI (z_runS (pc := 1) hc dX6_setBox_1 zw_RX6_65 (metX6_isOffset _ _ _ H) rfl (Nat.le_of_ble_eq_true rfl) ⟨Nat.le_of_ble_eq_true rfl, Nat.le_of_ble_eq_true rfl⟩ ⟨by exact Nat.le_of_ble_eq_true rfl, by exact Nat.le_of_ble_eq_true rfl⟩) rfl ⟨rfl, rfl⟩ (fun v2 h1 H => ?_)
  refine z_if_eq (tgt := 35) (pc := 4) hc dX6_setBox_4 rfl H (fun H => ?_) (fun H => ?_)
  · refine z_iconst (pc := 35) hc dX6_setBox_35 ?_
    exact z_ireturn (pc := 36) hc dX6_setBox_36 H
  · refine z_iload_n (pc := 7) hc dX6_setBox_7 rfl ?_
    refine z_calI (z_runS (pc := 8) hc dX6_setBox_8 zw_RX6_65 (metX6_isOffset _ _ _ H) rfl (Nat.le_of_ble_eq_true rfl) ⟨Nat.le_of_ble_eq_true rfl, Nat.le_of_ble_eq_true rfl⟩ ⟨by exact Nat.le_of_ble_eq_true rfl, by exact Nat.le_of_ble_eq_true rfl⟩) rfl ⟨rfl, rfl⟩ (fun v4 h3 H => ?_)
    refine z_if_eq (tgt := 35) (pc := 11) hc dX6_setBox_11 rfl H (fun H => ?_) (fun H => ?_)
    · refine z_iconst (pc := 35) hc dX6_setBox_35 ?_
      exact z_ireturn (pc := 36) hc dX6_setBox_36 H
    · refine z_iload_n (pc := 14) hc dX6_setBox_14 rfl ?_
      refine z_iconst (pc := 15) hc dX6_setBox_15 ?_
      refine z_bipush (pc := 16) hc dX6_setBox_16 (by decide) ?_
      refine z_calI (z_runS (pc := 18) hc dX6_setBox_18 zw_RX6_52 (metX6_within _ _ _ H) rfl (Nat.le_of_ble_eq_true rfl) ⟨Nat.le_of_ble_eq_true rfl, Nat.le_of_ble_eq_true rfl⟩ ⟨by exact Nat.le_of_ble_eq_true rfl, by exact Nat.le_of_ble_eq_true rfl⟩) rfl ⟨rfl, rfl⟩ (fun v6 h5 H => ?_)
      refine z_if_eq (tgt := 35) (pc := 21) hc dX6_setBox_21 rfl H (fun H => ?_) (fun H => ?_)
      · refine z_iconst (pc := 35) hc dX6_setBox_35 ?_
        exact z_ireturn (pc := 36) hc dX6_setBox_36 H
      · refine z_iload (pc := 24) hc dX6_setBox_24 rfl ?_
        refine z_iconst (pc := 26) hc dX6_setBox_26 ?_
        refine z_bipush (pc := 27) hc dX6_setBox_27 (by decide) ?_
        refine z_calI (z_runS (pc := 29) hc dX6_setBox_29 zw_RX6_52 (metX6_within _ _ _ H) rfl (Nat.le_of_ble_eq_true rfl) ⟨Nat.le_of_ble_eq_true rfl, Nat.le_of_ble_eq_true rfl⟩ ⟨by exact Nat.le_of_ble_eq_true rfl, by exact Nat.le_of_ble_eq_true rfl⟩) rfl ⟨rfl, rfl⟩ (fun v8 h7 H => ?_)
        refine z_if_ne (tgt := 37) (pc := 32) hc dX6_setBox_32 rfl H (fun H => ?_) (fun H => ?_)
        · refine z_iconst (pc := 35) hc dX6_setBox_35 ?_
          exact z_ireturn (pc := 36) hc dX6_setBox_36 H
        · refine z_aload_n (pc := 37) hc dX6_setBox_37 rfl ?_
          refine z_getR (pc := 38) hc dX6_setBox_38 zf_RX6_27 rfl rfl rfl H (fun r9 H => ?_)
          refine z_iload_n (pc := 41) hc dX6_setBox_41 rfl ?_
          refine z_putI (pc := 42) hc dX6_setBox_42 zf_RX6_112 rfl rfl rfl H (fun h10 H => ?_)
          refine z_aload_n (pc := 45) hc dX6_setBox_45 rfl ?_
          refine z_getR (pc := 46) hc dX6_setBox_46 zf_RX6_27 rfl rfl rfl H (fun r11 H => ?_)
          refine z_iload_n (pc := 49) hc dX6_setBox_49 rfl ?_
          refine z_putI (pc := 50) hc dX6_setBox_50 zf_RX6_115 rfl rfl rfl H (fun h12 H => ?_)
          refine z_aload_n (pc := 53) hc dX6_setBox_53 rfl ?_
          refine z_getR (pc := 54) hc dX6_setBox_54 zf_RX6_27 rfl rfl rfl H (fun r13 H => ?_)
          refine z_iload_n (pc := 57) hc dX6_setBox_57 rfl ?_
          refine z_putI (pc := 58) hc dX6_setBox_58 zf_RX6_118 rfl rfl rfl H (fun h14 H => ?_)
          refine z_aload_n (pc := 61) hc dX6_setBox_61 rfl ?_
          refine z_getR (pc := 62) hc dX6_setBox_62 zf_RX6_27 rfl rfl rfl H (fun r15 H => ?_)
          refine z_iload (pc := 65) hc dX6_setBox_65 rfl ?_
          refine z_putI (pc := 67) hc dX6_setBox_67 zf_RX6_121 rfl rfl rfl H (fun h16 H => ?_)
          refine z_iload_n (pc := 70) hc dX6_setBox_70 rfl ?_
          refine z_iload (pc := 71) hc dX6_setBox_71 rfl ?_
          refine z_imul (pc := 73) hc dX6_setBox_73 ?_
          exact z_ireturn (pc := 74) hc dX6_setBox_74 H
end
theorem metX6_setBox (l : Launch) (D : Zd) (base : Nat) {a0 : Nat} {x1 : Int} {x2 : Int} {x3 : Int} {x4 : Int} {h : Zm} {Q : Int → Zm → Prop} (H : mX6_setBox a0 x1 x2 x3 x4 h Q) : zMet l D base yX6_setBox cX6_setBox 5 (some .int) zrX6_setBox [.inr (.inl a0), .inl x1, .inl x2, .inl x3, .inl x4] h (zQi D base Q) :=
  z_met (by decide +kernel) (Nat.le_of_ble_eq_true rfl) rfl (fun p e s m args below meth c hc hn => rX6_setBox hc H)
def zrX6_setInk : Room := { frames := 2, cells := 0, slots := 0, locals := 42 }
def mX6_setInk (a0 : Nat) (x1 : Int) (x2 : Int) (x3 : Int) (h : Zm) (Q : Int → Zm → Prop) : Prop :=
  mX6_isPart x1 h fun v2 h1 => cEq v2 0
  (Q (-1) h1)
  (mX6_isPart x2 h1 fun v4 h3 => cEq v4 0
    (Q (-1) h3)
    (mX6_isPart x3 h3 fun v6 h5 => cEq v6 0
      (Q (-1) h5)
      (cGr h5 16 a0 3 fun r7 => cPi h5 12 r7 13 x1 fun h8 => cGr h8 16 a0 3 fun r9 => cPi h8 12 r9 14 x2 fun h10 => cGr h10 16 a0 3 fun r11 => cPi h10 12 r11 15 x3 fun h12 => Q ((x1 + x2) + x3) h12)))
section
variable {p : Program} {l : Launch} {e : Env} {s : State} {m : MethodId} {args : Array Value} {below : List Frame} {meth : Method} {c : Code} {D : Zd} {base : Nat}
set_option maxRecDepth 100000 in
set_option maxHeartbeats 4000000 in
theorem rX6_setInk (hc : zOk p s m args meth c D cX6_setInk 4 RX6 (some .int)) {a0 : Nat} {x1 : Int} {x2 : Int} {x3 : Int} {h : Zm} {Q : Int → Zm → Prop} (H : mX6_setInk a0 x1 x2 x3 h Q) : zW p l e zrX6_setInk s m args below meth c D base 4 (MQ below (zQi D base Q) args s 0 0 (zFree base)) 0 0 0 [some (.inr (.inl a0)), some (.inl x1), some (.inl x2), some (.inl x3)] [] h := by
  unfold mX6_setInk at H
  refine z_iload_n (pc := 0) hc dX6_setInk_0 rfl ?_
  refine z_calI (z_runS (pc := 1) hc dX6_setInk_1 zw_RX6_103 (metX6_isPart _ _ _ H) rfl (Nat.le_of_ble_eq_true rfl) ⟨Nat.le_of_ble_eq_true rfl, Nat.le_of_ble_eq_true rfl⟩ ⟨by exact Nat.le_of_ble_eq_true rfl, by exact Nat.le_of_ble_eq_true rfl⟩) rfl ⟨rfl, rfl⟩ (fun v2 h1 H => ?_)
  refine z_if_eq (tgt := 21) (pc := 4) hc dX6_setInk_4 rfl H (fun H => ?_) (fun H => ?_)
  · refine z_iconst (pc := 21) hc dX6_setInk_21 ?_
    exact z_ireturn (pc := 22) hc dX6_setInk_22 H
  · refine z_iload_n (pc := 7) hc dX6_setInk_7 rfl ?_
    refine z_calI (z_runS (pc := 8) hc dX6_setInk_8 zw_RX6_103 (metX6_isPart _ _ _ H) rfl (Nat.le_of_ble_eq_true rfl) ⟨Nat.le_of_ble_eq_true rfl, Nat.le_of_ble_eq_true rfl⟩ ⟨by exact Nat.le_of_ble_eq_true rfl, by exact Nat.le_of_ble_eq_true rfl⟩) rfl ⟨rfl, rfl⟩ (fun v4 h3 H => ?_)
    refine z_if_eq (tgt := 21) (pc := 11) hc dX6_setInk_11 rfl H (fun H => ?_) (fun H => ?_)
    · refine z_iconst (pc := 21) hc dX6_setInk_21 ?_
      exact z_ireturn (pc := 22) hc dX6_setInk_22 H
    · refine z_iload_n (pc := 14) hc dX6_setInk_14 rfl ?_
      refine z_calI (z_runS (pc := 15) hc dX6_setInk_15 zw_RX6_103 (metX6_isPart _ _ _ H) rfl (Nat.le_of_ble_eq_true rfl) ⟨Nat.le_of_ble_eq_true rfl, Nat.le_of_ble_eq_true rfl⟩ ⟨by exact Nat.le_of_ble_eq_true rfl, by exact Nat.le_of_ble_eq_true rfl⟩) rfl ⟨rfl, rfl⟩ (fun v6 h5 H => ?_)
      refine z_if_ne (tgt := 23) (pc := 18) hc dX6_setInk_18 rfl H (fun H => ?_) (fun H => ?_)
      · refine z_iconst (pc := 21) hc dX6_setInk_21 ?_
        exact z_ireturn (pc := 22) hc dX6_setInk_22 H
      · refine z_aload_n (pc := 23) hc dX6_setInk_23 rfl ?_
        refine z_getR (pc := 24) hc dX6_setInk_24 zf_RX6_27 rfl rfl rfl H (fun r7 H => ?_)
        refine z_iload_n (pc := 27) hc dX6_setInk_27 rfl ?_
        refine z_putI (pc := 28) hc dX6_setInk_28 zf_RX6_124 rfl rfl rfl H (fun h8 H => ?_)
        refine z_aload_n (pc := 31) hc dX6_setInk_31 rfl ?_
        refine z_getR (pc := 32) hc dX6_setInk_32 zf_RX6_27 rfl rfl rfl H (fun r9 H => ?_)
        refine z_iload_n (pc := 35) hc dX6_setInk_35 rfl ?_
        refine z_putI (pc := 36) hc dX6_setInk_36 zf_RX6_127 rfl rfl rfl H (fun h10 H => ?_)
        refine z_aload_n (pc := 39) hc dX6_setInk_39 rfl ?_
        refine z_getR (pc := 40) hc dX6_setInk_40 zf_RX6_27 rfl rfl rfl H (fun r11 H => ?_)
        refine z_iload_n (pc := 43) hc dX6_setInk_43 rfl ?_
        refine z_putI (pc := 44) hc dX6_setInk_44 zf_RX6_130 rfl rfl rfl H (fun h12 H => ?_)
        refine z_iload_n (pc := 47) hc dX6_setInk_47 rfl ?_
        refine z_iload_n (pc := 48) hc dX6_setInk_48 rfl ?_
        refine z_iadd (pc := 49) hc dX6_setInk_49 ?_
        refine z_iload_n (pc := 50) hc dX6_setInk_50 rfl ?_
        refine z_iadd (pc := 51) hc dX6_setInk_51 ?_
        exact z_ireturn (pc := 52) hc dX6_setInk_52 H
end
theorem metX6_setInk (l : Launch) (D : Zd) (base : Nat) {a0 : Nat} {x1 : Int} {x2 : Int} {x3 : Int} {h : Zm} {Q : Int → Zm → Prop} (H : mX6_setInk a0 x1 x2 x3 h Q) : zMet l D base yX6_setInk cX6_setInk 4 (some .int) zrX6_setInk [.inr (.inl a0), .inl x1, .inl x2, .inl x3] h (zQi D base Q) :=
  z_met (by decide +kernel) (Nat.le_of_ble_eq_true rfl) rfl (fun p e s m args below meth c hc hn => rX6_setInk hc H)
def zrX6_greatestSetting : Room := { frames := 0, cells := 0, slots := 0, locals := 0 }
def mX6_greatestSetting (x0 : Int) (h : Zm) (Q : Int → Zm → Prop) : Prop :=
  cEq x0 0
  (Q 100 h)
  (cEq x0 1
    (Q 255 h)
    (Q 1785 h))
section
variable {p : Program} {l : Launch} {e : Env} {s : State} {m : MethodId} {args : Array Value} {below : List Frame} {meth : Method} {c : Code} {D : Zd} {base : Nat}
set_option maxRecDepth 100000 in
set_option maxHeartbeats 4000000 in
theorem rX6_greatestSetting (hc : zOk p s m args meth c D cX6_greatestSetting 1 RX6 (some .int)) {x0 : Int} {h : Zm} {Q : Int → Zm → Prop} (H : mX6_greatestSetting x0 h Q) : zW p l e zrX6_greatestSetting s m args below meth c D base 1 (MQ below (zQi D base Q) args s 0 0 (zFree base)) 0 0 0 [some (.inl x0)] [] h := by
  unfold mX6_greatestSetting at H
  refine z_iload_n (pc := 0) hc dX6_greatestSetting_0 rfl ?_
  refine z_if_ne (tgt := 7) (pc := 1) hc dX6_greatestSetting_1 rfl H (fun H => ?_) (fun H => ?_)
  · refine z_bipush (pc := 4) hc dX6_greatestSetting_4 (by decide) ?_
    exact z_ireturn (pc := 6) hc dX6_greatestSetting_6 H
  · refine z_iload_n (pc := 7) hc dX6_greatestSetting_7 rfl ?_
    refine z_iconst (pc := 8) hc dX6_greatestSetting_8 ?_
    refine z_icmp_ne (tgt := 18) (pc := 9) hc dX6_greatestSetting_9 rfl H (fun H => ?_) (fun H => ?_)
    · refine z_sipush (pc := 12) hc dX6_greatestSetting_12 (by decide) ?_
      refine z_goto (tgt := 21) (pc := 15) hc dX6_greatestSetting_15 rfl ?_
      exact z_ireturn (pc := 21) hc dX6_greatestSetting_21 H
    · refine z_sipush (pc := 18) hc dX6_greatestSetting_18 (by decide) ?_
      exact z_ireturn (pc := 21) hc dX6_greatestSetting_21 H
end
theorem metX6_greatestSetting (l : Launch) (D : Zd) (base : Nat) {x0 : Int} {h : Zm} {Q : Int → Zm → Prop} (H : mX6_greatestSetting x0 h Q) : zMet l D base yX6_greatestSetting cX6_greatestSetting 1 (some .int) zrX6_greatestSetting [.inl x0] h (zQi D base Q) :=
  z_met (by decide +kernel) (Nat.le_of_ble_eq_true rfl) rfl (fun p e s m args below meth c hc hn => rX6_greatestSetting hc H)
def zrX6_set : Room := { frames := 5, cells := 0, slots := 0, locals := 108 }
def mX6_set (a0 : Nat) (x1 : Int) (x2 : Int) (h : Zm) (Q : Int → Zm → Prop) : Prop :=
  mX6_within x1 0 2 h fun v2 h1 => cEq v2 0
  (Q (-1) h1)
  (mX6_greatestSetting x1 h1 fun v4 h3 => mX6_within x2 0 v4 h3 fun v6 h5 => cEq v6 0
    (Q (-1) h5)
    (cRc h5 16 a0 <| mX6_remember a0 h5 fun h7 => cEq x1 0
      (cGr h7 16 a0 0 fun r16 => cGi h7 14 r16 2 fun v17 => cGr h7 16 a0 0 fun r18 => cPi h7 14 r18 2 x2 fun h19 => Q v17 h19)
      (cEq x1 1
        (cGr h7 16 a0 0 fun r12 => cGi h7 14 r12 3 fun v13 => cGr h7 16 a0 0 fun r14 => cPi h7 14 r14 3 x2 fun h15 => Q v13 h15)
        (cGr h7 16 a0 0 fun r8 => cGi h7 14 r8 4 fun v9 => cGr h7 16 a0 0 fun r10 => cPi h7 14 r10 4 x2 fun h11 => Q v9 h11))))
section
variable {p : Program} {l : Launch} {e : Env} {s : State} {m : MethodId} {args : Array Value} {below : List Frame} {meth : Method} {c : Code} {D : Zd} {base : Nat}
set_option maxRecDepth 100000 in
set_option maxHeartbeats 4000000 in
theorem rX6_set (hc : zOk p s m args meth c D cX6_set 4 RX6 (some .int)) {a0 : Nat} {x1 : Int} {x2 : Int} {h : Zm} {Q : Int → Zm → Prop} (H : mX6_set a0 x1 x2 h Q) : zW p l e zrX6_set s m args below meth c D base 4 (MQ below (zQi D base Q) args s 0 0 (zFree base)) 0 0 0 [some (.inr (.inl a0)), some (.inl x1), some (.inl x2), none] [] h := by
  unfold mX6_set at H
  refine z_iload_n (pc := 0) hc dX6_set_0 rfl ?_
  refine z_iconst (pc := 1) hc dX6_set_1 ?_
  refine z_iconst (pc := 2) hc dX6_set_2 ?_
  refine z_calI (z_runS (pc := 3) hc dX6_set_3 zw_RX6_52 (metX6_within _ _ _ H) rfl (Nat.le_of_ble_eq_true rfl) ⟨Nat.le_of_ble_eq_true rfl, Nat.le_of_ble_eq_true rfl⟩ ⟨by exact Nat.le_of_ble_eq_true rfl, by exact Nat.le_of_ble_eq_true rfl⟩) rfl ⟨rfl, rfl⟩ (fun v2 h1 H => ?_)
  refine z_if_eq (tgt := 21) (pc := 6) hc dX6_set_6 rfl H (fun H => ?_) (fun H => ?_)
  · refine z_iconst (pc := 21) hc dX6_set_21 ?_
    exact z_ireturn (pc := 22) hc dX6_set_22 H
  · refine z_iload_n (pc := 9) hc dX6_set_9 rfl ?_
    refine z_iconst (pc := 10) hc dX6_set_10 ?_
    refine z_iload_n (pc := 11) hc dX6_set_11 rfl ?_
    refine z_calI (z_runS (pc := 12) hc dX6_set_12 zw_RX6_168 (metX6_greatestSetting _ _ _ H) rfl (Nat.le_of_ble_eq_true rfl) ⟨Nat.le_of_ble_eq_true rfl, Nat.le_of_ble_eq_true rfl⟩ ⟨by exact Nat.le_of_ble_eq_true rfl, by exact Nat.le_of_ble_eq_true rfl⟩) rfl ⟨rfl, rfl⟩ (fun v4 h3 H => ?_)
    refine z_calI (z_runS (pc := 15) hc dX6_set_15 zw_RX6_52 (metX6_within _ _ _ H) rfl (Nat.le_of_ble_eq_true rfl) ⟨Nat.le_of_ble_eq_true rfl, Nat.le_of_ble_eq_true rfl⟩ ⟨by exact Nat.le_of_ble_eq_true rfl, by exact Nat.le_of_ble_eq_true rfl⟩) rfl ⟨rfl, rfl⟩ (fun v6 h5 H => ?_)
    refine z_if_ne (tgt := 23) (pc := 18) hc dX6_set_18 rfl H (fun H => ?_) (fun H => ?_)
    · refine z_iconst (pc := 21) hc dX6_set_21 ?_
      exact z_ireturn (pc := 22) hc dX6_set_22 H
    · refine z_aload_n (pc := 23) hc dX6_set_23 rfl ?_
      refine z_calV0 (z_runV (pc := 24) (ci := 6) (T := TX6) (N := 8) hc dX6_set_24 zw_RX6_62 (metX6_remember _ _ _ H.2) rfl (Nat.le_of_ble_eq_true rfl) ⟨Nat.le_of_ble_eq_true rfl, Nat.le_of_ble_eq_true rfl⟩ ⟨by exact Nat.le_of_ble_eq_true rfl, by exact Nat.le_of_ble_eq_true rfl⟩ rfl H.1) rfl ⟨rfl, rfl⟩ (fun h7 H => ?_)
      refine z_iload_n (pc := 27) hc dX6_set_27 rfl ?_
      refine z_if_ne (tgt := 50) (pc := 28) hc dX6_set_28 rfl H (fun H => ?_) (fun H => ?_)
      · refine z_aload_n (pc := 31) hc dX6_set_31 rfl ?_
        refine z_getR (pc := 32) hc dX6_set_32 zf_RX6_12 rfl rfl rfl H (fun r16 H => ?_)
        refine z_getI (pc := 35) hc dX6_set_35 zf_RX6_171 rfl rfl rfl H (fun v17 H => ?_)
        refine z_istore_n (pc := 38) hc dX6_set_38 (by decide) (ρ' := [some (.inr (.inl a0)), some (.inl x1), some (.inl x2), some (.inl v17)]) rfl rfl ?_
        refine z_aload_n (pc := 39) hc dX6_set_39 rfl ?_
        refine z_getR (pc := 40) hc dX6_set_40 zf_RX6_12 rfl rfl rfl H (fun r18 H => ?_)
        refine z_iload_n (pc := 43) hc dX6_set_43 rfl ?_
        refine z_putI (pc := 44) hc dX6_set_44 zf_RX6_171 rfl rfl rfl H (fun h19 H => ?_)
        refine z_goto (tgt := 90) (pc := 47) hc dX6_set_47 rfl ?_
        refine z_iload_n (pc := 90) hc dX6_set_90 rfl ?_
        exact z_ireturn (pc := 91) hc dX6_set_91 H
      · refine z_iload_n (pc := 50) hc dX6_set_50 rfl ?_
        refine z_iconst (pc := 51) hc dX6_set_51 ?_
        refine z_icmp_ne (tgt := 74) (pc := 52) hc dX6_set_52 rfl H (fun H => ?_) (fun H => ?_)
        · refine z_aload_n (pc := 55) hc dX6_set_55 rfl ?_
          refine z_getR (pc := 56) hc dX6_set_56 zf_RX6_12 rfl rfl rfl H (fun r12 H => ?_)
          refine z_getI (pc := 59) hc dX6_set_59 zf_RX6_174 rfl rfl rfl H (fun v13 H => ?_)
          refine z_istore_n (pc := 62) hc dX6_set_62 (by decide) (ρ' := [some (.inr (.inl a0)), some (.inl x1), some (.inl x2), some (.inl v13)]) rfl rfl ?_
          refine z_aload_n (pc := 63) hc dX6_set_63 rfl ?_
          refine z_getR (pc := 64) hc dX6_set_64 zf_RX6_12 rfl rfl rfl H (fun r14 H => ?_)
          refine z_iload_n (pc := 67) hc dX6_set_67 rfl ?_
          refine z_putI (pc := 68) hc dX6_set_68 zf_RX6_174 rfl rfl rfl H (fun h15 H => ?_)
          refine z_goto (tgt := 90) (pc := 71) hc dX6_set_71 rfl ?_
          refine z_iload_n (pc := 90) hc dX6_set_90 rfl ?_
          exact z_ireturn (pc := 91) hc dX6_set_91 H
        · refine z_aload_n (pc := 74) hc dX6_set_74 rfl ?_
          refine z_getR (pc := 75) hc dX6_set_75 zf_RX6_12 rfl rfl rfl H (fun r8 H => ?_)
          refine z_getI (pc := 78) hc dX6_set_78 zf_RX6_177 rfl rfl rfl H (fun v9 H => ?_)
          refine z_istore_n (pc := 81) hc dX6_set_81 (by decide) (ρ' := [some (.inr (.inl a0)), some (.inl x1), some (.inl x2), some (.inl v9)]) rfl rfl ?_
          refine z_aload_n (pc := 82) hc dX6_set_82 rfl ?_
          refine z_getR (pc := 83) hc dX6_set_83 zf_RX6_12 rfl rfl rfl H (fun r10 H => ?_)
          refine z_iload_n (pc := 86) hc dX6_set_86 rfl ?_
          refine z_putI (pc := 87) hc dX6_set_87 zf_RX6_177 rfl rfl rfl H (fun h11 H => ?_)
          refine z_iload_n (pc := 90) hc dX6_set_90 rfl ?_
          exact z_ireturn (pc := 91) hc dX6_set_91 H
end
theorem metX6_set (l : Launch) (D : Zd) (base : Nat) {a0 : Nat} {x1 : Int} {x2 : Int} {h : Zm} {Q : Int → Zm → Prop} (H : mX6_set a0 x1 x2 h Q) : zMet l D base yX6_set cX6_set 4 (some .int) zrX6_set [.inr (.inl a0), .inl x1, .inl x2] h (zQi D base Q) :=
  z_met (by decide +kernel) (Nat.le_of_ble_eq_true rfl) rfl (fun p e s m args below meth c hc hn => rX6_set hc H)
def zrX6_setKnockout : Room := { frames := 5, cells := 0, slots := 0, locals := 108 }
def mX6_setKnockout (a0 : Nat) (x1 : Int) (x2 : Int) (h : Zm) (Q : Int → Zm → Prop) : Prop :=
  mX6_within x1 0 2 h fun v2 h1 => cEq v2 0
  (Q (-1) h1)
  (mX6_within x2 0 1 h1 fun v4 h3 => cEq v4 0
    (Q (-1) h3)
    (cRc h3 16 a0 <| mX6_remember a0 h3 fun h5 => cGr h5 16 a0 0 fun r6 => cGr h5 14 r6 5 fun r7 => cLd h5 1 r7 x1 fun v8 => cGr h5 16 a0 0 fun r9 => cGr h5 14 r9 5 fun r10 => cSt h5 r10 x1 x2 fun h11 => Q v8 h11))
section
variable {p : Program} {l : Launch} {e : Env} {s : State} {m : MethodId} {args : Array Value} {below : List Frame} {meth : Method} {c : Code} {D : Zd} {base : Nat}
set_option maxRecDepth 100000 in
set_option maxHeartbeats 4000000 in
theorem rX6_setKnockout (hc : zOk p s m args meth c D cX6_setKnockout 4 RX6 (some .int)) {a0 : Nat} {x1 : Int} {x2 : Int} {h : Zm} {Q : Int → Zm → Prop} (H : mX6_setKnockout a0 x1 x2 h Q) : zW p l e zrX6_setKnockout s m args below meth c D base 4 (MQ below (zQi D base Q) args s 0 0 (zFree base)) 0 0 0 [some (.inr (.inl a0)), some (.inl x1), some (.inl x2), none] [] h := by
  unfold mX6_setKnockout at H
  refine z_iload_n (pc := 0) hc dX6_setKnockout_0 rfl ?_
  refine z_iconst (pc := 1) hc dX6_setKnockout_1 ?_
  refine z_iconst (pc := 2) hc dX6_setKnockout_2 ?_
  refine z_calI (z_runS (pc := 3) hc dX6_setKnockout_3 zw_RX6_52 (metX6_within _ _ _ H) rfl (Nat.le_of_ble_eq_true rfl) ⟨Nat.le_of_ble_eq_true rfl, Nat.le_of_ble_eq_true rfl⟩ ⟨by exact Nat.le_of_ble_eq_true rfl, by exact Nat.le_of_ble_eq_true rfl⟩) rfl ⟨rfl, rfl⟩ (fun v2 h1 H => ?_)
  refine z_if_eq (tgt := 18) (pc := 6) hc dX6_setKnockout_6 rfl H (fun H => ?_) (fun H => ?_)
  · refine z_iconst (pc := 18) hc dX6_setKnockout_18 ?_
    exact z_ireturn (pc := 19) hc dX6_setKnockout_19 H
  · refine z_iload_n (pc := 9) hc dX6_setKnockout_9 rfl ?_
    refine z_iconst (pc := 10) hc dX6_setKnockout_10 ?_
    refine z_iconst (pc := 11) hc dX6_setKnockout_11 ?_
    refine z_calI (z_runS (pc := 12) hc dX6_setKnockout_12 zw_RX6_52 (metX6_within _ _ _ H) rfl (Nat.le_of_ble_eq_true rfl) ⟨Nat.le_of_ble_eq_true rfl, Nat.le_of_ble_eq_true rfl⟩ ⟨by exact Nat.le_of_ble_eq_true rfl, by exact Nat.le_of_ble_eq_true rfl⟩) rfl ⟨rfl, rfl⟩ (fun v4 h3 H => ?_)
    refine z_if_ne (tgt := 20) (pc := 15) hc dX6_setKnockout_15 rfl H (fun H => ?_) (fun H => ?_)
    · refine z_iconst (pc := 18) hc dX6_setKnockout_18 ?_
      exact z_ireturn (pc := 19) hc dX6_setKnockout_19 H
    · refine z_aload_n (pc := 20) hc dX6_setKnockout_20 rfl ?_
      refine z_calV0 (z_runV (pc := 21) (ci := 6) (T := TX6) (N := 8) hc dX6_setKnockout_21 zw_RX6_62 (metX6_remember _ _ _ H.2) rfl (Nat.le_of_ble_eq_true rfl) ⟨Nat.le_of_ble_eq_true rfl, Nat.le_of_ble_eq_true rfl⟩ ⟨by exact Nat.le_of_ble_eq_true rfl, by exact Nat.le_of_ble_eq_true rfl⟩ rfl H.1) rfl ⟨rfl, rfl⟩ (fun h5 H => ?_)
      refine z_aload_n (pc := 24) hc dX6_setKnockout_24 rfl ?_
      refine z_getR (pc := 25) hc dX6_setKnockout_25 zf_RX6_12 rfl rfl rfl H (fun r6 H => ?_)
      refine z_getR (pc := 28) hc dX6_setKnockout_28 zf_RX6_180 rfl rfl rfl H (fun r7 H => ?_)
      refine z_iload_n (pc := 31) hc dX6_setKnockout_31 rfl ?_
      refine z_iaload (pc := 32) hc dX6_setKnockout_32 H (fun v8 H => ?_)
      refine z_istore_n (pc := 33) hc dX6_setKnockout_33 (by decide) (ρ' := [some (.inr (.inl a0)), some (.inl x1), some (.inl x2), some (.inl v8)]) rfl rfl ?_
      refine z_aload_n (pc := 34) hc dX6_setKnockout_34 rfl ?_
      refine z_getR (pc := 35) hc dX6_setKnockout_35 zf_RX6_12 rfl rfl rfl H (fun r9 H => ?_)
      refine z_getR (pc := 38) hc dX6_setKnockout_38 zf_RX6_180 rfl rfl rfl H (fun r10 H => ?_)
      refine z_iload_n (pc := 41) hc dX6_setKnockout_41 rfl ?_
      refine z_iload_n (pc := 42) hc dX6_setKnockout_42 rfl ?_
      refine z_iastore (pc := 43) hc dX6_setKnockout_43 H (fun h11 H => ?_)
      refine z_iload_n (pc := 44) hc dX6_setKnockout_44 rfl ?_
      exact z_ireturn (pc := 45) hc dX6_setKnockout_45 H
end
theorem metX6_setKnockout (l : Launch) (D : Zd) (base : Nat) {a0 : Nat} {x1 : Int} {x2 : Int} {h : Zm} {Q : Int → Zm → Prop} (H : mX6_setKnockout a0 x1 x2 h Q) : zMet l D base yX6_setKnockout cX6_setKnockout 4 (some .int) zrX6_setKnockout [.inr (.inl a0), .inl x1, .inl x2] h (zQi D base Q) :=
  z_met (by decide +kernel) (Nat.le_of_ble_eq_true rfl) rfl (fun p e s m args below meth c hc hn => rX6_setKnockout hc H)
def zrX6_isPixel : Room := { frames := 1, cells := 0, slots := 0, locals := 22 }
def mX6_isPixel (a0 : Nat) (x1 : Int) (x2 : Int) (h : Zm) (Q : Int → Zm → Prop) : Prop :=
  cGr h 16 a0 0 fun r1 => cGi h 14 r1 0 fun v2 => mX6_within x1 0 (v2 - 1) h fun v4 h3 => cEq v4 0
  (Q 0 h3)
  (cGr h3 16 a0 0 fun r5 => cGi h3 14 r5 1 fun v6 => mX6_within x2 0 (v6 - 1) h3 fun v8 h7 => cEq v8 0
    (Q 0 h7)
    (Q 1 h7))
section
variable {p : Program} {l : Launch} {e : Env} {s : State} {m : MethodId} {args : Array Value} {below : List Frame} {meth : Method} {c : Code} {D : Zd} {base : Nat}
set_option maxRecDepth 100000 in
set_option maxHeartbeats 4000000 in
theorem rX6_isPixel (hc : zOk p s m args meth c D cX6_isPixel 3 RX6 (some .boolean)) {a0 : Nat} {x1 : Int} {x2 : Int} {h : Zm} {Q : Int → Zm → Prop} (H : mX6_isPixel a0 x1 x2 h Q) : zW p l e zrX6_isPixel s m args below meth c D base 3 (MQ below (zQi D base Q) args s 0 0 (zFree base)) 0 0 0 [some (.inr (.inl a0)), some (.inl x1), some (.inl x2)] [] h := by
  unfold mX6_isPixel at H
  refine z_iload_n (pc := 0) hc dX6_isPixel_0 rfl ?_
  refine z_iconst (pc := 1) hc dX6_isPixel_1 ?_
  refine z_aload_n (pc := 2) hc dX6_isPixel_2 rfl ?_
  refine z_getR (pc := 3) hc dX6_isPixel_3 zf_RX6_12 rfl rfl rfl H (fun r1 H => ?_)
  refine z_getI (pc := 6) hc dX6_isPixel_6 zf_RX6_56 rfl rfl rfl H (fun v2 H => ?_)
  refine z_iconst (pc := 9) hc dX6_isPixel_9 ?_
  refine z_isub (pc := 10) hc dX6_isPixel_10 ?_
  refine z_calI (z_runS (pc := 11) hc dX6_isPixel_11 zw_RX6_52 (metX6_within _ _ _ H) rfl (Nat.le_of_ble_eq_true rfl) ⟨Nat.le_of_ble_eq_true rfl, Nat.le_of_ble_eq_true rfl⟩ ⟨by exact Nat.le_of_ble_eq_true rfl, by exact Nat.le_of_ble_eq_true rfl⟩) rfl ⟨rfl, rfl⟩ (fun v4 h3 H => ?_)
  refine z_if_eq (tgt := 38) (pc := 14) hc dX6_isPixel_14 rfl H (fun H => ?_) (fun H => ?_)
  · refine z_iconst (pc := 38) hc dX6_isPixel_38 ?_
    exact z_zreturn (pc := 39) hc dX6_isPixel_39 ⟨Or.inl rfl, H⟩
  · refine z_iload_n (pc := 17) hc dX6_isPixel_17 rfl ?_
    refine z_iconst (pc := 18) hc dX6_isPixel_18 ?_
    refine z_aload_n (pc := 19) hc dX6_isPixel_19 rfl ?_
    refine z_getR (pc := 20) hc dX6_isPixel_20 zf_RX6_12 rfl rfl rfl H (fun r5 H => ?_)
    refine z_getI (pc := 23) hc dX6_isPixel_23 zf_RX6_59 rfl rfl rfl H (fun v6 H => ?_)
    refine z_iconst (pc := 26) hc dX6_isPixel_26 ?_
    refine z_isub (pc := 27) hc dX6_isPixel_27 ?_
    refine z_calI (z_runS (pc := 28) hc dX6_isPixel_28 zw_RX6_52 (metX6_within _ _ _ H) rfl (Nat.le_of_ble_eq_true rfl) ⟨Nat.le_of_ble_eq_true rfl, Nat.le_of_ble_eq_true rfl⟩ ⟨by exact Nat.le_of_ble_eq_true rfl, by exact Nat.le_of_ble_eq_true rfl⟩) rfl ⟨rfl, rfl⟩ (fun v8 h7 H => ?_)
    refine z_if_eq (tgt := 38) (pc := 31) hc dX6_isPixel_31 rfl H (fun H => ?_) (fun H => ?_)
    · refine z_iconst (pc := 38) hc dX6_isPixel_38 ?_
      exact z_zreturn (pc := 39) hc dX6_isPixel_39 ⟨Or.inl rfl, H⟩
    · refine z_iconst (pc := 34) hc dX6_isPixel_34 ?_
      refine z_goto (tgt := 39) (pc := 35) hc dX6_isPixel_35 rfl ?_
      exact z_zreturn (pc := 39) hc dX6_isPixel_39 ⟨Or.inr rfl, H⟩
end
theorem metX6_isPixel (l : Launch) (D : Zd) (base : Nat) {a0 : Nat} {x1 : Int} {x2 : Int} {h : Zm} {Q : Int → Zm → Prop} (H : mX6_isPixel a0 x1 x2 h Q) : zMet l D base yX6_isPixel cX6_isPixel 3 (some .boolean) zrX6_isPixel [.inr (.inl a0), .inl x1, .inl x2] h (zQi D base Q) :=
  z_met (by decide +kernel) (Nat.le_of_ble_eq_true rfl) rfl (fun p e s m args below meth c hc hn => rX6_isPixel hc H)
def zrX6_rendered : Room := { frames := 5, cells := 0, slots := 0, locals := 119 }
def mX6_rendered (a0 : Nat) (x1 : Int) (x2 : Int) (x3 : Int) (h : Zm) (Q : Int → Zm → Prop) : Prop :=
  cRc h 16 a0 <| mX6_isPixel a0 x1 x2 h fun v2 h1 => cEq v2 0
  (Q (-1) h1)
  (mX6_within x3 0 5 h1 fun v4 h3 => cEq v4 0
    (Q (-1) h3)
    (cGr h3 16 a0 4 fun r5 => cGr h3 16 a0 0 fun r6 => cRc h3 13 r5 <| mX3_render r5 r6 x1 x2 h3 fun h7 => cGr h7 16 a0 4 fun r8 => cGr h7 13 r8 0 fun r9 => cLd h7 1 r9 x3 fun v10 => Q v10 h7))
section
variable {p : Program} {l : Launch} {e : Env} {s : State} {m : MethodId} {args : Array Value} {below : List Frame} {meth : Method} {c : Code} {D : Zd} {base : Nat}
set_option maxRecDepth 100000 in
set_option maxHeartbeats 4000000 in
theorem rX6_rendered (hc : zOk p s m args meth c D cX6_rendered 4 RX6 (some .int)) {a0 : Nat} {x1 : Int} {x2 : Int} {x3 : Int} {h : Zm} {Q : Int → Zm → Prop} (H : mX6_rendered a0 x1 x2 x3 h Q) : zW p l e zrX6_rendered s m args below meth c D base 4 (MQ below (zQi D base Q) args s 0 0 (zFree base)) 0 0 0 [some (.inr (.inl a0)), some (.inl x1), some (.inl x2), some (.inl x3)] [] h := by
  unfold mX6_rendered at H
  refine z_aload_n (pc := 0) hc dX6_rendered_0 rfl ?_
  refine z_iload_n (pc := 1) hc dX6_rendered_1 rfl ?_
  refine z_iload_n (pc := 2) hc dX6_rendered_2 rfl ?_
  refine z_calI (z_runV (pc := 3) (ci := 6) (T := TX6) (N := 8) hc dX6_rendered_3 zw_RX6_215 (metX6_isPixel _ _ _ H.2) rfl (Nat.le_of_ble_eq_true rfl) ⟨Nat.le_of_ble_eq_true rfl, Nat.le_of_ble_eq_true rfl⟩ ⟨by exact Nat.le_of_ble_eq_true rfl, by exact Nat.le_of_ble_eq_true rfl⟩ rfl H.1) rfl ⟨rfl, rfl⟩ (fun v2 h1 H => ?_)
  refine z_if_eq (tgt := 18) (pc := 6) hc dX6_rendered_6 rfl H (fun H => ?_) (fun H => ?_)
  · refine z_iconst (pc := 18) hc dX6_rendered_18 ?_
    exact z_ireturn (pc := 19) hc dX6_rendered_19 H
  · refine z_iload_n (pc := 9) hc dX6_rendered_9 rfl ?_
    refine z_iconst (pc := 10) hc dX6_rendered_10 ?_
    refine z_iconst (pc := 11) hc dX6_rendered_11 ?_
    refine z_calI (z_runS (pc := 12) hc dX6_rendered_12 zw_RX6_52 (metX6_within _ _ _ H) rfl (Nat.le_of_ble_eq_true rfl) ⟨Nat.le_of_ble_eq_true rfl, Nat.le_of_ble_eq_true rfl⟩ ⟨by exact Nat.le_of_ble_eq_true rfl, by exact Nat.le_of_ble_eq_true rfl⟩) rfl ⟨rfl, rfl⟩ (fun v4 h3 H => ?_)
    refine z_if_ne (tgt := 20) (pc := 15) hc dX6_rendered_15 rfl H (fun H => ?_) (fun H => ?_)
    · refine z_iconst (pc := 18) hc dX6_rendered_18 ?_
      exact z_ireturn (pc := 19) hc dX6_rendered_19 H
    · refine z_aload_n (pc := 20) hc dX6_rendered_20 rfl ?_
      refine z_getR (pc := 21) hc dX6_rendered_21 zf_RX6_34 rfl rfl rfl H (fun r5 H => ?_)
      refine z_aload_n (pc := 24) hc dX6_rendered_24 rfl ?_
      refine z_getR (pc := 25) hc dX6_rendered_25 zf_RX6_12 rfl rfl rfl H (fun r6 H => ?_)
      refine z_iload_n (pc := 28) hc dX6_rendered_28 rfl ?_
      refine z_iload_n (pc := 29) hc dX6_rendered_29 rfl ?_
      refine z_calV0 (z_runV (pc := 30) (ci := 3) (T := TX3) (N := 3) hc dX6_rendered_30 zw_RX6_218 (metX3_render _ _ _ H.2) rfl (Nat.le_of_ble_eq_true rfl) ⟨Nat.le_of_ble_eq_true rfl, Nat.le_of_ble_eq_true rfl⟩ ⟨by exact Nat.le_of_ble_eq_true rfl, by exact Nat.le_of_ble_eq_true rfl⟩ rfl H.1) rfl ⟨rfl, rfl⟩ (fun h7 H => ?_)
      refine z_aload_n (pc := 33) hc dX6_rendered_33 rfl ?_
      refine z_getR (pc := 34) hc dX6_rendered_34 zf_RX6_34 rfl rfl rfl H (fun r8 H => ?_)
      refine z_getR (pc := 37) hc dX6_rendered_37 zf_RX6_222 rfl rfl rfl H (fun r9 H => ?_)
      refine z_iload_n (pc := 40) hc dX6_rendered_40 rfl ?_
      refine z_iaload (pc := 41) hc dX6_rendered_41 H (fun v10 H => ?_)
      exact z_ireturn (pc := 42) hc dX6_rendered_42 H
end
theorem metX6_rendered (l : Launch) (D : Zd) (base : Nat) {a0 : Nat} {x1 : Int} {x2 : Int} {x3 : Int} {h : Zm} {Q : Int → Zm → Prop} (H : mX6_rendered a0 x1 x2 x3 h Q) : zMet l D base yX6_rendered cX6_rendered 4 (some .int) zrX6_rendered [.inr (.inl a0), .inl x1, .inl x2, .inl x3] h (zQi D base Q) :=
  z_met (by decide +kernel) (Nat.le_of_ble_eq_true rfl) rfl (fun p e s m args below meth c hc hn => rX6_rendered hc H)
def zrX6_separateAt : Room := { frames := 5, cells := 0, slots := 0, locals := 119 }
def mX6_separateAt (a0 : Nat) (x1 : Int) (x2 : Int) (h : Zm) (Q : Zm → Prop) : Prop :=
  cGr h 16 a0 4 fun r1 => cGr h 16 a0 0 fun r2 => cRc h 13 r1 <| mX3_render r1 r2 x1 x2 h fun h3 => cGr h3 16 a0 4 fun r4 => cGr h3 16 a0 0 fun r5 => cGr h3 16 a0 0 fun r6 => cGi h3 14 r6 2 fun v7 => cRc h3 13 r4 <| mX3_separate r4 r5 v7 h3 fun h8 => Q h8
section
variable {p : Program} {l : Launch} {e : Env} {s : State} {m : MethodId} {args : Array Value} {below : List Frame} {meth : Method} {c : Code} {D : Zd} {base : Nat}
set_option maxRecDepth 100000 in
set_option maxHeartbeats 4000000 in
theorem rX6_separateAt (hc : zOk p s m args meth c D cX6_separateAt 3 RX6 none) {a0 : Nat} {x1 : Int} {x2 : Int} {h : Zm} {Q : Zm → Prop} (H : mX6_separateAt a0 x1 x2 h Q) : zW p l e zrX6_separateAt s m args below meth c D base 3 (MQ below (zQv D base Q) args s 0 0 (zFree base)) 0 0 0 [some (.inr (.inl a0)), some (.inl x1), some (.inl x2)] [] h := by
  unfold mX6_separateAt at H
  refine z_aload_n (pc := 0) hc dX6_separateAt_0 rfl ?_
  refine z_getR (pc := 1) hc dX6_separateAt_1 zf_RX6_34 rfl rfl rfl H (fun r1 H => ?_)
  refine z_aload_n (pc := 4) hc dX6_separateAt_4 rfl ?_
  refine z_getR (pc := 5) hc dX6_separateAt_5 zf_RX6_12 rfl rfl rfl H (fun r2 H => ?_)
  refine z_iload_n (pc := 8) hc dX6_separateAt_8 rfl ?_
  refine z_iload_n (pc := 9) hc dX6_separateAt_9 rfl ?_
  refine z_calV0 (z_runV (pc := 10) (ci := 3) (T := TX3) (N := 3) hc dX6_separateAt_10 zw_RX6_218 (metX3_render _ _ _ H.2) rfl (Nat.le_of_ble_eq_true rfl) ⟨Nat.le_of_ble_eq_true rfl, Nat.le_of_ble_eq_true rfl⟩ ⟨by exact Nat.le_of_ble_eq_true rfl, by exact Nat.le_of_ble_eq_true rfl⟩ rfl H.1) rfl ⟨rfl, rfl⟩ (fun h3 H => ?_)
  refine z_aload_n (pc := 13) hc dX6_separateAt_13 rfl ?_
  refine z_getR (pc := 14) hc dX6_separateAt_14 zf_RX6_34 rfl rfl rfl H (fun r4 H => ?_)
  refine z_aload_n (pc := 17) hc dX6_separateAt_17 rfl ?_
  refine z_getR (pc := 18) hc dX6_separateAt_18 zf_RX6_12 rfl rfl rfl H (fun r5 H => ?_)
  refine z_aload_n (pc := 21) hc dX6_separateAt_21 rfl ?_
  refine z_getR (pc := 22) hc dX6_separateAt_22 zf_RX6_12 rfl rfl rfl H (fun r6 H => ?_)
  refine z_getI (pc := 25) hc dX6_separateAt_25 zf_RX6_171 rfl rfl rfl H (fun v7 H => ?_)
  refine z_calV0 (z_runV (pc := 28) (ci := 3) (T := TX3) (N := 3) hc dX6_separateAt_28 zw_RX6_235 (metX3_separate _ _ _ H.2) rfl (Nat.le_of_ble_eq_true rfl) ⟨Nat.le_of_ble_eq_true rfl, Nat.le_of_ble_eq_true rfl⟩ ⟨by exact Nat.le_of_ble_eq_true rfl, by exact Nat.le_of_ble_eq_true rfl⟩ rfl H.1) rfl ⟨rfl, rfl⟩ (fun h8 H => ?_)
  exact z_return (pc := 31) hc dX6_separateAt_31 H
end
theorem metX6_separateAt (l : Launch) (D : Zd) (base : Nat) {a0 : Nat} {x1 : Int} {x2 : Int} {h : Zm} {Q : Zm → Prop} (H : mX6_separateAt a0 x1 x2 h Q) : zMet l D base yX6_separateAt cX6_separateAt 3 none zrX6_separateAt [.inr (.inl a0), .inl x1, .inl x2] h (zQv D base Q) :=
  z_met (by decide +kernel) (Nat.le_of_ble_eq_true rfl) rfl (fun p e s m args below meth c hc hn => rX6_separateAt hc H)
