/-! printed by gen.py: X7_counts X7_isAhead X7_inkCount X7_inkAt X7_neededLimit X7_thriftiestAmount X7_isDisordered X7_disorderedPixels X7_undo -/
def zrX7_counts : Room := { frames := 5, cells := 0, slots := 0, locals := 114 }
def mX7_counts_J134 (X11 : Int → Zm → Prop) (a0 : Nat) (x1 : Int) (x2 : Int) (h : Zm) (Q : Zm → Prop) : Prop :=
  cGr h 17 a0 18 fun r13 => cLd h 1 r13 ((9 * x2) + 8) fun v14 => cSt h r13 ((9 * x2) + 8) (v14 + 1) fun h15 => X11 (x1 + 1) h15
def mX7_counts_B64 (X11 : Int → Zm → Prop) (X64 : Int → Zm → Prop) (a0 : Nat) (x1 : Int) (x2 : Int) (x3 : Int) (h : Zm) (Q : Zm → Prop) : Prop :=
  cLt x3 7
  (cGr h 17 a0 18 fun r24 => cGr h 17 a0 16 fun r25 => cLd h 1 r25 x3 fun v26 => cSt h r24 ((9 * x2) + x3) v26 fun h27 => X64 (x3 + 1) h27)
  (cGr h 17 a0 18 fun r16 => cRc h 17 a0 <| mX7_told a0 7 h fun v18 h17 => cSt h17 r16 ((9 * x2) + 7) v18 fun h19 => cGr h19 17 a0 18 fun r20 => cSt h19 r20 ((9 * x2) + 8) 0 fun h21 => cGi h21 17 a0 19 fun v22 => cPi h21 17 a0 19 (v22 + 1) fun h23 => mX7_counts_J134 X11 a0 x1 x2 h23 Q)
def mX7_counts_H64 (X11 : Int → Zm → Prop) (a0 : Nat) (x1 : Int) (x2 : Int) (x3 : Int) (h : Zm) (Q : Zm → Prop) : Prop :=
  lfp1 (fun X64 x3 h => mX7_counts_B64 X11 X64 a0 x1 x2 x3 h Q) x3 h
def mX7_counts_B32 (X11 : Int → Zm → Prop) (X32 : Int → Zm → Prop) (a0 : Nat) (x1 : Int) (x2 : Int) (h : Zm) (Q : Zm → Prop) : Prop :=
  cGi h 17 a0 19 fun v8 => cLt x2 v8
  (cRc h 17 a0 <| mX7_isInk a0 x2 h fun v11 h10 => cEq v11 0
    (X32 (x2 + 1) h10)
    (cGi h10 17 a0 19 fun v12 => cEq x2 v12
      (mX7_counts_H64 X11 a0 x1 x2 0 h10 Q)
      (mX7_counts_J134 X11 a0 x1 x2 h10 Q)))
  (cGi h 17 a0 19 fun v9 => cEq x2 v9
    (mX7_counts_H64 X11 a0 x1 x2 0 h Q)
    (mX7_counts_J134 X11 a0 x1 x2 h Q))
def mX7_counts_H32 (X11 : Int → Zm → Prop) (a0 : Nat) (x1 : Int) (x2 : Int) (h : Zm) (Q : Zm → Prop) : Prop :=
  lfp1 (fun X32 x2 h => mX7_counts_B32 X11 X32 a0 x1 x2 h Q) x2 h
def mX7_counts_B11 (X11 : Int → Zm → Prop) (a0 : Nat) (x1 : Int) (h : Zm) (Q : Zm → Prop) : Prop :=
  cRc h 17 a0 <| mX7_pixels a0 h fun v4 h3 => cLt x1 v4
  (cGr h3 17 a0 0 fun r5 => cLd h3 1 r5 2 fun v6 => cRc h3 17 a0 <| mX7_pixelAt a0 x1 v6 h3 fun h7 => mX7_counts_H32 X11 a0 x1 0 h7 Q)
  (Q h3)
def mX7_counts_H11  (a0 : Nat) (x1 : Int) (h : Zm) (Q : Zm → Prop) : Prop :=
  lfp1 (fun X11 x1 h => mX7_counts_B11 X11 a0 x1 h Q) x1 h
def mX7_counts (a0 : Nat) (h : Zm) (Q : Zm → Prop) : Prop :=
  cRc h 17 a0 <| mX7_lays a0 h fun h1 => cPi h1 17 a0 19 0 fun h2 => mX7_counts_H11  a0 0 h2 Q
section
variable {p : Program} {l : Launch} {e : Env} {s : State} {m : MethodId} {args : Array Value} {below : List Frame} {meth : Method} {c : Code} {D : Zd} {base : Nat}
set_option maxRecDepth 100000 in
set_option maxHeartbeats 4000000 in
theorem rX7_counts_J134 (hc : zOk p s m args meth c D cX7_counts 4 RX7 none) {X11 : Int → Zm → Prop} {a0 : Nat} {x1 : Int} {x2 : Int} {h : Zm} {Q : Zm → Prop} (hX11 : ∀ (x1 : Int) (h : Zm), X11 x1 h → zW p l e zrX7_counts s m args below meth c D base 4 (MQ below (zQv D base Q) args s 0 0 (zFree base)) 0 0 11 [some (.inr a0), some (.inl x1), none, none] [] h) (H : mX7_counts_J134 X11 a0 x1 x2 h Q) : zW p l e zrX7_counts s m args below meth c D base 4 (MQ below (zQv D base Q) args s 0 0 (zFree base)) 0 0 134 [some (.inr a0), some (.inl x1), some (.inl x2), none] [] h := by
  unfold mX7_counts_J134 at H
  refine z_aload_n (pc := 134) hc dX7_counts_134 rfl ?_
  refine z_getR (pc := 135) hc dX7_counts_135 zf_RX7_59 rfl rfl rfl H (fun r13 H => ?_)
  refine z_bipush (pc := 138) hc dX7_counts_138 (by decide) ?_
  refine z_iload_n (pc := 140) hc dX7_counts_140 rfl ?_
  refine z_imul (pc := 141) hc dX7_counts_141 ?_
  refine z_bipush (pc := 142) hc dX7_counts_142 (by decide) ?_
  refine z_iadd (pc := 144) hc dX7_counts_144 ?_
  refine z_dup2 (pc := 145) hc dX7_counts_145 ?_
  refine z_iaload (pc := 146) hc dX7_counts_146 H (fun v14 H => ?_)
  refine z_iconst (pc := 147) hc dX7_counts_147 ?_
  refine z_iadd (pc := 148) hc dX7_counts_148 ?_
  refine z_iastore (pc := 149) hc dX7_counts_149 H (fun h15 H => ?_)
  refine z_iinc (pc := 150) hc dX7_counts_150 (by decide) rfl (ρ' := [some (.inr a0), some (.inl (x1 + 1)), some (.inl x2), none]) rfl ?_
  refine z_goto (tgt := 11) (pc := 153) hc dX7_counts_153 rfl ?_
  refine z_mask [true, true, false, false] (ρ' := [some (.inr a0), some (.inl (x1 + 1)), none, none]) rfl ?_
  exact hX11 _ _ H
set_option maxRecDepth 100000 in
set_option maxHeartbeats 4000000 in
theorem rX7_counts_B64 (hc : zOk p s m args meth c D cX7_counts 4 RX7 none) {X11 : Int → Zm → Prop} {X64 : Int → Zm → Prop} {a0 : Nat} {x1 : Int} {x2 : Int} {x3 : Int} {h : Zm} {Q : Zm → Prop} (hX11 : ∀ (x1 : Int) (h : Zm), X11 x1 h → zW p l e zrX7_counts s m args below meth c D base 4 (MQ below (zQv D base Q) args s 0 0 (zFree base)) 0 0 11 [some (.inr a0), some (.inl x1), none, none] [] h) (hX64 : ∀ (x3 : Int) (h : Zm), X64 x3 h → zW p l e zrX7_counts s m args below meth c D base 4 (MQ below (zQv D base Q) args s 0 0 (zFree base)) 0 0 64 [some (.inr a0), some (.inl x1), some (.inl x2), some (.inl x3)] [] h) (H : mX7_counts_B64 X11 X64 a0 x1 x2 x3 h Q) : zW p l e zrX7_counts s m args below meth c D base 4 (MQ below (zQv D base Q) args s 0 0 (zFree base)) 0 0 64 [some (.inr a0), some (.inl x1), some (.inl x2), some (.inl x3)] [] h := by
  unfold mX7_counts_B64 at H
  refine z_iload_n (pc := 64) hc dX7_counts_64 rfl ?_
  refine z_bipush (pc := 65) hc dX7_counts_65 (by decide) ?_
  refine z_icmp_ge (tgt := 93) (pc := 67) hc dX7_counts_67 rfl H (fun H => ?_) (fun H => ?_)
  · refine z_aload_n (pc := 70) hc dX7_counts_70 rfl ?_
    refine z_getR (pc := 71) hc dX7_counts_71 zf_RX7_59 rfl rfl rfl H (fun r24 H => ?_)
    refine z_bipush (pc := 74) hc dX7_counts_74 (by decide) ?_
    refine z_iload_n (pc := 76) hc dX7_counts_76 rfl ?_
    refine z_imul (pc := 77) hc dX7_counts_77 ?_
    refine z_iload_n (pc := 78) hc dX7_counts_78 rfl ?_
    refine z_iadd (pc := 79) hc dX7_counts_79 ?_
    refine z_aload_n (pc := 80) hc dX7_counts_80 rfl ?_
    refine z_getR (pc := 81) hc dX7_counts_81 zf_RX7_53 rfl rfl rfl H (fun r25 H => ?_)
    refine z_iload_n (pc := 84) hc dX7_counts_84 rfl ?_
    refine z_iaload (pc := 85) hc dX7_counts_85 H (fun v26 H => ?_)
    refine z_iastore (pc := 86) hc dX7_counts_86 H (fun h27 H => ?_)
    refine z_iinc (pc := 87) hc dX7_counts_87 (by decide) rfl (ρ' := [some (.inr a0), some (.inl x1), some (.inl x2), some (.inl (x3 + 1))]) rfl ?_
    refine z_goto (tgt := 64) (pc := 90) hc dX7_counts_90 rfl ?_
    exact hX64 _ _ H
  · refine z_aload_n (pc := 93) hc dX7_counts_93 rfl ?_
    refine z_getR (pc := 94) hc dX7_counts_94 zf_RX7_59 rfl rfl rfl H (fun r16 H => ?_)
    refine z_bipush (pc := 97) hc dX7_counts_97 (by decide) ?_
    refine z_iload_n (pc := 99) hc dX7_counts_99 rfl ?_
    refine z_imul (pc := 100) hc dX7_counts_100 ?_
    refine z_bipush (pc := 101) hc dX7_counts_101 (by decide) ?_
    refine z_iadd (pc := 103) hc dX7_counts_103 ?_
    refine z_aload_n (pc := 104) hc dX7_counts_104 rfl ?_
    refine z_bipush (pc := 105) hc dX7_counts_105 (by decide) ?_
    refine z_calI (z_runV (pc := 107) (ci := 7) (T := TX7) (N := 20) hc dX7_counts_107 zw_RX7_162 (metX7_told _ _ _ H.2) rfl (Nat.le_of_ble_eq_true rfl) ⟨Nat.le_of_ble_eq_true rfl, Nat.le_of_ble_eq_true rfl⟩ ⟨by exact Nat.le_of_ble_eq_true rfl, by exact Nat.le_of_ble_eq_true rfl⟩ rfl H.1) rfl ⟨rfl, rfl⟩ (fun v18 h17 H => ?_)
    refine z_iastore (pc := 110) hc dX7_counts_110 H (fun h19 H => ?_)
    refine z_aload_n (pc := 111) hc dX7_counts_111 rfl ?_
    refine z_getR (pc := 112) hc dX7_counts_112 zf_RX7_59 rfl rfl rfl H (fun r20 H => ?_)
    refine z_bipush (pc := 115) hc dX7_counts_115 (by decide) ?_
    refine z_iload_n (pc := 117) hc dX7_counts_117 rfl ?_
    refine z_imul (pc := 118) hc dX7_counts_118 ?_
    refine z_bipush (pc := 119) hc dX7_counts_119 (by decide) ?_
    refine z_iadd (pc := 121) hc dX7_counts_121 ?_
    refine z_iconst (pc := 122) hc dX7_counts_122 ?_
    refine z_iastore (pc := 123) hc dX7_counts_123 H (fun h21 H => ?_)
    refine z_aload_n (pc := 124) hc dX7_counts_124 rfl ?_
    refine z_dup (pc := 125) hc dX7_counts_125 ?_
    refine z_getI (pc := 126) hc dX7_counts_126 zf_RX7_176 rfl rfl rfl H (fun v22 H => ?_)
    refine z_iconst (pc := 129) hc dX7_counts_129 ?_
    refine z_iadd (pc := 130) hc dX7_counts_130 ?_
    refine z_putI (pc := 131) hc dX7_counts_131 zf_RX7_176 rfl rfl rfl H (fun h23 H => ?_)
    refine z_mask [true, true, true, false] (ρ' := [some (.inr a0), some (.inl x1), some (.inl x2), none]) rfl ?_
    exact rX7_counts_J134 hc hX11 H
theorem rX7_counts_H64 (hc : zOk p s m args meth c D cX7_counts 4 RX7 none) {X11 : Int → Zm → Prop} {a0 : Nat} {x1 : Int} {x2 : Int} {x3 : Int} {h : Zm} {Q : Zm → Prop} (hX11 : ∀ (x1 : Int) (h : Zm), X11 x1 h → zW p l e zrX7_counts s m args below meth c D base 4 (MQ below (zQv D base Q) args s 0 0 (zFree base)) 0 0 11 [some (.inr a0), some (.inl x1), none, none] [] h) (H : mX7_counts_H64 X11 a0 x1 x2 x3 h Q) : zW p l e zrX7_counts s m args below meth c D base 4 (MQ below (zQv D base Q) args s 0 0 (zFree base)) 0 0 64 [some (.inr a0), some (.inl x1), some (.inl x2), some (.inl x3)] [] h :=
  H (fun x3 h => zW p l e zrX7_counts s m args below meth c D base 4 (MQ below (zQv D base Q) args s 0 0 (zFree base)) 0 0 64 [some (.inr a0), some (.inl x1), some (.inl x2), some (.inl x3)] [] h) (fun x3 h H => rX7_counts_B64 hc hX11 (fun _ _ q => q) H)
set_option maxRecDepth 100000 in
set_option maxHeartbeats 4000000 in
theorem rX7_counts_B32 (hc : zOk p s m args meth c D cX7_counts 4 RX7 none) {X11 : Int → Zm → Prop} {X32 : Int → Zm → Prop} {a0 : Nat} {x1 : Int} {x2 : Int} {h : Zm} {Q : Zm → Prop} (hX11 : ∀ (x1 : Int) (h : Zm), X11 x1 h → zW p l e zrX7_counts s m args below meth c D base 4 (MQ below (zQv D base Q) args s 0 0 (zFree base)) 0 0 11 [some (.inr a0), some (.inl x1), none, none] [] h) (hX32 : ∀ (x2 : Int) (h : Zm), X32 x2 h → zW p l e zrX7_counts s m args below meth c D base 4 (MQ below (zQv D base Q) args s 0 0 (zFree base)) 0 0 32 [some (.inr a0), some (.inl x1), some (.inl x2), none] [] h) (H : mX7_counts_B32 X11 X32 a0 x1 x2 h Q) : zW p l e zrX7_counts s m args below meth c D base 4 (MQ below (zQv D base Q) args s 0 0 (zFree base)) 0 0 32 [some (.inr a0), some (.inl x1), some (.inl x2), none] [] h := by
  unfold mX7_counts_B32 at H
  refine z_iload_n (pc := 32) hc dX7_counts_32 rfl ?_
  refine z_aload_n (pc := 33) hc dX7_counts_33 rfl ?_
  refine z_getI (pc := 34) hc dX7_counts_34 zf_RX7_176 rfl rfl rfl H (fun v8 H => ?_)
  refine z_icmp_ge (tgt := 54) (pc := 37) hc dX7_counts_37 rfl H (fun H => ?_) (fun H => ?_)
  · refine z_aload_n (pc := 40) hc dX7_counts_40 rfl ?_
    refine z_iload_n (pc := 41) hc dX7_counts_41 rfl ?_
    refine z_calI (z_runV (pc := 42) (ci := 7) (T := TX7) (N := 20) hc dX7_counts_42 zw_RX7_179 (metX7_isInk _ _ _ H.2) rfl (Nat.le_of_ble_eq_true rfl) ⟨Nat.le_of_ble_eq_true rfl, Nat.le_of_ble_eq_true rfl⟩ ⟨by exact Nat.le_of_ble_eq_true rfl, by exact Nat.le_of_ble_eq_true rfl⟩ rfl H.1) rfl ⟨rfl, rfl⟩ (fun v11 h10 H => ?_)
    refine z_if_ne (tgt := 54) (pc := 45) hc dX7_counts_45 rfl H (fun H => ?_) (fun H => ?_)
    · refine z_iinc (pc := 48) hc dX7_counts_48 (by decide) rfl (ρ' := [some (.inr a0), some (.inl x1), some (.inl (x2 + 1)), none]) rfl ?_
      refine z_goto (tgt := 32) (pc := 51) hc dX7_counts_51 rfl ?_
      exact hX32 _ _ H
    · refine z_iload_n (pc := 54) hc dX7_counts_54 rfl ?_
      refine z_aload_n (pc := 55) hc dX7_counts_55 rfl ?_
      refine z_getI (pc := 56) hc dX7_counts_56 zf_RX7_176 rfl rfl rfl H (fun v12 H => ?_)
      refine z_icmp_ne (tgt := 134) (pc := 59) hc dX7_counts_59 rfl H (fun H => ?_) (fun H => ?_)
      · refine z_iconst (pc := 62) hc dX7_counts_62 ?_
        refine z_istore_n (pc := 63) hc dX7_counts_63 (by decide) (ρ' := [some (.inr a0), some (.inl x1), some (.inl x2), some (.inl 0)]) rfl ?_
        exact rX7_counts_H64 hc hX11 H
      · exact rX7_counts_J134 hc hX11 H
  · refine z_iload_n (pc := 54) hc dX7_counts_54 rfl ?_
    refine z_aload_n (pc := 55) hc dX7_counts_55 rfl ?_
    refine z_getI (pc := 56) hc dX7_counts_56 zf_RX7_176 rfl rfl rfl H (fun v9 H => ?_)
    refine z_icmp_ne (tgt := 134) (pc := 59) hc dX7_counts_59 rfl H (fun H => ?_) (fun H => ?_)
    · refine z_iconst (pc := 62) hc dX7_counts_62 ?_
      refine z_istore_n (pc := 63) hc dX7_counts_63 (by decide) (ρ' := [some (.inr a0), some (.inl x1), some (.inl x2), some (.inl 0)]) rfl ?_
      exact rX7_counts_H64 hc hX11 H
    · exact rX7_counts_J134 hc hX11 H
theorem rX7_counts_H32 (hc : zOk p s m args meth c D cX7_counts 4 RX7 none) {X11 : Int → Zm → Prop} {a0 : Nat} {x1 : Int} {x2 : Int} {h : Zm} {Q : Zm → Prop} (hX11 : ∀ (x1 : Int) (h : Zm), X11 x1 h → zW p l e zrX7_counts s m args below meth c D base 4 (MQ below (zQv D base Q) args s 0 0 (zFree base)) 0 0 11 [some (.inr a0), some (.inl x1), none, none] [] h) (H : mX7_counts_H32 X11 a0 x1 x2 h Q) : zW p l e zrX7_counts s m args below meth c D base 4 (MQ below (zQv D base Q) args s 0 0 (zFree base)) 0 0 32 [some (.inr a0), some (.inl x1), some (.inl x2), none] [] h :=
  H (fun x2 h => zW p l e zrX7_counts s m args below meth c D base 4 (MQ below (zQv D base Q) args s 0 0 (zFree base)) 0 0 32 [some (.inr a0), some (.inl x1), some (.inl x2), none] [] h) (fun x2 h H => rX7_counts_B32 hc hX11 (fun _ _ q => q) H)
set_option maxRecDepth 100000 in
set_option maxHeartbeats 4000000 in
theorem rX7_counts_B11 (hc : zOk p s m args meth c D cX7_counts 4 RX7 none) {X11 : Int → Zm → Prop} {a0 : Nat} {x1 : Int} {h : Zm} {Q : Zm → Prop} (hX11 : ∀ (x1 : Int) (h : Zm), X11 x1 h → zW p l e zrX7_counts s m args below meth c D base 4 (MQ below (zQv D base Q) args s 0 0 (zFree base)) 0 0 11 [some (.inr a0), some (.inl x1), none, none] [] h) (H : mX7_counts_B11 X11 a0 x1 h Q) : zW p l e zrX7_counts s m args below meth c D base 4 (MQ below (zQv D base Q) args s 0 0 (zFree base)) 0 0 11 [some (.inr a0), some (.inl x1), none, none] [] h := by
  unfold mX7_counts_B11 at H
  refine z_iload_n (pc := 11) hc dX7_counts_11 rfl ?_
  refine z_aload_n (pc := 12) hc dX7_counts_12 rfl ?_
  refine z_calI (z_runV (pc := 13) (ci := 7) (T := TX7) (N := 20) hc dX7_counts_13 zw_RX7_167 (metX7_pixels _ _ _ H.2) rfl (Nat.le_of_ble_eq_true rfl) ⟨Nat.le_of_ble_eq_true rfl, Nat.le_of_ble_eq_true rfl⟩ ⟨by exact Nat.le_of_ble_eq_true rfl, by exact Nat.le_of_ble_eq_true rfl⟩ rfl H.1) rfl ⟨rfl, rfl⟩ (fun v4 h3 H => ?_)
  refine z_icmp_ge (tgt := 156) (pc := 16) hc dX7_counts_16 rfl H (fun H => ?_) (fun H => ?_)
  · refine z_aload_n (pc := 19) hc dX7_counts_19 rfl ?_
    refine z_iload_n (pc := 20) hc dX7_counts_20 rfl ?_
    refine z_aload_n (pc := 21) hc dX7_counts_21 rfl ?_
    refine z_getR (pc := 22) hc dX7_counts_22 zf_RX7_7 rfl rfl rfl H (fun r5 H => ?_)
    refine z_iconst (pc := 25) hc dX7_counts_25 ?_
    refine z_iaload (pc := 26) hc dX7_counts_26 H (fun v6 H => ?_)
    refine z_calV0 (z_runV (pc := 27) (ci := 7) (T := TX7) (N := 20) hc dX7_counts_27 zw_RX7_170 (metX7_pixelAt _ _ _ H.2) rfl (Nat.le_of_ble_eq_true rfl) ⟨Nat.le_of_ble_eq_true rfl, Nat.le_of_ble_eq_true rfl⟩ ⟨by exact Nat.le_of_ble_eq_true rfl, by exact Nat.le_of_ble_eq_true rfl⟩ rfl H.1) rfl ⟨rfl, rfl⟩ (fun h7 H => ?_)
    refine z_iconst (pc := 30) hc dX7_counts_30 ?_
    refine z_istore_n (pc := 31) hc dX7_counts_31 (by decide) (ρ' := [some (.inr a0), some (.inl x1), some (.inl 0), none]) rfl ?_
    exact rX7_counts_H32 hc hX11 H
  · exact z_return (pc := 156) hc dX7_counts_156 H
theorem rX7_counts_H11 (hc : zOk p s m args meth c D cX7_counts 4 RX7 none)  {a0 : Nat} {x1 : Int} {h : Zm} {Q : Zm → Prop}  (H : mX7_counts_H11  a0 x1 h Q) : zW p l e zrX7_counts s m args below meth c D base 4 (MQ below (zQv D base Q) args s 0 0 (zFree base)) 0 0 11 [some (.inr a0), some (.inl x1), none, none] [] h :=
  H (fun x1 h => zW p l e zrX7_counts s m args below meth c D base 4 (MQ below (zQv D base Q) args s 0 0 (zFree base)) 0 0 11 [some (.inr a0), some (.inl x1), none, none] [] h) (fun x1 h H => rX7_counts_B11 hc (fun _ _ q => q) H)
set_option maxRecDepth 100000 in
set_option maxHeartbeats 4000000 in
theorem rX7_counts (hc : zOk p s m args meth c D cX7_counts 4 RX7 none) {a0 : Nat} {h : Zm} {Q : Zm → Prop} (H : mX7_counts a0 h Q) : zW p l e zrX7_counts s m args below meth c D base 4 (MQ below (zQv D base Q) args s 0 0 (zFree base)) 0 0 0 [some (.inr a0), none, none, none] [] h := by
  unfold mX7_counts at H
  refine z_aload_n (pc := 0) hc dX7_counts_0 rfl ?_
  refine z_calV0 (z_runV (pc := 1) (ci := 7) (T := TX7) (N := 20) hc dX7_counts_1 zw_RX7_152 (metX7_lays _ _ _ H.2) rfl (Nat.le_of_ble_eq_true rfl) ⟨Nat.le_of_ble_eq_true rfl, Nat.le_of_ble_eq_true rfl⟩ ⟨by exact Nat.le_of_ble_eq_true rfl, by exact Nat.le_of_ble_eq_true rfl⟩ rfl H.1) rfl ⟨rfl, rfl⟩ (fun h1 H => ?_)
  refine z_aload_n (pc := 4) hc dX7_counts_4 rfl ?_
  refine z_iconst (pc := 5) hc dX7_counts_5 ?_
  refine z_putI (pc := 6) hc dX7_counts_6 zf_RX7_176 rfl rfl rfl H (fun h2 H => ?_)
  refine z_iconst (pc := 9) hc dX7_counts_9 ?_
  refine z_istore_n (pc := 10) hc dX7_counts_10 (by decide) (ρ' := [some (.inr a0), some (.inl 0), none, none]) rfl ?_
  exact rX7_counts_H11 hc H
end
theorem metX7_counts (l : Launch) (D : Zd) (base : Nat) {a0 : Nat} {h : Zm} {Q : Zm → Prop} (H : mX7_counts a0 h Q) : zMet l D base yX7_counts cX7_counts 4 none zrX7_counts [.inr a0] h (zQv D base Q) :=
  z_met (by decide +kernel) (Nat.le_of_ble_eq_true rfl) (fun p e s m args below meth c hc hn => rX7_counts hc H)
def zrX7_isAhead : Room := { frames := 0, cells := 0, slots := 0, locals := 0 }
def mX7_isAhead_J159  (a0 : Nat) (x1 : Int) (x2 : Int) (x3 : Int) (h : Zm) (Q : Int → Zm → Prop) : Prop :=
  cGr h 17 a0 18 fun r21 => cLd h 1 r21 ((9 * x1) + x3) fun v22 => cGr h 17 a0 18 fun r23 => cLd h 1 r23 ((9 * x2) + x3) fun v24 => cLt v22 v24
  (Q 1 h)
  (Q 0 h)
def mX7_isAhead_B122 (X122 : Int → Zm → Prop) (a0 : Nat) (x1 : Int) (x2 : Int) (x3 : Int) (h : Zm) (Q : Int → Zm → Prop) : Prop :=
  cLt x3 6
  (cGr h 17 a0 18 fun r17 => cLd h 1 r17 ((9 * x1) + x3) fun v18 => cGr h 17 a0 18 fun r19 => cLd h 1 r19 ((9 * x2) + x3) fun v20 => cEq v18 v20
    (X122 (x3 + 1) h)
    (mX7_isAhead_J159  a0 x1 x2 x3 h Q))
  (mX7_isAhead_J159  a0 x1 x2 x3 h Q)
def mX7_isAhead_H122  (a0 : Nat) (x1 : Int) (x2 : Int) (x3 : Int) (h : Zm) (Q : Int → Zm → Prop) : Prop :=
  lfp1 (fun X122 x3 h => mX7_isAhead_B122 X122 a0 x1 x2 x3 h Q) x3 h
def mX7_isAhead (a0 : Nat) (x1 : Int) (x2 : Int) (h : Zm) (Q : Int → Zm → Prop) : Prop :=
  cGr h 17 a0 18 fun r1 => cLd h 1 r1 ((9 * x1) + 8) fun v2 => cGr h 17 a0 18 fun r3 => cLd h 1 r3 ((9 * x2) + 8) fun v4 => cEq v2 v4
  (cGr h 17 a0 18 fun r5 => cLd h 1 r5 ((9 * x1) + 7) fun v6 => cGr h 17 a0 18 fun r7 => cLd h 1 r7 ((9 * x2) + 7) fun v8 => cEq v6 v8
    (mX7_isAhead_H122  a0 x1 x2 0 h Q)
    (cGr h 17 a0 18 fun r9 => cLd h 1 r9 ((9 * x1) + 7) fun v10 => cGr h 17 a0 18 fun r11 => cLd h 1 r11 ((9 * x2) + 7) fun v12 => cLt v10 v12
      (Q 1 h)
      (Q 0 h)))
  (cGr h 17 a0 18 fun r13 => cLd h 1 r13 ((9 * x1) + 8) fun v14 => cGr h 17 a0 18 fun r15 => cLd h 1 r15 ((9 * x2) + 8) fun v16 => cLe v14 v16
    (Q 0 h)
    (Q 1 h))
section
variable {p : Program} {l : Launch} {e : Env} {s : State} {m : MethodId} {args : Array Value} {below : List Frame} {meth : Method} {c : Code} {D : Zd} {base : Nat}
set_option maxRecDepth 100000 in
set_option maxHeartbeats 4000000 in
theorem rX7_isAhead_J159 (hc : zOk p s m args meth c D cX7_isAhead 4 RX7 (some .boolean))  {a0 : Nat} {x1 : Int} {x2 : Int} {x3 : Int} {h : Zm} {Q : Int → Zm → Prop}  (H : mX7_isAhead_J159  a0 x1 x2 x3 h Q) : zW p l e zrX7_isAhead s m args below meth c D base 4 (MQ below (zQi D base Q) args s 0 0 (zFree base)) 0 0 159 [some (.inr a0), some (.inl x1), some (.inl x2), some (.inl x3)] [] h := by
  unfold mX7_isAhead_J159 at H
  refine z_aload_n (pc := 159) hc dX7_isAhead_159 rfl ?_
  refine z_getR (pc := 160) hc dX7_isAhead_160 zf_RX7_59 rfl rfl rfl H (fun r21 H => ?_)
  refine z_bipush (pc := 163) hc dX7_isAhead_163 (by decide) ?_
  refine z_iload_n (pc := 165) hc dX7_isAhead_165 rfl ?_
  refine z_imul (pc := 166) hc dX7_isAhead_166 ?_
  refine z_iload_n (pc := 167) hc dX7_isAhead_167 rfl ?_
  refine z_iadd (pc := 168) hc dX7_isAhead_168 ?_
  refine z_iaload (pc := 169) hc dX7_isAhead_169 H (fun v22 H => ?_)
  refine z_aload_n (pc := 170) hc dX7_isAhead_170 rfl ?_
  refine z_getR (pc := 171) hc dX7_isAhead_171 zf_RX7_59 rfl rfl rfl H (fun r23 H => ?_)
  refine z_bipush (pc := 174) hc dX7_isAhead_174 (by decide) ?_
  refine z_iload_n (pc := 176) hc dX7_isAhead_176 rfl ?_
  refine z_imul (pc := 177) hc dX7_isAhead_177 ?_
  refine z_iload_n (pc := 178) hc dX7_isAhead_178 rfl ?_
  refine z_iadd (pc := 179) hc dX7_isAhead_179 ?_
  refine z_iaload (pc := 180) hc dX7_isAhead_180 H (fun v24 H => ?_)
  refine z_icmp_ge (tgt := 188) (pc := 181) hc dX7_isAhead_181 rfl H (fun H => ?_) (fun H => ?_)
  · refine z_iconst (pc := 184) hc dX7_isAhead_184 ?_
    refine z_goto (tgt := 189) (pc := 185) hc dX7_isAhead_185 rfl ?_
    exact z_zreturn (pc := 189) hc dX7_isAhead_189 ⟨Or.inr rfl, H⟩
  · refine z_iconst (pc := 188) hc dX7_isAhead_188 ?_
    exact z_zreturn (pc := 189) hc dX7_isAhead_189 ⟨Or.inl rfl, H⟩
set_option maxRecDepth 100000 in
set_option maxHeartbeats 4000000 in
theorem rX7_isAhead_B122 (hc : zOk p s m args meth c D cX7_isAhead 4 RX7 (some .boolean)) {X122 : Int → Zm → Prop} {a0 : Nat} {x1 : Int} {x2 : Int} {x3 : Int} {h : Zm} {Q : Int → Zm → Prop} (hX122 : ∀ (x3 : Int) (h : Zm), X122 x3 h → zW p l e zrX7_isAhead s m args below meth c D base 4 (MQ below (zQi D base Q) args s 0 0 (zFree base)) 0 0 122 [some (.inr a0), some (.inl x1), some (.inl x2), some (.inl x3)] [] h) (H : mX7_isAhead_B122 X122 a0 x1 x2 x3 h Q) : zW p l e zrX7_isAhead s m args below meth c D base 4 (MQ below (zQi D base Q) args s 0 0 (zFree base)) 0 0 122 [some (.inr a0), some (.inl x1), some (.inl x2), some (.inl x3)] [] h := by
  unfold mX7_isAhead_B122 at H
  refine z_iload_n (pc := 122) hc dX7_isAhead_122 rfl ?_
  refine z_bipush (pc := 123) hc dX7_isAhead_123 (by decide) ?_
  refine z_icmp_ge (tgt := 159) (pc := 125) hc dX7_isAhead_125 rfl H (fun H => ?_) (fun H => ?_)
  · refine z_aload_n (pc := 128) hc dX7_isAhead_128 rfl ?_
    refine z_getR (pc := 129) hc dX7_isAhead_129 zf_RX7_59 rfl rfl rfl H (fun r17 H => ?_)
    refine z_bipush (pc := 132) hc dX7_isAhead_132 (by decide) ?_
    refine z_iload_n (pc := 134) hc dX7_isAhead_134 rfl ?_
    refine z_imul (pc := 135) hc dX7_isAhead_135 ?_
    refine z_iload_n (pc := 136) hc dX7_isAhead_136 rfl ?_
    refine z_iadd (pc := 137) hc dX7_isAhead_137 ?_
    refine z_iaload (pc := 138) hc dX7_isAhead_138 H (fun v18 H => ?_)
    refine z_aload_n (pc := 139) hc dX7_isAhead_139 rfl ?_
    refine z_getR (pc := 140) hc dX7_isAhead_140 zf_RX7_59 rfl rfl rfl H (fun r19 H => ?_)
    refine z_bipush (pc := 143) hc dX7_isAhead_143 (by decide) ?_
    refine z_iload_n (pc := 145) hc dX7_isAhead_145 rfl ?_
    refine z_imul (pc := 146) hc dX7_isAhead_146 ?_
    refine z_iload_n (pc := 147) hc dX7_isAhead_147 rfl ?_
    refine z_iadd (pc := 148) hc dX7_isAhead_148 ?_
    refine z_iaload (pc := 149) hc dX7_isAhead_149 H (fun v20 H => ?_)
    refine z_icmp_ne (tgt := 159) (pc := 150) hc dX7_isAhead_150 rfl H (fun H => ?_) (fun H => ?_)
    · refine z_iinc (pc := 153) hc dX7_isAhead_153 (by decide) rfl (ρ' := [some (.inr a0), some (.inl x1), some (.inl x2), some (.inl (x3 + 1))]) rfl ?_
      refine z_goto (tgt := 122) (pc := 156) hc dX7_isAhead_156 rfl ?_
      exact hX122 _ _ H
    · exact rX7_isAhead_J159 hc H
  · exact rX7_isAhead_J159 hc H
theorem rX7_isAhead_H122 (hc : zOk p s m args meth c D cX7_isAhead 4 RX7 (some .boolean))  {a0 : Nat} {x1 : Int} {x2 : Int} {x3 : Int} {h : Zm} {Q : Int → Zm → Prop}  (H : mX7_isAhead_H122  a0 x1 x2 x3 h Q) : zW p l e zrX7_isAhead s m args below meth c D base 4 (MQ below (zQi D base Q) args s 0 0 (zFree base)) 0 0 122 [some (.inr a0), some (.inl x1), some (.inl x2), some (.inl x3)] [] h :=
  H (fun x3 h => zW p l e zrX7_isAhead s m args below meth c D base 4 (MQ below (zQi D base Q) args s 0 0 (zFree base)) 0 0 122 [some (.inr a0), some (.inl x1), some (.inl x2), some (.inl x3)] [] h) (fun x3 h H => rX7_isAhead_B122 hc (fun _ _ q => q) H)
set_option maxRecDepth 100000 in
set_option maxHeartbeats 4000000 in
theorem rX7_isAhead (hc : zOk p s m args meth c D cX7_isAhead 4 RX7 (some .boolean)) {a0 : Nat} {x1 : Int} {x2 : Int} {h : Zm} {Q : Int → Zm → Prop} (H : mX7_isAhead a0 x1 x2 h Q) : zW p l e zrX7_isAhead s m args below meth c D base 4 (MQ below (zQi D base Q) args s 0 0 (zFree base)) 0 0 0 [some (.inr a0), some (.inl x1), some (.inl x2), none] [] h := by
  unfold mX7_isAhead at H
  refine z_aload_n (pc := 0) hc dX7_isAhead_0 rfl ?_
  refine z_getR (pc := 1) hc dX7_isAhead_1 zf_RX7_59 rfl rfl rfl H (fun r1 H => ?_)
  refine z_bipush (pc := 4) hc dX7_isAhead_4 (by decide) ?_
  refine z_iload_n (pc := 6) hc dX7_isAhead_6 rfl ?_
  refine z_imul (pc := 7) hc dX7_isAhead_7 ?_
  refine z_bipush (pc := 8) hc dX7_isAhead_8 (by decide) ?_
  refine z_iadd (pc := 10) hc dX7_isAhead_10 ?_
  refine z_iaload (pc := 11) hc dX7_isAhead_11 H (fun v2 H => ?_)
  refine z_aload_n (pc := 12) hc dX7_isAhead_12 rfl ?_
  refine z_getR (pc := 13) hc dX7_isAhead_13 zf_RX7_59 rfl rfl rfl H (fun r3 H => ?_)
  refine z_bipush (pc := 16) hc dX7_isAhead_16 (by decide) ?_
  refine z_iload_n (pc := 18) hc dX7_isAhead_18 rfl ?_
  refine z_imul (pc := 19) hc dX7_isAhead_19 ?_
  refine z_bipush (pc := 20) hc dX7_isAhead_20 (by decide) ?_
  refine z_iadd (pc := 22) hc dX7_isAhead_22 ?_
  refine z_iaload (pc := 23) hc dX7_isAhead_23 H (fun v4 H => ?_)
  refine z_icmp_eq (tgt := 60) (pc := 24) hc dX7_isAhead_24 rfl H (fun H => ?_) (fun H => ?_)
  · refine z_aload_n (pc := 60) hc dX7_isAhead_60 rfl ?_
    refine z_getR (pc := 61) hc dX7_isAhead_61 zf_RX7_59 rfl rfl rfl H (fun r5 H => ?_)
    refine z_bipush (pc := 64) hc dX7_isAhead_64 (by decide) ?_
    refine z_iload_n (pc := 66) hc dX7_isAhead_66 rfl ?_
    refine z_imul (pc := 67) hc dX7_isAhead_67 ?_
    refine z_bipush (pc := 68) hc dX7_isAhead_68 (by decide) ?_
    refine z_iadd (pc := 70) hc dX7_isAhead_70 ?_
    refine z_iaload (pc := 71) hc dX7_isAhead_71 H (fun v6 H => ?_)
    refine z_aload_n (pc := 72) hc dX7_isAhead_72 rfl ?_
    refine z_getR (pc := 73) hc dX7_isAhead_73 zf_RX7_59 rfl rfl rfl H (fun r7 H => ?_)
    refine z_bipush (pc := 76) hc dX7_isAhead_76 (by decide) ?_
    refine z_iload_n (pc := 78) hc dX7_isAhead_78 rfl ?_
    refine z_imul (pc := 79) hc dX7_isAhead_79 ?_
    refine z_bipush (pc := 80) hc dX7_isAhead_80 (by decide) ?_
    refine z_iadd (pc := 82) hc dX7_isAhead_82 ?_
    refine z_iaload (pc := 83) hc dX7_isAhead_83 H (fun v8 H => ?_)
    refine z_icmp_eq (tgt := 120) (pc := 84) hc dX7_isAhead_84 rfl H (fun H => ?_) (fun H => ?_)
    · refine z_iconst (pc := 120) hc dX7_isAhead_120 ?_
      refine z_istore_n (pc := 121) hc dX7_isAhead_121 (by decide) (ρ' := [some (.inr a0), some (.inl x1), some (.inl x2), some (.inl 0)]) rfl ?_
      exact rX7_isAhead_H122 hc H
    · refine z_aload_n (pc := 87) hc dX7_isAhead_87 rfl ?_
      refine z_getR (pc := 88) hc dX7_isAhead_88 zf_RX7_59 rfl rfl rfl H (fun r9 H => ?_)
      refine z_bipush (pc := 91) hc dX7_isAhead_91 (by decide) ?_
      refine z_iload_n (pc := 93) hc dX7_isAhead_93 rfl ?_
      refine z_imul (pc := 94) hc dX7_isAhead_94 ?_
      refine z_bipush (pc := 95) hc dX7_isAhead_95 (by decide) ?_
      refine z_iadd (pc := 97) hc dX7_isAhead_97 ?_
      refine z_iaload (pc := 98) hc dX7_isAhead_98 H (fun v10 H => ?_)
      refine z_aload_n (pc := 99) hc dX7_isAhead_99 rfl ?_
      refine z_getR (pc := 100) hc dX7_isAhead_100 zf_RX7_59 rfl rfl rfl H (fun r11 H => ?_)
      refine z_bipush (pc := 103) hc dX7_isAhead_103 (by decide) ?_
      refine z_iload_n (pc := 105) hc dX7_isAhead_105 rfl ?_
      refine z_imul (pc := 106) hc dX7_isAhead_106 ?_
      refine z_bipush (pc := 107) hc dX7_isAhead_107 (by decide) ?_
      refine z_iadd (pc := 109) hc dX7_isAhead_109 ?_
      refine z_iaload (pc := 110) hc dX7_isAhead_110 H (fun v12 H => ?_)
      refine z_icmp_ge (tgt := 118) (pc := 111) hc dX7_isAhead_111 rfl H (fun H => ?_) (fun H => ?_)
      · refine z_iconst (pc := 114) hc dX7_isAhead_114 ?_
        refine z_goto (tgt := 119) (pc := 115) hc dX7_isAhead_115 rfl ?_
        exact z_zreturn (pc := 119) hc dX7_isAhead_119 ⟨Or.inr rfl, H⟩
      · refine z_iconst (pc := 118) hc dX7_isAhead_118 ?_
        exact z_zreturn (pc := 119) hc dX7_isAhead_119 ⟨Or.inl rfl, H⟩
  · refine z_aload_n (pc := 27) hc dX7_isAhead_27 rfl ?_
    refine z_getR (pc := 28) hc dX7_isAhead_28 zf_RX7_59 rfl rfl rfl H (fun r13 H => ?_)
    refine z_bipush (pc := 31) hc dX7_isAhead_31 (by decide) ?_
    refine z_iload_n (pc := 33) hc dX7_isAhead_33 rfl ?_
    refine z_imul (pc := 34) hc dX7_isAhead_34 ?_
    refine z_bipush (pc := 35) hc dX7_isAhead_35 (by decide) ?_
    refine z_iadd (pc := 37) hc dX7_isAhead_37 ?_
    refine z_iaload (pc := 38) hc dX7_isAhead_38 H (fun v14 H => ?_)
    refine z_aload_n (pc := 39) hc dX7_isAhead_39 rfl ?_
    refine z_getR (pc := 40) hc dX7_isAhead_40 zf_RX7_59 rfl rfl rfl H (fun r15 H => ?_)
    refine z_bipush (pc := 43) hc dX7_isAhead_43 (by decide) ?_
    refine z_iload_n (pc := 45) hc dX7_isAhead_45 rfl ?_
    refine z_imul (pc := 46) hc dX7_isAhead_46 ?_
    refine z_bipush (pc := 47) hc dX7_isAhead_47 (by decide) ?_
    refine z_iadd (pc := 49) hc dX7_isAhead_49 ?_
    refine z_iaload (pc := 50) hc dX7_isAhead_50 H (fun v16 H => ?_)
    refine z_icmp_le (tgt := 58) (pc := 51) hc dX7_isAhead_51 rfl H (fun H => ?_) (fun H => ?_)
    · refine z_iconst (pc := 58) hc dX7_isAhead_58 ?_
      exact z_zreturn (pc := 59) hc dX7_isAhead_59 ⟨Or.inl rfl, H⟩
    · refine z_iconst (pc := 54) hc dX7_isAhead_54 ?_
      refine z_goto (tgt := 59) (pc := 55) hc dX7_isAhead_55 rfl ?_
      exact z_zreturn (pc := 59) hc dX7_isAhead_59 ⟨Or.inr rfl, H⟩
end
theorem metX7_isAhead (l : Launch) (D : Zd) (base : Nat) {a0 : Nat} {x1 : Int} {x2 : Int} {h : Zm} {Q : Int → Zm → Prop} (H : mX7_isAhead a0 x1 x2 h Q) : zMet l D base yX7_isAhead cX7_isAhead 4 (some .boolean) zrX7_isAhead [.inr a0, .inl x1, .inl x2] h (zQi D base Q) :=
  z_met (by decide +kernel) (Nat.le_of_ble_eq_true rfl) (fun p e s m args below meth c hc hn => rX7_isAhead hc H)
def zrX7_inkCount : Room := { frames := 6, cells := 0, slots := 0, locals := 137 }
def mX7_inkCount (a0 : Nat) (h : Zm) (Q : Int → Zm → Prop) : Prop :=
  cRc h 17 a0 <| mX7_counts a0 h fun h1 => cGi h1 17 a0 19 fun v2 => Q v2 h1
section
variable {p : Program} {l : Launch} {e : Env} {s : State} {m : MethodId} {args : Array Value} {below : List Frame} {meth : Method} {c : Code} {D : Zd} {base : Nat}
set_option maxRecDepth 100000 in
set_option maxHeartbeats 4000000 in
theorem rX7_inkCount (hc : zOk p s m args meth c D cX7_inkCount 1 RX7 (some .int)) {a0 : Nat} {h : Zm} {Q : Int → Zm → Prop} (H : mX7_inkCount a0 h Q) : zW p l e zrX7_inkCount s m args below meth c D base 1 (MQ below (zQi D base Q) args s 0 0 (zFree base)) 0 0 0 [some (.inr a0)] [] h := by
  unfold mX7_inkCount at H
  refine z_aload_n (pc := 0) hc dX7_inkCount_0 rfl ?_
  refine z_calV0 (z_runV (pc := 1) (ci := 7) (T := TX7) (N := 20) hc dX7_inkCount_1 zw_RX7_182 (metX7_counts _ _ _ H.2) rfl (Nat.le_of_ble_eq_true rfl) ⟨Nat.le_of_ble_eq_true rfl, Nat.le_of_ble_eq_true rfl⟩ ⟨by exact Nat.le_of_ble_eq_true rfl, by exact Nat.le_of_ble_eq_true rfl⟩ rfl H.1) rfl ⟨rfl, rfl⟩ (fun h1 H => ?_)
  refine z_aload_n (pc := 4) hc dX7_inkCount_4 rfl ?_
  refine z_getI (pc := 5) hc dX7_inkCount_5 zf_RX7_176 rfl rfl rfl H (fun v2 H => ?_)
  exact z_ireturn (pc := 8) hc dX7_inkCount_8 H
end
theorem metX7_inkCount (l : Launch) (D : Zd) (base : Nat) {a0 : Nat} {h : Zm} {Q : Int → Zm → Prop} (H : mX7_inkCount a0 h Q) : zMet l D base yX7_inkCount cX7_inkCount 1 (some .int) zrX7_inkCount [.inr a0] h (zQi D base Q) :=
  z_met (by decide +kernel) (Nat.le_of_ble_eq_true rfl) (fun p e s m args below meth c hc hn => rX7_inkCount hc H)
def zrX7_inkAt : Room := { frames := 6, cells := 0, slots := 0, locals := 137 }
def mX7_inkAt_B41 (X26 : Int → Int → Zm → Prop) (X41 : Int → Int → Zm → Prop) (a0 : Nat) (x1 : Int) (x2 : Int) (x3 : Int) (x4 : Int) (x5 : Int) (x6 : Int) (h : Zm) (Q : Int → Zm → Prop) : Prop :=
  cGi h 17 a0 19 fun v5 => cLt x6 v5
  (cEq x6 x4
    (X41 (x5 + 0) (x6 + 1) h)
    (cRc h 17 a0 <| mX7_isAhead a0 x6 x4 h fun v9 h8 => cEq v9 0
      (X41 (x5 + 0) (x6 + 1) h8)
      (X41 (x5 + 1) (x6 + 1) h8)))
  (cEq x5 x1
    (cGr h 17 a0 18 fun r6 => cLd h 1 r6 ((9 * x4) + x2) fun v7 => X26 v7 (x4 + 1) h)
    (X26 x3 (x4 + 1) h))
def mX7_inkAt_H41 (X26 : Int → Int → Zm → Prop) (a0 : Nat) (x1 : Int) (x2 : Int) (x3 : Int) (x4 : Int) (x5 : Int) (x6 : Int) (h : Zm) (Q : Int → Zm → Prop) : Prop :=
  lfp2 (fun X41 x5 x6 h => mX7_inkAt_B41 X26 X41 a0 x1 x2 x3 x4 x5 x6 h Q) x5 x6 h
def mX7_inkAt_B26 (X26 : Int → Int → Zm → Prop) (a0 : Nat) (x1 : Int) (x2 : Int) (x3 : Int) (x4 : Int) (h : Zm) (Q : Int → Zm → Prop) : Prop :=
  cGi h 17 a0 19 fun v4 => cLt x4 v4
  (mX7_inkAt_H41 X26 a0 x1 x2 x3 x4 0 0 h Q)
  (Q x3 h)
def mX7_inkAt_H26  (a0 : Nat) (x1 : Int) (x2 : Int) (x3 : Int) (x4 : Int) (h : Zm) (Q : Int → Zm → Prop) : Prop :=
  lfp2 (fun X26 x3 x4 h => mX7_inkAt_B26 X26 a0 x1 x2 x3 x4 h Q) x3 x4 h
def mX7_inkAt (a0 : Nat) (x1 : Int) (x2 : Int) (h : Zm) (Q : Int → Zm → Prop) : Prop :=
  cLt x1 0
  (Q (-1) h)
  (mX7_in x2 0 8 h fun v2 h1 => cEq v2 0
    (Q (-1) h1)
    (cRc h1 17 a0 <| mX7_counts a0 h1 fun h3 => mX7_inkAt_H26  a0 x1 x2 (-4) 0 h3 Q))
section
variable {p : Program} {l : Launch} {e : Env} {s : State} {m : MethodId} {args : Array Value} {below : List Frame} {meth : Method} {c : Code} {D : Zd} {base : Nat}
set_option maxRecDepth 100000 in
set_option maxHeartbeats 4000000 in
theorem rX7_inkAt_B41 (hc : zOk p s m args meth c D cX7_inkAt 7 RX7 (some .int)) {X26 : Int → Int → Zm → Prop} {X41 : Int → Int → Zm → Prop} {a0 : Nat} {x1 : Int} {x2 : Int} {x3 : Int} {x4 : Int} {x5 : Int} {x6 : Int} {h : Zm} {Q : Int → Zm → Prop} (hX26 : ∀ (x3 : Int) (x4 : Int) (h : Zm), X26 x3 x4 h → zW p l e zrX7_inkAt s m args below meth c D base 7 (MQ below (zQi D base Q) args s 0 0 (zFree base)) 0 0 26 [some (.inr a0), some (.inl x1), some (.inl x2), some (.inl x3), some (.inl x4), none, none] [] h) (hX41 : ∀ (x5 : Int) (x6 : Int) (h : Zm), X41 x5 x6 h → zW p l e zrX7_inkAt s m args below meth c D base 7 (MQ below (zQi D base Q) args s 0 0 (zFree base)) 0 0 41 [some (.inr a0), some (.inl x1), some (.inl x2), some (.inl x3), some (.inl x4), some (.inl x5), some (.inl x6)] [] h) (H : mX7_inkAt_B41 X26 X41 a0 x1 x2 x3 x4 x5 x6 h Q) : zW p l e zrX7_inkAt s m args below meth c D base 7 (MQ below (zQi D base Q) args s 0 0 (zFree base)) 0 0 41 [some (.inr a0), some (.inl x1), some (.inl x2), some (.inl x3), some (.inl x4), some (.inl x5), some (.inl x6)] [] h := by
  unfold mX7_inkAt_B41 at H
  refine z_iload (pc := 41) hc dX7_inkAt_41 rfl ?_
  refine z_aload_n (pc := 43) hc dX7_inkAt_43 rfl ?_
  refine z_getI (pc := 44) hc dX7_inkAt_44 zf_RX7_176 rfl rfl rfl H (fun v5 H => ?_)
  refine z_icmp_ge (tgt := 84) (pc := 47) hc dX7_inkAt_47 rfl H (fun H => ?_) (fun H => ?_)
  · refine z_iload (pc := 50) hc dX7_inkAt_50 rfl ?_
    refine z_iload (pc := 52) hc dX7_inkAt_52 rfl ?_
    refine z_iload (pc := 54) hc dX7_inkAt_54 rfl ?_
    refine z_icmp_eq (tgt := 74) (pc := 56) hc dX7_inkAt_56 rfl H (fun H => ?_) (fun H => ?_)
    · refine z_iconst (pc := 74) hc dX7_inkAt_74 ?_
      refine z_iadd (pc := 75) hc dX7_inkAt_75 ?_
      refine z_istore (pc := 76) hc dX7_inkAt_76 (by decide) (ρ' := [some (.inr a0), some (.inl x1), some (.inl x2), some (.inl x3), some (.inl x4), some (.inl (x5 + 0)), some (.inl x6)]) rfl ?_
      refine z_iinc (pc := 78) hc dX7_inkAt_78 (by decide) rfl (ρ' := [some (.inr a0), some (.inl x1), some (.inl x2), some (.inl x3), some (.inl x4), some (.inl (x5 + 0)), some (.inl (x6 + 1))]) rfl ?_
      refine z_goto (tgt := 41) (pc := 81) hc dX7_inkAt_81 rfl ?_
      exact hX41 _ _ _ H
    · refine z_aload_n (pc := 59) hc dX7_inkAt_59 rfl ?_
      refine z_iload (pc := 60) hc dX7_inkAt_60 rfl ?_
      refine z_iload (pc := 62) hc dX7_inkAt_62 rfl ?_
      refine z_calI (z_runV (pc := 64) (ci := 7) (T := TX7) (N := 20) hc dX7_inkAt_64 zw_RX7_185 (metX7_isAhead _ _ _ H.2) rfl (Nat.le_of_ble_eq_true rfl) ⟨Nat.le_of_ble_eq_true rfl, Nat.le_of_ble_eq_true rfl⟩ ⟨by exact Nat.le_of_ble_eq_true rfl, by exact Nat.le_of_ble_eq_true rfl⟩ rfl H.1) rfl ⟨rfl, rfl⟩ (fun v9 h8 H => ?_)
      refine z_if_eq (tgt := 74) (pc := 67) hc dX7_inkAt_67 rfl H (fun H => ?_) (fun H => ?_)
      · refine z_iconst (pc := 74) hc dX7_inkAt_74 ?_
        refine z_iadd (pc := 75) hc dX7_inkAt_75 ?_
        refine z_istore (pc := 76) hc dX7_inkAt_76 (by decide) (ρ' := [some (.inr a0), some (.inl x1), some (.inl x2), some (.inl x3), some (.inl x4), some (.inl (x5 + 0)), some (.inl x6)]) rfl ?_
        refine z_iinc (pc := 78) hc dX7_inkAt_78 (by decide) rfl (ρ' := [some (.inr a0), some (.inl x1), some (.inl x2), some (.inl x3), some (.inl x4), some (.inl (x5 + 0)), some (.inl (x6 + 1))]) rfl ?_
        refine z_goto (tgt := 41) (pc := 81) hc dX7_inkAt_81 rfl ?_
        exact hX41 _ _ _ H
      · refine z_iconst (pc := 70) hc dX7_inkAt_70 ?_
        refine z_goto (tgt := 75) (pc := 71) hc dX7_inkAt_71 rfl ?_
        refine z_iadd (pc := 75) hc dX7_inkAt_75 ?_
        refine z_istore (pc := 76) hc dX7_inkAt_76 (by decide) (ρ' := [some (.inr a0), some (.inl x1), some (.inl x2), some (.inl x3), some (.inl x4), some (.inl (x5 + 1)), some (.inl x6)]) rfl ?_
        refine z_iinc (pc := 78) hc dX7_inkAt_78 (by decide) rfl (ρ' := [some (.inr a0), some (.inl x1), some (.inl x2), some (.inl x3), some (.inl x4), some (.inl (x5 + 1)), some (.inl (x6 + 1))]) rfl ?_
        refine z_goto (tgt := 41) (pc := 81) hc dX7_inkAt_81 rfl ?_
        exact hX41 _ _ _ H
  · refine z_iload (pc := 84) hc dX7_inkAt_84 rfl ?_
    refine z_iload_n (pc := 86) hc dX7_inkAt_86 rfl ?_
    refine z_icmp_ne (tgt := 105) (pc := 87) hc dX7_inkAt_87 rfl H (fun H => ?_) (fun H => ?_)
    · refine z_aload_n (pc := 90) hc dX7_inkAt_90 rfl ?_
      refine z_getR (pc := 91) hc dX7_inkAt_91 zf_RX7_59 rfl rfl rfl H (fun r6 H => ?_)
      refine z_bipush (pc := 94) hc dX7_inkAt_94 (by decide) ?_
      refine z_iload (pc := 96) hc dX7_inkAt_96 rfl ?_
      refine z_imul (pc := 98) hc dX7_inkAt_98 ?_
      refine z_iload_n (pc := 99) hc dX7_inkAt_99 rfl ?_
      refine z_iadd (pc := 100) hc dX7_inkAt_100 ?_
      refine z_iaload (pc := 101) hc dX7_inkAt_101 H (fun v7 H => ?_)
      refine z_goto (tgt := 106) (pc := 102) hc dX7_inkAt_102 rfl ?_
      refine z_istore_n (pc := 106) hc dX7_inkAt_106 (by decide) (ρ' := [some (.inr a0), some (.inl x1), some (.inl x2), some (.inl v7), some (.inl x4), some (.inl x5), some (.inl x6)]) rfl ?_
      refine z_iinc (pc := 107) hc dX7_inkAt_107 (by decide) rfl (ρ' := [some (.inr a0), some (.inl x1), some (.inl x2), some (.inl v7), some (.inl (x4 + 1)), some (.inl x5), some (.inl x6)]) rfl ?_
      refine z_goto (tgt := 26) (pc := 110) hc dX7_inkAt_110 rfl ?_
      refine z_mask [true, true, true, true, true, false, false] (ρ' := [some (.inr a0), some (.inl x1), some (.inl x2), some (.inl v7), some (.inl (x4 + 1)), none, none]) rfl ?_
      exact hX26 _ _ _ H
    · refine z_iload_n (pc := 105) hc dX7_inkAt_105 rfl ?_
      refine z_istore_n (pc := 106) hc dX7_inkAt_106 (by decide) (ρ' := [some (.inr a0), some (.inl x1), some (.inl x2), some (.inl x3), some (.inl x4), some (.inl x5), some (.inl x6)]) rfl ?_
      refine z_iinc (pc := 107) hc dX7_inkAt_107 (by decide) rfl (ρ' := [some (.inr a0), some (.inl x1), some (.inl x2), some (.inl x3), some (.inl (x4 + 1)), some (.inl x5), some (.inl x6)]) rfl ?_
      refine z_goto (tgt := 26) (pc := 110) hc dX7_inkAt_110 rfl ?_
      refine z_mask [true, true, true, true, true, false, false] (ρ' := [some (.inr a0), some (.inl x1), some (.inl x2), some (.inl x3), some (.inl (x4 + 1)), none, none]) rfl ?_
      exact hX26 _ _ _ H
theorem rX7_inkAt_H41 (hc : zOk p s m args meth c D cX7_inkAt 7 RX7 (some .int)) {X26 : Int → Int → Zm → Prop} {a0 : Nat} {x1 : Int} {x2 : Int} {x3 : Int} {x4 : Int} {x5 : Int} {x6 : Int} {h : Zm} {Q : Int → Zm → Prop} (hX26 : ∀ (x3 : Int) (x4 : Int) (h : Zm), X26 x3 x4 h → zW p l e zrX7_inkAt s m args below meth c D base 7 (MQ below (zQi D base Q) args s 0 0 (zFree base)) 0 0 26 [some (.inr a0), some (.inl x1), some (.inl x2), some (.inl x3), some (.inl x4), none, none] [] h) (H : mX7_inkAt_H41 X26 a0 x1 x2 x3 x4 x5 x6 h Q) : zW p l e zrX7_inkAt s m args below meth c D base 7 (MQ below (zQi D base Q) args s 0 0 (zFree base)) 0 0 41 [some (.inr a0), some (.inl x1), some (.inl x2), some (.inl x3), some (.inl x4), some (.inl x5), some (.inl x6)] [] h :=
  H (fun x5 x6 h => zW p l e zrX7_inkAt s m args below meth c D base 7 (MQ below (zQi D base Q) args s 0 0 (zFree base)) 0 0 41 [some (.inr a0), some (.inl x1), some (.inl x2), some (.inl x3), some (.inl x4), some (.inl x5), some (.inl x6)] [] h) (fun x5 x6 h H => rX7_inkAt_B41 hc hX26 (fun _ _ _ q => q) H)
set_option maxRecDepth 100000 in
set_option maxHeartbeats 4000000 in
theorem rX7_inkAt_B26 (hc : zOk p s m args meth c D cX7_inkAt 7 RX7 (some .int)) {X26 : Int → Int → Zm → Prop} {a0 : Nat} {x1 : Int} {x2 : Int} {x3 : Int} {x4 : Int} {h : Zm} {Q : Int → Zm → Prop} (hX26 : ∀ (x3 : Int) (x4 : Int) (h : Zm), X26 x3 x4 h → zW p l e zrX7_inkAt s m args below meth c D base 7 (MQ below (zQi D base Q) args s 0 0 (zFree base)) 0 0 26 [some (.inr a0), some (.inl x1), some (.inl x2), some (.inl x3), some (.inl x4), none, none] [] h) (H : mX7_inkAt_B26 X26 a0 x1 x2 x3 x4 h Q) : zW p l e zrX7_inkAt s m args below meth c D base 7 (MQ below (zQi D base Q) args s 0 0 (zFree base)) 0 0 26 [some (.inr a0), some (.inl x1), some (.inl x2), some (.inl x3), some (.inl x4), none, none] [] h := by
  unfold mX7_inkAt_B26 at H
  refine z_iload (pc := 26) hc dX7_inkAt_26 rfl ?_
  refine z_aload_n (pc := 28) hc dX7_inkAt_28 rfl ?_
  refine z_getI (pc := 29) hc dX7_inkAt_29 zf_RX7_176 rfl rfl rfl H (fun v4 H => ?_)
  refine z_icmp_ge (tgt := 113) (pc := 32) hc dX7_inkAt_32 rfl H (fun H => ?_) (fun H => ?_)
  · refine z_iconst (pc := 35) hc dX7_inkAt_35 ?_
    refine z_istore (pc := 36) hc dX7_inkAt_36 (by decide) (ρ' := [some (.inr a0), some (.inl x1), some (.inl x2), some (.inl x3), some (.inl x4), some (.inl 0), none]) rfl ?_
    refine z_iconst (pc := 38) hc dX7_inkAt_38 ?_
    refine z_istore (pc := 39) hc dX7_inkAt_39 (by decide) (ρ' := [some (.inr a0), some (.inl x1), some (.inl x2), some (.inl x3), some (.inl x4), some (.inl 0), some (.inl 0)]) rfl ?_
    exact rX7_inkAt_H41 hc hX26 H
  · refine z_iload_n (pc := 113) hc dX7_inkAt_113 rfl ?_
    exact z_ireturn (pc := 114) hc dX7_inkAt_114 H
theorem rX7_inkAt_H26 (hc : zOk p s m args meth c D cX7_inkAt 7 RX7 (some .int))  {a0 : Nat} {x1 : Int} {x2 : Int} {x3 : Int} {x4 : Int} {h : Zm} {Q : Int → Zm → Prop}  (H : mX7_inkAt_H26  a0 x1 x2 x3 x4 h Q) : zW p l e zrX7_inkAt s m args below meth c D base 7 (MQ below (zQi D base Q) args s 0 0 (zFree base)) 0 0 26 [some (.inr a0), some (.inl x1), some (.inl x2), some (.inl x3), some (.inl x4), none, none] [] h :=
  H (fun x3 x4 h => zW p l e zrX7_inkAt s m args below meth c D base 7 (MQ below (zQi D base Q) args s 0 0 (zFree base)) 0 0 26 [some (.inr a0), some (.inl x1), some (.inl x2), some (.inl x3), some (.inl x4), none, none] [] h) (fun x3 x4 h H => rX7_inkAt_B26 hc (fun _ _ _ q => q) H)
set_option maxRecDepth 100000 in
set_option maxHeartbeats 4000000 in
theorem rX7_inkAt (hc : zOk p s m args meth c D cX7_inkAt 7 RX7 (some .int)) {a0 : Nat} {x1 : Int} {x2 : Int} {h : Zm} {Q : Int → Zm → Prop} (H : mX7_inkAt a0 x1 x2 h Q) : zW p l e zrX7_inkAt s m args below meth c D base 7 (MQ below (zQi D base Q) args s 0 0 (zFree base)) 0 0 0 [some (.inr a0), some (.inl x1), some (.inl x2), none, none, none, none] [] h := by
  unfold mX7_inkAt at H
  refine z_iload_n (pc := 0) hc dX7_inkAt_0 rfl ?_
  refine z_if_lt (tgt := 14) (pc := 1) hc dX7_inkAt_1 rfl H (fun H => ?_) (fun H => ?_)
  · refine z_iconst (pc := 14) hc dX7_inkAt_14 ?_
    exact z_ireturn (pc := 15) hc dX7_inkAt_15 H
  · refine z_iload_n (pc := 4) hc dX7_inkAt_4 rfl ?_
    refine z_iconst (pc := 5) hc dX7_inkAt_5 ?_
    refine z_bipush (pc := 6) hc dX7_inkAt_6 (by decide) ?_
    refine z_calI (z_runS (pc := 8) hc dX7_inkAt_8 zw_RX7_73 (metX7_in _ _ _ H) rfl (Nat.le_of_ble_eq_true rfl) ⟨Nat.le_of_ble_eq_true rfl, Nat.le_of_ble_eq_true rfl⟩ ⟨by exact Nat.le_of_ble_eq_true rfl, by exact Nat.le_of_ble_eq_true rfl⟩) rfl ⟨rfl, rfl⟩ (fun v2 h1 H => ?_)
    refine z_if_ne (tgt := 16) (pc := 11) hc dX7_inkAt_11 rfl H (fun H => ?_) (fun H => ?_)
    · refine z_iconst (pc := 14) hc dX7_inkAt_14 ?_
      exact z_ireturn (pc := 15) hc dX7_inkAt_15 H
    · refine z_aload_n (pc := 16) hc dX7_inkAt_16 rfl ?_
      refine z_calV0 (z_runV (pc := 17) (ci := 7) (T := TX7) (N := 20) hc dX7_inkAt_17 zw_RX7_182 (metX7_counts _ _ _ H.2) rfl (Nat.le_of_ble_eq_true rfl) ⟨Nat.le_of_ble_eq_true rfl, Nat.le_of_ble_eq_true rfl⟩ ⟨by exact Nat.le_of_ble_eq_true rfl, by exact Nat.le_of_ble_eq_true rfl⟩ rfl H.1) rfl ⟨rfl, rfl⟩ (fun h3 H => ?_)
      refine z_bipush (pc := 20) hc dX7_inkAt_20 (by decide) ?_
      refine z_istore_n (pc := 22) hc dX7_inkAt_22 (by decide) (ρ' := [some (.inr a0), some (.inl x1), some (.inl x2), some (.inl (-4)), none, none, none]) rfl ?_
      refine z_iconst (pc := 23) hc dX7_inkAt_23 ?_
      refine z_istore (pc := 24) hc dX7_inkAt_24 (by decide) (ρ' := [some (.inr a0), some (.inl x1), some (.inl x2), some (.inl (-4)), some (.inl 0), none, none]) rfl ?_
      exact rX7_inkAt_H26 hc H
end
theorem metX7_inkAt (l : Launch) (D : Zd) (base : Nat) {a0 : Nat} {x1 : Int} {x2 : Int} {h : Zm} {Q : Int → Zm → Prop} (H : mX7_inkAt a0 x1 x2 h Q) : zMet l D base yX7_inkAt cX7_inkAt 7 (some .int) zrX7_inkAt [.inr a0, .inl x1, .inl x2] h (zQi D base Q) :=
  z_met (by decide +kernel) (Nat.le_of_ble_eq_true rfl) (fun p e s m args below meth c hc hn => rX7_inkAt hc H)
def zrX7_neededLimit : Room := { frames := 5, cells := 0, slots := 0, locals := 114 }
def mX7_neededLimit_B8 (X8 : Int → Int → Zm → Prop) (a0 : Nat) (x1 : Int) (x2 : Int) (h : Zm) (Q : Int → Zm → Prop) : Prop :=
  cRc h 17 a0 <| mX7_pixels a0 h fun v3 h2 => cLt x2 v3
  (cGr h2 17 a0 0 fun r4 => cLd h2 1 r4 2 fun v5 => cRc h2 17 a0 <| mX7_pixelAt a0 x2 v5 h2 fun h6 => cRc h6 17 a0 <| mX7_sumEarly a0 h6 fun v8 h7 => cLe v8 x1
    (X8 x1 (x2 + 1) h7)
    (cRc h7 17 a0 <| mX7_sumEarly a0 h7 fun v10 h9 => X8 v10 (x2 + 1) h9))
  (Q x1 h2)
def mX7_neededLimit_H8  (a0 : Nat) (x1 : Int) (x2 : Int) (h : Zm) (Q : Int → Zm → Prop) : Prop :=
  lfp2 (fun X8 x1 x2 h => mX7_neededLimit_B8 X8 a0 x1 x2 h Q) x1 x2 h
def mX7_neededLimit (a0 : Nat) (h : Zm) (Q : Int → Zm → Prop) : Prop :=
  cRc h 17 a0 <| mX7_lays a0 h fun h1 => mX7_neededLimit_H8  a0 0 0 h1 Q
section
variable {p : Program} {l : Launch} {e : Env} {s : State} {m : MethodId} {args : Array Value} {below : List Frame} {meth : Method} {c : Code} {D : Zd} {base : Nat}
set_option maxRecDepth 100000 in
set_option maxHeartbeats 4000000 in
theorem rX7_neededLimit_B8 (hc : zOk p s m args meth c D cX7_neededLimit 3 RX7 (some .int)) {X8 : Int → Int → Zm → Prop} {a0 : Nat} {x1 : Int} {x2 : Int} {h : Zm} {Q : Int → Zm → Prop} (hX8 : ∀ (x1 : Int) (x2 : Int) (h : Zm), X8 x1 x2 h → zW p l e zrX7_neededLimit s m args below meth c D base 3 (MQ below (zQi D base Q) args s 0 0 (zFree base)) 0 0 8 [some (.inr a0), some (.inl x1), some (.inl x2)] [] h) (H : mX7_neededLimit_B8 X8 a0 x1 x2 h Q) : zW p l e zrX7_neededLimit s m args below meth c D base 3 (MQ below (zQi D base Q) args s 0 0 (zFree base)) 0 0 8 [some (.inr a0), some (.inl x1), some (.inl x2)] [] h := by
  unfold mX7_neededLimit_B8 at H
  refine z_iload_n (pc := 8) hc dX7_neededLimit_8 rfl ?_
  refine z_aload_n (pc := 9) hc dX7_neededLimit_9 rfl ?_
  refine z_calI (z_runV (pc := 10) (ci := 7) (T := TX7) (N := 20) hc dX7_neededLimit_10 zw_RX7_167 (metX7_pixels _ _ _ H.2) rfl (Nat.le_of_ble_eq_true rfl) ⟨Nat.le_of_ble_eq_true rfl, Nat.le_of_ble_eq_true rfl⟩ ⟨by exact Nat.le_of_ble_eq_true rfl, by exact Nat.le_of_ble_eq_true rfl⟩ rfl H.1) rfl ⟨rfl, rfl⟩ (fun v3 h2 H => ?_)
  refine z_icmp_ge (tgt := 50) (pc := 13) hc dX7_neededLimit_13 rfl H (fun H => ?_) (fun H => ?_)
  · refine z_aload_n (pc := 16) hc dX7_neededLimit_16 rfl ?_
    refine z_iload_n (pc := 17) hc dX7_neededLimit_17 rfl ?_
    refine z_aload_n (pc := 18) hc dX7_neededLimit_18 rfl ?_
    refine z_getR (pc := 19) hc dX7_neededLimit_19 zf_RX7_7 rfl rfl rfl H (fun r4 H => ?_)
    refine z_iconst (pc := 22) hc dX7_neededLimit_22 ?_
    refine z_iaload (pc := 23) hc dX7_neededLimit_23 H (fun v5 H => ?_)
    refine z_calV0 (z_runV (pc := 24) (ci := 7) (T := TX7) (N := 20) hc dX7_neededLimit_24 zw_RX7_170 (metX7_pixelAt _ _ _ H.2) rfl (Nat.le_of_ble_eq_true rfl) ⟨Nat.le_of_ble_eq_true rfl, Nat.le_of_ble_eq_true rfl⟩ ⟨by exact Nat.le_of_ble_eq_true rfl, by exact Nat.le_of_ble_eq_true rfl⟩ rfl H.1) rfl ⟨rfl, rfl⟩ (fun h6 H => ?_)
    refine z_aload_n (pc := 27) hc dX7_neededLimit_27 rfl ?_
    refine z_calI (z_runV (pc := 28) (ci := 7) (T := TX7) (N := 20) hc dX7_neededLimit_28 zw_RX7_188 (metX7_sumEarly _ _ _ H.2) rfl (Nat.le_of_ble_eq_true rfl) ⟨Nat.le_of_ble_eq_true rfl, Nat.le_of_ble_eq_true rfl⟩ ⟨by exact Nat.le_of_ble_eq_true rfl, by exact Nat.le_of_ble_eq_true rfl⟩ rfl H.1) rfl ⟨rfl, rfl⟩ (fun v8 h7 H => ?_)
    refine z_iload_n (pc := 31) hc dX7_neededLimit_31 rfl ?_
    refine z_icmp_le (tgt := 42) (pc := 32) hc dX7_neededLimit_32 rfl H (fun H => ?_) (fun H => ?_)
    · refine z_iload_n (pc := 42) hc dX7_neededLimit_42 rfl ?_
      refine z_istore_n (pc := 43) hc dX7_neededLimit_43 (by decide) (ρ' := [some (.inr a0), some (.inl x1), some (.inl x2)]) rfl ?_
      refine z_iinc (pc := 44) hc dX7_neededLimit_44 (by decide) rfl (ρ' := [some (.inr a0), some (.inl x1), some (.inl (x2 + 1))]) rfl ?_
      refine z_goto (tgt := 8) (pc := 47) hc dX7_neededLimit_47 rfl ?_
      exact hX8 _ _ _ H
    · refine z_aload_n (pc := 35) hc dX7_neededLimit_35 rfl ?_
      refine z_calI (z_runV (pc := 36) (ci := 7) (T := TX7) (N := 20) hc dX7_neededLimit_36 zw_RX7_188 (metX7_sumEarly _ _ _ H.2) rfl (Nat.le_of_ble_eq_true rfl) ⟨Nat.le_of_ble_eq_true rfl, Nat.le_of_ble_eq_true rfl⟩ ⟨by exact Nat.le_of_ble_eq_true rfl, by exact Nat.le_of_ble_eq_true rfl⟩ rfl H.1) rfl ⟨rfl, rfl⟩ (fun v10 h9 H => ?_)
      refine z_goto (tgt := 43) (pc := 39) hc dX7_neededLimit_39 rfl ?_
      refine z_istore_n (pc := 43) hc dX7_neededLimit_43 (by decide) (ρ' := [some (.inr a0), some (.inl v10), some (.inl x2)]) rfl ?_
      refine z_iinc (pc := 44) hc dX7_neededLimit_44 (by decide) rfl (ρ' := [some (.inr a0), some (.inl v10), some (.inl (x2 + 1))]) rfl ?_
      refine z_goto (tgt := 8) (pc := 47) hc dX7_neededLimit_47 rfl ?_
      exact hX8 _ _ _ H
  · refine z_iload_n (pc := 50) hc dX7_neededLimit_50 rfl ?_
    exact z_ireturn (pc := 51) hc dX7_neededLimit_51 H
theorem rX7_neededLimit_H8 (hc : zOk p s m args meth c D cX7_neededLimit 3 RX7 (some .int))  {a0 : Nat} {x1 : Int} {x2 : Int} {h : Zm} {Q : Int → Zm → Prop}  (H : mX7_neededLimit_H8  a0 x1 x2 h Q) : zW p l e zrX7_neededLimit s m args below meth c D base 3 (MQ below (zQi D base Q) args s 0 0 (zFree base)) 0 0 8 [some (.inr a0), some (.inl x1), some (.inl x2)] [] h :=
  H (fun x1 x2 h => zW p l e zrX7_neededLimit s m args below meth c D base 3 (MQ below (zQi D base Q) args s 0 0 (zFree base)) 0 0 8 [some (.inr a0), some (.inl x1), some (.inl x2)] [] h) (fun x1 x2 h H => rX7_neededLimit_B8 hc (fun _ _ _ q => q) H)
set_option maxRecDepth 100000 in
set_option maxHeartbeats 4000000 in
theorem rX7_neededLimit (hc : zOk p s m args meth c D cX7_neededLimit 3 RX7 (some .int)) {a0 : Nat} {h : Zm} {Q : Int → Zm → Prop} (H : mX7_neededLimit a0 h Q) : zW p l e zrX7_neededLimit s m args below meth c D base 3 (MQ below (zQi D base Q) args s 0 0 (zFree base)) 0 0 0 [some (.inr a0), none, none] [] h := by
  unfold mX7_neededLimit at H
  refine z_aload_n (pc := 0) hc dX7_neededLimit_0 rfl ?_
  refine z_calV0 (z_runV (pc := 1) (ci := 7) (T := TX7) (N := 20) hc dX7_neededLimit_1 zw_RX7_152 (metX7_lays _ _ _ H.2) rfl (Nat.le_of_ble_eq_true rfl) ⟨Nat.le_of_ble_eq_true rfl, Nat.le_of_ble_eq_true rfl⟩ ⟨by exact Nat.le_of_ble_eq_true rfl, by exact Nat.le_of_ble_eq_true rfl⟩ rfl H.1) rfl ⟨rfl, rfl⟩ (fun h1 H => ?_)
  refine z_iconst (pc := 4) hc dX7_neededLimit_4 ?_
  refine z_istore_n (pc := 5) hc dX7_neededLimit_5 (by decide) (ρ' := [some (.inr a0), some (.inl 0), none]) rfl ?_
  refine z_iconst (pc := 6) hc dX7_neededLimit_6 ?_
  refine z_istore_n (pc := 7) hc dX7_neededLimit_7 (by decide) (ρ' := [some (.inr a0), some (.inl 0), some (.inl 0)]) rfl ?_
  exact rX7_neededLimit_H8 hc H
end
theorem metX7_neededLimit (l : Launch) (D : Zd) (base : Nat) {a0 : Nat} {h : Zm} {Q : Int → Zm → Prop} (H : mX7_neededLimit a0 h Q) : zMet l D base yX7_neededLimit cX7_neededLimit 3 (some .int) zrX7_neededLimit [.inr a0] h (zQi D base Q) :=
  z_met (by decide +kernel) (Nat.le_of_ble_eq_true rfl) (fun p e s m args below meth c hc hn => rX7_neededLimit hc H)
def zrX7_thriftiestAmount : Room := { frames := 6, cells := 0, slots := 0, locals := 138 }
def mX7_thriftiestAmount_B6 (X6 : Int → Int → Int → Zm → Prop) (a0 : Nat) (x1 : Int) (x2 : Int) (x3 : Int) (h : Zm) (Q : Int → Zm → Prop) : Prop :=
  cLe x3 100
  (cRc h 17 a0 <| mX7_covered a0 7 x3 h fun v2 h1 => cLt x2 0
    (X6 x3 v2 (x3 + 1) h1)
    (cLt v2 x2
      (X6 x3 v2 (x3 + 1) h1)
      (X6 x1 x2 (x3 + 1) h1)))
  (Q x1 h)
def mX7_thriftiestAmount_H6  (a0 : Nat) (x1 : Int) (x2 : Int) (x3 : Int) (h : Zm) (Q : Int → Zm → Prop) : Prop :=
  lfp3 (fun X6 x1 x2 x3 h => mX7_thriftiestAmount_B6 X6 a0 x1 x2 x3 h Q) x1 x2 x3 h
def mX7_thriftiestAmount (a0 : Nat) (h : Zm) (Q : Int → Zm → Prop) : Prop :=
  mX7_thriftiestAmount_H6  a0 0 (-1) 0 h Q
section
variable {p : Program} {l : Launch} {e : Env} {s : State} {m : MethodId} {args : Array Value} {below : List Frame} {meth : Method} {c : Code} {D : Zd} {base : Nat}
set_option maxRecDepth 100000 in
set_option maxHeartbeats 4000000 in
theorem rX7_thriftiestAmount_B6 (hc : zOk p s m args meth c D cX7_thriftiestAmount 5 RX7 (some .int)) {X6 : Int → Int → Int → Zm → Prop} {a0 : Nat} {x1 : Int} {x2 : Int} {x3 : Int} {h : Zm} {Q : Int → Zm → Prop} (hX6 : ∀ (x1 : Int) (x2 : Int) (x3 : Int) (h : Zm), X6 x1 x2 x3 h → zW p l e zrX7_thriftiestAmount s m args below meth c D base 5 (MQ below (zQi D base Q) args s 0 0 (zFree base)) 0 0 6 [some (.inr a0), some (.inl x1), some (.inl x2), some (.inl x3), none] [] h) (H : mX7_thriftiestAmount_B6 X6 a0 x1 x2 x3 h Q) : zW p l e zrX7_thriftiestAmount s m args below meth c D base 5 (MQ below (zQi D base Q) args s 0 0 (zFree base)) 0 0 6 [some (.inr a0), some (.inl x1), some (.inl x2), some (.inl x3), none] [] h := by
  unfold mX7_thriftiestAmount_B6 at H
  refine z_iload_n (pc := 6) hc dX7_thriftiestAmount_6 rfl ?_
  refine z_bipush (pc := 7) hc dX7_thriftiestAmount_7 (by decide) ?_
  refine z_icmp_gt (tgt := 42) (pc := 9) hc dX7_thriftiestAmount_9 rfl H (fun H => ?_) (fun H => ?_)
  · refine z_aload_n (pc := 12) hc dX7_thriftiestAmount_12 rfl ?_
    refine z_bipush (pc := 13) hc dX7_thriftiestAmount_13 (by decide) ?_
    refine z_iload_n (pc := 15) hc dX7_thriftiestAmount_15 rfl ?_
    refine z_calI (z_runV (pc := 16) (ci := 7) (T := TX7) (N := 20) hc dX7_thriftiestAmount_16 zw_RX7_173 (metX7_covered _ _ _ H.2) rfl (Nat.le_of_ble_eq_true rfl) ⟨Nat.le_of_ble_eq_true rfl, Nat.le_of_ble_eq_true rfl⟩ ⟨by exact Nat.le_of_ble_eq_true rfl, by exact Nat.le_of_ble_eq_true rfl⟩ rfl H.1) rfl ⟨rfl, rfl⟩ (fun v2 h1 H => ?_)
    refine z_istore (pc := 19) hc dX7_thriftiestAmount_19 (by decide) (ρ' := [some (.inr a0), some (.inl x1), some (.inl x2), some (.inl x3), some (.inl v2)]) rfl ?_
    refine z_iload_n (pc := 21) hc dX7_thriftiestAmount_21 rfl ?_
    refine z_if_lt (tgt := 31) (pc := 22) hc dX7_thriftiestAmount_22 rfl H (fun H => ?_) (fun H => ?_)
    · refine z_iload_n (pc := 31) hc dX7_thriftiestAmount_31 rfl ?_
      refine z_istore_n (pc := 32) hc dX7_thriftiestAmount_32 (by decide) (ρ' := [some (.inr a0), some (.inl x3), some (.inl x2), some (.inl x3), some (.inl v2)]) rfl ?_
      refine z_iload (pc := 33) hc dX7_thriftiestAmount_33 rfl ?_
      refine z_istore_n (pc := 35) hc dX7_thriftiestAmount_35 (by decide) (ρ' := [some (.inr a0), some (.inl x3), some (.inl v2), some (.inl x3), some (.inl v2)]) rfl ?_
      refine z_iinc (pc := 36) hc dX7_thriftiestAmount_36 (by decide) rfl (ρ' := [some (.inr a0), some (.inl x3), some (.inl v2), some (.inl (x3 + 1)), some (.inl v2)]) rfl ?_
      refine z_goto (tgt := 6) (pc := 39) hc dX7_thriftiestAmount_39 rfl ?_
      refine z_mask [true, true, true, true, false] (ρ' := [some (.inr a0), some (.inl x3), some (.inl v2), some (.inl (x3 + 1)), none]) rfl ?_
      exact hX6 _ _ _ _ H
    · refine z_iload (pc := 25) hc dX7_thriftiestAmount_25 rfl ?_
      refine z_iload_n (pc := 27) hc dX7_thriftiestAmount_27 rfl ?_
      refine z_icmp_ge (tgt := 36) (pc := 28) hc dX7_thriftiestAmount_28 rfl H (fun H => ?_) (fun H => ?_)
      · refine z_iload_n (pc := 31) hc dX7_thriftiestAmount_31 rfl ?_
        refine z_istore_n (pc := 32) hc dX7_thriftiestAmount_32 (by decide) (ρ' := [some (.inr a0), some (.inl x3), some (.inl x2), some (.inl x3), some (.inl v2)]) rfl ?_
        refine z_iload (pc := 33) hc dX7_thriftiestAmount_33 rfl ?_
        refine z_istore_n (pc := 35) hc dX7_thriftiestAmount_35 (by decide) (ρ' := [some (.inr a0), some (.inl x3), some (.inl v2), some (.inl x3), some (.inl v2)]) rfl ?_
        refine z_iinc (pc := 36) hc dX7_thriftiestAmount_36 (by decide) rfl (ρ' := [some (.inr a0), some (.inl x3), some (.inl v2), some (.inl (x3 + 1)), some (.inl v2)]) rfl ?_
        refine z_goto (tgt := 6) (pc := 39) hc dX7_thriftiestAmount_39 rfl ?_
        refine z_mask [true, true, true, true, false] (ρ' := [some (.inr a0), some (.inl x3), some (.inl v2), some (.inl (x3 + 1)), none]) rfl ?_
        exact hX6 _ _ _ _ H
      · refine z_iinc (pc := 36) hc dX7_thriftiestAmount_36 (by decide) rfl (ρ' := [some (.inr a0), some (.inl x1), some (.inl x2), some (.inl (x3 + 1)), some (.inl v2)]) rfl ?_
        refine z_goto (tgt := 6) (pc := 39) hc dX7_thriftiestAmount_39 rfl ?_
        refine z_mask [true, true, true, true, false] (ρ' := [some (.inr a0), some (.inl x1), some (.inl x2), some (.inl (x3 + 1)), none]) rfl ?_
        exact hX6 _ _ _ _ H
  · refine z_iload_n (pc := 42) hc dX7_thriftiestAmount_42 rfl ?_
    exact z_ireturn (pc := 43) hc dX7_thriftiestAmount_43 H
theorem rX7_thriftiestAmount_H6 (hc : zOk p s m args meth c D cX7_thriftiestAmount 5 RX7 (some .int))  {a0 : Nat} {x1 : Int} {x2 : Int} {x3 : Int} {h : Zm} {Q : Int → Zm → Prop}  (H : mX7_thriftiestAmount_H6  a0 x1 x2 x3 h Q) : zW p l e zrX7_thriftiestAmount s m args below meth c D base 5 (MQ below (zQi D base Q) args s 0 0 (zFree base)) 0 0 6 [some (.inr a0), some (.inl x1), some (.inl x2), some (.inl x3), none] [] h :=
  H (fun x1 x2 x3 h => zW p l e zrX7_thriftiestAmount s m args below meth c D base 5 (MQ below (zQi D base Q) args s 0 0 (zFree base)) 0 0 6 [some (.inr a0), some (.inl x1), some (.inl x2), some (.inl x3), none] [] h) (fun x1 x2 x3 h H => rX7_thriftiestAmount_B6 hc (fun _ _ _ _ q => q) H)
set_option maxRecDepth 100000 in
set_option maxHeartbeats 4000000 in
theorem rX7_thriftiestAmount (hc : zOk p s m args meth c D cX7_thriftiestAmount 5 RX7 (some .int)) {a0 : Nat} {h : Zm} {Q : Int → Zm → Prop} (H : mX7_thriftiestAmount a0 h Q) : zW p l e zrX7_thriftiestAmount s m args below meth c D base 5 (MQ below (zQi D base Q) args s 0 0 (zFree base)) 0 0 0 [some (.inr a0), none, none, none, none] [] h := by
  unfold mX7_thriftiestAmount at H
  refine z_iconst (pc := 0) hc dX7_thriftiestAmount_0 ?_
  refine z_istore_n (pc := 1) hc dX7_thriftiestAmount_1 (by decide) (ρ' := [some (.inr a0), some (.inl 0), none, none, none]) rfl ?_
  refine z_iconst (pc := 2) hc dX7_thriftiestAmount_2 ?_
  refine z_istore_n (pc := 3) hc dX7_thriftiestAmount_3 (by decide) (ρ' := [some (.inr a0), some (.inl 0), some (.inl (-1)), none, none]) rfl ?_
  refine z_iconst (pc := 4) hc dX7_thriftiestAmount_4 ?_
  refine z_istore_n (pc := 5) hc dX7_thriftiestAmount_5 (by decide) (ρ' := [some (.inr a0), some (.inl 0), some (.inl (-1)), some (.inl 0), none]) rfl ?_
  exact rX7_thriftiestAmount_H6 hc H
end
theorem metX7_thriftiestAmount (l : Launch) (D : Zd) (base : Nat) {a0 : Nat} {h : Zm} {Q : Int → Zm → Prop} (H : mX7_thriftiestAmount a0 h Q) : zMet l D base yX7_thriftiestAmount cX7_thriftiestAmount 5 (some .int) zrX7_thriftiestAmount [.inr a0] h (zQi D base Q) :=
  z_met (by decide +kernel) (Nat.le_of_ble_eq_true rfl) (fun p e s m args below meth c hc hn => rX7_thriftiestAmount hc H)
def zrX7_isDisordered : Room := { frames := 0, cells := 0, slots := 0, locals := 0 }
def mX7_isDisordered_B11 (X4 : Int → Int → Zm → Prop) (X11 : Int → Int → Zm → Prop) (a0 : Nat) (x1 : Int) (x2 : Int) (x3 : Int) (h : Zm) (Q : Int → Zm → Prop) : Prop :=
  cLt x3 3
  (cEq x1 0
    (cGr h 17 a0 15 fun r1 => cLd h 1 r1 x2 fun v2 => cGr h 17 a0 15 fun r3 => cLd h 1 r3 x3 fun v4 => cLt v2 v4
      (cGr h 17 a0 16 fun r5 => cLd h 1 r5 x2 fun v6 => cGr h 17 a0 16 fun r7 => cLd h 1 r7 x3 fun v8 => cLe v6 v8
        (X11 0 (x3 + 1) h)
        (X11 1 (x3 + 1) h))
      (X11 0 (x3 + 1) h))
    (X11 1 (x3 + 1) h))
  (X4 x1 (x2 + 1) h)
def mX7_isDisordered_H11 (X4 : Int → Int → Zm → Prop) (a0 : Nat) (x1 : Int) (x2 : Int) (x3 : Int) (h : Zm) (Q : Int → Zm → Prop) : Prop :=
  lfp2 (fun X11 x1 x3 h => mX7_isDisordered_B11 X4 X11 a0 x1 x2 x3 h Q) x1 x3 h
def mX7_isDisordered_B4 (X4 : Int → Int → Zm → Prop) (a0 : Nat) (x1 : Int) (x2 : Int) (h : Zm) (Q : Int → Zm → Prop) : Prop :=
  cLt x2 3
  (mX7_isDisordered_H11 X4 a0 x1 x2 0 h Q)
  (cBr x1 (Q x1 h))
def mX7_isDisordered_H4  (a0 : Nat) (x1 : Int) (x2 : Int) (h : Zm) (Q : Int → Zm → Prop) : Prop :=
  lfp2 (fun X4 x1 x2 h => mX7_isDisordered_B4 X4 a0 x1 x2 h Q) x1 x2 h
def mX7_isDisordered (a0 : Nat) (h : Zm) (Q : Int → Zm → Prop) : Prop :=
  mX7_isDisordered_H4  a0 0 0 h Q
section
variable {p : Program} {l : Launch} {e : Env} {s : State} {m : MethodId} {args : Array Value} {below : List Frame} {meth : Method} {c : Code} {D : Zd} {base : Nat}
set_option maxRecDepth 100000 in
set_option maxHeartbeats 4000000 in
theorem rX7_isDisordered_B11 (hc : zOk p s m args meth c D cX7_isDisordered 4 RX7 (some .boolean)) {X4 : Int → Int → Zm → Prop} {X11 : Int → Int → Zm → Prop} {a0 : Nat} {x1 : Int} {x2 : Int} {x3 : Int} {h : Zm} {Q : Int → Zm → Prop} (hX4 : ∀ (x1 : Int) (x2 : Int) (h : Zm), X4 x1 x2 h → zW p l e zrX7_isDisordered s m args below meth c D base 4 (MQ below (zQi D base Q) args s 0 0 (zFree base)) 0 0 4 [some (.inr a0), some (.inl x1), some (.inl x2), none] [] h) (hX11 : ∀ (x1 : Int) (x3 : Int) (h : Zm), X11 x1 x3 h → zW p l e zrX7_isDisordered s m args below meth c D base 4 (MQ below (zQi D base Q) args s 0 0 (zFree base)) 0 0 11 [some (.inr a0), some (.inl x1), some (.inl x2), some (.inl x3)] [] h) (H : mX7_isDisordered_B11 X4 X11 a0 x1 x2 x3 h Q) : zW p l e zrX7_isDisordered s m args below meth c D base 4 (MQ below (zQi D base Q) args s 0 0 (zFree base)) 0 0 11 [some (.inr a0), some (.inl x1), some (.inl x2), some (.inl x3)] [] h := by
  unfold mX7_isDisordered_B11 at H
  refine z_iload_n (pc := 11) hc dX7_isDisordered_11 rfl ?_
  refine z_iconst (pc := 12) hc dX7_isDisordered_12 ?_
  refine z_icmp_ge (tgt := 62) (pc := 13) hc dX7_isDisordered_13 rfl H (fun H => ?_) (fun H => ?_)
  · refine z_iload_n (pc := 16) hc dX7_isDisordered_16 rfl ?_
    refine z_if_ne (tgt := 50) (pc := 17) hc dX7_isDisordered_17 rfl H (fun H => ?_) (fun H => ?_)
    · refine z_aload_n (pc := 20) hc dX7_isDisordered_20 rfl ?_
      refine z_getR (pc := 21) hc dX7_isDisordered_21 zf_RX7_50 rfl rfl rfl H (fun r1 H => ?_)
      refine z_iload_n (pc := 24) hc dX7_isDisordered_24 rfl ?_
      refine z_iaload (pc := 25) hc dX7_isDisordered_25 H (fun v2 H => ?_)
      refine z_aload_n (pc := 26) hc dX7_isDisordered_26 rfl ?_
      refine z_getR (pc := 27) hc dX7_isDisordered_27 zf_RX7_50 rfl rfl rfl H (fun r3 H => ?_)
      refine z_iload_n (pc := 30) hc dX7_isDisordered_30 rfl ?_
      refine z_iaload (pc := 31) hc dX7_isDisordered_31 H (fun v4 H => ?_)
      refine z_icmp_ge (tgt := 54) (pc := 32) hc dX7_isDisordered_32 rfl H (fun H => ?_) (fun H => ?_)
      · refine z_aload_n (pc := 35) hc dX7_isDisordered_35 rfl ?_
        refine z_getR (pc := 36) hc dX7_isDisordered_36 zf_RX7_53 rfl rfl rfl H (fun r5 H => ?_)
        refine z_iload_n (pc := 39) hc dX7_isDisordered_39 rfl ?_
        refine z_iaload (pc := 40) hc dX7_isDisordered_40 H (fun v6 H => ?_)
        refine z_aload_n (pc := 41) hc dX7_isDisordered_41 rfl ?_
        refine z_getR (pc := 42) hc dX7_isDisordered_42 zf_RX7_53 rfl rfl rfl H (fun r7 H => ?_)
        refine z_iload_n (pc := 45) hc dX7_isDisordered_45 rfl ?_
        refine z_iaload (pc := 46) hc dX7_isDisordered_46 H (fun v8 H => ?_)
        refine z_icmp_le (tgt := 54) (pc := 47) hc dX7_isDisordered_47 rfl H (fun H => ?_) (fun H => ?_)
        · refine z_iconst (pc := 54) hc dX7_isDisordered_54 ?_
          refine z_istore_n (pc := 55) hc dX7_isDisordered_55 (by decide) (ρ' := [some (.inr a0), some (.inl 0), some (.inl x2), some (.inl x3)]) rfl ?_
          refine z_iinc (pc := 56) hc dX7_isDisordered_56 (by decide) rfl (ρ' := [some (.inr a0), some (.inl 0), some (.inl x2), some (.inl (x3 + 1))]) rfl ?_
          refine z_goto (tgt := 11) (pc := 59) hc dX7_isDisordered_59 rfl ?_
          exact hX11 _ _ _ H
        · refine z_iconst (pc := 50) hc dX7_isDisordered_50 ?_
          refine z_goto (tgt := 55) (pc := 51) hc dX7_isDisordered_51 rfl ?_
          refine z_istore_n (pc := 55) hc dX7_isDisordered_55 (by decide) (ρ' := [some (.inr a0), some (.inl 1), some (.inl x2), some (.inl x3)]) rfl ?_
          refine z_iinc (pc := 56) hc dX7_isDisordered_56 (by decide) rfl (ρ' := [some (.inr a0), some (.inl 1), some (.inl x2), some (.inl (x3 + 1))]) rfl ?_
          refine z_goto (tgt := 11) (pc := 59) hc dX7_isDisordered_59 rfl ?_
          exact hX11 _ _ _ H
      · refine z_iconst (pc := 54) hc dX7_isDisordered_54 ?_
        refine z_istore_n (pc := 55) hc dX7_isDisordered_55 (by decide) (ρ' := [some (.inr a0), some (.inl 0), some (.inl x2), some (.inl x3)]) rfl ?_
        refine z_iinc (pc := 56) hc dX7_isDisordered_56 (by decide) rfl (ρ' := [some (.inr a0), some (.inl 0), some (.inl x2), some (.inl (x3 + 1))]) rfl ?_
        refine z_goto (tgt := 11) (pc := 59) hc dX7_isDisordered_59 rfl ?_
        exact hX11 _ _ _ H
    · refine z_iconst (pc := 50) hc dX7_isDisordered_50 ?_
      refine z_goto (tgt := 55) (pc := 51) hc dX7_isDisordered_51 rfl ?_
      refine z_istore_n (pc := 55) hc dX7_isDisordered_55 (by decide) (ρ' := [some (.inr a0), some (.inl 1), some (.inl x2), some (.inl x3)]) rfl ?_
      refine z_iinc (pc := 56) hc dX7_isDisordered_56 (by decide) rfl (ρ' := [some (.inr a0), some (.inl 1), some (.inl x2), some (.inl (x3 + 1))]) rfl ?_
      refine z_goto (tgt := 11) (pc := 59) hc dX7_isDisordered_59 rfl ?_
      exact hX11 _ _ _ H
  · refine z_iinc (pc := 62) hc dX7_isDisordered_62 (by decide) rfl (ρ' := [some (.inr a0), some (.inl x1), some (.inl (x2 + 1)), some (.inl x3)]) rfl ?_
    refine z_goto (tgt := 4) (pc := 65) hc dX7_isDisordered_65 rfl ?_
    refine z_mask [true, true, true, false] (ρ' := [some (.inr a0), some (.inl x1), some (.inl (x2 + 1)), none]) rfl ?_
    exact hX4 _ _ _ H
theorem rX7_isDisordered_H11 (hc : zOk p s m args meth c D cX7_isDisordered 4 RX7 (some .boolean)) {X4 : Int → Int → Zm → Prop} {a0 : Nat} {x1 : Int} {x2 : Int} {x3 : Int} {h : Zm} {Q : Int → Zm → Prop} (hX4 : ∀ (x1 : Int) (x2 : Int) (h : Zm), X4 x1 x2 h → zW p l e zrX7_isDisordered s m args below meth c D base 4 (MQ below (zQi D base Q) args s 0 0 (zFree base)) 0 0 4 [some (.inr a0), some (.inl x1), some (.inl x2), none] [] h) (H : mX7_isDisordered_H11 X4 a0 x1 x2 x3 h Q) : zW p l e zrX7_isDisordered s m args below meth c D base 4 (MQ below (zQi D base Q) args s 0 0 (zFree base)) 0 0 11 [some (.inr a0), some (.inl x1), some (.inl x2), some (.inl x3)] [] h :=
  H (fun x1 x3 h => zW p l e zrX7_isDisordered s m args below meth c D base 4 (MQ below (zQi D base Q) args s 0 0 (zFree base)) 0 0 11 [some (.inr a0), some (.inl x1), some (.inl x2), some (.inl x3)] [] h) (fun x1 x3 h H => rX7_isDisordered_B11 hc hX4 (fun _ _ _ q => q) H)
set_option maxRecDepth 100000 in
set_option maxHeartbeats 4000000 in
theorem rX7_isDisordered_B4 (hc : zOk p s m args meth c D cX7_isDisordered 4 RX7 (some .boolean)) {X4 : Int → Int → Zm → Prop} {a0 : Nat} {x1 : Int} {x2 : Int} {h : Zm} {Q : Int → Zm → Prop} (hX4 : ∀ (x1 : Int) (x2 : Int) (h : Zm), X4 x1 x2 h → zW p l e zrX7_isDisordered s m args below meth c D base 4 (MQ below (zQi D base Q) args s 0 0 (zFree base)) 0 0 4 [some (.inr a0), some (.inl x1), some (.inl x2), none] [] h) (H : mX7_isDisordered_B4 X4 a0 x1 x2 h Q) : zW p l e zrX7_isDisordered s m args below meth c D base 4 (MQ below (zQi D base Q) args s 0 0 (zFree base)) 0 0 4 [some (.inr a0), some (.inl x1), some (.inl x2), none] [] h := by
  unfold mX7_isDisordered_B4 at H
  refine z_iload_n (pc := 4) hc dX7_isDisordered_4 rfl ?_
  refine z_iconst (pc := 5) hc dX7_isDisordered_5 ?_
  refine z_icmp_ge (tgt := 68) (pc := 6) hc dX7_isDisordered_6 rfl H (fun H => ?_) (fun H => ?_)
  · refine z_iconst (pc := 9) hc dX7_isDisordered_9 ?_
    refine z_istore_n (pc := 10) hc dX7_isDisordered_10 (by decide) (ρ' := [some (.inr a0), some (.inl x1), some (.inl x2), some (.inl 0)]) rfl ?_
    exact rX7_isDisordered_H11 hc hX4 H
  · refine z_iload_n (pc := 68) hc dX7_isDisordered_68 rfl ?_
    exact z_zreturn (pc := 69) hc dX7_isDisordered_69 H
theorem rX7_isDisordered_H4 (hc : zOk p s m args meth c D cX7_isDisordered 4 RX7 (some .boolean))  {a0 : Nat} {x1 : Int} {x2 : Int} {h : Zm} {Q : Int → Zm → Prop}  (H : mX7_isDisordered_H4  a0 x1 x2 h Q) : zW p l e zrX7_isDisordered s m args below meth c D base 4 (MQ below (zQi D base Q) args s 0 0 (zFree base)) 0 0 4 [some (.inr a0), some (.inl x1), some (.inl x2), none] [] h :=
  H (fun x1 x2 h => zW p l e zrX7_isDisordered s m args below meth c D base 4 (MQ below (zQi D base Q) args s 0 0 (zFree base)) 0 0 4 [some (.inr a0), some (.inl x1), some (.inl x2), none] [] h) (fun x1 x2 h H => rX7_isDisordered_B4 hc (fun _ _ _ q => q) H)
set_option maxRecDepth 100000 in
set_option maxHeartbeats 4000000 in
theorem rX7_isDisordered (hc : zOk p s m args meth c D cX7_isDisordered 4 RX7 (some .boolean)) {a0 : Nat} {h : Zm} {Q : Int → Zm → Prop} (H : mX7_isDisordered a0 h Q) : zW p l e zrX7_isDisordered s m args below meth c D base 4 (MQ below (zQi D base Q) args s 0 0 (zFree base)) 0 0 0 [some (.inr a0), none, none, none] [] h := by
  unfold mX7_isDisordered at H
  refine z_iconst (pc := 0) hc dX7_isDisordered_0 ?_
  refine z_istore_n (pc := 1) hc dX7_isDisordered_1 (by decide) (ρ' := [some (.inr a0), some (.inl 0), none, none]) rfl ?_
  refine z_iconst (pc := 2) hc dX7_isDisordered_2 ?_
  refine z_istore_n (pc := 3) hc dX7_isDisordered_3 (by decide) (ρ' := [some (.inr a0), some (.inl 0), some (.inl 0), none]) rfl ?_
  exact rX7_isDisordered_H4 hc H
end
theorem metX7_isDisordered (l : Launch) (D : Zd) (base : Nat) {a0 : Nat} {h : Zm} {Q : Int → Zm → Prop} (H : mX7_isDisordered a0 h Q) : zMet l D base yX7_isDisordered cX7_isDisordered 4 (some .boolean) zrX7_isDisordered [.inr a0] h (zQi D base Q) :=
  z_met (by decide +kernel) (Nat.le_of_ble_eq_true rfl) (fun p e s m args below meth c hc hn => rX7_isDisordered hc H)
def zrX7_disorderedPixels : Room := { frames := 5, cells := 0, slots := 0, locals := 114 }
def mX7_disorderedPixels_B8 (X8 : Int → Int → Zm → Prop) (a0 : Nat) (x1 : Int) (x2 : Int) (h : Zm) (Q : Int → Zm → Prop) : Prop :=
  cRc h 17 a0 <| mX7_pixels a0 h fun v3 h2 => cLt x2 v3
  (cGr h2 17 a0 0 fun r4 => cLd h2 1 r4 2 fun v5 => cRc h2 17 a0 <| mX7_pixelAt a0 x2 v5 h2 fun h6 => cRc h6 17 a0 <| mX7_isDisordered a0 h6 fun v8 h7 => cEq v8 0
    (X8 (x1 + 0) (x2 + 1) h7)
    (X8 (x1 + 1) (x2 + 1) h7))
  (Q x1 h2)
def mX7_disorderedPixels_H8  (a0 : Nat) (x1 : Int) (x2 : Int) (h : Zm) (Q : Int → Zm → Prop) : Prop :=
  lfp2 (fun X8 x1 x2 h => mX7_disorderedPixels_B8 X8 a0 x1 x2 h Q) x1 x2 h
def mX7_disorderedPixels (a0 : Nat) (h : Zm) (Q : Int → Zm → Prop) : Prop :=
  cRc h 17 a0 <| mX7_lays a0 h fun h1 => mX7_disorderedPixels_H8  a0 0 0 h1 Q
section
variable {p : Program} {l : Launch} {e : Env} {s : State} {m : MethodId} {args : Array Value} {below : List Frame} {meth : Method} {c : Code} {D : Zd} {base : Nat}
set_option maxRecDepth 100000 in
set_option maxHeartbeats 4000000 in
theorem rX7_disorderedPixels_B8 (hc : zOk p s m args meth c D cX7_disorderedPixels 3 RX7 (some .int)) {X8 : Int → Int → Zm → Prop} {a0 : Nat} {x1 : Int} {x2 : Int} {h : Zm} {Q : Int → Zm → Prop} (hX8 : ∀ (x1 : Int) (x2 : Int) (h : Zm), X8 x1 x2 h → zW p l e zrX7_disorderedPixels s m args below meth c D base 3 (MQ below (zQi D base Q) args s 0 0 (zFree base)) 0 0 8 [some (.inr a0), some (.inl x1), some (.inl x2)] [] h) (H : mX7_disorderedPixels_B8 X8 a0 x1 x2 h Q) : zW p l e zrX7_disorderedPixels s m args below meth c D base 3 (MQ below (zQi D base Q) args s 0 0 (zFree base)) 0 0 8 [some (.inr a0), some (.inl x1), some (.inl x2)] [] h := by
  unfold mX7_disorderedPixels_B8 at H
  refine z_iload_n (pc := 8) hc dX7_disorderedPixels_8 rfl ?_
  refine z_aload_n (pc := 9) hc dX7_disorderedPixels_9 rfl ?_
  refine z_calI (z_runV (pc := 10) (ci := 7) (T := TX7) (N := 20) hc dX7_disorderedPixels_10 zw_RX7_167 (metX7_pixels _ _ _ H.2) rfl (Nat.le_of_ble_eq_true rfl) ⟨Nat.le_of_ble_eq_true rfl, Nat.le_of_ble_eq_true rfl⟩ ⟨by exact Nat.le_of_ble_eq_true rfl, by exact Nat.le_of_ble_eq_true rfl⟩ rfl H.1) rfl ⟨rfl, rfl⟩ (fun v3 h2 H => ?_)
  refine z_icmp_ge (tgt := 48) (pc := 13) hc dX7_disorderedPixels_13 rfl H (fun H => ?_) (fun H => ?_)
  · refine z_aload_n (pc := 16) hc dX7_disorderedPixels_16 rfl ?_
    refine z_iload_n (pc := 17) hc dX7_disorderedPixels_17 rfl ?_
    refine z_aload_n (pc := 18) hc dX7_disorderedPixels_18 rfl ?_
    refine z_getR (pc := 19) hc dX7_disorderedPixels_19 zf_RX7_7 rfl rfl rfl H (fun r4 H => ?_)
    refine z_iconst (pc := 22) hc dX7_disorderedPixels_22 ?_
    refine z_iaload (pc := 23) hc dX7_disorderedPixels_23 H (fun v5 H => ?_)
    refine z_calV0 (z_runV (pc := 24) (ci := 7) (T := TX7) (N := 20) hc dX7_disorderedPixels_24 zw_RX7_170 (metX7_pixelAt _ _ _ H.2) rfl (Nat.le_of_ble_eq_true rfl) ⟨Nat.le_of_ble_eq_true rfl, Nat.le_of_ble_eq_true rfl⟩ ⟨by exact Nat.le_of_ble_eq_true rfl, by exact Nat.le_of_ble_eq_true rfl⟩ rfl H.1) rfl ⟨rfl, rfl⟩ (fun h6 H => ?_)
    refine z_iload_n (pc := 27) hc dX7_disorderedPixels_27 rfl ?_
    refine z_aload_n (pc := 28) hc dX7_disorderedPixels_28 rfl ?_
    refine z_calI (z_runV (pc := 29) (ci := 7) (T := TX7) (N := 20) hc dX7_disorderedPixels_29 zw_RX7_191 (metX7_isDisordered _ _ _ H.2) rfl (Nat.le_of_ble_eq_true rfl) ⟨Nat.le_of_ble_eq_true rfl, Nat.le_of_ble_eq_true rfl⟩ ⟨by exact Nat.le_of_ble_eq_true rfl, by exact Nat.le_of_ble_eq_true rfl⟩ rfl H.1) rfl ⟨rfl, rfl⟩ (fun v8 h7 H => ?_)
    refine z_if_eq (tgt := 39) (pc := 32) hc dX7_disorderedPixels_32 rfl H (fun H => ?_) (fun H => ?_)
    · refine z_iconst (pc := 39) hc dX7_disorderedPixels_39 ?_
      refine z_iadd (pc := 40) hc dX7_disorderedPixels_40 ?_
      refine z_istore_n (pc := 41) hc dX7_disorderedPixels_41 (by decide) (ρ' := [some (.inr a0), some (.inl (x1 + 0)), some (.inl x2)]) rfl ?_
      refine z_iinc (pc := 42) hc dX7_disorderedPixels_42 (by decide) rfl (ρ' := [some (.inr a0), some (.inl (x1 + 0)), some (.inl (x2 + 1))]) rfl ?_
      refine z_goto (tgt := 8) (pc := 45) hc dX7_disorderedPixels_45 rfl ?_
      exact hX8 _ _ _ H
    · refine z_iconst (pc := 35) hc dX7_disorderedPixels_35 ?_
      refine z_goto (tgt := 40) (pc := 36) hc dX7_disorderedPixels_36 rfl ?_
      refine z_iadd (pc := 40) hc dX7_disorderedPixels_40 ?_
      refine z_istore_n (pc := 41) hc dX7_disorderedPixels_41 (by decide) (ρ' := [some (.inr a0), some (.inl (x1 + 1)), some (.inl x2)]) rfl ?_
      refine z_iinc (pc := 42) hc dX7_disorderedPixels_42 (by decide) rfl (ρ' := [some (.inr a0), some (.inl (x1 + 1)), some (.inl (x2 + 1))]) rfl ?_
      refine z_goto (tgt := 8) (pc := 45) hc dX7_disorderedPixels_45 rfl ?_
      exact hX8 _ _ _ H
  · refine z_iload_n (pc := 48) hc dX7_disorderedPixels_48 rfl ?_
    exact z_ireturn (pc := 49) hc dX7_disorderedPixels_49 H
theorem rX7_disorderedPixels_H8 (hc : zOk p s m args meth c D cX7_disorderedPixels 3 RX7 (some .int))  {a0 : Nat} {x1 : Int} {x2 : Int} {h : Zm} {Q : Int → Zm → Prop}  (H : mX7_disorderedPixels_H8  a0 x1 x2 h Q) : zW p l e zrX7_disorderedPixels s m args below meth c D base 3 (MQ below (zQi D base Q) args s 0 0 (zFree base)) 0 0 8 [some (.inr a0), some (.inl x1), some (.inl x2)] [] h :=
  H (fun x1 x2 h => zW p l e zrX7_disorderedPixels s m args below meth c D base 3 (MQ below (zQi D base Q) args s 0 0 (zFree base)) 0 0 8 [some (.inr a0), some (.inl x1), some (.inl x2)] [] h) (fun x1 x2 h H => rX7_disorderedPixels_B8 hc (fun _ _ _ q => q) H)
set_option maxRecDepth 100000 in
set_option maxHeartbeats 4000000 in
theorem rX7_disorderedPixels (hc : zOk p s m args meth c D cX7_disorderedPixels 3 RX7 (some .int)) {a0 : Nat} {h : Zm} {Q : Int → Zm → Prop} (H : mX7_disorderedPixels a0 h Q) : zW p l e zrX7_disorderedPixels s m args below meth c D base 3 (MQ below (zQi D base Q) args s 0 0 (zFree base)) 0 0 0 [some (.inr a0), none, none] [] h := by
  unfold mX7_disorderedPixels at H
  refine z_aload_n (pc := 0) hc dX7_disorderedPixels_0 rfl ?_
  refine z_calV0 (z_runV (pc := 1) (ci := 7) (T := TX7) (N := 20) hc dX7_disorderedPixels_1 zw_RX7_152 (metX7_lays _ _ _ H.2) rfl (Nat.le_of_ble_eq_true rfl) ⟨Nat.le_of_ble_eq_true rfl, Nat.le_of_ble_eq_true rfl⟩ ⟨by exact Nat.le_of_ble_eq_true rfl, by exact Nat.le_of_ble_eq_true rfl⟩ rfl H.1) rfl ⟨rfl, rfl⟩ (fun h1 H => ?_)
  refine z_iconst (pc := 4) hc dX7_disorderedPixels_4 ?_
  refine z_istore_n (pc := 5) hc dX7_disorderedPixels_5 (by decide) (ρ' := [some (.inr a0), some (.inl 0), none]) rfl ?_
  refine z_iconst (pc := 6) hc dX7_disorderedPixels_6 ?_
  refine z_istore_n (pc := 7) hc dX7_disorderedPixels_7 (by decide) (ρ' := [some (.inr a0), some (.inl 0), some (.inl 0)]) rfl ?_
  exact rX7_disorderedPixels_H8 hc H
end
theorem metX7_disorderedPixels (l : Launch) (D : Zd) (base : Nat) {a0 : Nat} {h : Zm} {Q : Int → Zm → Prop} (H : mX7_disorderedPixels a0 h Q) : zMet l D base yX7_disorderedPixels cX7_disorderedPixels 3 (some .int) zrX7_disorderedPixels [.inr a0] h (zQi D base Q) :=
  z_met (by decide +kernel) (Nat.le_of_ble_eq_true rfl) (fun p e s m args below meth c hc hn => rX7_disorderedPixels hc H)
def zrX7_undo : Room := { frames := 0, cells := 0, slots := 0, locals := 0 }
def mX7_undo_B22 (X22 : Int → Zm → Prop) (a0 : Nat) (x1 : Int) (h : Zm) (Q : Int → Zm → Prop) : Prop :=
  cLt x1 368
  (cGr h 17 a0 0 fun r5 => cGr h 17 a0 1 fun r6 => cGi h 17 a0 3 fun v7 => cLd h 1 r6 ((368 * v7) + x1) fun v8 => cSt h r5 x1 v8 fun h9 => X22 (x1 + 1) h9)
  (cGi h 17 a0 3 fun v4 => Q v4 h)
def mX7_undo_H22  (a0 : Nat) (x1 : Int) (h : Zm) (Q : Int → Zm → Prop) : Prop :=
  lfp1 (fun X22 x1 h => mX7_undo_B22 X22 a0 x1 h Q) x1 h
def mX7_undo (a0 : Nat) (h : Zm) (Q : Int → Zm → Prop) : Prop :=
  cGi h 17 a0 3 fun v1 => cEq v1 0
  (Q (-2) h)
  (cGi h 17 a0 3 fun v2 => cPi h 17 a0 3 (v2 - 1) fun h3 => mX7_undo_H22  a0 0 h3 Q)
section
variable {p : Program} {l : Launch} {e : Env} {s : State} {m : MethodId} {args : Array Value} {below : List Frame} {meth : Method} {c : Code} {D : Zd} {base : Nat}
set_option maxRecDepth 100000 in
set_option maxHeartbeats 4000000 in
theorem rX7_undo_B22 (hc : zOk p s m args meth c D cX7_undo 2 RX7 (some .int)) {X22 : Int → Zm → Prop} {a0 : Nat} {x1 : Int} {h : Zm} {Q : Int → Zm → Prop} (hX22 : ∀ (x1 : Int) (h : Zm), X22 x1 h → zW p l e zrX7_undo s m args below meth c D base 2 (MQ below (zQi D base Q) args s 0 0 (zFree base)) 0 0 22 [some (.inr a0), some (.inl x1)] [] h) (H : mX7_undo_B22 X22 a0 x1 h Q) : zW p l e zrX7_undo s m args below meth c D base 2 (MQ below (zQi D base Q) args s 0 0 (zFree base)) 0 0 22 [some (.inr a0), some (.inl x1)] [] h := by
  unfold mX7_undo_B22 at H
  refine z_iload_n (pc := 22) hc dX7_undo_22 rfl ?_
  refine z_sipush (pc := 23) hc dX7_undo_23 (by decide) ?_
  refine z_icmp_ge (tgt := 56) (pc := 26) hc dX7_undo_26 rfl H (fun H => ?_) (fun H => ?_)
  · refine z_aload_n (pc := 29) hc dX7_undo_29 rfl ?_
    refine z_getR (pc := 30) hc dX7_undo_30 zf_RX7_7 rfl rfl rfl H (fun r5 H => ?_)
    refine z_iload_n (pc := 33) hc dX7_undo_33 rfl ?_
    refine z_aload_n (pc := 34) hc dX7_undo_34 rfl ?_
    refine z_getR (pc := 35) hc dX7_undo_35 zf_RX7_13 rfl rfl rfl H (fun r6 H => ?_)
    refine z_sipush (pc := 38) hc dX7_undo_38 (by decide) ?_
    refine z_aload_n (pc := 41) hc dX7_undo_41 rfl ?_
    refine z_getI (pc := 42) hc dX7_undo_42 zf_RX7_62 rfl rfl rfl H (fun v7 H => ?_)
    refine z_imul (pc := 45) hc dX7_undo_45 ?_
    refine z_iload_n (pc := 46) hc dX7_undo_46 rfl ?_
    refine z_iadd (pc := 47) hc dX7_undo_47 ?_
    refine z_iaload (pc := 48) hc dX7_undo_48 H (fun v8 H => ?_)
    refine z_iastore (pc := 49) hc dX7_undo_49 H (fun h9 H => ?_)
    refine z_iinc (pc := 50) hc dX7_undo_50 (by decide) rfl (ρ' := [some (.inr a0), some (.inl (x1 + 1))]) rfl ?_
    refine z_goto (tgt := 22) (pc := 53) hc dX7_undo_53 rfl ?_
    exact hX22 _ _ H
  · refine z_aload_n (pc := 56) hc dX7_undo_56 rfl ?_
    refine z_getI (pc := 57) hc dX7_undo_57 zf_RX7_62 rfl rfl rfl H (fun v4 H => ?_)
    exact z_ireturn (pc := 60) hc dX7_undo_60 H
theorem rX7_undo_H22 (hc : zOk p s m args meth c D cX7_undo 2 RX7 (some .int))  {a0 : Nat} {x1 : Int} {h : Zm} {Q : Int → Zm → Prop}  (H : mX7_undo_H22  a0 x1 h Q) : zW p l e zrX7_undo s m args below meth c D base 2 (MQ below (zQi D base Q) args s 0 0 (zFree base)) 0 0 22 [some (.inr a0), some (.inl x1)] [] h :=
  H (fun x1 h => zW p l e zrX7_undo s m args below meth c D base 2 (MQ below (zQi D base Q) args s 0 0 (zFree base)) 0 0 22 [some (.inr a0), some (.inl x1)] [] h) (fun x1 h H => rX7_undo_B22 hc (fun _ _ q => q) H)
set_option maxRecDepth 100000 in
set_option maxHeartbeats 4000000 in
theorem rX7_undo (hc : zOk p s m args meth c D cX7_undo 2 RX7 (some .int)) {a0 : Nat} {h : Zm} {Q : Int → Zm → Prop} (H : mX7_undo a0 h Q) : zW p l e zrX7_undo s m args below meth c D base 2 (MQ below (zQi D base Q) args s 0 0 (zFree base)) 0 0 0 [some (.inr a0), none] [] h := by
  unfold mX7_undo at H
  refine z_aload_n (pc := 0) hc dX7_undo_0 rfl ?_
  refine z_getI (pc := 1) hc dX7_undo_1 zf_RX7_62 rfl rfl rfl H (fun v1 H => ?_)
  refine z_if_ne (tgt := 10) (pc := 4) hc dX7_undo_4 rfl H (fun H => ?_) (fun H => ?_)
  · refine z_bipush (pc := 7) hc dX7_undo_7 (by decide) ?_
    exact z_ireturn (pc := 9) hc dX7_undo_9 H
  · refine z_aload_n (pc := 10) hc dX7_undo_10 rfl ?_
    refine z_dup (pc := 11) hc dX7_undo_11 ?_
    refine z_getI (pc := 12) hc dX7_undo_12 zf_RX7_62 rfl rfl rfl H (fun v2 H => ?_)
    refine z_iconst (pc := 15) hc dX7_undo_15 ?_
    refine z_isub (pc := 16) hc dX7_undo_16 ?_
    refine z_putI (pc := 17) hc dX7_undo_17 zf_RX7_62 rfl rfl rfl H (fun h3 H => ?_)
    refine z_iconst (pc := 20) hc dX7_undo_20 ?_
    refine z_istore_n (pc := 21) hc dX7_undo_21 (by decide) (ρ' := [some (.inr a0), some (.inl 0)]) rfl ?_
    exact rX7_undo_H22 hc H
end
theorem metX7_undo (l : Launch) (D : Zd) (base : Nat) {a0 : Nat} {h : Zm} {Q : Int → Zm → Prop} (H : mX7_undo a0 h Q) : zMet l D base yX7_undo cX7_undo 2 (some .int) zrX7_undo [.inr a0] h (zQi D base Q) :=
  z_met (by decide +kernel) (Nat.le_of_ble_eq_true rfl) (fun p e s m args below meth c hc hn => rX7_undo hc H)
