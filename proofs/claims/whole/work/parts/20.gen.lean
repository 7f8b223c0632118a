/-! printed by gen.py: X7_separates X7_told X7_sumEarly X7_isPixel X7_rendered X7_ink X7_inkOf X7_touchedBy X7_pixelAt X7_pixels X7_covered X7_coverage X7_plateAt X7_greatestSum X7_limitedPixels X7_isInk -/
def zrX7_separates : Room := { frames := 2, cells := 0, slots := 0, locals := 52 }
def mX7_separates_B139 (X139 : Int → Zm → Prop) (a0 : Nat) (x4 : Int) (h : Zm) (Q : Zm → Prop) : Prop :=
  cLt x4 7
  (cGr h 17 a0 15 fun r26 => cGr h 17 a0 15 fun r27 => cLd h 1 r27 x4 fun v28 => cRc h 17 a0 <| mX7_valueOf a0 x4 v28 h fun v30 h29 => cSt h29 r26 x4 v30 fun h31 => cGr h31 17 a0 16 fun r32 => cGr h31 17 a0 15 fun r33 => cLd h31 1 r33 x4 fun v34 => cSt h31 r32 x4 v34 fun h35 => X139 (x4 + 1) h35)
  (cRc h 17 a0 <| mX7_limits a0 h fun h25 => Q h25)
def mX7_separates_H139  (a0 : Nat) (x4 : Int) (h : Zm) (Q : Zm → Prop) : Prop :=
  lfp1 (fun X139 x4 h => mX7_separates_B139 X139 a0 x4 h Q) x4 h
def mX7_separates_B108 (X108 : Int → Zm → Prop) (a0 : Nat) (x4 : Int) (h : Zm) (Q : Zm → Prop) : Prop :=
  cLt x4 3
  (cGr h 17 a0 15 fun r20 => cLd h 1 r20 x4 fun v21 => cGr h 17 a0 15 fun r22 => cLd h 1 r22 3 fun v23 => cSt h r20 x4 (v21 - v23) fun h24 => X108 (x4 + 1) h24)
  (mX7_separates_H139  a0 0 h Q)
def mX7_separates_H108  (a0 : Nat) (x4 : Int) (h : Zm) (Q : Zm → Prop) : Prop :=
  lfp1 (fun X108 x4 h => mX7_separates_B108 X108 a0 x4 h Q) x4 h
def mX7_separates_J92  (a0 : Nat) (x1 : Int) (s0 : Int) (h : Zm) (Q : Zm → Prop) : Prop :=
  cGr h 17 a0 15 fun r17 => cDiv (s0 * x1) 100 fun v18 => cSt h r17 3 v18 fun h19 => mX7_separates_H108  a0 0 h19 Q
def mX7_separates_B6 (X6 : Int → Int → Zm → Prop) (a0 : Nat) (x1 : Int) (x2 : Int) (x3 : Int) (h : Zm) (Q : Zm → Prop) : Prop :=
  cLt x3 3
  (cGr h 17 a0 15 fun r5 => cGr h 17 a0 14 fun r6 => cLd h 1 r6 x3 fun v7 => cSt h r5 x3 (255 - v7) fun h8 => cGr h8 17 a0 15 fun r9 => cGr h8 17 a0 14 fun r10 => cLd h8 1 r10 (3 + x3) fun v11 => cSt h8 r9 (4 + x3) v11 fun h12 => cGr h12 17 a0 15 fun r13 => cLd h12 1 r13 x3 fun v14 => cLt v14 x2
    (cGr h12 17 a0 15 fun r15 => cLd h12 1 r15 x3 fun v16 => X6 v16 (x3 + 1) h12)
    (X6 x2 (x3 + 1) h12))
  (cGr h 17 a0 0 fun r1 => cLd h 1 r1 3 fun v2 => cLe x2 v2
    (mX7_separates_J92  a0 x1 0 h Q)
    (cGr h 17 a0 0 fun r3 => cLd h 1 r3 3 fun v4 => mX7_separates_J92  a0 x1 (x2 - v4) h Q))
def mX7_separates_H6  (a0 : Nat) (x1 : Int) (x2 : Int) (x3 : Int) (h : Zm) (Q : Zm → Prop) : Prop :=
  lfp2 (fun X6 x2 x3 h => mX7_separates_B6 X6 a0 x1 x2 x3 h Q) x2 x3 h
def mX7_separates (a0 : Nat) (x1 : Int) (h : Zm) (Q : Zm → Prop) : Prop :=
  mX7_separates_H6  a0 x1 255 0 h Q
section
variable {p : Program} {l : Launch} {e : Env} {s : State} {m : MethodId} {args : Array Value} {below : List Frame} {meth : Method} {c : Code} {D : Zd} {base : Nat}
set_option maxRecDepth 100000 in
set_option maxHeartbeats 4000000 in
theorem rX7_separates_B139 (hc : zOk p s m args meth c D cX7_separates 5 RX7 none) {X139 : Int → Zm → Prop} {a0 : Nat} {x4 : Int} {h : Zm} {Q : Zm → Prop} (hX139 : ∀ (x4 : Int) (h : Zm), X139 x4 h → zW p l e zrX7_separates s m args below meth c D base 5 (MQ below (zQv D base Q) args s 0 0 (zFree base)) 0 0 139 [some (.inr a0), none, none, none, some (.inl x4)] [] h) (H : mX7_separates_B139 X139 a0 x4 h Q) : zW p l e zrX7_separates s m args below meth c D base 5 (MQ below (zQv D base Q) args s 0 0 (zFree base)) 0 0 139 [some (.inr a0), none, none, none, some (.inl x4)] [] h := by
  unfold mX7_separates_B139 at H
  refine z_iload (pc := 139) hc dX7_separates_139 rfl ?_
  refine z_bipush (pc := 141) hc dX7_separates_141 (by decide) ?_
  refine z_icmp_ge (tgt := 186) (pc := 143) hc dX7_separates_143 rfl H (fun H => ?_) (fun H => ?_)
  · refine z_aload_n (pc := 146) hc dX7_separates_146 rfl ?_
    refine z_getR (pc := 147) hc dX7_separates_147 zf_RX7_50 rfl rfl rfl H (fun r26 H => ?_)
    refine z_iload (pc := 150) hc dX7_separates_150 rfl ?_
    refine z_aload_n (pc := 152) hc dX7_separates_152 rfl ?_
    refine z_iload (pc := 153) hc dX7_separates_153 rfl ?_
    refine z_aload_n (pc := 155) hc dX7_separates_155 rfl ?_
    refine z_getR (pc := 156) hc dX7_separates_156 zf_RX7_50 rfl rfl rfl H (fun r27 H => ?_)
    refine z_iload (pc := 159) hc dX7_separates_159 rfl ?_
    refine z_iaload (pc := 161) hc dX7_separates_161 H (fun v28 H => ?_)
    refine z_calI (z_runV (pc := 162) (ci := 7) (T := TX7) (N := 20) hc dX7_separates_162 zw_RX7_123 (metX7_valueOf _ _ _ H.2) rfl (Nat.le_of_ble_eq_true rfl) ⟨Nat.le_of_ble_eq_true rfl, Nat.le_of_ble_eq_true rfl⟩ ⟨by exact Nat.le_of_ble_eq_true rfl, by exact Nat.le_of_ble_eq_true rfl⟩ rfl H.1) rfl ⟨rfl, rfl⟩ (fun v30 h29 H => ?_)
    refine z_iastore (pc := 165) hc dX7_separates_165 H (fun h31 H => ?_)
    refine z_aload_n (pc := 166) hc dX7_separates_166 rfl ?_
    refine z_getR (pc := 167) hc dX7_separates_167 zf_RX7_53 rfl rfl rfl H (fun r32 H => ?_)
    refine z_iload (pc := 170) hc dX7_separates_170 rfl ?_
    refine z_aload_n (pc := 172) hc dX7_separates_172 rfl ?_
    refine z_getR (pc := 173) hc dX7_separates_173 zf_RX7_50 rfl rfl rfl H (fun r33 H => ?_)
    refine z_iload (pc := 176) hc dX7_separates_176 rfl ?_
    refine z_iaload (pc := 178) hc dX7_separates_178 H (fun v34 H => ?_)
    refine z_iastore (pc := 179) hc dX7_separates_179 H (fun h35 H => ?_)
    refine z_iinc (pc := 180) hc dX7_separates_180 (by decide) rfl (ρ' := [some (.inr a0), none, none, none, some (.inl (x4 + 1))]) rfl ?_
    refine z_goto (tgt := 139) (pc := 183) hc dX7_separates_183 rfl ?_
    exact hX139 _ _ H
  · refine z_aload_n (pc := 186) hc dX7_separates_186 rfl ?_
    refine z_calV0 (z_runV (pc := 187) (ci := 7) (T := TX7) (N := 20) hc dX7_separates_187 zw_RX7_146 (metX7_limits _ _ _ H.2) rfl (Nat.le_of_ble_eq_true rfl) ⟨Nat.le_of_ble_eq_true rfl, Nat.le_of_ble_eq_true rfl⟩ ⟨by exact Nat.le_of_ble_eq_true rfl, by exact Nat.le_of_ble_eq_true rfl⟩ rfl H.1) rfl ⟨rfl, rfl⟩ (fun h25 H => ?_)
    exact z_return (pc := 190) hc dX7_separates_190 H
theorem rX7_separates_H139 (hc : zOk p s m args meth c D cX7_separates 5 RX7 none)  {a0 : Nat} {x4 : Int} {h : Zm} {Q : Zm → Prop}  (H : mX7_separates_H139  a0 x4 h Q) : zW p l e zrX7_separates s m args below meth c D base 5 (MQ below (zQv D base Q) args s 0 0 (zFree base)) 0 0 139 [some (.inr a0), none, none, none, some (.inl x4)] [] h :=
  H (fun x4 h => zW p l e zrX7_separates s m args below meth c D base 5 (MQ below (zQv D base Q) args s 0 0 (zFree base)) 0 0 139 [some (.inr a0), none, none, none, some (.inl x4)] [] h) (fun x4 h H => rX7_separates_B139 hc (fun _ _ q => q) H)
set_option maxRecDepth 100000 in
set_option maxHeartbeats 4000000 in
theorem rX7_separates_B108 (hc : zOk p s m args meth c D cX7_separates 5 RX7 none) {X108 : Int → Zm → Prop} {a0 : Nat} {x4 : Int} {h : Zm} {Q : Zm → Prop} (hX108 : ∀ (x4 : Int) (h : Zm), X108 x4 h → zW p l e zrX7_separates s m args below meth c D base 5 (MQ below (zQv D base Q) args s 0 0 (zFree base)) 0 0 108 [some (.inr a0), none, none, none, some (.inl x4)] [] h) (H : mX7_separates_B108 X108 a0 x4 h Q) : zW p l e zrX7_separates s m args below meth c D base 5 (MQ below (zQv D base Q) args s 0 0 (zFree base)) 0 0 108 [some (.inr a0), none, none, none, some (.inl x4)] [] h := by
  unfold mX7_separates_B108 at H
  refine z_iload (pc := 108) hc dX7_separates_108 rfl ?_
  refine z_iconst (pc := 110) hc dX7_separates_110 ?_
  refine z_icmp_ge (tgt := 136) (pc := 111) hc dX7_separates_111 rfl H (fun H => ?_) (fun H => ?_)
  · refine z_aload_n (pc := 114) hc dX7_separates_114 rfl ?_
    refine z_getR (pc := 115) hc dX7_separates_115 zf_RX7_50 rfl rfl rfl H (fun r20 H => ?_)
    refine z_iload (pc := 118) hc dX7_separates_118 rfl ?_
    refine z_dup2 (pc := 120) hc dX7_separates_120 ?_
    refine z_iaload (pc := 121) hc dX7_separates_121 H (fun v21 H => ?_)
    refine z_aload_n (pc := 122) hc dX7_separates_122 rfl ?_
    refine z_getR (pc := 123) hc dX7_separates_123 zf_RX7_50 rfl rfl rfl H (fun r22 H => ?_)
    refine z_iconst (pc := 126) hc dX7_separates_126 ?_
    refine z_iaload (pc := 127) hc dX7_separates_127 H (fun v23 H => ?_)
    refine z_isub (pc := 128) hc dX7_separates_128 ?_
    refine z_iastore (pc := 129) hc dX7_separates_129 H (fun h24 H => ?_)
    refine z_iinc (pc := 130) hc dX7_separates_130 (by decide) rfl (ρ' := [some (.inr a0), none, none, none, some (.inl (x4 + 1))]) rfl ?_
    refine z_goto (tgt := 108) (pc := 133) hc dX7_separates_133 rfl ?_
    exact hX108 _ _ H
  · refine z_iconst (pc := 136) hc dX7_separates_136 ?_
    refine z_istore (pc := 137) hc dX7_separates_137 (by decide) (ρ' := [some (.inr a0), none, none, none, some (.inl 0)]) rfl ?_
    exact rX7_separates_H139 hc H
theorem rX7_separates_H108 (hc : zOk p s m args meth c D cX7_separates 5 RX7 none)  {a0 : Nat} {x4 : Int} {h : Zm} {Q : Zm → Prop}  (H : mX7_separates_H108  a0 x4 h Q) : zW p l e zrX7_separates s m args below meth c D base 5 (MQ below (zQv D base Q) args s 0 0 (zFree base)) 0 0 108 [some (.inr a0), none, none, none, some (.inl x4)] [] h :=
  H (fun x4 h => zW p l e zrX7_separates s m args below meth c D base 5 (MQ below (zQv D base Q) args s 0 0 (zFree base)) 0 0 108 [some (.inr a0), none, none, none, some (.inl x4)] [] h) (fun x4 h H => rX7_separates_B108 hc (fun _ _ q => q) H)
set_option maxRecDepth 100000 in
set_option maxHeartbeats 4000000 in
theorem rX7_separates_J92 (hc : zOk p s m args meth c D cX7_separates 5 RX7 none)  {a0 : Nat} {x1 : Int} {s0 : Int} {h : Zm} {Q : Zm → Prop}  (H : mX7_separates_J92  a0 x1 s0 h Q) : zW p l e zrX7_separates s m args below meth c D base 5 (MQ below (zQv D base Q) args s 0 0 (zFree base)) 0 0 92 [some (.inr a0), some (.inl x1), none, none, none] [.inl s0] h := by
  unfold mX7_separates_J92 at H
  refine z_istore_n (pc := 92) hc dX7_separates_92 (by decide) (ρ' := [some (.inr a0), some (.inl x1), none, some (.inl s0), none]) rfl ?_
  refine z_aload_n (pc := 93) hc dX7_separates_93 rfl ?_
  refine z_getR (pc := 94) hc dX7_separates_94 zf_RX7_50 rfl rfl rfl H (fun r17 H => ?_)
  refine z_iconst (pc := 97) hc dX7_separates_97 ?_
  refine z_iload_n (pc := 98) hc dX7_separates_98 rfl ?_
  refine z_iload_n (pc := 99) hc dX7_separates_99 rfl ?_
  refine z_imul (pc := 100) hc dX7_separates_100 ?_
  refine z_bipush (pc := 101) hc dX7_separates_101 (by decide) ?_
  refine z_idiv (pc := 103) hc dX7_separates_103 H (fun v18 H => ?_)
  refine z_iastore (pc := 104) hc dX7_separates_104 H (fun h19 H => ?_)
  refine z_iconst (pc := 105) hc dX7_separates_105 ?_
  refine z_istore (pc := 106) hc dX7_separates_106 (by decide) (ρ' := [some (.inr a0), some (.inl x1), none, some (.inl s0), some (.inl 0)]) rfl ?_
  refine z_mask [true, false, false, false, true] (ρ' := [some (.inr a0), none, none, none, some (.inl 0)]) rfl ?_
  exact rX7_separates_H108 hc H
set_option maxRecDepth 100000 in
set_option maxHeartbeats 4000000 in
theorem rX7_separates_B6 (hc : zOk p s m args meth c D cX7_separates 5 RX7 none) {X6 : Int → Int → Zm → Prop} {a0 : Nat} {x1 : Int} {x2 : Int} {x3 : Int} {h : Zm} {Q : Zm → Prop} (hX6 : ∀ (x2 : Int) (x3 : Int) (h : Zm), X6 x2 x3 h → zW p l e zrX7_separates s m args below meth c D base 5 (MQ below (zQv D base Q) args s 0 0 (zFree base)) 0 0 6 [some (.inr a0), some (.inl x1), some (.inl x2), some (.inl x3), none] [] h) (H : mX7_separates_B6 X6 a0 x1 x2 x3 h Q) : zW p l e zrX7_separates s m args below meth c D base 5 (MQ below (zQv D base Q) args s 0 0 (zFree base)) 0 0 6 [some (.inr a0), some (.inl x1), some (.inl x2), some (.inl x3), none] [] h := by
  unfold mX7_separates_B6 at H
  refine z_iload_n (pc := 6) hc dX7_separates_6 rfl ?_
  refine z_iconst (pc := 7) hc dX7_separates_7 ?_
  refine z_icmp_ge (tgt := 70) (pc := 8) hc dX7_separates_8 rfl H (fun H => ?_) (fun H => ?_)
  · refine z_aload_n (pc := 11) hc dX7_separates_11 rfl ?_
    refine z_getR (pc := 12) hc dX7_separates_12 zf_RX7_50 rfl rfl rfl H (fun r5 H => ?_)
    refine z_iload_n (pc := 15) hc dX7_separates_15 rfl ?_
    refine z_sipush (pc := 16) hc dX7_separates_16 (by decide) ?_
    refine z_aload_n (pc := 19) hc dX7_separates_19 rfl ?_
    refine z_getR (pc := 20) hc dX7_separates_20 zf_RX7_47 rfl rfl rfl H (fun r6 H => ?_)
    refine z_iload_n (pc := 23) hc dX7_separates_23 rfl ?_
    refine z_iaload (pc := 24) hc dX7_separates_24 H (fun v7 H => ?_)
    refine z_isub (pc := 25) hc dX7_separates_25 ?_
    refine z_iastore (pc := 26) hc dX7_separates_26 H (fun h8 H => ?_)
    refine z_aload_n (pc := 27) hc dX7_separates_27 rfl ?_
    refine z_getR (pc := 28) hc dX7_separates_28 zf_RX7_50 rfl rfl rfl H (fun r9 H => ?_)
    refine z_iconst (pc := 31) hc dX7_separates_31 ?_
    refine z_iload_n (pc := 32) hc dX7_separates_32 rfl ?_
    refine z_iadd (pc := 33) hc dX7_separates_33 ?_
    refine z_aload_n (pc := 34) hc dX7_separates_34 rfl ?_
    refine z_getR (pc := 35) hc dX7_separates_35 zf_RX7_47 rfl rfl rfl H (fun r10 H => ?_)
    refine z_iconst (pc := 38) hc dX7_separates_38 ?_
    refine z_iload_n (pc := 39) hc dX7_separates_39 rfl ?_
    refine z_iadd (pc := 40) hc dX7_separates_40 ?_
    refine z_iaload (pc := 41) hc dX7_separates_41 H (fun v11 H => ?_)
    refine z_iastore (pc := 42) hc dX7_separates_42 H (fun h12 H => ?_)
    refine z_aload_n (pc := 43) hc dX7_separates_43 rfl ?_
    refine z_getR (pc := 44) hc dX7_separates_44 zf_RX7_50 rfl rfl rfl H (fun r13 H => ?_)
    refine z_iload_n (pc := 47) hc dX7_separates_47 rfl ?_
    refine z_iaload (pc := 48) hc dX7_separates_48 H (fun v14 H => ?_)
    refine z_iload_n (pc := 49) hc dX7_separates_49 rfl ?_
    refine z_icmp_ge (tgt := 62) (pc := 50) hc dX7_separates_50 rfl H (fun H => ?_) (fun H => ?_)
    · refine z_aload_n (pc := 53) hc dX7_separates_53 rfl ?_
      refine z_getR (pc := 54) hc dX7_separates_54 zf_RX7_50 rfl rfl rfl H (fun r15 H => ?_)
      refine z_iload_n (pc := 57) hc dX7_separates_57 rfl ?_
      refine z_iaload (pc := 58) hc dX7_separates_58 H (fun v16 H => ?_)
      refine z_goto (tgt := 63) (pc := 59) hc dX7_separates_59 rfl ?_
      refine z_istore_n (pc := 63) hc dX7_separates_63 (by decide) (ρ' := [some (.inr a0), some (.inl x1), some (.inl v16), some (.inl x3), none]) rfl ?_
      refine z_iinc (pc := 64) hc dX7_separates_64 (by decide) rfl (ρ' := [some (.inr a0), some (.inl x1), some (.inl v16), some (.inl (x3 + 1)), none]) rfl ?_
      refine z_goto (tgt := 6) (pc := 67) hc dX7_separates_67 rfl ?_
      exact hX6 _ _ _ H
    · refine z_iload_n (pc := 62) hc dX7_separates_62 rfl ?_
      refine z_istore_n (pc := 63) hc dX7_separates_63 (by decide) (ρ' := [some (.inr a0), some (.inl x1), some (.inl x2), some (.inl x3), none]) rfl ?_
      refine z_iinc (pc := 64) hc dX7_separates_64 (by decide) rfl (ρ' := [some (.inr a0), some (.inl x1), some (.inl x2), some (.inl (x3 + 1)), none]) rfl ?_
      refine z_goto (tgt := 6) (pc := 67) hc dX7_separates_67 rfl ?_
      exact hX6 _ _ _ H
  · refine z_iload_n (pc := 70) hc dX7_separates_70 rfl ?_
    refine z_aload_n (pc := 71) hc dX7_separates_71 rfl ?_
    refine z_getR (pc := 72) hc dX7_separates_72 zf_RX7_7 rfl rfl rfl H (fun r1 H => ?_)
    refine z_iconst (pc := 75) hc dX7_separates_75 ?_
    refine z_iaload (pc := 76) hc dX7_separates_76 H (fun v2 H => ?_)
    refine z_icmp_le (tgt := 91) (pc := 77) hc dX7_separates_77 rfl H (fun H => ?_) (fun H => ?_)
    · refine z_iconst (pc := 91) hc dX7_separates_91 ?_
      refine z_mask [true, true, false, false, false] (ρ' := [some (.inr a0), some (.inl x1), none, none, none]) rfl ?_
      exact rX7_separates_J92 hc H
    · refine z_iload_n (pc := 80) hc dX7_separates_80 rfl ?_
      refine z_aload_n (pc := 81) hc dX7_separates_81 rfl ?_
      refine z_getR (pc := 82) hc dX7_separates_82 zf_RX7_7 rfl rfl rfl H (fun r3 H => ?_)
      refine z_iconst (pc := 85) hc dX7_separates_85 ?_
      refine z_iaload (pc := 86) hc dX7_separates_86 H (fun v4 H => ?_)
      refine z_isub (pc := 87) hc dX7_separates_87 ?_
      refine z_goto (tgt := 92) (pc := 88) hc dX7_separates_88 rfl ?_
      refine z_mask [true, true, false, false, false] (ρ' := [some (.inr a0), some (.inl x1), none, none, none]) rfl ?_
      exact rX7_separates_J92 hc H
theorem rX7_separates_H6 (hc : zOk p s m args meth c D cX7_separates 5 RX7 none)  {a0 : Nat} {x1 : Int} {x2 : Int} {x3 : Int} {h : Zm} {Q : Zm → Prop}  (H : mX7_separates_H6  a0 x1 x2 x3 h Q) : zW p l e zrX7_separates s m args below meth c D base 5 (MQ below (zQv D base Q) args s 0 0 (zFree base)) 0 0 6 [some (.inr a0), some (.inl x1), some (.inl x2), some (.inl x3), none] [] h :=
  H (fun x2 x3 h => zW p l e zrX7_separates s m args below meth c D base 5 (MQ below (zQv D base Q) args s 0 0 (zFree base)) 0 0 6 [some (.inr a0), some (.inl x1), some (.inl x2), some (.inl x3), none] [] h) (fun x2 x3 h H => rX7_separates_B6 hc (fun _ _ _ q => q) H)
set_option maxRecDepth 100000 in
set_option maxHeartbeats 4000000 in
theorem rX7_separates (hc : zOk p s m args meth c D cX7_separates 5 RX7 none) {a0 : Nat} {x1 : Int} {h : Zm} {Q : Zm → Prop} (H : mX7_separates a0 x1 h Q) : zW p l e zrX7_separates s m args below meth c D base 5 (MQ below (zQv D base Q) args s 0 0 (zFree base)) 0 0 0 [some (.inr a0), some (.inl x1), none, none, none] [] h := by
  unfold mX7_separates at H
  refine z_sipush (pc := 0) hc dX7_separates_0 (by decide) ?_
  refine z_istore_n (pc := 3) hc dX7_separates_3 (by decide) (ρ' := [some (.inr a0), some (.inl x1), some (.inl 255), none, none]) rfl ?_
  refine z_iconst (pc := 4) hc dX7_separates_4 ?_
  refine z_istore_n (pc := 5) hc dX7_separates_5 (by decide) (ρ' := [some (.inr a0), some (.inl x1), some (.inl 255), some (.inl 0), none]) rfl ?_
  exact rX7_separates_H6 hc H
end
theorem metX7_separates (l : Launch) (D : Zd) (base : Nat) {a0 : Nat} {x1 : Int} {h : Zm} {Q : Zm → Prop} (H : mX7_separates a0 x1 h Q) : zMet l D base yX7_separates cX7_separates 5 none zrX7_separates [.inr a0, .inl x1] h (zQv D base Q) :=
  z_met (by decide +kernel) (Nat.le_of_ble_eq_true rfl) (fun p e s m args below meth c hc hn => rX7_separates hc H)
def zrX7_told : Room := { frames := 0, cells := 0, slots := 0, locals := 0 }
def mX7_told_J22 (X4 : Int → Int → Zm → Prop) (a0 : Nat) (x1 : Int) (x3 : Int) (s0 : Int) (h : Zm) (Q : Int → Zm → Prop) : Prop :=
  cGr h 17 a0 16 fun r1 => cLd h 1 r1 x3 fun v2 => X4 (s0 + v2) (x3 + 1) h
def mX7_told_B4 (X4 : Int → Int → Zm → Prop) (a0 : Nat) (x1 : Int) (x2 : Int) (x3 : Int) (h : Zm) (Q : Int → Zm → Prop) : Prop :=
  cLt x3 7
  (cEq x1 7
    (mX7_told_J22 X4 a0 x1 x3 x2 h Q)
    (cEq x1 x3
      (mX7_told_J22 X4 a0 x1 x3 x2 h Q)
      (X4 (x2 + 0) (x3 + 1) h)))
  (Q x2 h)
def mX7_told_H4  (a0 : Nat) (x1 : Int) (x2 : Int) (x3 : Int) (h : Zm) (Q : Int → Zm → Prop) : Prop :=
  lfp2 (fun X4 x2 x3 h => mX7_told_B4 X4 a0 x1 x2 x3 h Q) x2 x3 h
def mX7_told (a0 : Nat) (x1 : Int) (h : Zm) (Q : Int → Zm → Prop) : Prop :=
  mX7_told_H4  a0 x1 0 0 h Q
section
variable {p : Program} {l : Launch} {e : Env} {s : State} {m : MethodId} {args : Array Value} {below : List Frame} {meth : Method} {c : Code} {D : Zd} {base : Nat}
set_option maxRecDepth 100000 in
set_option maxHeartbeats 4000000 in
theorem rX7_told_J22 (hc : zOk p s m args meth c D cX7_told 4 RX7 (some .int)) {X4 : Int → Int → Zm → Prop} {a0 : Nat} {x1 : Int} {x3 : Int} {s0 : Int} {h : Zm} {Q : Int → Zm → Prop} (hX4 : ∀ (x2 : Int) (x3 : Int) (h : Zm), X4 x2 x3 h → zW p l e zrX7_told s m args below meth c D base 4 (MQ below (zQi D base Q) args s 0 0 (zFree base)) 0 0 4 [some (.inr a0), some (.inl x1), some (.inl x2), some (.inl x3)] [] h) (H : mX7_told_J22 X4 a0 x1 x3 s0 h Q) : zW p l e zrX7_told s m args below meth c D base 4 (MQ below (zQi D base Q) args s 0 0 (zFree base)) 0 0 22 [some (.inr a0), some (.inl x1), none, some (.inl x3)] [.inl s0] h := by
  unfold mX7_told_J22 at H
  refine z_aload_n (pc := 22) hc dX7_told_22 rfl ?_
  refine z_getR (pc := 23) hc dX7_told_23 zf_RX7_53 rfl rfl rfl H (fun r1 H => ?_)
  refine z_iload_n (pc := 26) hc dX7_told_26 rfl ?_
  refine z_iaload (pc := 27) hc dX7_told_27 H (fun v2 H => ?_)
  refine z_goto (tgt := 32) (pc := 28) hc dX7_told_28 rfl ?_
  refine z_iadd (pc := 32) hc dX7_told_32 ?_
  refine z_istore_n (pc := 33) hc dX7_told_33 (by decide) (ρ' := [some (.inr a0), some (.inl x1), some (.inl (s0 + v2)), some (.inl x3)]) rfl ?_
  refine z_iinc (pc := 34) hc dX7_told_34 (by decide) rfl (ρ' := [some (.inr a0), some (.inl x1), some (.inl (s0 + v2)), some (.inl (x3 + 1))]) rfl ?_
  refine z_goto (tgt := 4) (pc := 37) hc dX7_told_37 rfl ?_
  exact hX4 _ _ _ H
set_option maxRecDepth 100000 in
set_option maxHeartbeats 4000000 in
theorem rX7_told_B4 (hc : zOk p s m args meth c D cX7_told 4 RX7 (some .int)) {X4 : Int → Int → Zm → Prop} {a0 : Nat} {x1 : Int} {x2 : Int} {x3 : Int} {h : Zm} {Q : Int → Zm → Prop} (hX4 : ∀ (x2 : Int) (x3 : Int) (h : Zm), X4 x2 x3 h → zW p l e zrX7_told s m args below meth c D base 4 (MQ below (zQi D base Q) args s 0 0 (zFree base)) 0 0 4 [some (.inr a0), some (.inl x1), some (.inl x2), some (.inl x3)] [] h) (H : mX7_told_B4 X4 a0 x1 x2 x3 h Q) : zW p l e zrX7_told s m args below meth c D base 4 (MQ below (zQi D base Q) args s 0 0 (zFree base)) 0 0 4 [some (.inr a0), some (.inl x1), some (.inl x2), some (.inl x3)] [] h := by
  unfold mX7_told_B4 at H
  refine z_iload_n (pc := 4) hc dX7_told_4 rfl ?_
  refine z_bipush (pc := 5) hc dX7_told_5 (by decide) ?_
  refine z_icmp_ge (tgt := 40) (pc := 7) hc dX7_told_7 rfl H (fun H => ?_) (fun H => ?_)
  · refine z_iload_n (pc := 10) hc dX7_told_10 rfl ?_
    refine z_iload_n (pc := 11) hc dX7_told_11 rfl ?_
    refine z_bipush (pc := 12) hc dX7_told_12 (by decide) ?_
    refine z_icmp_eq (tgt := 22) (pc := 14) hc dX7_told_14 rfl H (fun H => ?_) (fun H => ?_)
    · refine z_mask [true, true, false, true] (ρ' := [some (.inr a0), some (.inl x1), none, some (.inl x3)]) rfl ?_
      exact rX7_told_J22 hc hX4 H
    · refine z_iload_n (pc := 17) hc dX7_told_17 rfl ?_
      refine z_iload_n (pc := 18) hc dX7_told_18 rfl ?_
      refine z_icmp_ne (tgt := 31) (pc := 19) hc dX7_told_19 rfl H (fun H => ?_) (fun H => ?_)
      · refine z_mask [true, true, false, true] (ρ' := [some (.inr a0), some (.inl x1), none, some (.inl x3)]) rfl ?_
        exact rX7_told_J22 hc hX4 H
      · refine z_iconst (pc := 31) hc dX7_told_31 ?_
        refine z_iadd (pc := 32) hc dX7_told_32 ?_
        refine z_istore_n (pc := 33) hc dX7_told_33 (by decide) (ρ' := [some (.inr a0), some (.inl x1), some (.inl (x2 + 0)), some (.inl x3)]) rfl ?_
        refine z_iinc (pc := 34) hc dX7_told_34 (by decide) rfl (ρ' := [some (.inr a0), some (.inl x1), some (.inl (x2 + 0)), some (.inl (x3 + 1))]) rfl ?_
        refine z_goto (tgt := 4) (pc := 37) hc dX7_told_37 rfl ?_
        exact hX4 _ _ _ H
  · refine z_iload_n (pc := 40) hc dX7_told_40 rfl ?_
    exact z_ireturn (pc := 41) hc dX7_told_41 H
theorem rX7_told_H4 (hc : zOk p s m args meth c D cX7_told 4 RX7 (some .int))  {a0 : Nat} {x1 : Int} {x2 : Int} {x3 : Int} {h : Zm} {Q : Int → Zm → Prop}  (H : mX7_told_H4  a0 x1 x2 x3 h Q) : zW p l e zrX7_told s m args below meth c D base 4 (MQ below (zQi D base Q) args s 0 0 (zFree base)) 0 0 4 [some (.inr a0), some (.inl x1), some (.inl x2), some (.inl x3)] [] h :=
  H (fun x2 x3 h => zW p l e zrX7_told s m args below meth c D base 4 (MQ below (zQi D base Q) args s 0 0 (zFree base)) 0 0 4 [some (.inr a0), some (.inl x1), some (.inl x2), some (.inl x3)] [] h) (fun x2 x3 h H => rX7_told_B4 hc (fun _ _ _ q => q) H)
set_option maxRecDepth 100000 in
set_option maxHeartbeats 4000000 in
theorem rX7_told (hc : zOk p s m args meth c D cX7_told 4 RX7 (some .int)) {a0 : Nat} {x1 : Int} {h : Zm} {Q : Int → Zm → Prop} (H : mX7_told a0 x1 h Q) : zW p l e zrX7_told s m args below meth c D base 4 (MQ below (zQi D base Q) args s 0 0 (zFree base)) 0 0 0 [some (.inr a0), some (.inl x1), none, none] [] h := by
  unfold mX7_told at H
  refine z_iconst (pc := 0) hc dX7_told_0 ?_
  refine z_istore_n (pc := 1) hc dX7_told_1 (by decide) (ρ' := [some (.inr a0), some (.inl x1), some (.inl 0), none]) rfl ?_
  refine z_iconst (pc := 2) hc dX7_told_2 ?_
  refine z_istore_n (pc := 3) hc dX7_told_3 (by decide) (ρ' := [some (.inr a0), some (.inl x1), some (.inl 0), some (.inl 0)]) rfl ?_
  exact rX7_told_H4 hc H
end
theorem metX7_told (l : Launch) (D : Zd) (base : Nat) {a0 : Nat} {x1 : Int} {h : Zm} {Q : Int → Zm → Prop} (H : mX7_told a0 x1 h Q) : zMet l D base yX7_told cX7_told 4 (some .int) zrX7_told [.inr a0, .inl x1] h (zQi D base Q) :=
  z_met (by decide +kernel) (Nat.le_of_ble_eq_true rfl) (fun p e s m args below meth c hc hn => rX7_told hc H)
def zrX7_sumEarly : Room := { frames := 0, cells := 0, slots := 0, locals := 0 }
def mX7_sumEarly_B4 (X4 : Int → Int → Zm → Prop) (a0 : Nat) (x1 : Int) (x2 : Int) (h : Zm) (Q : Int → Zm → Prop) : Prop :=
  cLt x2 7
  (cGr h 17 a0 15 fun r1 => cLd h 1 r1 x2 fun v2 => X4 (x1 + v2) (x2 + 1) h)
  (Q x1 h)
def mX7_sumEarly_H4  (a0 : Nat) (x1 : Int) (x2 : Int) (h : Zm) (Q : Int → Zm → Prop) : Prop :=
  lfp2 (fun X4 x1 x2 h => mX7_sumEarly_B4 X4 a0 x1 x2 h Q) x1 x2 h
def mX7_sumEarly (a0 : Nat) (h : Zm) (Q : Int → Zm → Prop) : Prop :=
  mX7_sumEarly_H4  a0 0 0 h Q
section
variable {p : Program} {l : Launch} {e : Env} {s : State} {m : MethodId} {args : Array Value} {below : List Frame} {meth : Method} {c : Code} {D : Zd} {base : Nat}
set_option maxRecDepth 100000 in
set_option maxHeartbeats 4000000 in
theorem rX7_sumEarly_B4 (hc : zOk p s m args meth c D cX7_sumEarly 3 RX7 (some .int)) {X4 : Int → Int → Zm → Prop} {a0 : Nat} {x1 : Int} {x2 : Int} {h : Zm} {Q : Int → Zm → Prop} (hX4 : ∀ (x1 : Int) (x2 : Int) (h : Zm), X4 x1 x2 h → zW p l e zrX7_sumEarly s m args below meth c D base 3 (MQ below (zQi D base Q) args s 0 0 (zFree base)) 0 0 4 [some (.inr a0), some (.inl x1), some (.inl x2)] [] h) (H : mX7_sumEarly_B4 X4 a0 x1 x2 h Q) : zW p l e zrX7_sumEarly s m args below meth c D base 3 (MQ below (zQi D base Q) args s 0 0 (zFree base)) 0 0 4 [some (.inr a0), some (.inl x1), some (.inl x2)] [] h := by
  unfold mX7_sumEarly_B4 at H
  refine z_iload_n (pc := 4) hc dX7_sumEarly_4 rfl ?_
  refine z_bipush (pc := 5) hc dX7_sumEarly_5 (by decide) ?_
  refine z_icmp_ge (tgt := 25) (pc := 7) hc dX7_sumEarly_7 rfl H (fun H => ?_) (fun H => ?_)
  · refine z_iload_n (pc := 10) hc dX7_sumEarly_10 rfl ?_
    refine z_aload_n (pc := 11) hc dX7_sumEarly_11 rfl ?_
    refine z_getR (pc := 12) hc dX7_sumEarly_12 zf_RX7_50 rfl rfl rfl H (fun r1 H => ?_)
    refine z_iload_n (pc := 15) hc dX7_sumEarly_15 rfl ?_
    refine z_iaload (pc := 16) hc dX7_sumEarly_16 H (fun v2 H => ?_)
    refine z_iadd (pc := 17) hc dX7_sumEarly_17 ?_
    refine z_istore_n (pc := 18) hc dX7_sumEarly_18 (by decide) (ρ' := [some (.inr a0), some (.inl (x1 + v2)), some (.inl x2)]) rfl ?_
    refine z_iinc (pc := 19) hc dX7_sumEarly_19 (by decide) rfl (ρ' := [some (.inr a0), some (.inl (x1 + v2)), some (.inl (x2 + 1))]) rfl ?_
    refine z_goto (tgt := 4) (pc := 22) hc dX7_sumEarly_22 rfl ?_
    exact hX4 _ _ _ H
  · refine z_iload_n (pc := 25) hc dX7_sumEarly_25 rfl ?_
    exact z_ireturn (pc := 26) hc dX7_sumEarly_26 H
theorem rX7_sumEarly_H4 (hc : zOk p s m args meth c D cX7_sumEarly 3 RX7 (some .int))  {a0 : Nat} {x1 : Int} {x2 : Int} {h : Zm} {Q : Int → Zm → Prop}  (H : mX7_sumEarly_H4  a0 x1 x2 h Q) : zW p l e zrX7_sumEarly s m args below meth c D base 3 (MQ below (zQi D base Q) args s 0 0 (zFree base)) 0 0 4 [some (.inr a0), some (.inl x1), some (.inl x2)] [] h :=
  H (fun x1 x2 h => zW p l e zrX7_sumEarly s m args below meth c D base 3 (MQ below (zQi D base Q) args s 0 0 (zFree base)) 0 0 4 [some (.inr a0), some (.inl x1), some (.inl x2)] [] h) (fun x1 x2 h H => rX7_sumEarly_B4 hc (fun _ _ _ q => q) H)
set_option maxRecDepth 100000 in
set_option maxHeartbeats 4000000 in
theorem rX7_sumEarly (hc : zOk p s m args meth c D cX7_sumEarly 3 RX7 (some .int)) {a0 : Nat} {h : Zm} {Q : Int → Zm → Prop} (H : mX7_sumEarly a0 h Q) : zW p l e zrX7_sumEarly s m args below meth c D base 3 (MQ below (zQi D base Q) args s 0 0 (zFree base)) 0 0 0 [some (.inr a0), none, none] [] h := by
  unfold mX7_sumEarly at H
  refine z_iconst (pc := 0) hc dX7_sumEarly_0 ?_
  refine z_istore_n (pc := 1) hc dX7_sumEarly_1 (by decide) (ρ' := [some (.inr a0), some (.inl 0), none]) rfl ?_
  refine z_iconst (pc := 2) hc dX7_sumEarly_2 ?_
  refine z_istore_n (pc := 3) hc dX7_sumEarly_3 (by decide) (ρ' := [some (.inr a0), some (.inl 0), some (.inl 0)]) rfl ?_
  exact rX7_sumEarly_H4 hc H
end
theorem metX7_sumEarly (l : Launch) (D : Zd) (base : Nat) {a0 : Nat} {h : Zm} {Q : Int → Zm → Prop} (H : mX7_sumEarly a0 h Q) : zMet l D base yX7_sumEarly cX7_sumEarly 3 (some .int) zrX7_sumEarly [.inr a0] h (zQi D base Q) :=
  z_met (by decide +kernel) (Nat.le_of_ble_eq_true rfl) (fun p e s m args below meth c hc hn => rX7_sumEarly hc H)
def zrX7_isPixel : Room := { frames := 1, cells := 0, slots := 0, locals := 22 }
def mX7_isPixel (a0 : Nat) (x1 : Int) (x2 : Int) (h : Zm) (Q : Int → Zm → Prop) : Prop :=
  cGr h 17 a0 0 fun r1 => cLd h 1 r1 0 fun v2 => mX7_in x1 0 (v2 - 1) h fun v4 h3 => cEq v4 0
  (Q 0 h3)
  (cGr h3 17 a0 0 fun r5 => cLd h3 1 r5 1 fun v6 => mX7_in x2 0 (v6 - 1) h3 fun v8 h7 => cEq v8 0
    (Q 0 h7)
    (Q 1 h7))
section
variable {p : Program} {l : Launch} {e : Env} {s : State} {m : MethodId} {args : Array Value} {below : List Frame} {meth : Method} {c : Code} {D : Zd} {base : Nat}
set_option maxRecDepth 100000 in
set_option maxHeartbeats 4000000 in
theorem rX7_isPixel (hc : zOk p s m args meth c D cX7_isPixel 3 RX7 (some .boolean)) {a0 : Nat} {x1 : Int} {x2 : Int} {h : Zm} {Q : Int → Zm → Prop} (H : mX7_isPixel a0 x1 x2 h Q) : zW p l e zrX7_isPixel s m args below meth c D base 3 (MQ below (zQi D base Q) args s 0 0 (zFree base)) 0 0 0 [some (.inr a0), some (.inl x1), some (.inl x2)] [] h := by
  unfold mX7_isPixel at H
  refine z_iload_n (pc := 0) hc dX7_isPixel_0 rfl ?_
  refine z_iconst (pc := 1) hc dX7_isPixel_1 ?_
  refine z_aload_n (pc := 2) hc dX7_isPixel_2 rfl ?_
  refine z_getR (pc := 3) hc dX7_isPixel_3 zf_RX7_7 rfl rfl rfl H (fun r1 H => ?_)
  refine z_iconst (pc := 6) hc dX7_isPixel_6 ?_
  refine z_iaload (pc := 7) hc dX7_isPixel_7 H (fun v2 H => ?_)
  refine z_iconst (pc := 8) hc dX7_isPixel_8 ?_
  refine z_isub (pc := 9) hc dX7_isPixel_9 ?_
  refine z_calI (z_runS (pc := 10) hc dX7_isPixel_10 zw_RX7_73 (metX7_in _ _ _ H) rfl (Nat.le_of_ble_eq_true rfl) ⟨Nat.le_of_ble_eq_true rfl, Nat.le_of_ble_eq_true rfl⟩ ⟨by exact Nat.le_of_ble_eq_true rfl, by exact Nat.le_of_ble_eq_true rfl⟩) rfl ⟨rfl, rfl⟩ (fun v4 h3 H => ?_)
  refine z_if_eq (tgt := 36) (pc := 13) hc dX7_isPixel_13 rfl H (fun H => ?_) (fun H => ?_)
  · refine z_iconst (pc := 36) hc dX7_isPixel_36 ?_
    exact z_zreturn (pc := 37) hc dX7_isPixel_37 ⟨Or.inl rfl, H⟩
  · refine z_iload_n (pc := 16) hc dX7_isPixel_16 rfl ?_
    refine z_iconst (pc := 17) hc dX7_isPixel_17 ?_
    refine z_aload_n (pc := 18) hc dX7_isPixel_18 rfl ?_
    refine z_getR (pc := 19) hc dX7_isPixel_19 zf_RX7_7 rfl rfl rfl H (fun r5 H => ?_)
    refine z_iconst (pc := 22) hc dX7_isPixel_22 ?_
    refine z_iaload (pc := 23) hc dX7_isPixel_23 H (fun v6 H => ?_)
    refine z_iconst (pc := 24) hc dX7_isPixel_24 ?_
    refine z_isub (pc := 25) hc dX7_isPixel_25 ?_
    refine z_calI (z_runS (pc := 26) hc dX7_isPixel_26 zw_RX7_73 (metX7_in _ _ _ H) rfl (Nat.le_of_ble_eq_true rfl) ⟨Nat.le_of_ble_eq_true rfl, Nat.le_of_ble_eq_true rfl⟩ ⟨by exact Nat.le_of_ble_eq_true rfl, by exact Nat.le_of_ble_eq_true rfl⟩) rfl ⟨rfl, rfl⟩ (fun v8 h7 H => ?_)
    refine z_if_eq (tgt := 36) (pc := 29) hc dX7_isPixel_29 rfl H (fun H => ?_) (fun H => ?_)
    · refine z_iconst (pc := 36) hc dX7_isPixel_36 ?_
      exact z_zreturn (pc := 37) hc dX7_isPixel_37 ⟨Or.inl rfl, H⟩
    · refine z_iconst (pc := 32) hc dX7_isPixel_32 ?_
      refine z_goto (tgt := 37) (pc := 33) hc dX7_isPixel_33 rfl ?_
      exact z_zreturn (pc := 37) hc dX7_isPixel_37 ⟨Or.inr rfl, H⟩
end
theorem metX7_isPixel (l : Launch) (D : Zd) (base : Nat) {a0 : Nat} {x1 : Int} {x2 : Int} {h : Zm} {Q : Int → Zm → Prop} (H : mX7_isPixel a0 x1 x2 h Q) : zMet l D base yX7_isPixel cX7_isPixel 3 (some .boolean) zrX7_isPixel [.inr a0, .inl x1, .inl x2] h (zQi D base Q) :=
  z_met (by decide +kernel) (Nat.le_of_ble_eq_true rfl) (fun p e s m args below meth c hc hn => rX7_isPixel hc H)
def zrX7_rendered : Room := { frames := 4, cells := 0, slots := 0, locals := 93 }
def mX7_rendered (a0 : Nat) (x1 : Int) (x2 : Int) (x3 : Int) (h : Zm) (Q : Int → Zm → Prop) : Prop :=
  cRc h 17 a0 <| mX7_isPixel a0 x1 x2 h fun v2 h1 => cEq v2 0
  (Q (-1) h1)
  (mX7_in x3 0 5 h1 fun v4 h3 => cEq v4 0
    (Q (-1) h3)
    (cRc h3 17 a0 <| mX7_lays a0 h3 fun h5 => cRc h5 17 a0 <| mX7_renders a0 x1 x2 h5 fun h6 => cGr h6 17 a0 14 fun r7 => cLd h6 1 r7 x3 fun v8 => Q v8 h6))
section
variable {p : Program} {l : Launch} {e : Env} {s : State} {m : MethodId} {args : Array Value} {below : List Frame} {meth : Method} {c : Code} {D : Zd} {base : Nat}
set_option maxRecDepth 100000 in
set_option maxHeartbeats 4000000 in
theorem rX7_rendered (hc : zOk p s m args meth c D cX7_rendered 4 RX7 (some .int)) {a0 : Nat} {x1 : Int} {x2 : Int} {x3 : Int} {h : Zm} {Q : Int → Zm → Prop} (H : mX7_rendered a0 x1 x2 x3 h Q) : zW p l e zrX7_rendered s m args below meth c D base 4 (MQ below (zQi D base Q) args s 0 0 (zFree base)) 0 0 0 [some (.inr a0), some (.inl x1), some (.inl x2), some (.inl x3)] [] h := by
  unfold mX7_rendered at H
  refine z_aload_n (pc := 0) hc dX7_rendered_0 rfl ?_
  refine z_iload_n (pc := 1) hc dX7_rendered_1 rfl ?_
  refine z_iload_n (pc := 2) hc dX7_rendered_2 rfl ?_
  refine z_calI (z_runV (pc := 3) (ci := 7) (T := TX7) (N := 20) hc dX7_rendered_3 zw_RX7_149 (metX7_isPixel _ _ _ H.2) rfl (Nat.le_of_ble_eq_true rfl) ⟨Nat.le_of_ble_eq_true rfl, Nat.le_of_ble_eq_true rfl⟩ ⟨by exact Nat.le_of_ble_eq_true rfl, by exact Nat.le_of_ble_eq_true rfl⟩ rfl H.1) rfl ⟨rfl, rfl⟩ (fun v2 h1 H => ?_)
  refine z_if_eq (tgt := 18) (pc := 6) hc dX7_rendered_6 rfl H (fun H => ?_) (fun H => ?_)
  · refine z_iconst (pc := 18) hc dX7_rendered_18 ?_
    exact z_ireturn (pc := 19) hc dX7_rendered_19 H
  · refine z_iload_n (pc := 9) hc dX7_rendered_9 rfl ?_
    refine z_iconst (pc := 10) hc dX7_rendered_10 ?_
    refine z_iconst (pc := 11) hc dX7_rendered_11 ?_
    refine z_calI (z_runS (pc := 12) hc dX7_rendered_12 zw_RX7_73 (metX7_in _ _ _ H) rfl (Nat.le_of_ble_eq_true rfl) ⟨Nat.le_of_ble_eq_true rfl, Nat.le_of_ble_eq_true rfl⟩ ⟨by exact Nat.le_of_ble_eq_true rfl, by exact Nat.le_of_ble_eq_true rfl⟩) rfl ⟨rfl, rfl⟩ (fun v4 h3 H => ?_)
    refine z_if_ne (tgt := 20) (pc := 15) hc dX7_rendered_15 rfl H (fun H => ?_) (fun H => ?_)
    · refine z_iconst (pc := 18) hc dX7_rendered_18 ?_
      exact z_ireturn (pc := 19) hc dX7_rendered_19 H
    · refine z_aload_n (pc := 20) hc dX7_rendered_20 rfl ?_
      refine z_calV0 (z_runV (pc := 21) (ci := 7) (T := TX7) (N := 20) hc dX7_rendered_21 zw_RX7_152 (metX7_lays _ _ _ H.2) rfl (Nat.le_of_ble_eq_true rfl) ⟨Nat.le_of_ble_eq_true rfl, Nat.le_of_ble_eq_true rfl⟩ ⟨by exact Nat.le_of_ble_eq_true rfl, by exact Nat.le_of_ble_eq_true rfl⟩ rfl H.1) rfl ⟨rfl, rfl⟩ (fun h5 H => ?_)
      refine z_aload_n (pc := 24) hc dX7_rendered_24 rfl ?_
      refine z_iload_n (pc := 25) hc dX7_rendered_25 rfl ?_
      refine z_iload_n (pc := 26) hc dX7_rendered_26 rfl ?_
      refine z_calV0 (z_runV (pc := 27) (ci := 7) (T := TX7) (N := 20) hc dX7_rendered_27 zw_RX7_155 (metX7_renders _ _ _ H.2) rfl (Nat.le_of_ble_eq_true rfl) ⟨Nat.le_of_ble_eq_true rfl, Nat.le_of_ble_eq_true rfl⟩ ⟨by exact Nat.le_of_ble_eq_true rfl, by exact Nat.le_of_ble_eq_true rfl⟩ rfl H.1) rfl ⟨rfl, rfl⟩ (fun h6 H => ?_)
      refine z_aload_n (pc := 30) hc dX7_rendered_30 rfl ?_
      refine z_getR (pc := 31) hc dX7_rendered_31 zf_RX7_47 rfl rfl rfl H (fun r7 H => ?_)
      refine z_iload_n (pc := 34) hc dX7_rendered_34 rfl ?_
      refine z_iaload (pc := 35) hc dX7_rendered_35 H (fun v8 H => ?_)
      exact z_ireturn (pc := 36) hc dX7_rendered_36 H
end
theorem metX7_rendered (l : Launch) (D : Zd) (base : Nat) {a0 : Nat} {x1 : Int} {x2 : Int} {x3 : Int} {h : Zm} {Q : Int → Zm → Prop} (H : mX7_rendered a0 x1 x2 x3 h Q) : zMet l D base yX7_rendered cX7_rendered 4 (some .int) zrX7_rendered [.inr a0, .inl x1, .inl x2, .inl x3] h (zQi D base Q) :=
  z_met (by decide +kernel) (Nat.le_of_ble_eq_true rfl) (fun p e s m args below meth c hc hn => rX7_rendered hc H)
def zrX7_ink : Room := { frames := 4, cells := 0, slots := 0, locals := 93 }
def mX7_ink (a0 : Nat) (x1 : Int) (x2 : Int) (x3 : Int) (h : Zm) (Q : Int → Zm → Prop) : Prop :=
  cRc h 17 a0 <| mX7_isPixel a0 x1 x2 h fun v2 h1 => cEq v2 0
  (Q (-1) h1)
  (mX7_in x3 0 7 h1 fun v4 h3 => cEq v4 0
    (Q (-1) h3)
    (cRc h3 17 a0 <| mX7_lays a0 h3 fun h5 => cRc h5 17 a0 <| mX7_renders a0 x1 x2 h5 fun h6 => cGr h6 17 a0 0 fun r7 => cLd h6 1 r7 2 fun v8 => cRc h6 17 a0 <| mX7_separates a0 v8 h6 fun h9 => cRc h9 17 a0 <| mX7_told a0 x3 h9 fun v11 h10 => Q v11 h10))
section
variable {p : Program} {l : Launch} {e : Env} {s : State} {m : MethodId} {args : Array Value} {below : List Frame} {meth : Method} {c : Code} {D : Zd} {base : Nat}
set_option maxRecDepth 100000 in
set_option maxHeartbeats 4000000 in
theorem rX7_ink (hc : zOk p s m args meth c D cX7_ink 4 RX7 (some .int)) {a0 : Nat} {x1 : Int} {x2 : Int} {x3 : Int} {h : Zm} {Q : Int → Zm → Prop} (H : mX7_ink a0 x1 x2 x3 h Q) : zW p l e zrX7_ink s m args below meth c D base 4 (MQ below (zQi D base Q) args s 0 0 (zFree base)) 0 0 0 [some (.inr a0), some (.inl x1), some (.inl x2), some (.inl x3)] [] h := by
  unfold mX7_ink at H
  refine z_aload_n (pc := 0) hc dX7_ink_0 rfl ?_
  refine z_iload_n (pc := 1) hc dX7_ink_1 rfl ?_
  refine z_iload_n (pc := 2) hc dX7_ink_2 rfl ?_
  refine z_calI (z_runV (pc := 3) (ci := 7) (T := TX7) (N := 20) hc dX7_ink_3 zw_RX7_149 (metX7_isPixel _ _ _ H.2) rfl (Nat.le_of_ble_eq_true rfl) ⟨Nat.le_of_ble_eq_true rfl, Nat.le_of_ble_eq_true rfl⟩ ⟨by exact Nat.le_of_ble_eq_true rfl, by exact Nat.le_of_ble_eq_true rfl⟩ rfl H.1) rfl ⟨rfl, rfl⟩ (fun v2 h1 H => ?_)
  refine z_if_eq (tgt := 19) (pc := 6) hc dX7_ink_6 rfl H (fun H => ?_) (fun H => ?_)
  · refine z_iconst (pc := 19) hc dX7_ink_19 ?_
    exact z_ireturn (pc := 20) hc dX7_ink_20 H
  · refine z_iload_n (pc := 9) hc dX7_ink_9 rfl ?_
    refine z_iconst (pc := 10) hc dX7_ink_10 ?_
    refine z_bipush (pc := 11) hc dX7_ink_11 (by decide) ?_
    refine z_calI (z_runS (pc := 13) hc dX7_ink_13 zw_RX7_73 (metX7_in _ _ _ H) rfl (Nat.le_of_ble_eq_true rfl) ⟨Nat.le_of_ble_eq_true rfl, Nat.le_of_ble_eq_true rfl⟩ ⟨by exact Nat.le_of_ble_eq_true rfl, by exact Nat.le_of_ble_eq_true rfl⟩) rfl ⟨rfl, rfl⟩ (fun v4 h3 H => ?_)
    refine z_if_ne (tgt := 21) (pc := 16) hc dX7_ink_16 rfl H (fun H => ?_) (fun H => ?_)
    · refine z_iconst (pc := 19) hc dX7_ink_19 ?_
      exact z_ireturn (pc := 20) hc dX7_ink_20 H
    · refine z_aload_n (pc := 21) hc dX7_ink_21 rfl ?_
      refine z_calV0 (z_runV (pc := 22) (ci := 7) (T := TX7) (N := 20) hc dX7_ink_22 zw_RX7_152 (metX7_lays _ _ _ H.2) rfl (Nat.le_of_ble_eq_true rfl) ⟨Nat.le_of_ble_eq_true rfl, Nat.le_of_ble_eq_true rfl⟩ ⟨by exact Nat.le_of_ble_eq_true rfl, by exact Nat.le_of_ble_eq_true rfl⟩ rfl H.1) rfl ⟨rfl, rfl⟩ (fun h5 H => ?_)
      refine z_aload_n (pc := 25) hc dX7_ink_25 rfl ?_
      refine z_iload_n (pc := 26) hc dX7_ink_26 rfl ?_
      refine z_iload_n (pc := 27) hc dX7_ink_27 rfl ?_
      refine z_calV0 (z_runV (pc := 28) (ci := 7) (T := TX7) (N := 20) hc dX7_ink_28 zw_RX7_155 (metX7_renders _ _ _ H.2) rfl (Nat.le_of_ble_eq_true rfl) ⟨Nat.le_of_ble_eq_true rfl, Nat.le_of_ble_eq_true rfl⟩ ⟨by exact Nat.le_of_ble_eq_true rfl, by exact Nat.le_of_ble_eq_true rfl⟩ rfl H.1) rfl ⟨rfl, rfl⟩ (fun h6 H => ?_)
      refine z_aload_n (pc := 31) hc dX7_ink_31 rfl ?_
      refine z_aload_n (pc := 32) hc dX7_ink_32 rfl ?_
      refine z_getR (pc := 33) hc dX7_ink_33 zf_RX7_7 rfl rfl rfl H (fun r7 H => ?_)
      refine z_iconst (pc := 36) hc dX7_ink_36 ?_
      refine z_iaload (pc := 37) hc dX7_ink_37 H (fun v8 H => ?_)
      refine z_calV0 (z_runV (pc := 38) (ci := 7) (T := TX7) (N := 20) hc dX7_ink_38 zw_RX7_159 (metX7_separates _ _ _ H.2) rfl (Nat.le_of_ble_eq_true rfl) ⟨Nat.le_of_ble_eq_true rfl, Nat.le_of_ble_eq_true rfl⟩ ⟨by exact Nat.le_of_ble_eq_true rfl, by exact Nat.le_of_ble_eq_true rfl⟩ rfl H.1) rfl ⟨rfl, rfl⟩ (fun h9 H => ?_)
      refine z_aload_n (pc := 41) hc dX7_ink_41 rfl ?_
      refine z_iload_n (pc := 42) hc dX7_ink_42 rfl ?_
      refine z_calI (z_runV (pc := 43) (ci := 7) (T := TX7) (N := 20) hc dX7_ink_43 zw_RX7_162 (metX7_told _ _ _ H.2) rfl (Nat.le_of_ble_eq_true rfl) ⟨Nat.le_of_ble_eq_true rfl, Nat.le_of_ble_eq_true rfl⟩ ⟨by exact Nat.le_of_ble_eq_true rfl, by exact Nat.le_of_ble_eq_true rfl⟩ rfl H.1) rfl ⟨rfl, rfl⟩ (fun v11 h10 H => ?_)
      exact z_ireturn (pc := 46) hc dX7_ink_46 H
end
theorem metX7_ink (l : Launch) (D : Zd) (base : Nat) {a0 : Nat} {x1 : Int} {x2 : Int} {x3 : Int} {h : Zm} {Q : Int → Zm → Prop} (H : mX7_ink a0 x1 x2 x3 h Q) : zMet l D base yX7_ink cX7_ink 4 (some .int) zrX7_ink [.inr a0, .inl x1, .inl x2, .inl x3] h (zQi D base Q) :=
  z_met (by decide +kernel) (Nat.le_of_ble_eq_true rfl) (fun p e s m args below meth c hc hn => rX7_ink hc H)
def zrX7_inkOf : Room := { frames := 3, cells := 0, slots := 0, locals := 76 }
def mX7_inkOf (a0 : Nat) (x1 : Int) (x2 : Int) (h : Zm) (Q : Int → Zm → Prop) : Prop :=
  mX7_in x1 0 16777215 h fun v2 h1 => cEq v2 0
  (Q (-1) h1)
  (mX7_in x2 0 7 h1 fun v4 h3 => cEq v4 0
    (Q (-1) h3)
    (cGr h3 17 a0 14 fun r5 => cDiv x1 65536 fun v6 => cSt h3 r5 0 v6 fun h7 => cGr h7 17 a0 14 fun r8 => cDiv x1 256 fun v9 => cRem v9 256 fun v10 => cSt h7 r8 1 v10 fun h11 => cGr h11 17 a0 14 fun r12 => cRem x1 256 fun v13 => cSt h11 r12 2 v13 fun h14 => cGr h14 17 a0 14 fun r15 => cSt h14 r15 3 0 fun h16 => cGr h16 17 a0 14 fun r17 => cSt h16 r17 4 0 fun h18 => cGr h18 17 a0 14 fun r19 => cSt h18 r19 5 0 fun h20 => cGr h20 17 a0 0 fun r21 => cLd h20 1 r21 2 fun v22 => cRc h20 17 a0 <| mX7_separates a0 v22 h20 fun h23 => cRc h23 17 a0 <| mX7_told a0 x2 h23 fun v25 h24 => Q v25 h24))
section
variable {p : Program} {l : Launch} {e : Env} {s : State} {m : MethodId} {args : Array Value} {below : List Frame} {meth : Method} {c : Code} {D : Zd} {base : Nat}
set_option maxRecDepth 100000 in
set_option maxHeartbeats 4000000 in
theorem rX7_inkOf (hc : zOk p s m args meth c D cX7_inkOf 3 RX7 (some .int)) {a0 : Nat} {x1 : Int} {x2 : Int} {h : Zm} {Q : Int → Zm → Prop} (H : mX7_inkOf a0 x1 x2 h Q) : zW p l e zrX7_inkOf s m args below meth c D base 3 (MQ below (zQi D base Q) args s 0 0 (zFree base)) 0 0 0 [some (.inr a0), some (.inl x1), some (.inl x2)] [] h := by
  unfold mX7_inkOf at H
  refine z_iload_n (pc := 0) hc dX7_inkOf_0 rfl ?_
  refine z_iconst (pc := 1) hc dX7_inkOf_1 ?_
  refine z_ldc (n := 16777215) (pc := 2) hc dX7_inkOf_2 (zT_mem 959 (by decide +kernel) rfl) ?_
  refine z_calI (z_runS (pc := 4) hc dX7_inkOf_4 zw_RX7_73 (metX7_in _ _ _ H) rfl (Nat.le_of_ble_eq_true rfl) ⟨Nat.le_of_ble_eq_true rfl, Nat.le_of_ble_eq_true rfl⟩ ⟨by exact Nat.le_of_ble_eq_true rfl, by exact Nat.le_of_ble_eq_true rfl⟩) rfl ⟨rfl, rfl⟩ (fun v2 h1 H => ?_)
  refine z_if_eq (tgt := 20) (pc := 7) hc dX7_inkOf_7 rfl H (fun H => ?_) (fun H => ?_)
  · refine z_iconst (pc := 20) hc dX7_inkOf_20 ?_
    exact z_ireturn (pc := 21) hc dX7_inkOf_21 H
  · refine z_iload_n (pc := 10) hc dX7_inkOf_10 rfl ?_
    refine z_iconst (pc := 11) hc dX7_inkOf_11 ?_
    refine z_bipush (pc := 12) hc dX7_inkOf_12 (by decide) ?_
    refine z_calI (z_runS (pc := 14) hc dX7_inkOf_14 zw_RX7_73 (metX7_in _ _ _ H) rfl (Nat.le_of_ble_eq_true rfl) ⟨Nat.le_of_ble_eq_true rfl, Nat.le_of_ble_eq_true rfl⟩ ⟨by exact Nat.le_of_ble_eq_true rfl, by exact Nat.le_of_ble_eq_true rfl⟩) rfl ⟨rfl, rfl⟩ (fun v4 h3 H => ?_)
    refine z_if_ne (tgt := 22) (pc := 17) hc dX7_inkOf_17 rfl H (fun H => ?_) (fun H => ?_)
    · refine z_iconst (pc := 20) hc dX7_inkOf_20 ?_
      exact z_ireturn (pc := 21) hc dX7_inkOf_21 H
    · refine z_aload_n (pc := 22) hc dX7_inkOf_22 rfl ?_
      refine z_getR (pc := 23) hc dX7_inkOf_23 zf_RX7_47 rfl rfl rfl H (fun r5 H => ?_)
      refine z_iconst (pc := 26) hc dX7_inkOf_26 ?_
      refine z_iload_n (pc := 27) hc dX7_inkOf_27 rfl ?_
      refine z_ldc (n := 65536) (pc := 28) hc dX7_inkOf_28 (zT_mem 960 (by decide +kernel) rfl) ?_
      refine z_idiv (pc := 30) hc dX7_inkOf_30 H (fun v6 H => ?_)
      refine z_iastore (pc := 31) hc dX7_inkOf_31 H (fun h7 H => ?_)
      refine z_aload_n (pc := 32) hc dX7_inkOf_32 rfl ?_
      refine z_getR (pc := 33) hc dX7_inkOf_33 zf_RX7_47 rfl rfl rfl H (fun r8 H => ?_)
      refine z_iconst (pc := 36) hc dX7_inkOf_36 ?_
      refine z_iload_n (pc := 37) hc dX7_inkOf_37 rfl ?_
      refine z_sipush (pc := 38) hc dX7_inkOf_38 (by decide) ?_
      refine z_idiv (pc := 41) hc dX7_inkOf_41 H (fun v9 H => ?_)
      refine z_sipush (pc := 42) hc dX7_inkOf_42 (by decide) ?_
      refine z_irem (pc := 45) hc dX7_inkOf_45 H (fun v10 H => ?_)
      refine z_iastore (pc := 46) hc dX7_inkOf_46 H (fun h11 H => ?_)
      refine z_aload_n (pc := 47) hc dX7_inkOf_47 rfl ?_
      refine z_getR (pc := 48) hc dX7_inkOf_48 zf_RX7_47 rfl rfl rfl H (fun r12 H => ?_)
      refine z_iconst (pc := 51) hc dX7_inkOf_51 ?_
      refine z_iload_n (pc := 52) hc dX7_inkOf_52 rfl ?_
      refine z_sipush (pc := 53) hc dX7_inkOf_53 (by decide) ?_
      refine z_irem (pc := 56) hc dX7_inkOf_56 H (fun v13 H => ?_)
      refine z_iastore (pc := 57) hc dX7_inkOf_57 H (fun h14 H => ?_)
      refine z_aload_n (pc := 58) hc dX7_inkOf_58 rfl ?_
      refine z_getR (pc := 59) hc dX7_inkOf_59 zf_RX7_47 rfl rfl rfl H (fun r15 H => ?_)
      refine z_iconst (pc := 62) hc dX7_inkOf_62 ?_
      refine z_iconst (pc := 63) hc dX7_inkOf_63 ?_
      refine z_iastore (pc := 64) hc dX7_inkOf_64 H (fun h16 H => ?_)
      refine z_aload_n (pc := 65) hc dX7_inkOf_65 rfl ?_
      refine z_getR (pc := 66) hc dX7_inkOf_66 zf_RX7_47 rfl rfl rfl H (fun r17 H => ?_)
      refine z_iconst (pc := 69) hc dX7_inkOf_69 ?_
      refine z_iconst (pc := 70) hc dX7_inkOf_70 ?_
      refine z_iastore (pc := 71) hc dX7_inkOf_71 H (fun h18 H => ?_)
      refine z_aload_n (pc := 72) hc dX7_inkOf_72 rfl ?_
      refine z_getR (pc := 73) hc dX7_inkOf_73 zf_RX7_47 rfl rfl rfl H (fun r19 H => ?_)
      refine z_iconst (pc := 76) hc dX7_inkOf_76 ?_
      refine z_iconst (pc := 77) hc dX7_inkOf_77 ?_
      refine z_iastore (pc := 78) hc dX7_inkOf_78 H (fun h20 H => ?_)
      refine z_aload_n (pc := 79) hc dX7_inkOf_79 rfl ?_
      refine z_aload_n (pc := 80) hc dX7_inkOf_80 rfl ?_
      refine z_getR (pc := 81) hc dX7_inkOf_81 zf_RX7_7 rfl rfl rfl H (fun r21 H => ?_)
      refine z_iconst (pc := 84) hc dX7_inkOf_84 ?_
      refine z_iaload (pc := 85) hc dX7_inkOf_85 H (fun v22 H => ?_)
      refine z_calV0 (z_runV (pc := 86) (ci := 7) (T := TX7) (N := 20) hc dX7_inkOf_86 zw_RX7_159 (metX7_separates _ _ _ H.2) rfl (Nat.le_of_ble_eq_true rfl) ⟨Nat.le_of_ble_eq_true rfl, Nat.le_of_ble_eq_true rfl⟩ ⟨by exact Nat.le_of_ble_eq_true rfl, by exact Nat.le_of_ble_eq_true rfl⟩ rfl H.1) rfl ⟨rfl, rfl⟩ (fun h23 H => ?_)
      refine z_aload_n (pc := 89) hc dX7_inkOf_89 rfl ?_
      refine z_iload_n (pc := 90) hc dX7_inkOf_90 rfl ?_
      refine z_calI (z_runV (pc := 91) (ci := 7) (T := TX7) (N := 20) hc dX7_inkOf_91 zw_RX7_162 (metX7_told _ _ _ H.2) rfl (Nat.le_of_ble_eq_true rfl) ⟨Nat.le_of_ble_eq_true rfl, Nat.le_of_ble_eq_true rfl⟩ ⟨by exact Nat.le_of_ble_eq_true rfl, by exact Nat.le_of_ble_eq_true rfl⟩ rfl H.1) rfl ⟨rfl, rfl⟩ (fun v25 h24 H => ?_)
      exact z_ireturn (pc := 94) hc dX7_inkOf_94 H
end
theorem metX7_inkOf (l : Launch) (D : Zd) (base : Nat) {a0 : Nat} {x1 : Int} {x2 : Int} {h : Zm} {Q : Int → Zm → Prop} (H : mX7_inkOf a0 x1 x2 h Q) : zMet l D base yX7_inkOf cX7_inkOf 3 (some .int) zrX7_inkOf [.inr a0, .inl x1, .inl x2] h (zQi D base Q) :=
  z_met (by decide +kernel) (Nat.le_of_ble_eq_true rfl) (fun p e s m args below meth c hc hn => rX7_inkOf hc H)
def zrX7_touchedBy : Room := { frames := 4, cells := 0, slots := 0, locals := 93 }
def mX7_touchedBy_B21 (X21 : Int → Int → Zm → Prop) (a0 : Nat) (x1 : Int) (x2 : Int) (x3 : Int) (x4 : Int) (h : Zm) (Q : Int → Zm → Prop) : Prop :=
  cGi h 17 a0 9 fun v4 => cLt x4 v4
  (cGr h 17 a0 8 fun r5 => cLd h 1 r5 x4 fun v6 => cRc h 17 a0 <| mX7_isIn a0 v6 x1 x2 h fun v8 h7 => cEq v8 0
    (X21 x3 (x4 + 1) h7)
    (cGr h7 17 a0 11 fun r9 => cRc h7 17 a0 <| mX7_of a0 v6 1 h7 fun v11 h10 => cLd h10 1 r9 v11 fun v12 => cLe v12 0
      (X21 x3 (x4 + 1) h10)
      (X21 v6 (x4 + 1) h10)))
  (Q x3 h)
def mX7_touchedBy_H21  (a0 : Nat) (x1 : Int) (x2 : Int) (x3 : Int) (x4 : Int) (h : Zm) (Q : Int → Zm → Prop) : Prop :=
  lfp2 (fun X21 x3 x4 h => mX7_touchedBy_B21 X21 a0 x1 x2 x3 x4 h Q) x3 x4 h
def mX7_touchedBy (a0 : Nat) (x1 : Int) (x2 : Int) (h : Zm) (Q : Int → Zm → Prop) : Prop :=
  cRc h 17 a0 <| mX7_isPixel a0 x1 x2 h fun v2 h1 => cEq v2 0
  (Q (-1) h1)
  (cRc h1 17 a0 <| mX7_lays a0 h1 fun h3 => mX7_touchedBy_H21  a0 x1 x2 (-4) 1 h3 Q)
section
variable {p : Program} {l : Launch} {e : Env} {s : State} {m : MethodId} {args : Array Value} {below : List Frame} {meth : Method} {c : Code} {D : Zd} {base : Nat}
set_option maxRecDepth 100000 in
set_option maxHeartbeats 4000000 in
theorem rX7_touchedBy_B21 (hc : zOk p s m args meth c D cX7_touchedBy 6 RX7 (some .int)) {X21 : Int → Int → Zm → Prop} {a0 : Nat} {x1 : Int} {x2 : Int} {x3 : Int} {x4 : Int} {h : Zm} {Q : Int → Zm → Prop} (hX21 : ∀ (x3 : Int) (x4 : Int) (h : Zm), X21 x3 x4 h → zW p l e zrX7_touchedBy s m args below meth c D base 6 (MQ below (zQi D base Q) args s 0 0 (zFree base)) 0 0 21 [some (.inr a0), some (.inl x1), some (.inl x2), some (.inl x3), some (.inl x4), none] [] h) (H : mX7_touchedBy_B21 X21 a0 x1 x2 x3 x4 h Q) : zW p l e zrX7_touchedBy s m args below meth c D base 6 (MQ below (zQi D base Q) args s 0 0 (zFree base)) 0 0 21 [some (.inr a0), some (.inl x1), some (.inl x2), some (.inl x3), some (.inl x4), none] [] h := by
  unfold mX7_touchedBy_B21 at H
  refine z_iload (pc := 21) hc dX7_touchedBy_21 rfl ?_
  refine z_aload_n (pc := 23) hc dX7_touchedBy_23 rfl ?_
  refine z_getI (pc := 24) hc dX7_touchedBy_24 zf_RX7_126 rfl rfl rfl H (fun v4 H => ?_)
  refine z_icmp_ge (tgt := 78) (pc := 27) hc dX7_touchedBy_27 rfl H (fun H => ?_) (fun H => ?_)
  · refine z_aload_n (pc := 30) hc dX7_touchedBy_30 rfl ?_
    refine z_getR (pc := 31) hc dX7_touchedBy_31 zf_RX7_32 rfl rfl rfl H (fun r5 H => ?_)
    refine z_iload (pc := 34) hc dX7_touchedBy_34 rfl ?_
    refine z_iaload (pc := 36) hc dX7_touchedBy_36 H (fun v6 H => ?_)
    refine z_istore (pc := 37) hc dX7_touchedBy_37 (by decide) (ρ' := [some (.inr a0), some (.inl x1), some (.inl x2), some (.inl x3), some (.inl x4), some (.inl v6)]) rfl ?_
    refine z_aload_n (pc := 39) hc dX7_touchedBy_39 rfl ?_
    refine z_iload (pc := 40) hc dX7_touchedBy_40 rfl ?_
    refine z_iload_n (pc := 42) hc dX7_touchedBy_42 rfl ?_
    refine z_iload_n (pc := 43) hc dX7_touchedBy_43 rfl ?_
    refine z_calI (z_runV (pc := 44) (ci := 7) (T := TX7) (N := 20) hc dX7_touchedBy_44 zw_RX7_139 (metX7_isIn _ _ _ H.2) rfl (Nat.le_of_ble_eq_true rfl) ⟨Nat.le_of_ble_eq_true rfl, Nat.le_of_ble_eq_true rfl⟩ ⟨by exact Nat.le_of_ble_eq_true rfl, by exact Nat.le_of_ble_eq_true rfl⟩ rfl H.1) rfl ⟨rfl, rfl⟩ (fun v8 h7 H => ?_)
    refine z_if_eq (tgt := 70) (pc := 47) hc dX7_touchedBy_47 rfl H (fun H => ?_) (fun H => ?_)
    · refine z_iload_n (pc := 70) hc dX7_touchedBy_70 rfl ?_
      refine z_istore_n (pc := 71) hc dX7_touchedBy_71 (by decide) (ρ' := [some (.inr a0), some (.inl x1), some (.inl x2), some (.inl x3), some (.inl x4), some (.inl v6)]) rfl ?_
      refine z_iinc (pc := 72) hc dX7_touchedBy_72 (by decide) rfl (ρ' := [some (.inr a0), some (.inl x1), some (.inl x2), some (.inl x3), some (.inl (x4 + 1)), some (.inl v6)]) rfl ?_
      refine z_goto (tgt := 21) (pc := 75) hc dX7_touchedBy_75 rfl ?_
      refine z_mask [true, true, true, true, true, false] (ρ' := [some (.inr a0), some (.inl x1), some (.inl x2), some (.inl x3), some (.inl (x4 + 1)), none]) rfl ?_
      exact hX21 _ _ _ H
    · refine z_aload_n (pc := 50) hc dX7_touchedBy_50 rfl ?_
      refine z_getR (pc := 51) hc dX7_touchedBy_51 zf_RX7_38 rfl rfl rfl H (fun r9 H => ?_)
      refine z_aload_n (pc := 54) hc dX7_touchedBy_54 rfl ?_
      refine z_iload (pc := 55) hc dX7_touchedBy_55 rfl ?_
      refine z_iconst (pc := 57) hc dX7_touchedBy_57 ?_
      refine z_calI (z_runV (pc := 58) (ci := 7) (T := TX7) (N := 20) hc dX7_touchedBy_58 zw_RX7_77 (metX7_of _ _ _ H.2) rfl (Nat.le_of_ble_eq_true rfl) ⟨Nat.le_of_ble_eq_true rfl, Nat.le_of_ble_eq_true rfl⟩ ⟨by exact Nat.le_of_ble_eq_true rfl, by exact Nat.le_of_ble_eq_true rfl⟩ rfl H.1) rfl ⟨rfl, rfl⟩ (fun v11 h10 H => ?_)
      refine z_iaload (pc := 61) hc dX7_touchedBy_61 H (fun v12 H => ?_)
      refine z_if_le (tgt := 70) (pc := 62) hc dX7_touchedBy_62 rfl H (fun H => ?_) (fun H => ?_)
      · refine z_iload_n (pc := 70) hc dX7_touchedBy_70 rfl ?_
        refine z_istore_n (pc := 71) hc dX7_touchedBy_71 (by decide) (ρ' := [some (.inr a0), some (.inl x1), some (.inl x2), some (.inl x3), some (.inl x4), some (.inl v6)]) rfl ?_
        refine z_iinc (pc := 72) hc dX7_touchedBy_72 (by decide) rfl (ρ' := [some (.inr a0), some (.inl x1), some (.inl x2), some (.inl x3), some (.inl (x4 + 1)), some (.inl v6)]) rfl ?_
        refine z_goto (tgt := 21) (pc := 75) hc dX7_touchedBy_75 rfl ?_
        refine z_mask [true, true, true, true, true, false] (ρ' := [some (.inr a0), some (.inl x1), some (.inl x2), some (.inl x3), some (.inl (x4 + 1)), none]) rfl ?_
        exact hX21 _ _ _ H
      · refine z_iload (pc := 65) hc dX7_touchedBy_65 rfl ?_
        refine z_goto (tgt := 71) (pc := 67) hc dX7_touchedBy_67 rfl ?_
        refine z_istore_n (pc := 71) hc dX7_touchedBy_71 (by decide) (ρ' := [some (.inr a0), some (.inl x1), some (.inl x2), some (.inl v6), some (.inl x4), some (.inl v6)]) rfl ?_
        refine z_iinc (pc := 72) hc dX7_touchedBy_72 (by decide) rfl (ρ' := [some (.inr a0), some (.inl x1), some (.inl x2), some (.inl v6), some (.inl (x4 + 1)), some (.inl v6)]) rfl ?_
        refine z_goto (tgt := 21) (pc := 75) hc dX7_touchedBy_75 rfl ?_
        refine z_mask [true, true, true, true, true, false] (ρ' := [some (.inr a0), some (.inl x1), some (.inl x2), some (.inl v6), some (.inl (x4 + 1)), none]) rfl ?_
        exact hX21 _ _ _ H
  · refine z_iload_n (pc := 78) hc dX7_touchedBy_78 rfl ?_
    exact z_ireturn (pc := 79) hc dX7_touchedBy_79 H
theorem rX7_touchedBy_H21 (hc : zOk p s m args meth c D cX7_touchedBy 6 RX7 (some .int))  {a0 : Nat} {x1 : Int} {x2 : Int} {x3 : Int} {x4 : Int} {h : Zm} {Q : Int → Zm → Prop}  (H : mX7_touchedBy_H21  a0 x1 x2 x3 x4 h Q) : zW p l e zrX7_touchedBy s m args below meth c D base 6 (MQ below (zQi D base Q) args s 0 0 (zFree base)) 0 0 21 [some (.inr a0), some (.inl x1), some (.inl x2), some (.inl x3), some (.inl x4), none] [] h :=
  H (fun x3 x4 h => zW p l e zrX7_touchedBy s m args below meth c D base 6 (MQ below (zQi D base Q) args s 0 0 (zFree base)) 0 0 21 [some (.inr a0), some (.inl x1), some (.inl x2), some (.inl x3), some (.inl x4), none] [] h) (fun x3 x4 h H => rX7_touchedBy_B21 hc (fun _ _ _ q => q) H)
set_option maxRecDepth 100000 in
set_option maxHeartbeats 4000000 in
theorem rX7_touchedBy (hc : zOk p s m args meth c D cX7_touchedBy 6 RX7 (some .int)) {a0 : Nat} {x1 : Int} {x2 : Int} {h : Zm} {Q : Int → Zm → Prop} (H : mX7_touchedBy a0 x1 x2 h Q) : zW p l e zrX7_touchedBy s m args below meth c D base 6 (MQ below (zQi D base Q) args s 0 0 (zFree base)) 0 0 0 [some (.inr a0), some (.inl x1), some (.inl x2), none, none, none] [] h := by
  unfold mX7_touchedBy at H
  refine z_aload_n (pc := 0) hc dX7_touchedBy_0 rfl ?_
  refine z_iload_n (pc := 1) hc dX7_touchedBy_1 rfl ?_
  refine z_iload_n (pc := 2) hc dX7_touchedBy_2 rfl ?_
  refine z_calI (z_runV (pc := 3) (ci := 7) (T := TX7) (N := 20) hc dX7_touchedBy_3 zw_RX7_149 (metX7_isPixel _ _ _ H.2) rfl (Nat.le_of_ble_eq_true rfl) ⟨Nat.le_of_ble_eq_true rfl, Nat.le_of_ble_eq_true rfl⟩ ⟨by exact Nat.le_of_ble_eq_true rfl, by exact Nat.le_of_ble_eq_true rfl⟩ rfl H.1) rfl ⟨rfl, rfl⟩ (fun v2 h1 H => ?_)
  refine z_if_ne (tgt := 11) (pc := 6) hc dX7_touchedBy_6 rfl H (fun H => ?_) (fun H => ?_)
  · refine z_iconst (pc := 9) hc dX7_touchedBy_9 ?_
    exact z_ireturn (pc := 10) hc dX7_touchedBy_10 H
  · refine z_aload_n (pc := 11) hc dX7_touchedBy_11 rfl ?_
    refine z_calV0 (z_runV (pc := 12) (ci := 7) (T := TX7) (N := 20) hc dX7_touchedBy_12 zw_RX7_152 (metX7_lays _ _ _ H.2) rfl (Nat.le_of_ble_eq_true rfl) ⟨Nat.le_of_ble_eq_true rfl, Nat.le_of_ble_eq_true rfl⟩ ⟨by exact Nat.le_of_ble_eq_true rfl, by exact Nat.le_of_ble_eq_true rfl⟩ rfl H.1) rfl ⟨rfl, rfl⟩ (fun h3 H => ?_)
    refine z_bipush (pc := 15) hc dX7_touchedBy_15 (by decide) ?_
    refine z_istore_n (pc := 17) hc dX7_touchedBy_17 (by decide) (ρ' := [some (.inr a0), some (.inl x1), some (.inl x2), some (.inl (-4)), none, none]) rfl ?_
    refine z_iconst (pc := 18) hc dX7_touchedBy_18 ?_
    refine z_istore (pc := 19) hc dX7_touchedBy_19 (by decide) (ρ' := [some (.inr a0), some (.inl x1), some (.inl x2), some (.inl (-4)), some (.inl 1), none]) rfl ?_
    exact rX7_touchedBy_H21 hc H
end
theorem metX7_touchedBy (l : Launch) (D : Zd) (base : Nat) {a0 : Nat} {x1 : Int} {x2 : Int} {h : Zm} {Q : Int → Zm → Prop} (H : mX7_touchedBy a0 x1 x2 h Q) : zMet l D base yX7_touchedBy cX7_touchedBy 6 (some .int) zrX7_touchedBy [.inr a0, .inl x1, .inl x2] h (zQi D base Q) :=
  z_met (by decide +kernel) (Nat.le_of_ble_eq_true rfl) (fun p e s m args below meth c hc hn => rX7_touchedBy hc H)
def zrX7_pixelAt : Room := { frames := 4, cells := 0, slots := 0, locals := 92 }
def mX7_pixelAt (a0 : Nat) (x1 : Int) (x2 : Int) (h : Zm) (Q : Zm → Prop) : Prop :=
  cGr h 17 a0 0 fun r1 => cLd h 1 r1 0 fun v2 => cRem x1 v2 fun v3 => cGr h 17 a0 0 fun r4 => cLd h 1 r4 0 fun v5 => cDiv x1 v5 fun v6 => cRc h 17 a0 <| mX7_renders a0 v3 v6 h fun h7 => cRc h7 17 a0 <| mX7_separates a0 x2 h7 fun h8 => Q h8
section
variable {p : Program} {l : Launch} {e : Env} {s : State} {m : MethodId} {args : Array Value} {below : List Frame} {meth : Method} {c : Code} {D : Zd} {base : Nat}
set_option maxRecDepth 100000 in
set_option maxHeartbeats 4000000 in
theorem rX7_pixelAt (hc : zOk p s m args meth c D cX7_pixelAt 3 RX7 none) {a0 : Nat} {x1 : Int} {x2 : Int} {h : Zm} {Q : Zm → Prop} (H : mX7_pixelAt a0 x1 x2 h Q) : zW p l e zrX7_pixelAt s m args below meth c D base 3 (MQ below (zQv D base Q) args s 0 0 (zFree base)) 0 0 0 [some (.inr a0), some (.inl x1), some (.inl x2)] [] h := by
  unfold mX7_pixelAt at H
  refine z_aload_n (pc := 0) hc dX7_pixelAt_0 rfl ?_
  refine z_iload_n (pc := 1) hc dX7_pixelAt_1 rfl ?_
  refine z_aload_n (pc := 2) hc dX7_pixelAt_2 rfl ?_
  refine z_getR (pc := 3) hc dX7_pixelAt_3 zf_RX7_7 rfl rfl rfl H (fun r1 H => ?_)
  refine z_iconst (pc := 6) hc dX7_pixelAt_6 ?_
  refine z_iaload (pc := 7) hc dX7_pixelAt_7 H (fun v2 H => ?_)
  refine z_irem (pc := 8) hc dX7_pixelAt_8 H (fun v3 H => ?_)
  refine z_iload_n (pc := 9) hc dX7_pixelAt_9 rfl ?_
  refine z_aload_n (pc := 10) hc dX7_pixelAt_10 rfl ?_
  refine z_getR (pc := 11) hc dX7_pixelAt_11 zf_RX7_7 rfl rfl rfl H (fun r4 H => ?_)
  refine z_iconst (pc := 14) hc dX7_pixelAt_14 ?_
  refine z_iaload (pc := 15) hc dX7_pixelAt_15 H (fun v5 H => ?_)
  refine z_idiv (pc := 16) hc dX7_pixelAt_16 H (fun v6 H => ?_)
  refine z_calV0 (z_runV (pc := 17) (ci := 7) (T := TX7) (N := 20) hc dX7_pixelAt_17 zw_RX7_155 (metX7_renders _ _ _ H.2) rfl (Nat.le_of_ble_eq_true rfl) ⟨Nat.le_of_ble_eq_true rfl, Nat.le_of_ble_eq_true rfl⟩ ⟨by exact Nat.le_of_ble_eq_true rfl, by exact Nat.le_of_ble_eq_true rfl⟩ rfl H.1) rfl ⟨rfl, rfl⟩ (fun h7 H => ?_)
  refine z_aload_n (pc := 20) hc dX7_pixelAt_20 rfl ?_
  refine z_iload_n (pc := 21) hc dX7_pixelAt_21 rfl ?_
  refine z_calV0 (z_runV (pc := 22) (ci := 7) (T := TX7) (N := 20) hc dX7_pixelAt_22 zw_RX7_159 (metX7_separates _ _ _ H.2) rfl (Nat.le_of_ble_eq_true rfl) ⟨Nat.le_of_ble_eq_true rfl, Nat.le_of_ble_eq_true rfl⟩ ⟨by exact Nat.le_of_ble_eq_true rfl, by exact Nat.le_of_ble_eq_true rfl⟩ rfl H.1) rfl ⟨rfl, rfl⟩ (fun h8 H => ?_)
  exact z_return (pc := 25) hc dX7_pixelAt_25 H
end
theorem metX7_pixelAt (l : Launch) (D : Zd) (base : Nat) {a0 : Nat} {x1 : Int} {x2 : Int} {h : Zm} {Q : Zm → Prop} (H : mX7_pixelAt a0 x1 x2 h Q) : zMet l D base yX7_pixelAt cX7_pixelAt 3 none zrX7_pixelAt [.inr a0, .inl x1, .inl x2] h (zQv D base Q) :=
  z_met (by decide +kernel) (Nat.le_of_ble_eq_true rfl) (fun p e s m args below meth c hc hn => rX7_pixelAt hc H)
def zrX7_pixels : Room := { frames := 0, cells := 0, slots := 0, locals := 0 }
def mX7_pixels (a0 : Nat) (h : Zm) (Q : Int → Zm → Prop) : Prop :=
  cGr h 17 a0 0 fun r1 => cLd h 1 r1 0 fun v2 => cGr h 17 a0 0 fun r3 => cLd h 1 r3 1 fun v4 => Q (v2 * v4) h
section
variable {p : Program} {l : Launch} {e : Env} {s : State} {m : MethodId} {args : Array Value} {below : List Frame} {meth : Method} {c : Code} {D : Zd} {base : Nat}
set_option maxRecDepth 100000 in
set_option maxHeartbeats 4000000 in
theorem rX7_pixels (hc : zOk p s m args meth c D cX7_pixels 1 RX7 (some .int)) {a0 : Nat} {h : Zm} {Q : Int → Zm → Prop} (H : mX7_pixels a0 h Q) : zW p l e zrX7_pixels s m args below meth c D base 1 (MQ below (zQi D base Q) args s 0 0 (zFree base)) 0 0 0 [some (.inr a0)] [] h := by
  unfold mX7_pixels at H
  refine z_aload_n (pc := 0) hc dX7_pixels_0 rfl ?_
  refine z_getR (pc := 1) hc dX7_pixels_1 zf_RX7_7 rfl rfl rfl H (fun r1 H => ?_)
  refine z_iconst (pc := 4) hc dX7_pixels_4 ?_
  refine z_iaload (pc := 5) hc dX7_pixels_5 H (fun v2 H => ?_)
  refine z_aload_n (pc := 6) hc dX7_pixels_6 rfl ?_
  refine z_getR (pc := 7) hc dX7_pixels_7 zf_RX7_7 rfl rfl rfl H (fun r3 H => ?_)
  refine z_iconst (pc := 10) hc dX7_pixels_10 ?_
  refine z_iaload (pc := 11) hc dX7_pixels_11 H (fun v4 H => ?_)
  refine z_imul (pc := 12) hc dX7_pixels_12 ?_
  exact z_ireturn (pc := 13) hc dX7_pixels_13 H
end
theorem metX7_pixels (l : Launch) (D : Zd) (base : Nat) {a0 : Nat} {h : Zm} {Q : Int → Zm → Prop} (H : mX7_pixels a0 h Q) : zMet l D base yX7_pixels cX7_pixels 1 (some .int) zrX7_pixels [.inr a0] h (zQi D base Q) :=
  z_met (by decide +kernel) (Nat.le_of_ble_eq_true rfl) (fun p e s m args below meth c hc hn => rX7_pixels hc H)
def zrX7_covered : Room := { frames := 5, cells := 0, slots := 0, locals := 114 }
def mX7_covered_B9 (X9 : Int → Int → Zm → Prop) (a0 : Nat) (x1 : Int) (x2 : Int) (x3 : Int) (x4 : Int) (h : Zm) (Q : Int → Zm → Prop) : Prop :=
  cRc h 17 a0 <| mX7_pixels a0 h fun v3 h2 => cLt x4 v3
  (cRc h2 17 a0 <| mX7_pixelAt a0 x4 x2 h2 fun h4 => cRc h4 17 a0 <| mX7_told a0 x1 h4 fun v6 h5 => X9 (x3 + v6) (x4 + 1) h5)
  (Q x3 h2)
def mX7_covered_H9  (a0 : Nat) (x1 : Int) (x2 : Int) (x3 : Int) (x4 : Int) (h : Zm) (Q : Int → Zm → Prop) : Prop :=
  lfp2 (fun X9 x3 x4 h => mX7_covered_B9 X9 a0 x1 x2 x3 x4 h Q) x3 x4 h
def mX7_covered (a0 : Nat) (x1 : Int) (x2 : Int) (h : Zm) (Q : Int → Zm → Prop) : Prop :=
  cRc h 17 a0 <| mX7_lays a0 h fun h1 => mX7_covered_H9  a0 x1 x2 0 0 h1 Q
section
variable {p : Program} {l : Launch} {e : Env} {s : State} {m : MethodId} {args : Array Value} {below : List Frame} {meth : Method} {c : Code} {D : Zd} {base : Nat}
set_option maxRecDepth 100000 in
set_option maxHeartbeats 4000000 in
theorem rX7_covered_B9 (hc : zOk p s m args meth c D cX7_covered 5 RX7 (some .int)) {X9 : Int → Int → Zm → Prop} {a0 : Nat} {x1 : Int} {x2 : Int} {x3 : Int} {x4 : Int} {h : Zm} {Q : Int → Zm → Prop} (hX9 : ∀ (x3 : Int) (x4 : Int) (h : Zm), X9 x3 x4 h → zW p l e zrX7_covered s m args below meth c D base 5 (MQ below (zQi D base Q) args s 0 0 (zFree base)) 0 0 9 [some (.inr a0), some (.inl x1), some (.inl x2), some (.inl x3), some (.inl x4)] [] h) (H : mX7_covered_B9 X9 a0 x1 x2 x3 x4 h Q) : zW p l e zrX7_covered s m args below meth c D base 5 (MQ below (zQi D base Q) args s 0 0 (zFree base)) 0 0 9 [some (.inr a0), some (.inl x1), some (.inl x2), some (.inl x3), some (.inl x4)] [] h := by
  unfold mX7_covered_B9 at H
  refine z_iload (pc := 9) hc dX7_covered_9 rfl ?_
  refine z_aload_n (pc := 11) hc dX7_covered_11 rfl ?_
  refine z_calI (z_runV (pc := 12) (ci := 7) (T := TX7) (N := 20) hc dX7_covered_12 zw_RX7_167 (metX7_pixels _ _ _ H.2) rfl (Nat.le_of_ble_eq_true rfl) ⟨Nat.le_of_ble_eq_true rfl, Nat.le_of_ble_eq_true rfl⟩ ⟨by exact Nat.le_of_ble_eq_true rfl, by exact Nat.le_of_ble_eq_true rfl⟩ rfl H.1) rfl ⟨rfl, rfl⟩ (fun v3 h2 H => ?_)
  refine z_icmp_ge (tgt := 39) (pc := 15) hc dX7_covered_15 rfl H (fun H => ?_) (fun H => ?_)
  · refine z_aload_n (pc := 18) hc dX7_covered_18 rfl ?_
    refine z_iload (pc := 19) hc dX7_covered_19 rfl ?_
    refine z_iload_n (pc := 21) hc dX7_covered_21 rfl ?_
    refine z_calV0 (z_runV (pc := 22) (ci := 7) (T := TX7) (N := 20) hc dX7_covered_22 zw_RX7_170 (metX7_pixelAt _ _ _ H.2) rfl (Nat.le_of_ble_eq_true rfl) ⟨Nat.le_of_ble_eq_true rfl, Nat.le_of_ble_eq_true rfl⟩ ⟨by exact Nat.le_of_ble_eq_true rfl, by exact Nat.le_of_ble_eq_true rfl⟩ rfl H.1) rfl ⟨rfl, rfl⟩ (fun h4 H => ?_)
    refine z_iload_n (pc := 25) hc dX7_covered_25 rfl ?_
    refine z_aload_n (pc := 26) hc dX7_covered_26 rfl ?_
    refine z_iload_n (pc := 27) hc dX7_covered_27 rfl ?_
    refine z_calI (z_runV (pc := 28) (ci := 7) (T := TX7) (N := 20) hc dX7_covered_28 zw_RX7_162 (metX7_told _ _ _ H.2) rfl (Nat.le_of_ble_eq_true rfl) ⟨Nat.le_of_ble_eq_true rfl, Nat.le_of_ble_eq_true rfl⟩ ⟨by exact Nat.le_of_ble_eq_true rfl, by exact Nat.le_of_ble_eq_true rfl⟩ rfl H.1) rfl ⟨rfl, rfl⟩ (fun v6 h5 H => ?_)
    refine z_iadd (pc := 31) hc dX7_covered_31 ?_
    refine z_istore_n (pc := 32) hc dX7_covered_32 (by decide) (ρ' := [some (.inr a0), some (.inl x1), some (.inl x2), some (.inl (x3 + v6)), some (.inl x4)]) rfl ?_
    refine z_iinc (pc := 33) hc dX7_covered_33 (by decide) rfl (ρ' := [some (.inr a0), some (.inl x1), some (.inl x2), some (.inl (x3 + v6)), some (.inl (x4 + 1))]) rfl ?_
    refine z_goto (tgt := 9) (pc := 36) hc dX7_covered_36 rfl ?_
    exact hX9 _ _ _ H
  · refine z_iload_n (pc := 39) hc dX7_covered_39 rfl ?_
    exact z_ireturn (pc := 40) hc dX7_covered_40 H
theorem rX7_covered_H9 (hc : zOk p s m args meth c D cX7_covered 5 RX7 (some .int))  {a0 : Nat} {x1 : Int} {x2 : Int} {x3 : Int} {x4 : Int} {h : Zm} {Q : Int → Zm → Prop}  (H : mX7_covered_H9  a0 x1 x2 x3 x4 h Q) : zW p l e zrX7_covered s m args below meth c D base 5 (MQ below (zQi D base Q) args s 0 0 (zFree base)) 0 0 9 [some (.inr a0), some (.inl x1), some (.inl x2), some (.inl x3), some (.inl x4)] [] h :=
  H (fun x3 x4 h => zW p l e zrX7_covered s m args below meth c D base 5 (MQ below (zQi D base Q) args s 0 0 (zFree base)) 0 0 9 [some (.inr a0), some (.inl x1), some (.inl x2), some (.inl x3), some (.inl x4)] [] h) (fun x3 x4 h H => rX7_covered_B9 hc (fun _ _ _ q => q) H)
set_option maxRecDepth 100000 in
set_option maxHeartbeats 4000000 in
theorem rX7_covered (hc : zOk p s m args meth c D cX7_covered 5 RX7 (some .int)) {a0 : Nat} {x1 : Int} {x2 : Int} {h : Zm} {Q : Int → Zm → Prop} (H : mX7_covered a0 x1 x2 h Q) : zW p l e zrX7_covered s m args below meth c D base 5 (MQ below (zQi D base Q) args s 0 0 (zFree base)) 0 0 0 [some (.inr a0), some (.inl x1), some (.inl x2), none, none] [] h := by
  unfold mX7_covered at H
  refine z_aload_n (pc := 0) hc dX7_covered_0 rfl ?_
  refine z_calV0 (z_runV (pc := 1) (ci := 7) (T := TX7) (N := 20) hc dX7_covered_1 zw_RX7_152 (metX7_lays _ _ _ H.2) rfl (Nat.le_of_ble_eq_true rfl) ⟨Nat.le_of_ble_eq_true rfl, Nat.le_of_ble_eq_true rfl⟩ ⟨by exact Nat.le_of_ble_eq_true rfl, by exact Nat.le_of_ble_eq_true rfl⟩ rfl H.1) rfl ⟨rfl, rfl⟩ (fun h1 H => ?_)
  refine z_iconst (pc := 4) hc dX7_covered_4 ?_
  refine z_istore_n (pc := 5) hc dX7_covered_5 (by decide) (ρ' := [some (.inr a0), some (.inl x1), some (.inl x2), some (.inl 0), none]) rfl ?_
  refine z_iconst (pc := 6) hc dX7_covered_6 ?_
  refine z_istore (pc := 7) hc dX7_covered_7 (by decide) (ρ' := [some (.inr a0), some (.inl x1), some (.inl x2), some (.inl 0), some (.inl 0)]) rfl ?_
  exact rX7_covered_H9 hc H
end
theorem metX7_covered (l : Launch) (D : Zd) (base : Nat) {a0 : Nat} {x1 : Int} {x2 : Int} {h : Zm} {Q : Int → Zm → Prop} (H : mX7_covered a0 x1 x2 h Q) : zMet l D base yX7_covered cX7_covered 5 (some .int) zrX7_covered [.inr a0, .inl x1, .inl x2] h (zQi D base Q) :=
  z_met (by decide +kernel) (Nat.le_of_ble_eq_true rfl) (fun p e s m args below meth c hc hn => rX7_covered hc H)
def zrX7_coverage : Room := { frames := 6, cells := 0, slots := 0, locals := 138 }
def mX7_coverage (a0 : Nat) (x1 : Int) (h : Zm) (Q : Int → Zm → Prop) : Prop :=
  mX7_in x1 0 7 h fun v2 h1 => cEq v2 0
  (Q (-1) h1)
  (cGr h1 17 a0 0 fun r3 => cLd h1 1 r3 2 fun v4 => cRc h1 17 a0 <| mX7_covered a0 x1 v4 h1 fun v6 h5 => Q v6 h5)
section
variable {p : Program} {l : Launch} {e : Env} {s : State} {m : MethodId} {args : Array Value} {below : List Frame} {meth : Method} {c : Code} {D : Zd} {base : Nat}
set_option maxRecDepth 100000 in
set_option maxHeartbeats 4000000 in
theorem rX7_coverage (hc : zOk p s m args meth c D cX7_coverage 2 RX7 (some .int)) {a0 : Nat} {x1 : Int} {h : Zm} {Q : Int → Zm → Prop} (H : mX7_coverage a0 x1 h Q) : zW p l e zrX7_coverage s m args below meth c D base 2 (MQ below (zQi D base Q) args s 0 0 (zFree base)) 0 0 0 [some (.inr a0), some (.inl x1)] [] h := by
  unfold mX7_coverage at H
  refine z_iload_n (pc := 0) hc dX7_coverage_0 rfl ?_
  refine z_iconst (pc := 1) hc dX7_coverage_1 ?_
  refine z_bipush (pc := 2) hc dX7_coverage_2 (by decide) ?_
  refine z_calI (z_runS (pc := 4) hc dX7_coverage_4 zw_RX7_73 (metX7_in _ _ _ H) rfl (Nat.le_of_ble_eq_true rfl) ⟨Nat.le_of_ble_eq_true rfl, Nat.le_of_ble_eq_true rfl⟩ ⟨by exact Nat.le_of_ble_eq_true rfl, by exact Nat.le_of_ble_eq_true rfl⟩) rfl ⟨rfl, rfl⟩ (fun v2 h1 H => ?_)
  refine z_if_eq (tgt := 24) (pc := 7) hc dX7_coverage_7 rfl H (fun H => ?_) (fun H => ?_)
  · refine z_iconst (pc := 24) hc dX7_coverage_24 ?_
    exact z_ireturn (pc := 25) hc dX7_coverage_25 H
  · refine z_aload_n (pc := 10) hc dX7_coverage_10 rfl ?_
    refine z_iload_n (pc := 11) hc dX7_coverage_11 rfl ?_
    refine z_aload_n (pc := 12) hc dX7_coverage_12 rfl ?_
    refine z_getR (pc := 13) hc dX7_coverage_13 zf_RX7_7 rfl rfl rfl H (fun r3 H => ?_)
    refine z_iconst (pc := 16) hc dX7_coverage_16 ?_
    refine z_iaload (pc := 17) hc dX7_coverage_17 H (fun v4 H => ?_)
    refine z_calI (z_runV (pc := 18) (ci := 7) (T := TX7) (N := 20) hc dX7_coverage_18 zw_RX7_173 (metX7_covered _ _ _ H.2) rfl (Nat.le_of_ble_eq_true rfl) ⟨Nat.le_of_ble_eq_true rfl, Nat.le_of_ble_eq_true rfl⟩ ⟨by exact Nat.le_of_ble_eq_true rfl, by exact Nat.le_of_ble_eq_true rfl⟩ rfl H.1) rfl ⟨rfl, rfl⟩ (fun v6 h5 H => ?_)
    refine z_goto (tgt := 25) (pc := 21) hc dX7_coverage_21 rfl ?_
    exact z_ireturn (pc := 25) hc dX7_coverage_25 H
end
theorem metX7_coverage (l : Launch) (D : Zd) (base : Nat) {a0 : Nat} {x1 : Int} {h : Zm} {Q : Int → Zm → Prop} (H : mX7_coverage a0 x1 h Q) : zMet l D base yX7_coverage cX7_coverage 2 (some .int) zrX7_coverage [.inr a0, .inl x1] h (zQi D base Q) :=
  z_met (by decide +kernel) (Nat.le_of_ble_eq_true rfl) (fun p e s m args below meth c hc hn => rX7_coverage hc H)
def zrX7_plateAt : Room := { frames := 6, cells := 0, slots := 0, locals := 138 }
def mX7_plateAt_B57 (X45 : Int → Int → Zm → Prop) (X57 : Int → Int → Zm → Prop) (a0 : Nat) (x1 : Int) (x2 : Int) (x3 : Int) (x4 : Int) (x5 : Int) (h : Zm) (Q : Int → Zm → Prop) : Prop :=
  cLt x5 7
  (cGr h 17 a0 17 fun r9 => cLd h 1 r9 x5 fun v10 => cGr h 17 a0 17 fun r11 => cLd h 1 r11 x3 fun v12 => cLe v10 v12
    (cGr h 17 a0 17 fun r13 => cLd h 1 r13 x5 fun v14 => cGr h 17 a0 17 fun r15 => cLd h 1 r15 x3 fun v16 => cEq v14 v16
      (cLt x5 x3
        (X57 (x4 + 1) (x5 + 1) h)
        (X57 (x4 + 0) (x5 + 1) h))
      (X57 (x4 + 0) (x5 + 1) h))
    (X57 (x4 + 1) (x5 + 1) h))
  (cEq x4 x1
    (X45 x3 (x3 + 1) h)
    (X45 x2 (x3 + 1) h))
def mX7_plateAt_H57 (X45 : Int → Int → Zm → Prop) (a0 : Nat) (x1 : Int) (x2 : Int) (x3 : Int) (x4 : Int) (x5 : Int) (h : Zm) (Q : Int → Zm → Prop) : Prop :=
  lfp2 (fun X57 x4 x5 h => mX7_plateAt_B57 X45 X57 a0 x1 x2 x3 x4 x5 h Q) x4 x5 h
def mX7_plateAt_B45 (X45 : Int → Int → Zm → Prop) (a0 : Nat) (x1 : Int) (x2 : Int) (x3 : Int) (h : Zm) (Q : Int → Zm → Prop) : Prop :=
  cLt x3 7
  (mX7_plateAt_H57 X45 a0 x1 x2 x3 0 0 h Q)
  (Q x2 h)
def mX7_plateAt_H45  (a0 : Nat) (x1 : Int) (x2 : Int) (x3 : Int) (h : Zm) (Q : Int → Zm → Prop) : Prop :=
  lfp2 (fun X45 x2 x3 h => mX7_plateAt_B45 X45 a0 x1 x2 x3 h Q) x2 x3 h
def mX7_plateAt_B11 (X11 : Int → Zm → Prop) (a0 : Nat) (x1 : Int) (x2 : Int) (h : Zm) (Q : Int → Zm → Prop) : Prop :=
  cLt x2 7
  (cGr h 17 a0 17 fun r3 => cGr h 17 a0 0 fun r4 => cLd h 1 r4 2 fun v5 => cRc h 17 a0 <| mX7_covered a0 x2 v5 h fun v7 h6 => cSt h6 r3 x2 v7 fun h8 => X11 (x2 + 1) h8)
  (mX7_plateAt_H45  a0 x1 (-4) 0 h Q)
def mX7_plateAt_H11  (a0 : Nat) (x1 : Int) (x2 : Int) (h : Zm) (Q : Int → Zm → Prop) : Prop :=
  lfp1 (fun X11 x2 h => mX7_plateAt_B11 X11 a0 x1 x2 h Q) x2 h
def mX7_plateAt (a0 : Nat) (x1 : Int) (h : Zm) (Q : Int → Zm → Prop) : Prop :=
  mX7_isPlate x1 h fun v2 h1 => cEq v2 0
  (Q (-1) h1)
  (mX7_plateAt_H11  a0 x1 0 h1 Q)
section
variable {p : Program} {l : Launch} {e : Env} {s : State} {m : MethodId} {args : Array Value} {below : List Frame} {meth : Method} {c : Code} {D : Zd} {base : Nat}
set_option maxRecDepth 100000 in
set_option maxHeartbeats 4000000 in
theorem rX7_plateAt_B57 (hc : zOk p s m args meth c D cX7_plateAt 6 RX7 (some .int)) {X45 : Int → Int → Zm → Prop} {X57 : Int → Int → Zm → Prop} {a0 : Nat} {x1 : Int} {x2 : Int} {x3 : Int} {x4 : Int} {x5 : Int} {h : Zm} {Q : Int → Zm → Prop} (hX45 : ∀ (x2 : Int) (x3 : Int) (h : Zm), X45 x2 x3 h → zW p l e zrX7_plateAt s m args below meth c D base 6 (MQ below (zQi D base Q) args s 0 0 (zFree base)) 0 0 45 [some (.inr a0), some (.inl x1), some (.inl x2), some (.inl x3), none, none] [] h) (hX57 : ∀ (x4 : Int) (x5 : Int) (h : Zm), X57 x4 x5 h → zW p l e zrX7_plateAt s m args below meth c D base 6 (MQ below (zQi D base Q) args s 0 0 (zFree base)) 0 0 57 [some (.inr a0), some (.inl x1), some (.inl x2), some (.inl x3), some (.inl x4), some (.inl x5)] [] h) (H : mX7_plateAt_B57 X45 X57 a0 x1 x2 x3 x4 x5 h Q) : zW p l e zrX7_plateAt s m args below meth c D base 6 (MQ below (zQi D base Q) args s 0 0 (zFree base)) 0 0 57 [some (.inr a0), some (.inl x1), some (.inl x2), some (.inl x3), some (.inl x4), some (.inl x5)] [] h := by
  unfold mX7_plateAt_B57 at H
  refine z_iload (pc := 57) hc dX7_plateAt_57 rfl ?_
  refine z_bipush (pc := 59) hc dX7_plateAt_59 (by decide) ?_
  refine z_icmp_ge (tgt := 118) (pc := 61) hc dX7_plateAt_61 rfl H (fun H => ?_) (fun H => ?_)
  · refine z_iload (pc := 64) hc dX7_plateAt_64 rfl ?_
    refine z_aload_n (pc := 66) hc dX7_plateAt_66 rfl ?_
    refine z_getR (pc := 67) hc dX7_plateAt_67 zf_RX7_56 rfl rfl rfl H (fun r9 H => ?_)
    refine z_iload (pc := 70) hc dX7_plateAt_70 rfl ?_
    refine z_iaload (pc := 72) hc dX7_plateAt_72 H (fun v10 H => ?_)
    refine z_aload_n (pc := 73) hc dX7_plateAt_73 rfl ?_
    refine z_getR (pc := 74) hc dX7_plateAt_74 zf_RX7_56 rfl rfl rfl H (fun r11 H => ?_)
    refine z_iload_n (pc := 77) hc dX7_plateAt_77 rfl ?_
    refine z_iaload (pc := 78) hc dX7_plateAt_78 H (fun v12 H => ?_)
    refine z_icmp_gt (tgt := 104) (pc := 79) hc dX7_plateAt_79 rfl H (fun H => ?_) (fun H => ?_)
    · refine z_aload_n (pc := 82) hc dX7_plateAt_82 rfl ?_
      refine z_getR (pc := 83) hc dX7_plateAt_83 zf_RX7_56 rfl rfl rfl H (fun r13 H => ?_)
      refine z_iload (pc := 86) hc dX7_plateAt_86 rfl ?_
      refine z_iaload (pc := 88) hc dX7_plateAt_88 H (fun v14 H => ?_)
      refine z_aload_n (pc := 89) hc dX7_plateAt_89 rfl ?_
      refine z_getR (pc := 90) hc dX7_plateAt_90 zf_RX7_56 rfl rfl rfl H (fun r15 H => ?_)
      refine z_iload_n (pc := 93) hc dX7_plateAt_93 rfl ?_
      refine z_iaload (pc := 94) hc dX7_plateAt_94 H (fun v16 H => ?_)
      refine z_icmp_ne (tgt := 108) (pc := 95) hc dX7_plateAt_95 rfl H (fun H => ?_) (fun H => ?_)
      · refine z_iload (pc := 98) hc dX7_plateAt_98 rfl ?_
        refine z_iload_n (pc := 100) hc dX7_plateAt_100 rfl ?_
        refine z_icmp_ge (tgt := 108) (pc := 101) hc dX7_plateAt_101 rfl H (fun H => ?_) (fun H => ?_)
        · refine z_iconst (pc := 104) hc dX7_plateAt_104 ?_
          refine z_goto (tgt := 109) (pc := 105) hc dX7_plateAt_105 rfl ?_
          refine z_iadd (pc := 109) hc dX7_plateAt_109 ?_
          refine z_istore (pc := 110) hc dX7_plateAt_110 (by decide) (ρ' := [some (.inr a0), some (.inl x1), some (.inl x2), some (.inl x3), some (.inl (x4 + 1)), some (.inl x5)]) rfl ?_
          refine z_iinc (pc := 112) hc dX7_plateAt_112 (by decide) rfl (ρ' := [some (.inr a0), some (.inl x1), some (.inl x2), some (.inl x3), some (.inl (x4 + 1)), some (.inl (x5 + 1))]) rfl ?_
          refine z_goto (tgt := 57) (pc := 115) hc dX7_plateAt_115 rfl ?_
          exact hX57 _ _ _ H
        · refine z_iconst (pc := 108) hc dX7_plateAt_108 ?_
          refine z_iadd (pc := 109) hc dX7_plateAt_109 ?_
          refine z_istore (pc := 110) hc dX7_plateAt_110 (by decide) (ρ' := [some (.inr a0), some (.inl x1), some (.inl x2), some (.inl x3), some (.inl (x4 + 0)), some (.inl x5)]) rfl ?_
          refine z_iinc (pc := 112) hc dX7_plateAt_112 (by decide) rfl (ρ' := [some (.inr a0), some (.inl x1), some (.inl x2), some (.inl x3), some (.inl (x4 + 0)), some (.inl (x5 + 1))]) rfl ?_
          refine z_goto (tgt := 57) (pc := 115) hc dX7_plateAt_115 rfl ?_
          exact hX57 _ _ _ H
      · refine z_iconst (pc := 108) hc dX7_plateAt_108 ?_
        refine z_iadd (pc := 109) hc dX7_plateAt_109 ?_
        refine z_istore (pc := 110) hc dX7_plateAt_110 (by decide) (ρ' := [some (.inr a0), some (.inl x1), some (.inl x2), some (.inl x3), some (.inl (x4 + 0)), some (.inl x5)]) rfl ?_
        refine z_iinc (pc := 112) hc dX7_plateAt_112 (by decide) rfl (ρ' := [some (.inr a0), some (.inl x1), some (.inl x2), some (.inl x3), some (.inl (x4 + 0)), some (.inl (x5 + 1))]) rfl ?_
        refine z_goto (tgt := 57) (pc := 115) hc dX7_plateAt_115 rfl ?_
        exact hX57 _ _ _ H
    · refine z_iconst (pc := 104) hc dX7_plateAt_104 ?_
      refine z_goto (tgt := 109) (pc := 105) hc dX7_plateAt_105 rfl ?_
      refine z_iadd (pc := 109) hc dX7_plateAt_109 ?_
      refine z_istore (pc := 110) hc dX7_plateAt_110 (by decide) (ρ' := [some (.inr a0), some (.inl x1), some (.inl x2), some (.inl x3), some (.inl (x4 + 1)), some (.inl x5)]) rfl ?_
      refine z_iinc (pc := 112) hc dX7_plateAt_112 (by decide) rfl (ρ' := [some (.inr a0), some (.inl x1), some (.inl x2), some (.inl x3), some (.inl (x4 + 1)), some (.inl (x5 + 1))]) rfl ?_
      refine z_goto (tgt := 57) (pc := 115) hc dX7_plateAt_115 rfl ?_
      exact hX57 _ _ _ H
  · refine z_iload (pc := 118) hc dX7_plateAt_118 rfl ?_
    refine z_iload_n (pc := 120) hc dX7_plateAt_120 rfl ?_
    refine z_icmp_ne (tgt := 128) (pc := 121) hc dX7_plateAt_121 rfl H (fun H => ?_) (fun H => ?_)
    · refine z_iload_n (pc := 124) hc dX7_plateAt_124 rfl ?_
      refine z_goto (tgt := 129) (pc := 125) hc dX7_plateAt_125 rfl ?_
      refine z_istore_n (pc := 129) hc dX7_plateAt_129 (by decide) (ρ' := [some (.inr a0), some (.inl x1), some (.inl x3), some (.inl x3), some (.inl x4), some (.inl x5)]) rfl ?_
      refine z_iinc (pc := 130) hc dX7_plateAt_130 (by decide) rfl (ρ' := [some (.inr a0), some (.inl x1), some (.inl x3), some (.inl (x3 + 1)), some (.inl x4), some (.inl x5)]) rfl ?_
      refine z_goto (tgt := 45) (pc := 133) hc dX7_plateAt_133 rfl ?_
      refine z_mask [true, true, true, true, false, false] (ρ' := [some (.inr a0), some (.inl x1), some (.inl x3), some (.inl (x3 + 1)), none, none]) rfl ?_
      exact hX45 _ _ _ H
    · refine z_iload_n (pc := 128) hc dX7_plateAt_128 rfl ?_
      refine z_istore_n (pc := 129) hc dX7_plateAt_129 (by decide) (ρ' := [some (.inr a0), some (.inl x1), some (.inl x2), some (.inl x3), some (.inl x4), some (.inl x5)]) rfl ?_
      refine z_iinc (pc := 130) hc dX7_plateAt_130 (by decide) rfl (ρ' := [some (.inr a0), some (.inl x1), some (.inl x2), some (.inl (x3 + 1)), some (.inl x4), some (.inl x5)]) rfl ?_
      refine z_goto (tgt := 45) (pc := 133) hc dX7_plateAt_133 rfl ?_
      refine z_mask [true, true, true, true, false, false] (ρ' := [some (.inr a0), some (.inl x1), some (.inl x2), some (.inl (x3 + 1)), none, none]) rfl ?_
      exact hX45 _ _ _ H
theorem rX7_plateAt_H57 (hc : zOk p s m args meth c D cX7_plateAt 6 RX7 (some .int)) {X45 : Int → Int → Zm → Prop} {a0 : Nat} {x1 : Int} {x2 : Int} {x3 : Int} {x4 : Int} {x5 : Int} {h : Zm} {Q : Int → Zm → Prop} (hX45 : ∀ (x2 : Int) (x3 : Int) (h : Zm), X45 x2 x3 h → zW p l e zrX7_plateAt s m args below meth c D base 6 (MQ below (zQi D base Q) args s 0 0 (zFree base)) 0 0 45 [some (.inr a0), some (.inl x1), some (.inl x2), some (.inl x3), none, none] [] h) (H : mX7_plateAt_H57 X45 a0 x1 x2 x3 x4 x5 h Q) : zW p l e zrX7_plateAt s m args below meth c D base 6 (MQ below (zQi D base Q) args s 0 0 (zFree base)) 0 0 57 [some (.inr a0), some (.inl x1), some (.inl x2), some (.inl x3), some (.inl x4), some (.inl x5)] [] h :=
  H (fun x4 x5 h => zW p l e zrX7_plateAt s m args below meth c D base 6 (MQ below (zQi D base Q) args s 0 0 (zFree base)) 0 0 57 [some (.inr a0), some (.inl x1), some (.inl x2), some (.inl x3), some (.inl x4), some (.inl x5)] [] h) (fun x4 x5 h H => rX7_plateAt_B57 hc hX45 (fun _ _ _ q => q) H)
set_option maxRecDepth 100000 in
set_option maxHeartbeats 4000000 in
theorem rX7_plateAt_B45 (hc : zOk p s m args meth c D cX7_plateAt 6 RX7 (some .int)) {X45 : Int → Int → Zm → Prop} {a0 : Nat} {x1 : Int} {x2 : Int} {x3 : Int} {h : Zm} {Q : Int → Zm → Prop} (hX45 : ∀ (x2 : Int) (x3 : Int) (h : Zm), X45 x2 x3 h → zW p l e zrX7_plateAt s m args below meth c D base 6 (MQ below (zQi D base Q) args s 0 0 (zFree base)) 0 0 45 [some (.inr a0), some (.inl x1), some (.inl x2), some (.inl x3), none, none] [] h) (H : mX7_plateAt_B45 X45 a0 x1 x2 x3 h Q) : zW p l e zrX7_plateAt s m args below meth c D base 6 (MQ below (zQi D base Q) args s 0 0 (zFree base)) 0 0 45 [some (.inr a0), some (.inl x1), some (.inl x2), some (.inl x3), none, none] [] h := by
  unfold mX7_plateAt_B45 at H
  refine z_iload_n (pc := 45) hc dX7_plateAt_45 rfl ?_
  refine z_bipush (pc := 46) hc dX7_plateAt_46 (by decide) ?_
  refine z_icmp_ge (tgt := 136) (pc := 48) hc dX7_plateAt_48 rfl H (fun H => ?_) (fun H => ?_)
  · refine z_iconst (pc := 51) hc dX7_plateAt_51 ?_
    refine z_istore (pc := 52) hc dX7_plateAt_52 (by decide) (ρ' := [some (.inr a0), some (.inl x1), some (.inl x2), some (.inl x3), some (.inl 0), none]) rfl ?_
    refine z_iconst (pc := 54) hc dX7_plateAt_54 ?_
    refine z_istore (pc := 55) hc dX7_plateAt_55 (by decide) (ρ' := [some (.inr a0), some (.inl x1), some (.inl x2), some (.inl x3), some (.inl 0), some (.inl 0)]) rfl ?_
    exact rX7_plateAt_H57 hc hX45 H
  · refine z_iload_n (pc := 136) hc dX7_plateAt_136 rfl ?_
    exact z_ireturn (pc := 137) hc dX7_plateAt_137 H
theorem rX7_plateAt_H45 (hc : zOk p s m args meth c D cX7_plateAt 6 RX7 (some .int))  {a0 : Nat} {x1 : Int} {x2 : Int} {x3 : Int} {h : Zm} {Q : Int → Zm → Prop}  (H : mX7_plateAt_H45  a0 x1 x2 x3 h Q) : zW p l e zrX7_plateAt s m args below meth c D base 6 (MQ below (zQi D base Q) args s 0 0 (zFree base)) 0 0 45 [some (.inr a0), some (.inl x1), some (.inl x2), some (.inl x3), none, none] [] h :=
  H (fun x2 x3 h => zW p l e zrX7_plateAt s m args below meth c D base 6 (MQ below (zQi D base Q) args s 0 0 (zFree base)) 0 0 45 [some (.inr a0), some (.inl x1), some (.inl x2), some (.inl x3), none, none] [] h) (fun x2 x3 h H => rX7_plateAt_B45 hc (fun _ _ _ q => q) H)
set_option maxRecDepth 100000 in
set_option maxHeartbeats 4000000 in
theorem rX7_plateAt_B11 (hc : zOk p s m args meth c D cX7_plateAt 6 RX7 (some .int)) {X11 : Int → Zm → Prop} {a0 : Nat} {x1 : Int} {x2 : Int} {h : Zm} {Q : Int → Zm → Prop} (hX11 : ∀ (x2 : Int) (h : Zm), X11 x2 h → zW p l e zrX7_plateAt s m args below meth c D base 6 (MQ below (zQi D base Q) args s 0 0 (zFree base)) 0 0 11 [some (.inr a0), some (.inl x1), some (.inl x2), none, none, none] [] h) (H : mX7_plateAt_B11 X11 a0 x1 x2 h Q) : zW p l e zrX7_plateAt s m args below meth c D base 6 (MQ below (zQi D base Q) args s 0 0 (zFree base)) 0 0 11 [some (.inr a0), some (.inl x1), some (.inl x2), none, none, none] [] h := by
  unfold mX7_plateAt_B11 at H
  refine z_iload_n (pc := 11) hc dX7_plateAt_11 rfl ?_
  refine z_bipush (pc := 12) hc dX7_plateAt_12 (by decide) ?_
  refine z_icmp_ge (tgt := 40) (pc := 14) hc dX7_plateAt_14 rfl H (fun H => ?_) (fun H => ?_)
  · refine z_aload_n (pc := 17) hc dX7_plateAt_17 rfl ?_
    refine z_getR (pc := 18) hc dX7_plateAt_18 zf_RX7_56 rfl rfl rfl H (fun r3 H => ?_)
    refine z_iload_n (pc := 21) hc dX7_plateAt_21 rfl ?_
    refine z_aload_n (pc := 22) hc dX7_plateAt_22 rfl ?_
    refine z_iload_n (pc := 23) hc dX7_plateAt_23 rfl ?_
    refine z_aload_n (pc := 24) hc dX7_plateAt_24 rfl ?_
    refine z_getR (pc := 25) hc dX7_plateAt_25 zf_RX7_7 rfl rfl rfl H (fun r4 H => ?_)
    refine z_iconst (pc := 28) hc dX7_plateAt_28 ?_
    refine z_iaload (pc := 29) hc dX7_plateAt_29 H (fun v5 H => ?_)
    refine z_calI (z_runV (pc := 30) (ci := 7) (T := TX7) (N := 20) hc dX7_plateAt_30 zw_RX7_173 (metX7_covered _ _ _ H.2) rfl (Nat.le_of_ble_eq_true rfl) ⟨Nat.le_of_ble_eq_true rfl, Nat.le_of_ble_eq_true rfl⟩ ⟨by exact Nat.le_of_ble_eq_true rfl, by exact Nat.le_of_ble_eq_true rfl⟩ rfl H.1) rfl ⟨rfl, rfl⟩ (fun v7 h6 H => ?_)
    refine z_iastore (pc := 33) hc dX7_plateAt_33 H (fun h8 H => ?_)
    refine z_iinc (pc := 34) hc dX7_plateAt_34 (by decide) rfl (ρ' := [some (.inr a0), some (.inl x1), some (.inl (x2 + 1)), none, none, none]) rfl ?_
    refine z_goto (tgt := 11) (pc := 37) hc dX7_plateAt_37 rfl ?_
    exact hX11 _ _ H
  · refine z_bipush (pc := 40) hc dX7_plateAt_40 (by decide) ?_
    refine z_istore_n (pc := 42) hc dX7_plateAt_42 (by decide) (ρ' := [some (.inr a0), some (.inl x1), some (.inl (-4)), none, none, none]) rfl ?_
    refine z_iconst (pc := 43) hc dX7_plateAt_43 ?_
    refine z_istore_n (pc := 44) hc dX7_plateAt_44 (by decide) (ρ' := [some (.inr a0), some (.inl x1), some (.inl (-4)), some (.inl 0), none, none]) rfl ?_
    exact rX7_plateAt_H45 hc H
theorem rX7_plateAt_H11 (hc : zOk p s m args meth c D cX7_plateAt 6 RX7 (some .int))  {a0 : Nat} {x1 : Int} {x2 : Int} {h : Zm} {Q : Int → Zm → Prop}  (H : mX7_plateAt_H11  a0 x1 x2 h Q) : zW p l e zrX7_plateAt s m args below meth c D base 6 (MQ below (zQi D base Q) args s 0 0 (zFree base)) 0 0 11 [some (.inr a0), some (.inl x1), some (.inl x2), none, none, none] [] h :=
  H (fun x2 h => zW p l e zrX7_plateAt s m args below meth c D base 6 (MQ below (zQi D base Q) args s 0 0 (zFree base)) 0 0 11 [some (.inr a0), some (.inl x1), some (.inl x2), none, none, none] [] h) (fun x2 h H => rX7_plateAt_B11 hc (fun _ _ q => q) H)
set_option maxRecDepth 100000 in
set_option maxHeartbeats 4000000 in
theorem rX7_plateAt (hc : zOk p s m args meth c D cX7_plateAt 6 RX7 (some .int)) {a0 : Nat} {x1 : Int} {h : Zm} {Q : Int → Zm → Prop} (H : mX7_plateAt a0 x1 h Q) : zW p l e zrX7_plateAt s m args below meth c D base 6 (MQ below (zQi D base Q) args s 0 0 (zFree base)) 0 0 0 [some (.inr a0), some (.inl x1), none, none, none, none] [] h := by
  unfold mX7_plateAt at H
  refine z_iload_n (pc := 0) hc dX7_plateAt_0 rfl ?_
  refine z_calI (z_runS (pc := 1) hc dX7_plateAt_1 zw_RX7_117 (metX7_isPlate _ _ _ H) rfl (Nat.le_of_ble_eq_true rfl) ⟨Nat.le_of_ble_eq_true rfl, Nat.le_of_ble_eq_true rfl⟩ ⟨by exact Nat.le_of_ble_eq_true rfl, by exact Nat.le_of_ble_eq_true rfl⟩) rfl ⟨rfl, rfl⟩ (fun v2 h1 H => ?_)
  refine z_if_ne (tgt := 9) (pc := 4) hc dX7_plateAt_4 rfl H (fun H => ?_) (fun H => ?_)
  · refine z_iconst (pc := 7) hc dX7_plateAt_7 ?_
    exact z_ireturn (pc := 8) hc dX7_plateAt_8 H
  · refine z_iconst (pc := 9) hc dX7_plateAt_9 ?_
    refine z_istore_n (pc := 10) hc dX7_plateAt_10 (by decide) (ρ' := [some (.inr a0), some (.inl x1), some (.inl 0), none, none, none]) rfl ?_
    exact rX7_plateAt_H11 hc H
end
theorem metX7_plateAt (l : Launch) (D : Zd) (base : Nat) {a0 : Nat} {x1 : Int} {h : Zm} {Q : Int → Zm → Prop} (H : mX7_plateAt a0 x1 h Q) : zMet l D base yX7_plateAt cX7_plateAt 6 (some .int) zrX7_plateAt [.inr a0, .inl x1] h (zQi D base Q) :=
  z_met (by decide +kernel) (Nat.le_of_ble_eq_true rfl) (fun p e s m args below meth c hc hn => rX7_plateAt hc H)
def zrX7_greatestSum : Room := { frames := 5, cells := 0, slots := 0, locals := 114 }
def mX7_greatestSum_B8 (X8 : Int → Int → Zm → Prop) (a0 : Nat) (x1 : Int) (x2 : Int) (h : Zm) (Q : Int → Zm → Prop) : Prop :=
  cRc h 17 a0 <| mX7_pixels a0 h fun v3 h2 => cLt x2 v3
  (cGr h2 17 a0 0 fun r4 => cLd h2 1 r4 2 fun v5 => cRc h2 17 a0 <| mX7_pixelAt a0 x2 v5 h2 fun h6 => cRc h6 17 a0 <| mX7_told a0 7 h6 fun v8 h7 => cLe v8 x1
    (X8 x1 (x2 + 1) h7)
    (cRc h7 17 a0 <| mX7_told a0 7 h7 fun v10 h9 => X8 v10 (x2 + 1) h9))
  (Q x1 h2)
def mX7_greatestSum_H8  (a0 : Nat) (x1 : Int) (x2 : Int) (h : Zm) (Q : Int → Zm → Prop) : Prop :=
  lfp2 (fun X8 x1 x2 h => mX7_greatestSum_B8 X8 a0 x1 x2 h Q) x1 x2 h
def mX7_greatestSum (a0 : Nat) (h : Zm) (Q : Int → Zm → Prop) : Prop :=
  cRc h 17 a0 <| mX7_lays a0 h fun h1 => mX7_greatestSum_H8  a0 0 0 h1 Q
section
variable {p : Program} {l : Launch} {e : Env} {s : State} {m : MethodId} {args : Array Value} {below : List Frame} {meth : Method} {c : Code} {D : Zd} {base : Nat}
set_option maxRecDepth 100000 in
set_option maxHeartbeats 4000000 in
theorem rX7_greatestSum_B8 (hc : zOk p s m args meth c D cX7_greatestSum 3 RX7 (some .int)) {X8 : Int → Int → Zm → Prop} {a0 : Nat} {x1 : Int} {x2 : Int} {h : Zm} {Q : Int → Zm → Prop} (hX8 : ∀ (x1 : Int) (x2 : Int) (h : Zm), X8 x1 x2 h → zW p l e zrX7_greatestSum s m args below meth c D base 3 (MQ below (zQi D base Q) args s 0 0 (zFree base)) 0 0 8 [some (.inr a0), some (.inl x1), some (.inl x2)] [] h) (H : mX7_greatestSum_B8 X8 a0 x1 x2 h Q) : zW p l e zrX7_greatestSum s m args below meth c D base 3 (MQ below (zQi D base Q) args s 0 0 (zFree base)) 0 0 8 [some (.inr a0), some (.inl x1), some (.inl x2)] [] h := by
  unfold mX7_greatestSum_B8 at H
  refine z_iload_n (pc := 8) hc dX7_greatestSum_8 rfl ?_
  refine z_aload_n (pc := 9) hc dX7_greatestSum_9 rfl ?_
  refine z_calI (z_runV (pc := 10) (ci := 7) (T := TX7) (N := 20) hc dX7_greatestSum_10 zw_RX7_167 (metX7_pixels _ _ _ H.2) rfl (Nat.le_of_ble_eq_true rfl) ⟨Nat.le_of_ble_eq_true rfl, Nat.le_of_ble_eq_true rfl⟩ ⟨by exact Nat.le_of_ble_eq_true rfl, by exact Nat.le_of_ble_eq_true rfl⟩ rfl H.1) rfl ⟨rfl, rfl⟩ (fun v3 h2 H => ?_)
  refine z_icmp_ge (tgt := 54) (pc := 13) hc dX7_greatestSum_13 rfl H (fun H => ?_) (fun H => ?_)
  · refine z_aload_n (pc := 16) hc dX7_greatestSum_16 rfl ?_
    refine z_iload_n (pc := 17) hc dX7_greatestSum_17 rfl ?_
    refine z_aload_n (pc := 18) hc dX7_greatestSum_18 rfl ?_
    refine z_getR (pc := 19) hc dX7_greatestSum_19 zf_RX7_7 rfl rfl rfl H (fun r4 H => ?_)
    refine z_iconst (pc := 22) hc dX7_greatestSum_22 ?_
    refine z_iaload (pc := 23) hc dX7_greatestSum_23 H (fun v5 H => ?_)
    refine z_calV0 (z_runV (pc := 24) (ci := 7) (T := TX7) (N := 20) hc dX7_greatestSum_24 zw_RX7_170 (metX7_pixelAt _ _ _ H.2) rfl (Nat.le_of_ble_eq_true rfl) ⟨Nat.le_of_ble_eq_true rfl, Nat.le_of_ble_eq_true rfl⟩ ⟨by exact Nat.le_of_ble_eq_true rfl, by exact Nat.le_of_ble_eq_true rfl⟩ rfl H.1) rfl ⟨rfl, rfl⟩ (fun h6 H => ?_)
    refine z_aload_n (pc := 27) hc dX7_greatestSum_27 rfl ?_
    refine z_bipush (pc := 28) hc dX7_greatestSum_28 (by decide) ?_
    refine z_calI (z_runV (pc := 30) (ci := 7) (T := TX7) (N := 20) hc dX7_greatestSum_30 zw_RX7_162 (metX7_told _ _ _ H.2) rfl (Nat.le_of_ble_eq_true rfl) ⟨Nat.le_of_ble_eq_true rfl, Nat.le_of_ble_eq_true rfl⟩ ⟨by exact Nat.le_of_ble_eq_true rfl, by exact Nat.le_of_ble_eq_true rfl⟩ rfl H.1) rfl ⟨rfl, rfl⟩ (fun v8 h7 H => ?_)
    refine z_iload_n (pc := 33) hc dX7_greatestSum_33 rfl ?_
    refine z_icmp_le (tgt := 46) (pc := 34) hc dX7_greatestSum_34 rfl H (fun H => ?_) (fun H => ?_)
    · refine z_iload_n (pc := 46) hc dX7_greatestSum_46 rfl ?_
      refine z_istore_n (pc := 47) hc dX7_greatestSum_47 (by decide) (ρ' := [some (.inr a0), some (.inl x1), some (.inl x2)]) rfl ?_
      refine z_iinc (pc := 48) hc dX7_greatestSum_48 (by decide) rfl (ρ' := [some (.inr a0), some (.inl x1), some (.inl (x2 + 1))]) rfl ?_
      refine z_goto (tgt := 8) (pc := 51) hc dX7_greatestSum_51 rfl ?_
      exact hX8 _ _ _ H
    · refine z_aload_n (pc := 37) hc dX7_greatestSum_37 rfl ?_
      refine z_bipush (pc := 38) hc dX7_greatestSum_38 (by decide) ?_
      refine z_calI (z_runV (pc := 40) (ci := 7) (T := TX7) (N := 20) hc dX7_greatestSum_40 zw_RX7_162 (metX7_told _ _ _ H.2) rfl (Nat.le_of_ble_eq_true rfl) ⟨Nat.le_of_ble_eq_true rfl, Nat.le_of_ble_eq_true rfl⟩ ⟨by exact Nat.le_of_ble_eq_true rfl, by exact Nat.le_of_ble_eq_true rfl⟩ rfl H.1) rfl ⟨rfl, rfl⟩ (fun v10 h9 H => ?_)
      refine z_goto (tgt := 47) (pc := 43) hc dX7_greatestSum_43 rfl ?_
      refine z_istore_n (pc := 47) hc dX7_greatestSum_47 (by decide) (ρ' := [some (.inr a0), some (.inl v10), some (.inl x2)]) rfl ?_
      refine z_iinc (pc := 48) hc dX7_greatestSum_48 (by decide) rfl (ρ' := [some (.inr a0), some (.inl v10), some (.inl (x2 + 1))]) rfl ?_
      refine z_goto (tgt := 8) (pc := 51) hc dX7_greatestSum_51 rfl ?_
      exact hX8 _ _ _ H
  · refine z_iload_n (pc := 54) hc dX7_greatestSum_54 rfl ?_
    exact z_ireturn (pc := 55) hc dX7_greatestSum_55 H
theorem rX7_greatestSum_H8 (hc : zOk p s m args meth c D cX7_greatestSum 3 RX7 (some .int))  {a0 : Nat} {x1 : Int} {x2 : Int} {h : Zm} {Q : Int → Zm → Prop}  (H : mX7_greatestSum_H8  a0 x1 x2 h Q) : zW p l e zrX7_greatestSum s m args below meth c D base 3 (MQ below (zQi D base Q) args s 0 0 (zFree base)) 0 0 8 [some (.inr a0), some (.inl x1), some (.inl x2)] [] h :=
  H (fun x1 x2 h => zW p l e zrX7_greatestSum s m args below meth c D base 3 (MQ below (zQi D base Q) args s 0 0 (zFree base)) 0 0 8 [some (.inr a0), some (.inl x1), some (.inl x2)] [] h) (fun x1 x2 h H => rX7_greatestSum_B8 hc (fun _ _ _ q => q) H)
set_option maxRecDepth 100000 in
set_option maxHeartbeats 4000000 in
theorem rX7_greatestSum (hc : zOk p s m args meth c D cX7_greatestSum 3 RX7 (some .int)) {a0 : Nat} {h : Zm} {Q : Int → Zm → Prop} (H : mX7_greatestSum a0 h Q) : zW p l e zrX7_greatestSum s m args below meth c D base 3 (MQ below (zQi D base Q) args s 0 0 (zFree base)) 0 0 0 [some (.inr a0), none, none] [] h := by
  unfold mX7_greatestSum at H
  refine z_aload_n (pc := 0) hc dX7_greatestSum_0 rfl ?_
  refine z_calV0 (z_runV (pc := 1) (ci := 7) (T := TX7) (N := 20) hc dX7_greatestSum_1 zw_RX7_152 (metX7_lays _ _ _ H.2) rfl (Nat.le_of_ble_eq_true rfl) ⟨Nat.le_of_ble_eq_true rfl, Nat.le_of_ble_eq_true rfl⟩ ⟨by exact Nat.le_of_ble_eq_true rfl, by exact Nat.le_of_ble_eq_true rfl⟩ rfl H.1) rfl ⟨rfl, rfl⟩ (fun h1 H => ?_)
  refine z_iconst (pc := 4) hc dX7_greatestSum_4 ?_
  refine z_istore_n (pc := 5) hc dX7_greatestSum_5 (by decide) (ρ' := [some (.inr a0), some (.inl 0), none]) rfl ?_
  refine z_iconst (pc := 6) hc dX7_greatestSum_6 ?_
  refine z_istore_n (pc := 7) hc dX7_greatestSum_7 (by decide) (ρ' := [some (.inr a0), some (.inl 0), some (.inl 0)]) rfl ?_
  exact rX7_greatestSum_H8 hc H
end
theorem metX7_greatestSum (l : Launch) (D : Zd) (base : Nat) {a0 : Nat} {h : Zm} {Q : Int → Zm → Prop} (H : mX7_greatestSum a0 h Q) : zMet l D base yX7_greatestSum cX7_greatestSum 3 (some .int) zrX7_greatestSum [.inr a0] h (zQi D base Q) :=
  z_met (by decide +kernel) (Nat.le_of_ble_eq_true rfl) (fun p e s m args below meth c hc hn => rX7_greatestSum hc H)
def zrX7_limitedPixels : Room := { frames := 5, cells := 0, slots := 0, locals := 114 }
def mX7_limitedPixels_B32 (X8 : Int → Int → Zm → Prop) (X32 : Int → Int → Zm → Prop) (a0 : Nat) (x1 : Int) (x2 : Int) (x3 : Int) (x4 : Int) (h : Zm) (Q : Int → Zm → Prop) : Prop :=
  cLt x4 7
  (cEq x3 0
    (X32 0 (x4 + 1) h)
    (cGr h 17 a0 15 fun r7 => cLd h 1 r7 x4 fun v8 => cGr h 17 a0 16 fun r9 => cLd h 1 r9 x4 fun v10 => cEq v8 v10
      (X32 1 (x4 + 1) h)
      (X32 0 (x4 + 1) h)))
  (cEq x3 0
    (X8 (x1 + 1) (x2 + 1) h)
    (X8 (x1 + 0) (x2 + 1) h))
def mX7_limitedPixels_H32 (X8 : Int → Int → Zm → Prop) (a0 : Nat) (x1 : Int) (x2 : Int) (x3 : Int) (x4 : Int) (h : Zm) (Q : Int → Zm → Prop) : Prop :=
  lfp2 (fun X32 x3 x4 h => mX7_limitedPixels_B32 X8 X32 a0 x1 x2 x3 x4 h Q) x3 x4 h
def mX7_limitedPixels_B8 (X8 : Int → Int → Zm → Prop) (a0 : Nat) (x1 : Int) (x2 : Int) (h : Zm) (Q : Int → Zm → Prop) : Prop :=
  cRc h 17 a0 <| mX7_pixels a0 h fun v3 h2 => cLt x2 v3
  (cGr h2 17 a0 0 fun r4 => cLd h2 1 r4 2 fun v5 => cRc h2 17 a0 <| mX7_pixelAt a0 x2 v5 h2 fun h6 => mX7_limitedPixels_H32 X8 a0 x1 x2 1 0 h6 Q)
  (Q x1 h2)
def mX7_limitedPixels_H8  (a0 : Nat) (x1 : Int) (x2 : Int) (h : Zm) (Q : Int → Zm → Prop) : Prop :=
  lfp2 (fun X8 x1 x2 h => mX7_limitedPixels_B8 X8 a0 x1 x2 h Q) x1 x2 h
def mX7_limitedPixels (a0 : Nat) (h : Zm) (Q : Int → Zm → Prop) : Prop :=
  cRc h 17 a0 <| mX7_lays a0 h fun h1 => mX7_limitedPixels_H8  a0 0 0 h1 Q
section
variable {p : Program} {l : Launch} {e : Env} {s : State} {m : MethodId} {args : Array Value} {below : List Frame} {meth : Method} {c : Code} {D : Zd} {base : Nat}
set_option maxRecDepth 100000 in
set_option maxHeartbeats 4000000 in
theorem rX7_limitedPixels_B32 (hc : zOk p s m args meth c D cX7_limitedPixels 5 RX7 (some .int)) {X8 : Int → Int → Zm → Prop} {X32 : Int → Int → Zm → Prop} {a0 : Nat} {x1 : Int} {x2 : Int} {x3 : Int} {x4 : Int} {h : Zm} {Q : Int → Zm → Prop} (hX8 : ∀ (x1 : Int) (x2 : Int) (h : Zm), X8 x1 x2 h → zW p l e zrX7_limitedPixels s m args below meth c D base 5 (MQ below (zQi D base Q) args s 0 0 (zFree base)) 0 0 8 [some (.inr a0), some (.inl x1), some (.inl x2), none, none] [] h) (hX32 : ∀ (x3 : Int) (x4 : Int) (h : Zm), X32 x3 x4 h → zW p l e zrX7_limitedPixels s m args below meth c D base 5 (MQ below (zQi D base Q) args s 0 0 (zFree base)) 0 0 32 [some (.inr a0), some (.inl x1), some (.inl x2), some (.inl x3), some (.inl x4)] [] h) (H : mX7_limitedPixels_B32 X8 X32 a0 x1 x2 x3 x4 h Q) : zW p l e zrX7_limitedPixels s m args below meth c D base 5 (MQ below (zQi D base Q) args s 0 0 (zFree base)) 0 0 32 [some (.inr a0), some (.inl x1), some (.inl x2), some (.inl x3), some (.inl x4)] [] h := by
  unfold mX7_limitedPixels_B32 at H
  refine z_iload (pc := 32) hc dX7_limitedPixels_32 rfl ?_
  refine z_bipush (pc := 34) hc dX7_limitedPixels_34 (by decide) ?_
  refine z_icmp_ge (tgt := 72) (pc := 36) hc dX7_limitedPixels_36 rfl H (fun H => ?_) (fun H => ?_)
  · refine z_iload_n (pc := 39) hc dX7_limitedPixels_39 rfl ?_
    refine z_if_eq (tgt := 64) (pc := 40) hc dX7_limitedPixels_40 rfl H (fun H => ?_) (fun H => ?_)
    · refine z_iconst (pc := 64) hc dX7_limitedPixels_64 ?_
      refine z_istore_n (pc := 65) hc dX7_limitedPixels_65 (by decide) (ρ' := [some (.inr a0), some (.inl x1), some (.inl x2), some (.inl 0), some (.inl x4)]) rfl ?_
      refine z_iinc (pc := 66) hc dX7_limitedPixels_66 (by decide) rfl (ρ' := [some (.inr a0), some (.inl x1), some (.inl x2), some (.inl 0), some (.inl (x4 + 1))]) rfl ?_
      refine z_goto (tgt := 32) (pc := 69) hc dX7_limitedPixels_69 rfl ?_
      exact hX32 _ _ _ H
    · refine z_aload_n (pc := 43) hc dX7_limitedPixels_43 rfl ?_
      refine z_getR (pc := 44) hc dX7_limitedPixels_44 zf_RX7_50 rfl rfl rfl H (fun r7 H => ?_)
      refine z_iload (pc := 47) hc dX7_limitedPixels_47 rfl ?_
      refine z_iaload (pc := 49) hc dX7_limitedPixels_49 H (fun v8 H => ?_)
      refine z_aload_n (pc := 50) hc dX7_limitedPixels_50 rfl ?_
      refine z_getR (pc := 51) hc dX7_limitedPixels_51 zf_RX7_53 rfl rfl rfl H (fun r9 H => ?_)
      refine z_iload (pc := 54) hc dX7_limitedPixels_54 rfl ?_
      refine z_iaload (pc := 56) hc dX7_limitedPixels_56 H (fun v10 H => ?_)
      refine z_icmp_ne (tgt := 64) (pc := 57) hc dX7_limitedPixels_57 rfl H (fun H => ?_) (fun H => ?_)
      · refine z_iconst (pc := 60) hc dX7_limitedPixels_60 ?_
        refine z_goto (tgt := 65) (pc := 61) hc dX7_limitedPixels_61 rfl ?_
        refine z_istore_n (pc := 65) hc dX7_limitedPixels_65 (by decide) (ρ' := [some (.inr a0), some (.inl x1), some (.inl x2), some (.inl 1), some (.inl x4)]) rfl ?_
        refine z_iinc (pc := 66) hc dX7_limitedPixels_66 (by decide) rfl (ρ' := [some (.inr a0), some (.inl x1), some (.inl x2), some (.inl 1), some (.inl (x4 + 1))]) rfl ?_
        refine z_goto (tgt := 32) (pc := 69) hc dX7_limitedPixels_69 rfl ?_
        exact hX32 _ _ _ H
      · refine z_iconst (pc := 64) hc dX7_limitedPixels_64 ?_
        refine z_istore_n (pc := 65) hc dX7_limitedPixels_65 (by decide) (ρ' := [some (.inr a0), some (.inl x1), some (.inl x2), some (.inl 0), some (.inl x4)]) rfl ?_
        refine z_iinc (pc := 66) hc dX7_limitedPixels_66 (by decide) rfl (ρ' := [some (.inr a0), some (.inl x1), some (.inl x2), some (.inl 0), some (.inl (x4 + 1))]) rfl ?_
        refine z_goto (tgt := 32) (pc := 69) hc dX7_limitedPixels_69 rfl ?_
        exact hX32 _ _ _ H
  · refine z_iload_n (pc := 72) hc dX7_limitedPixels_72 rfl ?_
    refine z_iload_n (pc := 73) hc dX7_limitedPixels_73 rfl ?_
    refine z_if_eq (tgt := 81) (pc := 74) hc dX7_limitedPixels_74 rfl H (fun H => ?_) (fun H => ?_)
    · refine z_iconst (pc := 81) hc dX7_limitedPixels_81 ?_
      refine z_iadd (pc := 82) hc dX7_limitedPixels_82 ?_
      refine z_istore_n (pc := 83) hc dX7_limitedPixels_83 (by decide) (ρ' := [some (.inr a0), some (.inl (x1 + 1)), some (.inl x2), some (.inl x3), some (.inl x4)]) rfl ?_
      refine z_iinc (pc := 84) hc dX7_limitedPixels_84 (by decide) rfl (ρ' := [some (.inr a0), some (.inl (x1 + 1)), some (.inl (x2 + 1)), some (.inl x3), some (.inl x4)]) rfl ?_
      refine z_goto (tgt := 8) (pc := 87) hc dX7_limitedPixels_87 rfl ?_
      refine z_mask [true, true, true, false, false] (ρ' := [some (.inr a0), some (.inl (x1 + 1)), some (.inl (x2 + 1)), none, none]) rfl ?_
      exact hX8 _ _ _ H
    · refine z_iconst (pc := 77) hc dX7_limitedPixels_77 ?_
      refine z_goto (tgt := 82) (pc := 78) hc dX7_limitedPixels_78 rfl ?_
      refine z_iadd (pc := 82) hc dX7_limitedPixels_82 ?_
      refine z_istore_n (pc := 83) hc dX7_limitedPixels_83 (by decide) (ρ' := [some (.inr a0), some (.inl (x1 + 0)), some (.inl x2), some (.inl x3), some (.inl x4)]) rfl ?_
      refine z_iinc (pc := 84) hc dX7_limitedPixels_84 (by decide) rfl (ρ' := [some (.inr a0), some (.inl (x1 + 0)), some (.inl (x2 + 1)), some (.inl x3), some (.inl x4)]) rfl ?_
      refine z_goto (tgt := 8) (pc := 87) hc dX7_limitedPixels_87 rfl ?_
      refine z_mask [true, true, true, false, false] (ρ' := [some (.inr a0), some (.inl (x1 + 0)), some (.inl (x2 + 1)), none, none]) rfl ?_
      exact hX8 _ _ _ H
theorem rX7_limitedPixels_H32 (hc : zOk p s m args meth c D cX7_limitedPixels 5 RX7 (some .int)) {X8 : Int → Int → Zm → Prop} {a0 : Nat} {x1 : Int} {x2 : Int} {x3 : Int} {x4 : Int} {h : Zm} {Q : Int → Zm → Prop} (hX8 : ∀ (x1 : Int) (x2 : Int) (h : Zm), X8 x1 x2 h → zW p l e zrX7_limitedPixels s m args below meth c D base 5 (MQ below (zQi D base Q) args s 0 0 (zFree base)) 0 0 8 [some (.inr a0), some (.inl x1), some (.inl x2), none, none] [] h) (H : mX7_limitedPixels_H32 X8 a0 x1 x2 x3 x4 h Q) : zW p l e zrX7_limitedPixels s m args below meth c D base 5 (MQ below (zQi D base Q) args s 0 0 (zFree base)) 0 0 32 [some (.inr a0), some (.inl x1), some (.inl x2), some (.inl x3), some (.inl x4)] [] h :=
  H (fun x3 x4 h => zW p l e zrX7_limitedPixels s m args below meth c D base 5 (MQ below (zQi D base Q) args s 0 0 (zFree base)) 0 0 32 [some (.inr a0), some (.inl x1), some (.inl x2), some (.inl x3), some (.inl x4)] [] h) (fun x3 x4 h H => rX7_limitedPixels_B32 hc hX8 (fun _ _ _ q => q) H)
set_option maxRecDepth 100000 in
set_option maxHeartbeats 4000000 in
theorem rX7_limitedPixels_B8 (hc : zOk p s m args meth c D cX7_limitedPixels 5 RX7 (some .int)) {X8 : Int → Int → Zm → Prop} {a0 : Nat} {x1 : Int} {x2 : Int} {h : Zm} {Q : Int → Zm → Prop} (hX8 : ∀ (x1 : Int) (x2 : Int) (h : Zm), X8 x1 x2 h → zW p l e zrX7_limitedPixels s m args below meth c D base 5 (MQ below (zQi D base Q) args s 0 0 (zFree base)) 0 0 8 [some (.inr a0), some (.inl x1), some (.inl x2), none, none] [] h) (H : mX7_limitedPixels_B8 X8 a0 x1 x2 h Q) : zW p l e zrX7_limitedPixels s m args below meth c D base 5 (MQ below (zQi D base Q) args s 0 0 (zFree base)) 0 0 8 [some (.inr a0), some (.inl x1), some (.inl x2), none, none] [] h := by
  unfold mX7_limitedPixels_B8 at H
  refine z_iload_n (pc := 8) hc dX7_limitedPixels_8 rfl ?_
  refine z_aload_n (pc := 9) hc dX7_limitedPixels_9 rfl ?_
  refine z_calI (z_runV (pc := 10) (ci := 7) (T := TX7) (N := 20) hc dX7_limitedPixels_10 zw_RX7_167 (metX7_pixels _ _ _ H.2) rfl (Nat.le_of_ble_eq_true rfl) ⟨Nat.le_of_ble_eq_true rfl, Nat.le_of_ble_eq_true rfl⟩ ⟨by exact Nat.le_of_ble_eq_true rfl, by exact Nat.le_of_ble_eq_true rfl⟩ rfl H.1) rfl ⟨rfl, rfl⟩ (fun v3 h2 H => ?_)
  refine z_icmp_ge (tgt := 90) (pc := 13) hc dX7_limitedPixels_13 rfl H (fun H => ?_) (fun H => ?_)
  · refine z_aload_n (pc := 16) hc dX7_limitedPixels_16 rfl ?_
    refine z_iload_n (pc := 17) hc dX7_limitedPixels_17 rfl ?_
    refine z_aload_n (pc := 18) hc dX7_limitedPixels_18 rfl ?_
    refine z_getR (pc := 19) hc dX7_limitedPixels_19 zf_RX7_7 rfl rfl rfl H (fun r4 H => ?_)
    refine z_iconst (pc := 22) hc dX7_limitedPixels_22 ?_
    refine z_iaload (pc := 23) hc dX7_limitedPixels_23 H (fun v5 H => ?_)
    refine z_calV0 (z_runV (pc := 24) (ci := 7) (T := TX7) (N := 20) hc dX7_limitedPixels_24 zw_RX7_170 (metX7_pixelAt _ _ _ H.2) rfl (Nat.le_of_ble_eq_true rfl) ⟨Nat.le_of_ble_eq_true rfl, Nat.le_of_ble_eq_true rfl⟩ ⟨by exact Nat.le_of_ble_eq_true rfl, by exact Nat.le_of_ble_eq_true rfl⟩ rfl H.1) rfl ⟨rfl, rfl⟩ (fun h6 H => ?_)
    refine z_iconst (pc := 27) hc dX7_limitedPixels_27 ?_
    refine z_istore_n (pc := 28) hc dX7_limitedPixels_28 (by decide) (ρ' := [some (.inr a0), some (.inl x1), some (.inl x2), some (.inl 1), none]) rfl ?_
    refine z_iconst (pc := 29) hc dX7_limitedPixels_29 ?_
    refine z_istore (pc := 30) hc dX7_limitedPixels_30 (by decide) (ρ' := [some (.inr a0), some (.inl x1), some (.inl x2), some (.inl 1), some (.inl 0)]) rfl ?_
    exact rX7_limitedPixels_H32 hc hX8 H
  · refine z_iload_n (pc := 90) hc dX7_limitedPixels_90 rfl ?_
    exact z_ireturn (pc := 91) hc dX7_limitedPixels_91 H
theorem rX7_limitedPixels_H8 (hc : zOk p s m args meth c D cX7_limitedPixels 5 RX7 (some .int))  {a0 : Nat} {x1 : Int} {x2 : Int} {h : Zm} {Q : Int → Zm → Prop}  (H : mX7_limitedPixels_H8  a0 x1 x2 h Q) : zW p l e zrX7_limitedPixels s m args below meth c D base 5 (MQ below (zQi D base Q) args s 0 0 (zFree base)) 0 0 8 [some (.inr a0), some (.inl x1), some (.inl x2), none, none] [] h :=
  H (fun x1 x2 h => zW p l e zrX7_limitedPixels s m args below meth c D base 5 (MQ below (zQi D base Q) args s 0 0 (zFree base)) 0 0 8 [some (.inr a0), some (.inl x1), some (.inl x2), none, none] [] h) (fun x1 x2 h H => rX7_limitedPixels_B8 hc (fun _ _ _ q => q) H)
set_option maxRecDepth 100000 in
set_option maxHeartbeats 4000000 in
theorem rX7_limitedPixels (hc : zOk p s m args meth c D cX7_limitedPixels 5 RX7 (some .int)) {a0 : Nat} {h : Zm} {Q : Int → Zm → Prop} (H : mX7_limitedPixels a0 h Q) : zW p l e zrX7_limitedPixels s m args below meth c D base 5 (MQ below (zQi D base Q) args s 0 0 (zFree base)) 0 0 0 [some (.inr a0), none, none, none, none] [] h := by
  unfold mX7_limitedPixels at H
  refine z_aload_n (pc := 0) hc dX7_limitedPixels_0 rfl ?_
  refine z_calV0 (z_runV (pc := 1) (ci := 7) (T := TX7) (N := 20) hc dX7_limitedPixels_1 zw_RX7_152 (metX7_lays _ _ _ H.2) rfl (Nat.le_of_ble_eq_true rfl) ⟨Nat.le_of_ble_eq_true rfl, Nat.le_of_ble_eq_true rfl⟩ ⟨by exact Nat.le_of_ble_eq_true rfl, by exact Nat.le_of_ble_eq_true rfl⟩ rfl H.1) rfl ⟨rfl, rfl⟩ (fun h1 H => ?_)
  refine z_iconst (pc := 4) hc dX7_limitedPixels_4 ?_
  refine z_istore_n (pc := 5) hc dX7_limitedPixels_5 (by decide) (ρ' := [some (.inr a0), some (.inl 0), none, none, none]) rfl ?_
  refine z_iconst (pc := 6) hc dX7_limitedPixels_6 ?_
  refine z_istore_n (pc := 7) hc dX7_limitedPixels_7 (by decide) (ρ' := [some (.inr a0), some (.inl 0), some (.inl 0), none, none]) rfl ?_
  exact rX7_limitedPixels_H8 hc H
end
theorem metX7_limitedPixels (l : Launch) (D : Zd) (base : Nat) {a0 : Nat} {h : Zm} {Q : Int → Zm → Prop} (H : mX7_limitedPixels a0 h Q) : zMet l D base yX7_limitedPixels cX7_limitedPixels 5 (some .int) zrX7_limitedPixels [.inr a0] h (zQi D base Q) :=
  z_met (by decide +kernel) (Nat.le_of_ble_eq_true rfl) (fun p e s m args below meth c hc hn => rX7_limitedPixels hc H)
def zrX7_isInk : Room := { frames := 0, cells := 0, slots := 0, locals := 0 }
def mX7_isInk_B4 (X4 : Int → Int → Zm → Prop) (a0 : Nat) (x1 : Int) (x2 : Int) (x3 : Int) (h : Zm) (Q : Int → Zm → Prop) : Prop :=
  cLt x3 7
  (cEq x2 0
    (X4 0 (x3 + 1) h)
    (cGr h 17 a0 18 fun r1 => cLd h 1 r1 ((9 * x1) + x3) fun v2 => cGr h 17 a0 16 fun r3 => cLd h 1 r3 x3 fun v4 => cEq v2 v4
      (X4 1 (x3 + 1) h)
      (X4 0 (x3 + 1) h)))
  (cBr x2 (Q x2 h))
def mX7_isInk_H4  (a0 : Nat) (x1 : Int) (x2 : Int) (x3 : Int) (h : Zm) (Q : Int → Zm → Prop) : Prop :=
  lfp2 (fun X4 x2 x3 h => mX7_isInk_B4 X4 a0 x1 x2 x3 h Q) x2 x3 h
def mX7_isInk (a0 : Nat) (x1 : Int) (h : Zm) (Q : Int → Zm → Prop) : Prop :=
  mX7_isInk_H4  a0 x1 1 0 h Q
section
variable {p : Program} {l : Launch} {e : Env} {s : State} {m : MethodId} {args : Array Value} {below : List Frame} {meth : Method} {c : Code} {D : Zd} {base : Nat}
set_option maxRecDepth 100000 in
set_option maxHeartbeats 4000000 in
theorem rX7_isInk_B4 (hc : zOk p s m args meth c D cX7_isInk 4 RX7 (some .boolean)) {X4 : Int → Int → Zm → Prop} {a0 : Nat} {x1 : Int} {x2 : Int} {x3 : Int} {h : Zm} {Q : Int → Zm → Prop} (hX4 : ∀ (x2 : Int) (x3 : Int) (h : Zm), X4 x2 x3 h → zW p l e zrX7_isInk s m args below meth c D base 4 (MQ below (zQi D base Q) args s 0 0 (zFree base)) 0 0 4 [some (.inr a0), some (.inl x1), some (.inl x2), some (.inl x3)] [] h) (H : mX7_isInk_B4 X4 a0 x1 x2 x3 h Q) : zW p l e zrX7_isInk s m args below meth c D base 4 (MQ below (zQi D base Q) args s 0 0 (zFree base)) 0 0 4 [some (.inr a0), some (.inl x1), some (.inl x2), some (.inl x3)] [] h := by
  unfold mX7_isInk_B4 at H
  refine z_iload_n (pc := 4) hc dX7_isInk_4 rfl ?_
  refine z_bipush (pc := 5) hc dX7_isInk_5 (by decide) ?_
  refine z_icmp_ge (tgt := 46) (pc := 7) hc dX7_isInk_7 rfl H (fun H => ?_) (fun H => ?_)
  · refine z_iload_n (pc := 10) hc dX7_isInk_10 rfl ?_
    refine z_if_eq (tgt := 38) (pc := 11) hc dX7_isInk_11 rfl H (fun H => ?_) (fun H => ?_)
    · refine z_iconst (pc := 38) hc dX7_isInk_38 ?_
      refine z_istore_n (pc := 39) hc dX7_isInk_39 (by decide) (ρ' := [some (.inr a0), some (.inl x1), some (.inl 0), some (.inl x3)]) rfl ?_
      refine z_iinc (pc := 40) hc dX7_isInk_40 (by decide) rfl (ρ' := [some (.inr a0), some (.inl x1), some (.inl 0), some (.inl (x3 + 1))]) rfl ?_
      refine z_goto (tgt := 4) (pc := 43) hc dX7_isInk_43 rfl ?_
      exact hX4 _ _ _ H
    · refine z_aload_n (pc := 14) hc dX7_isInk_14 rfl ?_
      refine z_getR (pc := 15) hc dX7_isInk_15 zf_RX7_59 rfl rfl rfl H (fun r1 H => ?_)
      refine z_bipush (pc := 18) hc dX7_isInk_18 (by decide) ?_
      refine z_iload_n (pc := 20) hc dX7_isInk_20 rfl ?_
      refine z_imul (pc := 21) hc dX7_isInk_21 ?_
      refine z_iload_n (pc := 22) hc dX7_isInk_22 rfl ?_
      refine z_iadd (pc := 23) hc dX7_isInk_23 ?_
      refine z_iaload (pc := 24) hc dX7_isInk_24 H (fun v2 H => ?_)
      refine z_aload_n (pc := 25) hc dX7_isInk_25 rfl ?_
      refine z_getR (pc := 26) hc dX7_isInk_26 zf_RX7_53 rfl rfl rfl H (fun r3 H => ?_)
      refine z_iload_n (pc := 29) hc dX7_isInk_29 rfl ?_
      refine z_iaload (pc := 30) hc dX7_isInk_30 H (fun v4 H => ?_)
      refine z_icmp_ne (tgt := 38) (pc := 31) hc dX7_isInk_31 rfl H (fun H => ?_) (fun H => ?_)
      · refine z_iconst (pc := 34) hc dX7_isInk_34 ?_
        refine z_goto (tgt := 39) (pc := 35) hc dX7_isInk_35 rfl ?_
        refine z_istore_n (pc := 39) hc dX7_isInk_39 (by decide) (ρ' := [some (.inr a0), some (.inl x1), some (.inl 1), some (.inl x3)]) rfl ?_
        refine z_iinc (pc := 40) hc dX7_isInk_40 (by decide) rfl (ρ' := [some (.inr a0), some (.inl x1), some (.inl 1), some (.inl (x3 + 1))]) rfl ?_
        refine z_goto (tgt := 4) (pc := 43) hc dX7_isInk_43 rfl ?_
        exact hX4 _ _ _ H
      · refine z_iconst (pc := 38) hc dX7_isInk_38 ?_
        refine z_istore_n (pc := 39) hc dX7_isInk_39 (by decide) (ρ' := [some (.inr a0), some (.inl x1), some (.inl 0), some (.inl x3)]) rfl ?_
        refine z_iinc (pc := 40) hc dX7_isInk_40 (by decide) rfl (ρ' := [some (.inr a0), some (.inl x1), some (.inl 0), some (.inl (x3 + 1))]) rfl ?_
        refine z_goto (tgt := 4) (pc := 43) hc dX7_isInk_43 rfl ?_
        exact hX4 _ _ _ H
  · refine z_iload_n (pc := 46) hc dX7_isInk_46 rfl ?_
    exact z_zreturn (pc := 47) hc dX7_isInk_47 H
theorem rX7_isInk_H4 (hc : zOk p s m args meth c D cX7_isInk 4 RX7 (some .boolean))  {a0 : Nat} {x1 : Int} {x2 : Int} {x3 : Int} {h : Zm} {Q : Int → Zm → Prop}  (H : mX7_isInk_H4  a0 x1 x2 x3 h Q) : zW p l e zrX7_isInk s m args below meth c D base 4 (MQ below (zQi D base Q) args s 0 0 (zFree base)) 0 0 4 [some (.inr a0), some (.inl x1), some (.inl x2), some (.inl x3)] [] h :=
  H (fun x2 x3 h => zW p l e zrX7_isInk s m args below meth c D base 4 (MQ below (zQi D base Q) args s 0 0 (zFree base)) 0 0 4 [some (.inr a0), some (.inl x1), some (.inl x2), some (.inl x3)] [] h) (fun x2 x3 h H => rX7_isInk_B4 hc (fun _ _ _ q => q) H)
set_option maxRecDepth 100000 in
set_option maxHeartbeats 4000000 in
theorem rX7_isInk (hc : zOk p s m args meth c D cX7_isInk 4 RX7 (some .boolean)) {a0 : Nat} {x1 : Int} {h : Zm} {Q : Int → Zm → Prop} (H : mX7_isInk a0 x1 h Q) : zW p l e zrX7_isInk s m args below meth c D base 4 (MQ below (zQi D base Q) args s 0 0 (zFree base)) 0 0 0 [some (.inr a0), some (.inl x1), none, none] [] h := by
  unfold mX7_isInk at H
  refine z_iconst (pc := 0) hc dX7_isInk_0 ?_
  refine z_istore_n (pc := 1) hc dX7_isInk_1 (by decide) (ρ' := [some (.inr a0), some (.inl x1), some (.inl 1), none]) rfl ?_
  refine z_iconst (pc := 2) hc dX7_isInk_2 ?_
  refine z_istore_n (pc := 3) hc dX7_isInk_3 (by decide) (ρ' := [some (.inr a0), some (.inl x1), some (.inl 1), some (.inl 0)]) rfl ?_
  exact rX7_isInk_H4 hc H
end
theorem metX7_isInk (l : Launch) (D : Zd) (base : Nat) {a0 : Nat} {x1 : Int} {h : Zm} {Q : Int → Zm → Prop} (H : mX7_isInk a0 x1 h Q) : zMet l D base yX7_isInk cX7_isInk 4 (some .boolean) zrX7_isInk [.inr a0, .inl x1] h (zQi D base Q) :=
  z_met (by decide +kernel) (Nat.le_of_ble_eq_true rfl) (fun p e s m args below meth c hc hn => rX7_isInk hc H)
