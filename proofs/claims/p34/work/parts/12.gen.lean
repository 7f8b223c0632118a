/-! printed by gen.py: X3_limitSum X3_separate X6_sumOf X3_valueOf X3_isDisordered X5_init X4_init X5_copyFrom X4_copyFrom X5_has X5_freeNumber X5_startOf J9_min_7cf53 X5_endOf X5_settle -/
def zrX3_limitSum : Room := { frames := 1, cells := 0, slots := 0, locals := 24 }
def mX3_limitSum (a0 : Nat) (x1 : Int) (h : Zm) (Q : Zm → Prop) : Prop :=
  cGr h 13 a0 2 fun r1 => cLd h 1 r1 4 fun v2 => cGr h 13 a0 2 fun r3 => cLd h 1 r3 5 fun v4 => cGr h 13 a0 2 fun r5 => cLd h 1 r5 6 fun v6 => cGr h 13 a0 2 fun r7 => cLd h 1 r7 3 fun v8 => cGr h 13 a0 2 fun r9 => cLd h 1 r9 0 fun v10 => cGr h 13 a0 2 fun r11 => cLd h 1 r11 1 fun v12 => cGr h 13 a0 2 fun r13 => cLd h 1 r13 2 fun v14 => cLt ((x1 - ((v2 + v4) + v6)) - v8) 0
  (cGr h 13 a0 2 fun r16 => cSt h r16 0 0 fun h17 => cGr h17 13 a0 2 fun r18 => cSt h17 r18 1 0 fun h19 => cGr h19 13 a0 2 fun r20 => cSt h19 r20 2 0 fun h21 => cGr h21 13 a0 2 fun r22 => mJ9_max_7cf53 0 (x1 - ((v2 + v4) + v6)) h21 fun v24 h23 => cSt h23 r22 3 v24 fun h25 => cLt x1 ((v2 + v4) + v6)
    (cRc h25 13 a0 <| mX3_shrink a0 4 x1 ((v2 + v4) + v6) h25 fun h26 => Q h26)
    (Q h25))
  (cLe ((v10 + v12) + v14) ((x1 - ((v2 + v4) + v6)) - v8)
    (Q h)
    (cRc h 13 a0 <| mX3_shrink a0 0 ((x1 - ((v2 + v4) + v6)) - v8) ((v10 + v12) + v14) h fun h15 => Q h15))
section
variable {p : Program} {l : Launch} {e : Env} {s : State} {m : MethodId} {args : Array Value} {below : List Frame} {meth : Method} {c : Code} {D : Zd} {base : Nat}
set_option maxRecDepth 100000 in
set_option maxHeartbeats 4000000 in
theorem rX3_limitSum (hc : zOk p s m args meth c D cX3_limitSum 5 RX3 none) {a0 : Nat} {x1 : Int} {h : Zm} {Q : Zm → Prop} (H : mX3_limitSum a0 x1 h Q) : zW p l e zrX3_limitSum s m args below meth c D base 5 (MQ below (zQv D base Q) args s 0 0 (zFree base)) 0 0 0 [some (.inr (.inl a0)), some (.inl x1), none, none, none] [] h := by
  unfold mX3_limitSum at H
  refine z_aload_n (pc := 0) hc dX3_limitSum_0 rfl ?_
  refine z_getR (pc := 1) hc dX3_limitSum_1 zf_RX3_18 rfl rfl rfl H (fun r1 H => ?_)
  refine z_iconst (pc := 4) hc dX3_limitSum_4 ?_
  refine z_iaload (pc := 5) hc dX3_limitSum_5 H (fun v2 H => ?_)
  refine z_aload_n (pc := 6) hc dX3_limitSum_6 rfl ?_
  refine z_getR (pc := 7) hc dX3_limitSum_7 zf_RX3_18 rfl rfl rfl H (fun r3 H => ?_)
  refine z_iconst (pc := 10) hc dX3_limitSum_10 ?_
  refine z_iaload (pc := 11) hc dX3_limitSum_11 H (fun v4 H => ?_)
  refine z_iadd (pc := 12) hc dX3_limitSum_12 ?_
  refine z_aload_n (pc := 13) hc dX3_limitSum_13 rfl ?_
  refine z_getR (pc := 14) hc dX3_limitSum_14 zf_RX3_18 rfl rfl rfl H (fun r5 H => ?_)
  refine z_bipush (pc := 17) hc dX3_limitSum_17 (by decide) ?_
  refine z_iaload (pc := 19) hc dX3_limitSum_19 H (fun v6 H => ?_)
  refine z_iadd (pc := 20) hc dX3_limitSum_20 ?_
  refine z_istore_n (pc := 21) hc dX3_limitSum_21 (by decide) (ρ' := [some (.inr (.inl a0)), some (.inl x1), some (.inl ((v2 + v4) + v6)), none, none]) rfl rfl ?_
  refine z_iload_n (pc := 22) hc dX3_limitSum_22 rfl ?_
  refine z_iload_n (pc := 23) hc dX3_limitSum_23 rfl ?_
  refine z_isub (pc := 24) hc dX3_limitSum_24 ?_
  refine z_aload_n (pc := 25) hc dX3_limitSum_25 rfl ?_
  refine z_getR (pc := 26) hc dX3_limitSum_26 zf_RX3_18 rfl rfl rfl H (fun r7 H => ?_)
  refine z_iconst (pc := 29) hc dX3_limitSum_29 ?_
  refine z_iaload (pc := 30) hc dX3_limitSum_30 H (fun v8 H => ?_)
  refine z_isub (pc := 31) hc dX3_limitSum_31 ?_
  refine z_istore_n (pc := 32) hc dX3_limitSum_32 (by decide) (ρ' := [some (.inr (.inl a0)), some (.inl x1), some (.inl ((v2 + v4) + v6)), some (.inl ((x1 - ((v2 + v4) + v6)) - v8)), none]) rfl rfl ?_
  refine z_aload_n (pc := 33) hc dX3_limitSum_33 rfl ?_
  refine z_getR (pc := 34) hc dX3_limitSum_34 zf_RX3_18 rfl rfl rfl H (fun r9 H => ?_)
  refine z_iconst (pc := 37) hc dX3_limitSum_37 ?_
  refine z_iaload (pc := 38) hc dX3_limitSum_38 H (fun v10 H => ?_)
  refine z_aload_n (pc := 39) hc dX3_limitSum_39 rfl ?_
  refine z_getR (pc := 40) hc dX3_limitSum_40 zf_RX3_18 rfl rfl rfl H (fun r11 H => ?_)
  refine z_iconst (pc := 43) hc dX3_limitSum_43 ?_
  refine z_iaload (pc := 44) hc dX3_limitSum_44 H (fun v12 H => ?_)
  refine z_iadd (pc := 45) hc dX3_limitSum_45 ?_
  refine z_aload_n (pc := 46) hc dX3_limitSum_46 rfl ?_
  refine z_getR (pc := 47) hc dX3_limitSum_47 zf_RX3_18 rfl rfl rfl H (fun r13 H => ?_)
  refine z_iconst (pc := 50) hc dX3_limitSum_50 ?_
  refine z_iaload (pc := 51) hc dX3_limitSum_51 H (fun v14 H => ?_)
  refine z_iadd (pc := 52) hc dX3_limitSum_52 ?_
  refine z_istore (pc := 53) hc dX3_limitSum_53 (by decide) (ρ' := [some (.inr (.inl a0)), some (.inl x1), some (.inl ((v2 + v4) + v6)), some (.inl ((x1 - ((v2 + v4) + v6)) - v8)), some (.inl ((v10 + v12) + v14))]) rfl rfl ?_
  refine z_iload_n (pc := 55) hc dX3_limitSum_55 rfl ?_
  refine z_if_ge (tgt := 108) (pc := 56) hc dX3_limitSum_56 rfl H (fun H => ?_) (fun H => ?_)
  · refine z_aload_n (pc := 59) hc dX3_limitSum_59 rfl ?_
    refine z_getR (pc := 60) hc dX3_limitSum_60 zf_RX3_18 rfl rfl rfl H (fun r16 H => ?_)
    refine z_iconst (pc := 63) hc dX3_limitSum_63 ?_
    refine z_iconst (pc := 64) hc dX3_limitSum_64 ?_
    refine z_iastore (pc := 65) hc dX3_limitSum_65 H (fun h17 H => ?_)
    refine z_aload_n (pc := 66) hc dX3_limitSum_66 rfl ?_
    refine z_getR (pc := 67) hc dX3_limitSum_67 zf_RX3_18 rfl rfl rfl H (fun r18 H => ?_)
    refine z_iconst (pc := 70) hc dX3_limitSum_70 ?_
    refine z_iconst (pc := 71) hc dX3_limitSum_71 ?_
    refine z_iastore (pc := 72) hc dX3_limitSum_72 H (fun h19 H => ?_)
    refine z_aload_n (pc := 73) hc dX3_limitSum_73 rfl ?_
    refine z_getR (pc := 74) hc dX3_limitSum_74 zf_RX3_18 rfl rfl rfl H (fun r20 H => ?_)
    refine z_iconst (pc := 77) hc dX3_limitSum_77 ?_
    refine z_iconst (pc := 78) hc dX3_limitSum_78 ?_
    refine z_iastore (pc := 79) hc dX3_limitSum_79 H (fun h21 H => ?_)
    refine z_aload_n (pc := 80) hc dX3_limitSum_80 rfl ?_
    refine z_getR (pc := 81) hc dX3_limitSum_81 zf_RX3_18 rfl rfl rfl H (fun r22 H => ?_)
    refine z_iconst (pc := 84) hc dX3_limitSum_84 ?_
    refine z_iconst (pc := 85) hc dX3_limitSum_85 ?_
    refine z_iload_n (pc := 86) hc dX3_limitSum_86 rfl ?_
    refine z_iload_n (pc := 87) hc dX3_limitSum_87 rfl ?_
    refine z_isub (pc := 88) hc dX3_limitSum_88 ?_
    refine z_calI (z_runS (pc := 89) hc dX3_limitSum_89 zw_RX3_108 (metJ9_max_7cf53 _ _ _ H) rfl (Nat.le_of_ble_eq_true rfl) ⟨Nat.le_of_ble_eq_true rfl, Nat.le_of_ble_eq_true rfl⟩ ⟨by exact Nat.le_of_ble_eq_true rfl, by exact Nat.le_of_ble_eq_true rfl⟩) rfl ⟨rfl, rfl⟩ (fun v24 h23 H => ?_)
    refine z_iastore (pc := 92) hc dX3_limitSum_92 H (fun h25 H => ?_)
    refine z_iload_n (pc := 93) hc dX3_limitSum_93 rfl ?_
    refine z_iload_n (pc := 94) hc dX3_limitSum_94 rfl ?_
    refine z_icmp_ge (tgt := 122) (pc := 95) hc dX3_limitSum_95 rfl H (fun H => ?_) (fun H => ?_)
    · refine z_aload_n (pc := 98) hc dX3_limitSum_98 rfl ?_
      refine z_iconst (pc := 99) hc dX3_limitSum_99 ?_
      refine z_iload_n (pc := 100) hc dX3_limitSum_100 rfl ?_
      refine z_iload_n (pc := 101) hc dX3_limitSum_101 rfl ?_
      refine z_calV0 (z_runV (pc := 102) (ci := 3) (T := TX3) (N := 3) hc dX3_limitSum_102 zw_RX3_131 (metX3_shrink _ _ _ H.2) rfl (Nat.le_of_ble_eq_true rfl) ⟨Nat.le_of_ble_eq_true rfl, Nat.le_of_ble_eq_true rfl⟩ ⟨by exact Nat.le_of_ble_eq_true rfl, by exact Nat.le_of_ble_eq_true rfl⟩ rfl H.1) rfl ⟨rfl, rfl⟩ (fun h26 H => ?_)
      refine z_goto (tgt := 122) (pc := 105) hc dX3_limitSum_105 rfl ?_
      exact z_return (pc := 122) hc dX3_limitSum_122 H
    · exact z_return (pc := 122) hc dX3_limitSum_122 H
  · refine z_iload (pc := 108) hc dX3_limitSum_108 rfl ?_
    refine z_iload_n (pc := 110) hc dX3_limitSum_110 rfl ?_
    refine z_icmp_le (tgt := 122) (pc := 111) hc dX3_limitSum_111 rfl H (fun H => ?_) (fun H => ?_)
    · exact z_return (pc := 122) hc dX3_limitSum_122 H
    · refine z_aload_n (pc := 114) hc dX3_limitSum_114 rfl ?_
      refine z_iconst (pc := 115) hc dX3_limitSum_115 ?_
      refine z_iload_n (pc := 116) hc dX3_limitSum_116 rfl ?_
      refine z_iload (pc := 117) hc dX3_limitSum_117 rfl ?_
      refine z_calV0 (z_runV (pc := 119) (ci := 3) (T := TX3) (N := 3) hc dX3_limitSum_119 zw_RX3_131 (metX3_shrink _ _ _ H.2) rfl (Nat.le_of_ble_eq_true rfl) ⟨Nat.le_of_ble_eq_true rfl, Nat.le_of_ble_eq_true rfl⟩ ⟨by exact Nat.le_of_ble_eq_true rfl, by exact Nat.le_of_ble_eq_true rfl⟩ rfl H.1) rfl ⟨rfl, rfl⟩ (fun h15 H => ?_)
      exact z_return (pc := 122) hc dX3_limitSum_122 H
end
theorem metX3_limitSum (l : Launch) (D : Zd) (base : Nat) {a0 : Nat} {x1 : Int} {h : Zm} {Q : Zm → Prop} (H : mX3_limitSum a0 x1 h Q) : zMet l D base yX3_limitSum cX3_limitSum 5 none zrX3_limitSum [.inr (.inl a0), .inl x1] h (zQv D base Q) :=
  z_met (by decide +kernel) (Nat.le_of_ble_eq_true rfl) rfl (fun p e s m args below meth c hc hn => rX3_limitSum hc H)
def zrX3_separate : Room := { frames := 2, cells := 0, slots := 0, locals := 48 }
def mX3_separate_B130 (X130 : Int → Zm → Prop) (a0 : Nat) (a1 : Nat) (x6 : Int) (h : Zm) (Q : Zm → Prop) : Prop :=
  cLt x6 7
  (cGr h 13 a0 1 fun r27 => cGr h 14 a1 7 fun r28 => cLdR h r28 x6 fun r29 => cGr h 13 a0 1 fun r30 => cLd h 1 r30 x6 fun v31 => cRc h 10 r29 <| mX0_valueAt r29 v31 h fun v33 h32 => cSt h32 r27 x6 v33 fun h34 => cGr h34 13 a0 2 fun r35 => cGr h34 13 a0 1 fun r36 => cLd h34 1 r36 x6 fun v37 => cSt h34 r35 x6 v37 fun h38 => X130 (x6 + 1) h38)
  (cGi h 14 a1 4 fun v25 => cRc h 13 a0 <| mX3_limitSum a0 v25 h fun h26 => Q h26)
def mX3_separate_H130  (a0 : Nat) (a1 : Nat) (x6 : Int) (h : Zm) (Q : Zm → Prop) : Prop :=
  lfp1 (fun X130 x6 h => mX3_separate_B130 X130 a0 a1 x6 h Q) x6 h
def mX3_separate_B97 (X97 : Int → Zm → Prop) (a0 : Nat) (a1 : Nat) (x6 : Int) (h : Zm) (Q : Zm → Prop) : Prop :=
  cLt x6 3
  (cGr h 13 a0 1 fun r21 => cGr h 13 a0 0 fun r22 => cLd h 1 r22 (3 + x6) fun v23 => cSt h r21 (4 + x6) v23 fun h24 => X97 (x6 + 1) h24)
  (mX3_separate_H130  a0 a1 0 h Q)
def mX3_separate_H97  (a0 : Nat) (a1 : Nat) (x6 : Int) (h : Zm) (Q : Zm → Prop) : Prop :=
  lfp1 (fun X97 x6 h => mX3_separate_B97 X97 a0 a1 x6 h Q) x6 h
def mX3_separate_B53 (X53 : Int → Zm → Prop) (a0 : Nat) (a1 : Nat) (x5 : Int) (x6 : Int) (h : Zm) (Q : Zm → Prop) : Prop :=
  cLt x6 3
  (cGr h 13 a0 1 fun r17 => cGr h 13 a0 0 fun r18 => cLd h 1 r18 x6 fun v19 => cSt h r17 x6 ((255 - v19) - x5) fun h20 => X53 (x6 + 1) h20)
  (cGr h 13 a0 1 fun r15 => cSt h r15 3 x5 fun h16 => mX3_separate_H97  a0 a1 0 h16 Q)
def mX3_separate_H53  (a0 : Nat) (a1 : Nat) (x5 : Int) (x6 : Int) (h : Zm) (Q : Zm → Prop) : Prop :=
  lfp1 (fun X53 x6 h => mX3_separate_B53 X53 a0 a1 x5 x6 h Q) x6 h
def mX3_separate (a0 : Nat) (a1 : Nat) (x2 : Int) (h : Zm) (Q : Zm → Prop) : Prop :=
  cGr h 13 a0 0 fun r1 => cLd h 1 r1 0 fun v2 => cGr h 13 a0 0 fun r3 => cLd h 1 r3 1 fun v4 => cGr h 13 a0 0 fun r5 => cLd h 1 r5 2 fun v6 => mJ9_max_7cf53 v4 v6 h fun v8 h7 => mJ9_max_7cf53 v2 v8 h7 fun v10 h9 => cGi h9 14 a1 3 fun v11 => mJ9_max_7cf53 0 ((255 - v10) - v11) h9 fun v13 h12 => cDiv (v13 * x2) 100 fun v14 => mX3_separate_H53  a0 a1 v14 0 h12 Q
section
variable {p : Program} {l : Launch} {e : Env} {s : State} {m : MethodId} {args : Array Value} {below : List Frame} {meth : Method} {c : Code} {D : Zd} {base : Nat}
set_option maxRecDepth 100000 in
set_option maxHeartbeats 4000000 in
theorem rX3_separate_B130 (hc : zOk p s m args meth c D cX3_separate 7 RX3 none) {X130 : Int → Zm → Prop} {a0 : Nat} {a1 : Nat} {x6 : Int} {h : Zm} {Q : Zm → Prop} (hX130 : ∀ (x6 : Int) (h : Zm), X130 x6 h → zW p l e zrX3_separate s m args below meth c D base 7 (MQ below (zQv D base Q) args s 0 0 (zFree base)) 0 0 130 [some (.inr (.inl a0)), some (.inr (.inl a1)), none, none, none, none, some (.inl x6)] [] h) (H : mX3_separate_B130 X130 a0 a1 x6 h Q) : zW p l e zrX3_separate s m args below meth c D base 7 (MQ below (zQv D base Q) args s 0 0 (zFree base)) 0 0 130 [some (.inr (.inl a0)), some (.inr (.inl a1)), none, none, none, none, some (.inl x6)] [] h := by
  unfold mX3_separate_B130 at H
  refine z_iload (pc := 130) hc dX3_separate_130 rfl ?_
  refine z_bipush (pc := 132) hc dX3_separate_132 (by decide) ?_
  refine z_icmp_ge (tgt := 181) (pc := 134) hc dX3_separate_134 rfl H (fun H => ?_) (fun H => ?_)
  · refine z_aload_n (pc := 137) hc dX3_separate_137 rfl ?_
    refine z_getR (pc := 138) hc dX3_separate_138 zf_RX3_15 rfl rfl rfl H (fun r27 H => ?_)
    refine z_iload (pc := 141) hc dX3_separate_141 rfl ?_
    refine z_aload_n (pc := 143) hc dX3_separate_143 rfl ?_
    refine z_getR (pc := 144) hc dX3_separate_144 zf_RX3_114 rfl rfl rfl H (fun r28 H => ?_)
    refine z_iload (pc := 147) hc dX3_separate_147 rfl ?_
    refine z_aaload (pc := 149) hc dX3_separate_149 H (fun r29 H => ?_)
    refine z_aload_n (pc := 150) hc dX3_separate_150 rfl ?_
    refine z_getR (pc := 151) hc dX3_separate_151 zf_RX3_15 rfl rfl rfl H (fun r30 H => ?_)
    refine z_iload (pc := 154) hc dX3_separate_154 rfl ?_
    refine z_iaload (pc := 156) hc dX3_separate_156 H (fun v31 H => ?_)
    refine z_calI (z_runV (pc := 157) (ci := 0) (T := TX0) (N := 3) hc dX3_separate_157 zw_RX3_118 (metX0_valueAt _ _ _ H.2) rfl (Nat.le_of_ble_eq_true rfl) ⟨Nat.le_of_ble_eq_true rfl, Nat.le_of_ble_eq_true rfl⟩ ⟨by exact Nat.le_of_ble_eq_true rfl, by exact Nat.le_of_ble_eq_true rfl⟩ rfl H.1) rfl ⟨rfl, rfl⟩ (fun v33 h32 H => ?_)
    refine z_iastore (pc := 160) hc dX3_separate_160 H (fun h34 H => ?_)
    refine z_aload_n (pc := 161) hc dX3_separate_161 rfl ?_
    refine z_getR (pc := 162) hc dX3_separate_162 zf_RX3_18 rfl rfl rfl H (fun r35 H => ?_)
    refine z_iload (pc := 165) hc dX3_separate_165 rfl ?_
    refine z_aload_n (pc := 167) hc dX3_separate_167 rfl ?_
    refine z_getR (pc := 168) hc dX3_separate_168 zf_RX3_15 rfl rfl rfl H (fun r36 H => ?_)
    refine z_iload (pc := 171) hc dX3_separate_171 rfl ?_
    refine z_iaload (pc := 173) hc dX3_separate_173 H (fun v37 H => ?_)
    refine z_iastore (pc := 174) hc dX3_separate_174 H (fun h38 H => ?_)
    refine z_iinc (pc := 175) hc dX3_separate_175 (by decide) rfl (ρ' := [some (.inr (.inl a0)), some (.inr (.inl a1)), none, none, none, none, some (.inl (x6 + 1))]) rfl rfl ?_
    refine z_goto (tgt := 130) (pc := 178) hc dX3_separate_178 rfl ?_
    exact hX130 _ _ H
  · refine z_aload_n (pc := 181) hc dX3_separate_181 rfl ?_
    refine z_aload_n (pc := 182) hc dX3_separate_182 rfl ?_
    refine z_getI (pc := 183) hc dX3_separate_183 zf_RX3_124 rfl rfl rfl H (fun v25 H => ?_)
    refine z_calV0 (z_runV (pc := 186) (ci := 3) (T := TX3) (N := 3) hc dX3_separate_186 zw_RX3_127 (metX3_limitSum _ _ _ H.2) rfl (Nat.le_of_ble_eq_true rfl) ⟨Nat.le_of_ble_eq_true rfl, Nat.le_of_ble_eq_true rfl⟩ ⟨by exact Nat.le_of_ble_eq_true rfl, by exact Nat.le_of_ble_eq_true rfl⟩ rfl H.1) rfl ⟨rfl, rfl⟩ (fun h26 H => ?_)
    exact z_return (pc := 189) hc dX3_separate_189 H
theorem rX3_separate_H130 (hc : zOk p s m args meth c D cX3_separate 7 RX3 none)  {a0 : Nat} {a1 : Nat} {x6 : Int} {h : Zm} {Q : Zm → Prop}  (H : mX3_separate_H130  a0 a1 x6 h Q) : zW p l e zrX3_separate s m args below meth c D base 7 (MQ below (zQv D base Q) args s 0 0 (zFree base)) 0 0 130 [some (.inr (.inl a0)), some (.inr (.inl a1)), none, none, none, none, some (.inl x6)] [] h :=
  H (fun x6 h => zW p l e zrX3_separate s m args below meth c D base 7 (MQ below (zQv D base Q) args s 0 0 (zFree base)) 0 0 130 [some (.inr (.inl a0)), some (.inr (.inl a1)), none, none, none, none, some (.inl x6)] [] h) (fun x6 h H => rX3_separate_B130 hc (fun _ _ q => q) H)
set_option maxRecDepth 100000 in
set_option maxHeartbeats 4000000 in
theorem rX3_separate_B97 (hc : zOk p s m args meth c D cX3_separate 7 RX3 none) {X97 : Int → Zm → Prop} {a0 : Nat} {a1 : Nat} {x6 : Int} {h : Zm} {Q : Zm → Prop} (hX97 : ∀ (x6 : Int) (h : Zm), X97 x6 h → zW p l e zrX3_separate s m args below meth c D base 7 (MQ below (zQv D base Q) args s 0 0 (zFree base)) 0 0 97 [some (.inr (.inl a0)), some (.inr (.inl a1)), none, none, none, none, some (.inl x6)] [] h) (H : mX3_separate_B97 X97 a0 a1 x6 h Q) : zW p l e zrX3_separate s m args below meth c D base 7 (MQ below (zQv D base Q) args s 0 0 (zFree base)) 0 0 97 [some (.inr (.inl a0)), some (.inr (.inl a1)), none, none, none, none, some (.inl x6)] [] h := by
  unfold mX3_separate_B97 at H
  refine z_iload (pc := 97) hc dX3_separate_97 rfl ?_
  refine z_iconst (pc := 99) hc dX3_separate_99 ?_
  refine z_icmp_ge (tgt := 127) (pc := 100) hc dX3_separate_100 rfl H (fun H => ?_) (fun H => ?_)
  · refine z_aload_n (pc := 103) hc dX3_separate_103 rfl ?_
    refine z_getR (pc := 104) hc dX3_separate_104 zf_RX3_15 rfl rfl rfl H (fun r21 H => ?_)
    refine z_iconst (pc := 107) hc dX3_separate_107 ?_
    refine z_iload (pc := 108) hc dX3_separate_108 rfl ?_
    refine z_iadd (pc := 110) hc dX3_separate_110 ?_
    refine z_aload_n (pc := 111) hc dX3_separate_111 rfl ?_
    refine z_getR (pc := 112) hc dX3_separate_112 zf_RX3_9 rfl rfl rfl H (fun r22 H => ?_)
    refine z_iconst (pc := 115) hc dX3_separate_115 ?_
    refine z_iload (pc := 116) hc dX3_separate_116 rfl ?_
    refine z_iadd (pc := 118) hc dX3_separate_118 ?_
    refine z_iaload (pc := 119) hc dX3_separate_119 H (fun v23 H => ?_)
    refine z_iastore (pc := 120) hc dX3_separate_120 H (fun h24 H => ?_)
    refine z_iinc (pc := 121) hc dX3_separate_121 (by decide) rfl (ρ' := [some (.inr (.inl a0)), some (.inr (.inl a1)), none, none, none, none, some (.inl (x6 + 1))]) rfl rfl ?_
    refine z_goto (tgt := 97) (pc := 124) hc dX3_separate_124 rfl ?_
    exact hX97 _ _ H
  · refine z_iconst (pc := 127) hc dX3_separate_127 ?_
    refine z_istore (pc := 128) hc dX3_separate_128 (by decide) (ρ' := [some (.inr (.inl a0)), some (.inr (.inl a1)), none, none, none, none, some (.inl 0)]) rfl rfl ?_
    exact rX3_separate_H130 hc H
theorem rX3_separate_H97 (hc : zOk p s m args meth c D cX3_separate 7 RX3 none)  {a0 : Nat} {a1 : Nat} {x6 : Int} {h : Zm} {Q : Zm → Prop}  (H : mX3_separate_H97  a0 a1 x6 h Q) : zW p l e zrX3_separate s m args below meth c D base 7 (MQ below (zQv D base Q) args s 0 0 (zFree base)) 0 0 97 [some (.inr (.inl a0)), some (.inr (.inl a1)), none, none, none, none, some (.inl x6)] [] h :=
  H (fun x6 h => zW p l e zrX3_separate s m args below meth c D base 7 (MQ below (zQv D base Q) args s 0 0 (zFree base)) 0 0 97 [some (.inr (.inl a0)), some (.inr (.inl a1)), none, none, none, none, some (.inl x6)] [] h) (fun x6 h H => rX3_separate_B97 hc (fun _ _ q => q) H)
set_option maxRecDepth 100000 in
set_option maxHeartbeats 4000000 in
theorem rX3_separate_B53 (hc : zOk p s m args meth c D cX3_separate 7 RX3 none) {X53 : Int → Zm → Prop} {a0 : Nat} {a1 : Nat} {x5 : Int} {x6 : Int} {h : Zm} {Q : Zm → Prop} (hX53 : ∀ (x6 : Int) (h : Zm), X53 x6 h → zW p l e zrX3_separate s m args below meth c D base 7 (MQ below (zQv D base Q) args s 0 0 (zFree base)) 0 0 53 [some (.inr (.inl a0)), some (.inr (.inl a1)), none, none, none, some (.inl x5), some (.inl x6)] [] h) (H : mX3_separate_B53 X53 a0 a1 x5 x6 h Q) : zW p l e zrX3_separate s m args below meth c D base 7 (MQ below (zQv D base Q) args s 0 0 (zFree base)) 0 0 53 [some (.inr (.inl a0)), some (.inr (.inl a1)), none, none, none, some (.inl x5), some (.inl x6)] [] h := by
  unfold mX3_separate_B53 at H
  refine z_iload (pc := 53) hc dX3_separate_53 rfl ?_
  refine z_iconst (pc := 55) hc dX3_separate_55 ?_
  refine z_icmp_ge (tgt := 86) (pc := 56) hc dX3_separate_56 rfl H (fun H => ?_) (fun H => ?_)
  · refine z_aload_n (pc := 59) hc dX3_separate_59 rfl ?_
    refine z_getR (pc := 60) hc dX3_separate_60 zf_RX3_15 rfl rfl rfl H (fun r17 H => ?_)
    refine z_iload (pc := 63) hc dX3_separate_63 rfl ?_
    refine z_sipush (pc := 65) hc dX3_separate_65 (by decide) ?_
    refine z_aload_n (pc := 68) hc dX3_separate_68 rfl ?_
    refine z_getR (pc := 69) hc dX3_separate_69 zf_RX3_9 rfl rfl rfl H (fun r18 H => ?_)
    refine z_iload (pc := 72) hc dX3_separate_72 rfl ?_
    refine z_iaload (pc := 74) hc dX3_separate_74 H (fun v19 H => ?_)
    refine z_isub (pc := 75) hc dX3_separate_75 ?_
    refine z_iload (pc := 76) hc dX3_separate_76 rfl ?_
    refine z_isub (pc := 78) hc dX3_separate_78 ?_
    refine z_iastore (pc := 79) hc dX3_separate_79 H (fun h20 H => ?_)
    refine z_iinc (pc := 80) hc dX3_separate_80 (by decide) rfl (ρ' := [some (.inr (.inl a0)), some (.inr (.inl a1)), none, none, none, some (.inl x5), some (.inl (x6 + 1))]) rfl rfl ?_
    refine z_goto (tgt := 53) (pc := 83) hc dX3_separate_83 rfl ?_
    exact hX53 _ _ H
  · refine z_aload_n (pc := 86) hc dX3_separate_86 rfl ?_
    refine z_getR (pc := 87) hc dX3_separate_87 zf_RX3_15 rfl rfl rfl H (fun r15 H => ?_)
    refine z_iconst (pc := 90) hc dX3_separate_90 ?_
    refine z_iload (pc := 91) hc dX3_separate_91 rfl ?_
    refine z_iastore (pc := 93) hc dX3_separate_93 H (fun h16 H => ?_)
    refine z_iconst (pc := 94) hc dX3_separate_94 ?_
    refine z_istore (pc := 95) hc dX3_separate_95 (by decide) (ρ' := [some (.inr (.inl a0)), some (.inr (.inl a1)), none, none, none, some (.inl x5), some (.inl 0)]) rfl rfl ?_
    refine z_mask [true, true, false, false, false, false, true] (ρ' := [some (.inr (.inl a0)), some (.inr (.inl a1)), none, none, none, none, some (.inl 0)]) rfl ?_
    exact rX3_separate_H97 hc H
theorem rX3_separate_H53 (hc : zOk p s m args meth c D cX3_separate 7 RX3 none)  {a0 : Nat} {a1 : Nat} {x5 : Int} {x6 : Int} {h : Zm} {Q : Zm → Prop}  (H : mX3_separate_H53  a0 a1 x5 x6 h Q) : zW p l e zrX3_separate s m args below meth c D base 7 (MQ below (zQv D base Q) args s 0 0 (zFree base)) 0 0 53 [some (.inr (.inl a0)), some (.inr (.inl a1)), none, none, none, some (.inl x5), some (.inl x6)] [] h :=
  H (fun x6 h => zW p l e zrX3_separate s m args below meth c D base 7 (MQ below (zQv D base Q) args s 0 0 (zFree base)) 0 0 53 [some (.inr (.inl a0)), some (.inr (.inl a1)), none, none, none, some (.inl x5), some (.inl x6)] [] h) (fun x6 h H => rX3_separate_B53 hc (fun _ _ q => q) H)
set_option maxRecDepth 100000 in
set_option maxHeartbeats 4000000 in
theorem rX3_separate (hc : zOk p s m args meth c D cX3_separate 7 RX3 none) {a0 : Nat} {a1 : Nat} {x2 : Int} {h : Zm} {Q : Zm → Prop} (H : mX3_separate a0 a1 x2 h Q) : zW p l e zrX3_separate s m args below meth c D base 7 (MQ below (zQv D base Q) args s 0 0 (zFree base)) 0 0 0 [some (.inr (.inl a0)), some (.inr (.inl a1)), some (.inl x2), none, none, none, none] [] h := by
  unfold mX3_separate at H
  refine z_sipush (pc := 0) hc dX3_separate_0 (by decide) ?_
  refine z_aload_n (pc := 3) hc dX3_separate_3 rfl ?_
  refine z_getR (pc := 4) hc dX3_separate_4 zf_RX3_9 rfl rfl rfl H (fun r1 H => ?_)
  refine z_iconst (pc := 7) hc dX3_separate_7 ?_
  refine z_iaload (pc := 8) hc dX3_separate_8 H (fun v2 H => ?_)
  refine z_aload_n (pc := 9) hc dX3_separate_9 rfl ?_
  refine z_getR (pc := 10) hc dX3_separate_10 zf_RX3_9 rfl rfl rfl H (fun r3 H => ?_)
  refine z_iconst (pc := 13) hc dX3_separate_13 ?_
  refine z_iaload (pc := 14) hc dX3_separate_14 H (fun v4 H => ?_)
  refine z_aload_n (pc := 15) hc dX3_separate_15 rfl ?_
  refine z_getR (pc := 16) hc dX3_separate_16 zf_RX3_9 rfl rfl rfl H (fun r5 H => ?_)
  refine z_iconst (pc := 19) hc dX3_separate_19 ?_
  refine z_iaload (pc := 20) hc dX3_separate_20 H (fun v6 H => ?_)
  refine z_calI (z_runS (pc := 21) hc dX3_separate_21 zw_RX3_108 (metJ9_max_7cf53 _ _ _ H) rfl (Nat.le_of_ble_eq_true rfl) ⟨Nat.le_of_ble_eq_true rfl, Nat.le_of_ble_eq_true rfl⟩ ⟨by exact Nat.le_of_ble_eq_true rfl, by exact Nat.le_of_ble_eq_true rfl⟩) rfl ⟨rfl, rfl⟩ (fun v8 h7 H => ?_)
  refine z_calI (z_runS (pc := 24) hc dX3_separate_24 zw_RX3_108 (metJ9_max_7cf53 _ _ _ H) rfl (Nat.le_of_ble_eq_true rfl) ⟨Nat.le_of_ble_eq_true rfl, Nat.le_of_ble_eq_true rfl⟩ ⟨by exact Nat.le_of_ble_eq_true rfl, by exact Nat.le_of_ble_eq_true rfl⟩) rfl ⟨rfl, rfl⟩ (fun v10 h9 H => ?_)
  refine z_isub (pc := 27) hc dX3_separate_27 ?_
  refine z_istore_n (pc := 28) hc dX3_separate_28 (by decide) (ρ' := [some (.inr (.inl a0)), some (.inr (.inl a1)), some (.inl x2), some (.inl (255 - v10)), none, none, none]) rfl rfl ?_
  refine z_iconst (pc := 29) hc dX3_separate_29 ?_
  refine z_iload_n (pc := 30) hc dX3_separate_30 rfl ?_
  refine z_aload_n (pc := 31) hc dX3_separate_31 rfl ?_
  refine z_getI (pc := 32) hc dX3_separate_32 zf_RX3_111 rfl rfl rfl H (fun v11 H => ?_)
  refine z_isub (pc := 35) hc dX3_separate_35 ?_
  refine z_calI (z_runS (pc := 36) hc dX3_separate_36 zw_RX3_108 (metJ9_max_7cf53 _ _ _ H) rfl (Nat.le_of_ble_eq_true rfl) ⟨Nat.le_of_ble_eq_true rfl, Nat.le_of_ble_eq_true rfl⟩ ⟨by exact Nat.le_of_ble_eq_true rfl, by exact Nat.le_of_ble_eq_true rfl⟩) rfl ⟨rfl, rfl⟩ (fun v13 h12 H => ?_)
  refine z_istore (pc := 39) hc dX3_separate_39 (by decide) (ρ' := [some (.inr (.inl a0)), some (.inr (.inl a1)), some (.inl x2), some (.inl (255 - v10)), some (.inl v13), none, none]) rfl rfl ?_
  refine z_iload (pc := 41) hc dX3_separate_41 rfl ?_
  refine z_iload_n (pc := 43) hc dX3_separate_43 rfl ?_
  refine z_imul (pc := 44) hc dX3_separate_44 ?_
  refine z_bipush (pc := 45) hc dX3_separate_45 (by decide) ?_
  refine z_idiv (pc := 47) hc dX3_separate_47 H (fun v14 H => ?_)
  refine z_istore (pc := 48) hc dX3_separate_48 (by decide) (ρ' := [some (.inr (.inl a0)), some (.inr (.inl a1)), some (.inl x2), some (.inl (255 - v10)), some (.inl v13), some (.inl v14), none]) rfl rfl ?_
  refine z_iconst (pc := 50) hc dX3_separate_50 ?_
  refine z_istore (pc := 51) hc dX3_separate_51 (by decide) (ρ' := [some (.inr (.inl a0)), some (.inr (.inl a1)), some (.inl x2), some (.inl (255 - v10)), some (.inl v13), some (.inl v14), some (.inl 0)]) rfl rfl ?_
  refine z_mask [true, true, false, false, false, true, true] (ρ' := [some (.inr (.inl a0)), some (.inr (.inl a1)), none, none, none, some (.inl v14), some (.inl 0)]) rfl ?_
  exact rX3_separate_H53 hc H
end
theorem metX3_separate (l : Launch) (D : Zd) (base : Nat) {a0 : Nat} {a1 : Nat} {x2 : Int} {h : Zm} {Q : Zm → Prop} (H : mX3_separate a0 a1 x2 h Q) : zMet l D base yX3_separate cX3_separate 7 none zrX3_separate [.inr (.inl a0), .inr (.inl a1), .inl x2] h (zQv D base Q) :=
  z_met (by decide +kernel) (Nat.le_of_ble_eq_true rfl) rfl (fun p e s m args below meth c hc hn => rX3_separate hc H)
def zrX6_sumOf : Room := { frames := 0, cells := 0, slots := 0, locals := 0 }
def mX6_sumOf_B10 (X10 : Int → Int → Zm → Prop) (x1 : Int) (a2 : Nat) (x3 : Int) (x4 : Int) (h : Zm) (Q : Int → Zm → Prop) : Prop :=
  cLt x4 x3
  (cLd h 1 a2 x4 fun v2 => X10 (x1 + v2) (x4 + 1) h)
  (Q x1 h)
def mX6_sumOf_H10  (x1 : Int) (a2 : Nat) (x3 : Int) (x4 : Int) (h : Zm) (Q : Int → Zm → Prop) : Prop :=
  lfp2 (fun X10 x1 x4 h => mX6_sumOf_B10 X10 x1 a2 x3 x4 h Q) x1 x4 h
def mX6_sumOf (a0 : Nat) (h : Zm) (Q : Int → Zm → Prop) : Prop :=
  cLen h a0 fun v1 => mX6_sumOf_H10  0 a0 v1 0 h Q
section
variable {p : Program} {l : Launch} {e : Env} {s : State} {m : MethodId} {args : Array Value} {below : List Frame} {meth : Method} {c : Code} {D : Zd} {base : Nat}
set_option maxRecDepth 100000 in
set_option maxHeartbeats 4000000 in
theorem rX6_sumOf_B10 (hc : zOk p s m args meth c D cX6_sumOf 6 RX6 (some .int)) {X10 : Int → Int → Zm → Prop} {x1 : Int} {a2 : Nat} {x3 : Int} {x4 : Int} {h : Zm} {Q : Int → Zm → Prop} (hX10 : ∀ (x1 : Int) (x4 : Int) (h : Zm), X10 x1 x4 h → zW p l e zrX6_sumOf s m args below meth c D base 6 (MQ below (zQi D base Q) args s 0 0 (zFree base)) 0 0 10 [none, some (.inl x1), some (.inr (.inl a2)), some (.inl x3), some (.inl x4), none] [] h) (H : mX6_sumOf_B10 X10 x1 a2 x3 x4 h Q) : zW p l e zrX6_sumOf s m args below meth c D base 6 (MQ below (zQi D base Q) args s 0 0 (zFree base)) 0 0 10 [none, some (.inl x1), some (.inr (.inl a2)), some (.inl x3), some (.inl x4), none] [] h := by
  unfold mX6_sumOf_B10 at H
  refine z_iload (pc := 10) hc dX6_sumOf_10 rfl ?_
  refine z_iload_n (pc := 12) hc dX6_sumOf_12 rfl ?_
  refine z_icmp_ge (tgt := 33) (pc := 13) hc dX6_sumOf_13 rfl H (fun H => ?_) (fun H => ?_)
  · refine z_aload_n (pc := 16) hc dX6_sumOf_16 rfl ?_
    refine z_iload (pc := 17) hc dX6_sumOf_17 rfl ?_
    refine z_iaload (pc := 19) hc dX6_sumOf_19 H (fun v2 H => ?_)
    refine z_istore (pc := 20) hc dX6_sumOf_20 (by decide) (ρ' := [none, some (.inl x1), some (.inr (.inl a2)), some (.inl x3), some (.inl x4), some (.inl v2)]) rfl rfl ?_
    refine z_iload_n (pc := 22) hc dX6_sumOf_22 rfl ?_
    refine z_iload (pc := 23) hc dX6_sumOf_23 rfl ?_
    refine z_iadd (pc := 25) hc dX6_sumOf_25 ?_
    refine z_istore_n (pc := 26) hc dX6_sumOf_26 (by decide) (ρ' := [none, some (.inl (x1 + v2)), some (.inr (.inl a2)), some (.inl x3), some (.inl x4), some (.inl v2)]) rfl rfl ?_
    refine z_iinc (pc := 27) hc dX6_sumOf_27 (by decide) rfl (ρ' := [none, some (.inl (x1 + v2)), some (.inr (.inl a2)), some (.inl x3), some (.inl (x4 + 1)), some (.inl v2)]) rfl rfl ?_
    refine z_goto (tgt := 10) (pc := 30) hc dX6_sumOf_30 rfl ?_
    refine z_mask [false, true, true, true, true, false] (ρ' := [none, some (.inl (x1 + v2)), some (.inr (.inl a2)), some (.inl x3), some (.inl (x4 + 1)), none]) rfl ?_
    exact hX10 _ _ _ H
  · refine z_iload_n (pc := 33) hc dX6_sumOf_33 rfl ?_
    exact z_ireturn (pc := 34) hc dX6_sumOf_34 H
theorem rX6_sumOf_H10 (hc : zOk p s m args meth c D cX6_sumOf 6 RX6 (some .int))  {x1 : Int} {a2 : Nat} {x3 : Int} {x4 : Int} {h : Zm} {Q : Int → Zm → Prop}  (H : mX6_sumOf_H10  x1 a2 x3 x4 h Q) : zW p l e zrX6_sumOf s m args below meth c D base 6 (MQ below (zQi D base Q) args s 0 0 (zFree base)) 0 0 10 [none, some (.inl x1), some (.inr (.inl a2)), some (.inl x3), some (.inl x4), none] [] h :=
  H (fun x1 x4 h => zW p l e zrX6_sumOf s m args below meth c D base 6 (MQ below (zQi D base Q) args s 0 0 (zFree base)) 0 0 10 [none, some (.inl x1), some (.inr (.inl a2)), some (.inl x3), some (.inl x4), none] [] h) (fun x1 x4 h H => rX6_sumOf_B10 hc (fun _ _ _ q => q) H)
set_option maxRecDepth 100000 in
set_option maxHeartbeats 4000000 in
theorem rX6_sumOf (hc : zOk p s m args meth c D cX6_sumOf 6 RX6 (some .int)) {a0 : Nat} {h : Zm} {Q : Int → Zm → Prop} (H : mX6_sumOf a0 h Q) : zW p l e zrX6_sumOf s m args below meth c D base 6 (MQ below (zQi D base Q) args s 0 0 (zFree base)) 0 0 0 [some (.inr (.inl a0)), none, none, none, none, none] [] h := by
  unfold mX6_sumOf at H
  refine z_iconst (pc := 0) hc dX6_sumOf_0 ?_
  refine z_istore_n (pc := 1) hc dX6_sumOf_1 (by decide) (ρ' := [some (.inr (.inl a0)), some (.inl 0), none, none, none, none]) rfl rfl ?_
  refine z_aload_n (pc := 2) hc dX6_sumOf_2 rfl ?_
  refine z_astore_n (pc := 3) hc dX6_sumOf_3 (by decide) (ρ' := [some (.inr (.inl a0)), some (.inl 0), some (.inr (.inl a0)), none, none, none]) rfl rfl ?_
  refine z_aload_n (pc := 4) hc dX6_sumOf_4 rfl ?_
  refine z_alen (pc := 5) hc dX6_sumOf_5 H (fun v1 H => ?_)
  refine z_istore_n (pc := 6) hc dX6_sumOf_6 (by decide) (ρ' := [some (.inr (.inl a0)), some (.inl 0), some (.inr (.inl a0)), some (.inl v1), none, none]) rfl rfl ?_
  refine z_iconst (pc := 7) hc dX6_sumOf_7 ?_
  refine z_istore (pc := 8) hc dX6_sumOf_8 (by decide) (ρ' := [some (.inr (.inl a0)), some (.inl 0), some (.inr (.inl a0)), some (.inl v1), some (.inl 0), none]) rfl rfl ?_
  refine z_mask [false, true, true, true, true, false] (ρ' := [none, some (.inl 0), some (.inr (.inl a0)), some (.inl v1), some (.inl 0), none]) rfl ?_
  exact rX6_sumOf_H10 hc H
end
theorem metX6_sumOf (l : Launch) (D : Zd) (base : Nat) {a0 : Nat} {h : Zm} {Q : Int → Zm → Prop} (H : mX6_sumOf a0 h Q) : zMet l D base yX6_sumOf cX6_sumOf 6 (some .int) zrX6_sumOf [.inr (.inl a0)] h (zQi D base Q) :=
  z_met (by decide +kernel) (Nat.le_of_ble_eq_true rfl) rfl (fun p e s m args below meth c hc hn => rX6_sumOf hc H)
def zrX3_valueOf : Room := { frames := 1, cells := 0, slots := 0, locals := 25 }
def mX3_valueOf (a0 : Nat) (x1 : Int) (h : Zm) (Q : Int → Zm → Prop) : Prop :=
  mX6_within x1 0 6 h fun v2 h1 => cEq v2 0
  (cGr h1 13 a0 2 fun r3 => mX6_sumOf r3 h1 fun v5 h4 => Q v5 h4)
  (cGr h1 13 a0 2 fun r6 => cLd h1 1 r6 x1 fun v7 => Q v7 h1)
section
variable {p : Program} {l : Launch} {e : Env} {s : State} {m : MethodId} {args : Array Value} {below : List Frame} {meth : Method} {c : Code} {D : Zd} {base : Nat}
set_option maxRecDepth 100000 in
set_option maxHeartbeats 4000000 in
theorem rX3_valueOf (hc : zOk p s m args meth c D cX3_valueOf 2 RX3 (some .int)) {a0 : Nat} {x1 : Int} {h : Zm} {Q : Int → Zm → Prop} (H : mX3_valueOf a0 x1 h Q) : zW p l e zrX3_valueOf s m args below meth c D base 2 (MQ below (zQi D base Q) args s 0 0 (zFree base)) 0 0 0 [some (.inr (.inl a0)), some (.inl x1)] [] h := by
  unfold mX3_valueOf at H
  refine z_iload_n (pc := 0) hc dX3_valueOf_0 rfl ?_
  refine z_iconst (pc := 1) hc dX3_valueOf_1 ?_
  refine z_bipush (pc := 2) hc dX3_valueOf_2 (by decide) ?_
  refine z_calI (z_runN (pc := 4) hc dX3_valueOf_4 zw_RX3_88 (metX6_within _ _ _ H) rfl (Nat.le_of_ble_eq_true rfl) ⟨Nat.le_of_ble_eq_true rfl, Nat.le_of_ble_eq_true rfl⟩ ⟨by exact Nat.le_of_ble_eq_true rfl, by exact Nat.le_of_ble_eq_true rfl⟩) rfl ⟨rfl, rfl⟩ (fun v2 h1 H => ?_)
  refine z_if_eq (tgt := 19) (pc := 7) hc dX3_valueOf_7 rfl H (fun H => ?_) (fun H => ?_)
  · refine z_aload_n (pc := 19) hc dX3_valueOf_19 rfl ?_
    refine z_getR (pc := 20) hc dX3_valueOf_20 zf_RX3_18 rfl rfl rfl H (fun r3 H => ?_)
    refine z_calI (z_runN (pc := 23) hc dX3_valueOf_23 zw_RX3_134 (metX6_sumOf _ _ _ H) rfl (Nat.le_of_ble_eq_true rfl) ⟨Nat.le_of_ble_eq_true rfl, Nat.le_of_ble_eq_true rfl⟩ ⟨by exact Nat.le_of_ble_eq_true rfl, by exact Nat.le_of_ble_eq_true rfl⟩) rfl ⟨rfl, rfl⟩ (fun v5 h4 H => ?_)
    exact z_ireturn (pc := 26) hc dX3_valueOf_26 H
  · refine z_aload_n (pc := 10) hc dX3_valueOf_10 rfl ?_
    refine z_getR (pc := 11) hc dX3_valueOf_11 zf_RX3_18 rfl rfl rfl H (fun r6 H => ?_)
    refine z_iload_n (pc := 14) hc dX3_valueOf_14 rfl ?_
    refine z_iaload (pc := 15) hc dX3_valueOf_15 H (fun v7 H => ?_)
    refine z_goto (tgt := 26) (pc := 16) hc dX3_valueOf_16 rfl ?_
    exact z_ireturn (pc := 26) hc dX3_valueOf_26 H
end
theorem metX3_valueOf (l : Launch) (D : Zd) (base : Nat) {a0 : Nat} {x1 : Int} {h : Zm} {Q : Int → Zm → Prop} (H : mX3_valueOf a0 x1 h Q) : zMet l D base yX3_valueOf cX3_valueOf 2 (some .int) zrX3_valueOf [.inr (.inl a0), .inl x1] h (zQi D base Q) :=
  z_met (by decide +kernel) (Nat.le_of_ble_eq_true rfl) rfl (fun p e s m args below meth c hc hn => rX3_valueOf hc H)
def zrX3_isDisordered : Room := { frames := 0, cells := 0, slots := 0, locals := 0 }
def mX3_isDisordered_B9 (X2 : Int → Zm → Prop) (X9 : Int → Zm → Prop) (a0 : Nat) (x1 : Int) (x2 : Int) (h : Zm) (Q : Int → Zm → Prop) : Prop :=
  cLt x2 3
  (cGr h 13 a0 1 fun r1 => cLd h 1 r1 x1 fun v2 => cGr h 13 a0 1 fun r3 => cLd h 1 r3 x2 fun v4 => cLt v2 v4
    (cGr h 13 a0 2 fun r5 => cLd h 1 r5 x1 fun v6 => cGr h 13 a0 2 fun r7 => cLd h 1 r7 x2 fun v8 => cLe v6 v8
      (X9 (x2 + 1) h)
      (Q 1 h))
    (X9 (x2 + 1) h))
  (X2 (x1 + 1) h)
def mX3_isDisordered_H9 (X2 : Int → Zm → Prop) (a0 : Nat) (x1 : Int) (x2 : Int) (h : Zm) (Q : Int → Zm → Prop) : Prop :=
  lfp1 (fun X9 x2 h => mX3_isDisordered_B9 X2 X9 a0 x1 x2 h Q) x2 h
def mX3_isDisordered_B2 (X2 : Int → Zm → Prop) (a0 : Nat) (x1 : Int) (h : Zm) (Q : Int → Zm → Prop) : Prop :=
  cLt x1 3
  (mX3_isDisordered_H9 X2 a0 x1 0 h Q)
  (Q 0 h)
def mX3_isDisordered_H2  (a0 : Nat) (x1 : Int) (h : Zm) (Q : Int → Zm → Prop) : Prop :=
  lfp1 (fun X2 x1 h => mX3_isDisordered_B2 X2 a0 x1 h Q) x1 h
def mX3_isDisordered (a0 : Nat) (h : Zm) (Q : Int → Zm → Prop) : Prop :=
  mX3_isDisordered_H2  a0 0 h Q
section
variable {p : Program} {l : Launch} {e : Env} {s : State} {m : MethodId} {args : Array Value} {below : List Frame} {meth : Method} {c : Code} {D : Zd} {base : Nat}
set_option maxRecDepth 100000 in
set_option maxHeartbeats 4000000 in
theorem rX3_isDisordered_B9 (hc : zOk p s m args meth c D cX3_isDisordered 3 RX3 (some .boolean)) {X2 : Int → Zm → Prop} {X9 : Int → Zm → Prop} {a0 : Nat} {x1 : Int} {x2 : Int} {h : Zm} {Q : Int → Zm → Prop} (hX2 : ∀ (x1 : Int) (h : Zm), X2 x1 h → zW p l e zrX3_isDisordered s m args below meth c D base 3 (MQ below (zQi D base Q) args s 0 0 (zFree base)) 0 0 2 [some (.inr (.inl a0)), some (.inl x1), none] [] h) (hX9 : ∀ (x2 : Int) (h : Zm), X9 x2 h → zW p l e zrX3_isDisordered s m args below meth c D base 3 (MQ below (zQi D base Q) args s 0 0 (zFree base)) 0 0 9 [some (.inr (.inl a0)), some (.inl x1), some (.inl x2)] [] h) (H : mX3_isDisordered_B9 X2 X9 a0 x1 x2 h Q) : zW p l e zrX3_isDisordered s m args below meth c D base 3 (MQ below (zQi D base Q) args s 0 0 (zFree base)) 0 0 9 [some (.inr (.inl a0)), some (.inl x1), some (.inl x2)] [] h := by
  unfold mX3_isDisordered_B9 at H
  refine z_iload_n (pc := 9) hc dX3_isDisordered_9 rfl ?_
  refine z_iconst (pc := 10) hc dX3_isDisordered_10 ?_
  refine z_icmp_ge (tgt := 52) (pc := 11) hc dX3_isDisordered_11 rfl H (fun H => ?_) (fun H => ?_)
  · refine z_aload_n (pc := 14) hc dX3_isDisordered_14 rfl ?_
    refine z_getR (pc := 15) hc dX3_isDisordered_15 zf_RX3_15 rfl rfl rfl H (fun r1 H => ?_)
    refine z_iload_n (pc := 18) hc dX3_isDisordered_18 rfl ?_
    refine z_iaload (pc := 19) hc dX3_isDisordered_19 H (fun v2 H => ?_)
    refine z_aload_n (pc := 20) hc dX3_isDisordered_20 rfl ?_
    refine z_getR (pc := 21) hc dX3_isDisordered_21 zf_RX3_15 rfl rfl rfl H (fun r3 H => ?_)
    refine z_iload_n (pc := 24) hc dX3_isDisordered_24 rfl ?_
    refine z_iaload (pc := 25) hc dX3_isDisordered_25 H (fun v4 H => ?_)
    refine z_icmp_ge (tgt := 46) (pc := 26) hc dX3_isDisordered_26 rfl H (fun H => ?_) (fun H => ?_)
    · refine z_aload_n (pc := 29) hc dX3_isDisordered_29 rfl ?_
      refine z_getR (pc := 30) hc dX3_isDisordered_30 zf_RX3_18 rfl rfl rfl H (fun r5 H => ?_)
      refine z_iload_n (pc := 33) hc dX3_isDisordered_33 rfl ?_
      refine z_iaload (pc := 34) hc dX3_isDisordered_34 H (fun v6 H => ?_)
      refine z_aload_n (pc := 35) hc dX3_isDisordered_35 rfl ?_
      refine z_getR (pc := 36) hc dX3_isDisordered_36 zf_RX3_18 rfl rfl rfl H (fun r7 H => ?_)
      refine z_iload_n (pc := 39) hc dX3_isDisordered_39 rfl ?_
      refine z_iaload (pc := 40) hc dX3_isDisordered_40 H (fun v8 H => ?_)
      refine z_icmp_le (tgt := 46) (pc := 41) hc dX3_isDisordered_41 rfl H (fun H => ?_) (fun H => ?_)
      · refine z_iinc (pc := 46) hc dX3_isDisordered_46 (by decide) rfl (ρ' := [some (.inr (.inl a0)), some (.inl x1), some (.inl (x2 + 1))]) rfl rfl ?_
        refine z_goto (tgt := 9) (pc := 49) hc dX3_isDisordered_49 rfl ?_
        exact hX9 _ _ H
      · refine z_iconst (pc := 44) hc dX3_isDisordered_44 ?_
        exact z_zreturn (pc := 45) hc dX3_isDisordered_45 ⟨Or.inr rfl, H⟩
    · refine z_iinc (pc := 46) hc dX3_isDisordered_46 (by decide) rfl (ρ' := [some (.inr (.inl a0)), some (.inl x1), some (.inl (x2 + 1))]) rfl rfl ?_
      refine z_goto (tgt := 9) (pc := 49) hc dX3_isDisordered_49 rfl ?_
      exact hX9 _ _ H
  · refine z_iinc (pc := 52) hc dX3_isDisordered_52 (by decide) rfl (ρ' := [some (.inr (.inl a0)), some (.inl (x1 + 1)), some (.inl x2)]) rfl rfl ?_
    refine z_goto (tgt := 2) (pc := 55) hc dX3_isDisordered_55 rfl ?_
    refine z_mask [true, true, false] (ρ' := [some (.inr (.inl a0)), some (.inl (x1 + 1)), none]) rfl ?_
    exact hX2 _ _ H
theorem rX3_isDisordered_H9 (hc : zOk p s m args meth c D cX3_isDisordered 3 RX3 (some .boolean)) {X2 : Int → Zm → Prop} {a0 : Nat} {x1 : Int} {x2 : Int} {h : Zm} {Q : Int → Zm → Prop} (hX2 : ∀ (x1 : Int) (h : Zm), X2 x1 h → zW p l e zrX3_isDisordered s m args below meth c D base 3 (MQ below (zQi D base Q) args s 0 0 (zFree base)) 0 0 2 [some (.inr (.inl a0)), some (.inl x1), none] [] h) (H : mX3_isDisordered_H9 X2 a0 x1 x2 h Q) : zW p l e zrX3_isDisordered s m args below meth c D base 3 (MQ below (zQi D base Q) args s 0 0 (zFree base)) 0 0 9 [some (.inr (.inl a0)), some (.inl x1), some (.inl x2)] [] h :=
  H (fun x2 h => zW p l e zrX3_isDisordered s m args below meth c D base 3 (MQ below (zQi D base Q) args s 0 0 (zFree base)) 0 0 9 [some (.inr (.inl a0)), some (.inl x1), some (.inl x2)] [] h) (fun x2 h H => rX3_isDisordered_B9 hc hX2 (fun _ _ q => q) H)
set_option maxRecDepth 100000 in
set_option maxHeartbeats 4000000 in
theorem rX3_isDisordered_B2 (hc : zOk p s m args meth c D cX3_isDisordered 3 RX3 (some .boolean)) {X2 : Int → Zm → Prop} {a0 : Nat} {x1 : Int} {h : Zm} {Q : Int → Zm → Prop} (hX2 : ∀ (x1 : Int) (h : Zm), X2 x1 h → zW p l e zrX3_isDisordered s m args below meth c D base 3 (MQ below (zQi D base Q) args s 0 0 (zFree base)) 0 0 2 [some (.inr (.inl a0)), some (.inl x1), none] [] h) (H : mX3_isDisordered_B2 X2 a0 x1 h Q) : zW p l e zrX3_isDisordered s m args below meth c D base 3 (MQ below (zQi D base Q) args s 0 0 (zFree base)) 0 0 2 [some (.inr (.inl a0)), some (.inl x1), none] [] h := by
  unfold mX3_isDisordered_B2 at H
  refine z_iload_n (pc := 2) hc dX3_isDisordered_2 rfl ?_
  refine z_iconst (pc := 3) hc dX3_isDisordered_3 ?_
  refine z_icmp_ge (tgt := 58) (pc := 4) hc dX3_isDisordered_4 rfl H (fun H => ?_) (fun H => ?_)
  · refine z_iconst (pc := 7) hc dX3_isDisordered_7 ?_
    refine z_istore_n (pc := 8) hc dX3_isDisordered_8 (by decide) (ρ' := [some (.inr (.inl a0)), some (.inl x1), some (.inl 0)]) rfl rfl ?_
    exact rX3_isDisordered_H9 hc hX2 H
  · refine z_iconst (pc := 58) hc dX3_isDisordered_58 ?_
    exact z_zreturn (pc := 59) hc dX3_isDisordered_59 ⟨Or.inl rfl, H⟩
theorem rX3_isDisordered_H2 (hc : zOk p s m args meth c D cX3_isDisordered 3 RX3 (some .boolean))  {a0 : Nat} {x1 : Int} {h : Zm} {Q : Int → Zm → Prop}  (H : mX3_isDisordered_H2  a0 x1 h Q) : zW p l e zrX3_isDisordered s m args below meth c D base 3 (MQ below (zQi D base Q) args s 0 0 (zFree base)) 0 0 2 [some (.inr (.inl a0)), some (.inl x1), none] [] h :=
  H (fun x1 h => zW p l e zrX3_isDisordered s m args below meth c D base 3 (MQ below (zQi D base Q) args s 0 0 (zFree base)) 0 0 2 [some (.inr (.inl a0)), some (.inl x1), none] [] h) (fun x1 h H => rX3_isDisordered_B2 hc (fun _ _ q => q) H)
set_option maxRecDepth 100000 in
set_option maxHeartbeats 4000000 in
theorem rX3_isDisordered (hc : zOk p s m args meth c D cX3_isDisordered 3 RX3 (some .boolean)) {a0 : Nat} {h : Zm} {Q : Int → Zm → Prop} (H : mX3_isDisordered a0 h Q) : zW p l e zrX3_isDisordered s m args below meth c D base 3 (MQ below (zQi D base Q) args s 0 0 (zFree base)) 0 0 0 [some (.inr (.inl a0)), none, none] [] h := by
  unfold mX3_isDisordered at H
  refine z_iconst (pc := 0) hc dX3_isDisordered_0 ?_
  refine z_istore_n (pc := 1) hc dX3_isDisordered_1 (by decide) (ρ' := [some (.inr (.inl a0)), some (.inl 0), none]) rfl rfl ?_
  exact rX3_isDisordered_H2 hc H
end
theorem metX3_isDisordered (l : Launch) (D : Zd) (base : Nat) {a0 : Nat} {h : Zm} {Q : Int → Zm → Prop} (H : mX3_isDisordered a0 h Q) : zMet l D base yX3_isDisordered cX3_isDisordered 3 (some .boolean) zrX3_isDisordered [.inr (.inl a0)] h (zQi D base Q) :=
  z_met (by decide +kernel) (Nat.le_of_ble_eq_true rfl) rfl (fun p e s m args below meth c hc hn => rX3_isDisordered hc H)
def zrX5_init : Room := { frames := 2, cells := 27, slots := 504, locals := 40 }
def mX5_init_B15 (X15 : Int → Zm → Prop) (a0 : Nat) (x1 : Int) (h : Zm) (Q : Zm → Prop) : Prop :=
  cLt x1 24
  (cGr h 15 a0 0 fun r4 => cNw h 12 18 fun r5 h6 => cRc h6 12 r5 <| mX2_init r5 h6 fun h7 => cStR h7 5 12 r4 x1 r5 fun h8 => X15 (x1 + 1) h8)
  (cNw h 1 24 fun r9 h10 => cPr h10 15 a0 1 r9 fun h11 => cNw h11 1 24 fun r12 h13 => cPr h13 15 a0 2 r12 fun h14 => cPi h14 15 a0 3 1 fun h15 => cGr h15 15 a0 0 fun r16 => cLdR h15 r16 0 fun r17 => cPi h15 12 r17 0 0 fun h18 => cGr h18 15 a0 0 fun r19 => cLdR h18 r19 0 fun r20 => cPi h18 12 r20 3 100 fun h21 => cGr h21 15 a0 0 fun r22 => cLdR h21 r22 0 fun r23 => cPi h21 12 r23 6 100 fun h24 => Q h24)
def mX5_init_H15  (a0 : Nat) (x1 : Int) (h : Zm) (Q : Zm → Prop) : Prop :=
  lfp1 (fun X15 x1 h => mX5_init_B15 X15 a0 x1 h Q) x1 h
def mX5_init (a0 : Nat) (h : Zm) (Q : Zm → Prop) : Prop :=
  cRc h 15 a0 <| cNw h 5 24 fun r1 h2 => cPr h2 15 a0 0 r1 fun h3 => mX5_init_H15  a0 0 h3 Q
section
variable {p : Program} {l : Launch} {e : Env} {s : State} {m : MethodId} {args : Array Value} {below : List Frame} {meth : Method} {c : Code} {D : Zd} {base : Nat}
set_option maxRecDepth 100000 in
set_option maxHeartbeats 4000000 in
theorem rX5_init_B15 (hc : zOk p s m args meth c D cX5_init 2 RX5 none) (hin : meth.name = "<init>") {X15 : Int → Zm → Prop} {a0 : Nat} {x1 : Int} {h : Zm} {Q : Zm → Prop} (hX15 : ∀ (x1 : Int) (h : Zm), 0 ≤ x1 ∧ x1 ≤ 24 → X15 x1 h → zW p l e zrX5_init s m args below meth c D base 2 (MQ below (zQv D base Q) args s 27 504 (zFree base)) (1 + 1 * x1.toNat) (24 + 18 * x1.toNat) 15 [some (.inr (.inl a0)), some (.inl x1)] [] h) (hg : 0 ≤ x1 ∧ x1 ≤ 24) (H : mX5_init_B15 X15 a0 x1 h Q) : zW p l e zrX5_init s m args below meth c D base 2 (MQ below (zQv D base Q) args s 27 504 (zFree base)) (1 + 1 * x1.toNat) (24 + 18 * x1.toNat) 15 [some (.inr (.inl a0)), some (.inl x1)] [] h := by
  unfold mX5_init_B15 at H
  refine z_iload_n (pc := 15) hc dX5_init_15 rfl ?_
  refine z_bipush (pc := 16) hc dX5_init_16 (by decide) ?_
  refine z_icmp_geF (tgt := 40) (pc := 18) hc dX5_init_18 rfl H (fun hq H => ?_) (fun hq H => ?_)
  · refine z_aload_n (pc := 21) hc dX5_init_21 rfl ?_
    refine z_getR (pc := 22) hc dX5_init_22 zf_RX5_11 rfl rfl rfl H (fun r4 H => ?_)
    refine z_iload_n (pc := 25) hc dX5_init_25 rfl ?_
    refine z_new (pc := 26) (ci := 2) hc dX5_init_26 zc2 (by decide +kernel) (zT_mem 34 (by decide +kernel) rfl) (zT_mem 36 (by decide +kernel) rfl) (zT_mem 9 (by decide +kernel) rfl) (by (show _ + 1 ≤ 27; omega)) (by (show _ + 18 ≤ 504; omega)) H (fun r5 h6 H => ?_)
    refine z_dup (pc := 29) hc dX5_init_29 rfl ?_
    refine z_calV (mc := 0) (ms := 0) (z_runI (pc := 30) hc dX5_init_30 zw_RX5_17 (metX2_init _ _ _ H.2) rfl (Nat.le_of_ble_eq_true rfl) ⟨Nat.le_of_ble_eq_true rfl, Nat.le_of_ble_eq_true rfl⟩ ⟨by (show _ + 0 ≤ 27; omega), by (show _ + 0 ≤ 504; omega)⟩ (d := 12) (by decide) H.1) rfl ⟨rfl, rfl⟩ (fun h7 H => ?_)
    refine z_aastore (pc := 33) (ci := 2) (C := RX2) (T := TX2) (N := 18) hc dX5_init_33 (by decide) rfl rfl rfl H (fun h8 H => ?_)
    refine z_iinc (pc := 34) hc dX5_init_34 (by decide) rfl (ρ' := [some (.inr (.inl a0)), some (.inl (x1 + 1))]) rfl rfl ?_
    refine z_goto (tgt := 15) (pc := 37) hc dX5_init_37 rfl ?_
    refine z_cells (cells' := 1 + 1 * ((x1 + 1) : Int).toNat) (slots' := 24 + 18 * ((x1 + 1) : Int).toNat) (by omega) (by omega) ?_
    exact hX15 _ _ ⟨by omega, by omega⟩ H
  · refine z_cells (cells' := 25) (slots' := 456) (by omega) (by omega) ?_
    refine z_aload_n (pc := 40) hc dX5_init_40 rfl ?_
    refine z_bipush (pc := 41) hc dX5_init_41 (by decide) ?_
    refine z_newarr (pc := 43) (t := 1) (n := 24) hc dX5_init_43 (by decide) rfl (zT_mem 129 (by decide +kernel) rfl) (by decide) (by exact Nat.le_of_ble_eq_true rfl) (by exact Nat.le_of_ble_eq_true rfl) H (fun r9 h10 H => ?_)
    refine z_putR (pc := 45) hc dX5_init_45 zf_RX5_18 rfl rfl rfl hin (fun C T N q => by cases q; rfl) H (fun h11 H => ?_)
    refine z_aload_n (pc := 48) hc dX5_init_48 rfl ?_
    refine z_bipush (pc := 49) hc dX5_init_49 (by decide) ?_
    refine z_newarr (pc := 51) (t := 1) (n := 24) hc dX5_init_51 (by decide) rfl (zT_mem 129 (by decide +kernel) rfl) (by decide) (by exact Nat.le_of_ble_eq_true rfl) (by exact Nat.le_of_ble_eq_true rfl) H (fun r12 h13 H => ?_)
    refine z_putR (pc := 53) hc dX5_init_53 zf_RX5_22 rfl rfl rfl hin (fun C T N q => by cases q; rfl) H (fun h14 H => ?_)
    refine z_aload_n (pc := 56) hc dX5_init_56 rfl ?_
    refine z_iconst (pc := 57) hc dX5_init_57 ?_
    refine z_putI (pc := 58) hc dX5_init_58 zf_RX5_25 rfl rfl rfl H (fun h15 H => ?_)
    refine z_aload_n (pc := 61) hc dX5_init_61 rfl ?_
    refine z_getR (pc := 62) hc dX5_init_62 zf_RX5_11 rfl rfl rfl H (fun r16 H => ?_)
    refine z_iconst (pc := 65) hc dX5_init_65 ?_
    refine z_aaload (pc := 66) hc dX5_init_66 H (fun r17 H => ?_)
    refine z_iconst (pc := 67) hc dX5_init_67 ?_
    refine z_putI (pc := 68) hc dX5_init_68 zf_RX5_29 rfl rfl rfl H (fun h18 H => ?_)
    refine z_aload_n (pc := 71) hc dX5_init_71 rfl ?_
    refine z_getR (pc := 72) hc dX5_init_72 zf_RX5_11 rfl rfl rfl H (fun r19 H => ?_)
    refine z_iconst (pc := 75) hc dX5_init_75 ?_
    refine z_aaload (pc := 76) hc dX5_init_76 H (fun r20 H => ?_)
    refine z_bipush (pc := 77) hc dX5_init_77 (by decide) ?_
    refine z_putI (pc := 79) hc dX5_init_79 zf_RX5_32 rfl rfl rfl H (fun h21 H => ?_)
    refine z_aload_n (pc := 82) hc dX5_init_82 rfl ?_
    refine z_getR (pc := 83) hc dX5_init_83 zf_RX5_11 rfl rfl rfl H (fun r22 H => ?_)
    refine z_iconst (pc := 86) hc dX5_init_86 ?_
    refine z_aaload (pc := 87) hc dX5_init_87 H (fun r23 H => ?_)
    refine z_bipush (pc := 88) hc dX5_init_88 (by decide) ?_
    refine z_putI (pc := 90) hc dX5_init_90 zf_RX5_35 rfl rfl rfl H (fun h24 H => ?_)
    refine z_cells (cells' := 27) (slots' := 504) (by omega) (by omega) ?_
    exact z_return (pc := 93) hc dX5_init_93 H
theorem rX5_init_H15 (hc : zOk p s m args meth c D cX5_init 2 RX5 none) (hin : meth.name = "<init>")  {a0 : Nat} {x1 : Int} {h : Zm} {Q : Zm → Prop}  (hg : 0 ≤ x1 ∧ x1 ≤ 24) (H : mX5_init_H15  a0 x1 h Q) : zW p l e zrX5_init s m args below meth c D base 2 (MQ below (zQv D base Q) args s 27 504 (zFree base)) (1 + 1 * x1.toNat) (24 + 18 * x1.toNat) 15 [some (.inr (.inl a0)), some (.inl x1)] [] h :=
  H (fun x1 h => 0 ≤ x1 ∧ x1 ≤ 24 → zW p l e zrX5_init s m args below meth c D base 2 (MQ below (zQv D base Q) args s 27 504 (zFree base)) (1 + 1 * x1.toNat) (24 + 18 * x1.toNat) 15 [some (.inr (.inl a0)), some (.inl x1)] [] h) (fun x1 h H hg => rX5_init_B15 hc hin (fun _ _ g q => q g) hg H) hg
set_option maxRecDepth 100000 in
set_option maxHeartbeats 4000000 in
theorem rX5_init (hc : zOk p s m args meth c D cX5_init 2 RX5 none) (hin : meth.name = "<init>") {a0 : Nat} {h : Zm} {Q : Zm → Prop} (H : mX5_init a0 h Q) : zW p l e zrX5_init s m args below meth c D base 2 (MQ below (zQv D base Q) args s 27 504 (zFree base)) 0 0 0 [some (.inr (.inl a0)), none] [] h := by
  unfold mX5_init at H
  refine z_aload_n (pc := 0) hc dX5_init_0 rfl ?_
  refine z_objInit (pc := 1) hc dX5_init_1 (zT_mem 33 (by decide +kernel) rfl) (zT_mem 20 (by decide +kernel) rfl) (zT_mem 21 (by decide +kernel) rfl) (by decide) (by decide) (Nat.le_of_ble_eq_true rfl) (d := 15) (by decide) H (fun H => ?_)
  refine z_aload_n (pc := 4) hc dX5_init_4 rfl ?_
  refine z_bipush (pc := 5) hc dX5_init_5 (by decide) ?_
  refine z_anew (pc := 7) (t := 5) (n := 24) (C := RX2) hc dX5_init_7 (by decide) rfl (zT_mem 34 (by decide +kernel) rfl) (by decide +kernel) (by decide) (by exact Nat.le_of_ble_eq_true rfl) (by exact Nat.le_of_ble_eq_true rfl) H (fun r1 h2 H => ?_)
  refine z_putR (pc := 10) hc dX5_init_10 zf_RX5_11 rfl rfl rfl hin (fun C T N q => by cases q; rfl) H (fun h3 H => ?_)
  refine z_iconst (pc := 13) hc dX5_init_13 ?_
  refine z_istore_n (pc := 14) hc dX5_init_14 (by decide) (ρ' := [some (.inr (.inl a0)), some (.inl 0)]) rfl rfl ?_
  refine z_cells (cells' := 1 + 1 * (0 : Int).toNat) (slots' := 24 + 18 * (0 : Int).toNat) (by omega) (by omega) ?_
  exact rX5_init_H15 hc hin ⟨by omega, by omega⟩ H
end
theorem metX5_init (l : Launch) (D : Zd) (base : Nat) {a0 : Nat} {h : Zm} {Q : Zm → Prop} (H : mX5_init a0 h Q) : zMet l D base yX5_init cX5_init 2 none zrX5_init [.inr (.inl a0)] h (zQv D base Q) :=
  z_met (by decide +kernel) (Nat.le_of_ble_eq_true rfl) rfl (fun p e s m args below meth c hc hn => rX5_init hc hn H)
def zrX4_init : Room := { frames := 3, cells := 51, slots := 651, locals := 61 }
def mX4_init_B84 (X84 : Int → Zm → Prop) (a0 : Nat) (x1 : Int) (h : Zm) (Q : Zm → Prop) : Prop :=
  cLt x1 7
  (cGr h 14 a0 7 fun r18 => cNw h 10 3 fun r19 h20 => cRc h20 10 r19 <| mX0_init r19 h20 fun h21 => cStR h21 4 10 r18 x1 r19 fun h22 => X84 (x1 + 1) h22)
  (Q h)
def mX4_init_H84  (a0 : Nat) (x1 : Int) (h : Zm) (Q : Zm → Prop) : Prop :=
  lfp1 (fun X84 x1 h => mX4_init_B84 X84 a0 x1 h Q) x1 h
def mX4_init_B44 (X44 : Int → Zm → Prop) (a0 : Nat) (x1 : Int) (h : Zm) (Q : Zm → Prop) : Prop :=
  cLt x1 3
  (cGr h 14 a0 5 fun r16 => cSt h r16 x1 1 fun h17 => X44 (x1 + 1) h17)
  (cNw h 15 4 fun r9 h10 => cRc h10 15 r9 <| mX5_init r9 h10 fun h11 => cPr h11 14 a0 6 r9 fun h12 => cNw h12 4 7 fun r13 h14 => cPr h14 14 a0 7 r13 fun h15 => mX4_init_H84  a0 0 h15 Q)
def mX4_init_H44  (a0 : Nat) (x1 : Int) (h : Zm) (Q : Zm → Prop) : Prop :=
  lfp1 (fun X44 x1 h => mX4_init_B44 X44 a0 x1 h Q) x1 h
def mX4_init (a0 : Nat) (h : Zm) (Q : Zm → Prop) : Prop :=
  cRc h 14 a0 <| cPi h 14 a0 0 8 fun h1 => cPi h1 14 a0 1 6 fun h2 => cPi h2 14 a0 2 50 fun h3 => cPi h3 14 a0 3 40 fun h4 => cPi h4 14 a0 4 700 fun h5 => cNw h5 1 3 fun r6 h7 => cPr h7 14 a0 5 r6 fun h8 => mX4_init_H44  a0 0 h8 Q
section
variable {p : Program} {l : Launch} {e : Env} {s : State} {m : MethodId} {args : Array Value} {below : List Frame} {meth : Method} {c : Code} {D : Zd} {base : Nat}
set_option maxRecDepth 100000 in
set_option maxHeartbeats 4000000 in
theorem rX4_init_B84 (hc : zOk p s m args meth c D cX4_init 2 RX4 none) (hin : meth.name = "<init>") {X84 : Int → Zm → Prop} {a0 : Nat} {x1 : Int} {h : Zm} {Q : Zm → Prop} (hX84 : ∀ (x1 : Int) (h : Zm), 0 ≤ x1 ∧ x1 ≤ 7 → X84 x1 h → zW p l e zrX4_init s m args below meth c D base 2 (MQ below (zQv D base Q) args s 51 651 (zFree base)) (30 + 3 * x1.toNat) (518 + 19 * x1.toNat) 84 [some (.inr (.inl a0)), some (.inl x1)] [] h) (hg : 0 ≤ x1 ∧ x1 ≤ 7) (H : mX4_init_B84 X84 a0 x1 h Q) : zW p l e zrX4_init s m args below meth c D base 2 (MQ below (zQv D base Q) args s 51 651 (zFree base)) (30 + 3 * x1.toNat) (518 + 19 * x1.toNat) 84 [some (.inr (.inl a0)), some (.inl x1)] [] h := by
  unfold mX4_init_B84 at H
  refine z_iload_n (pc := 84) hc dX4_init_84 rfl ?_
  refine z_bipush (pc := 85) hc dX4_init_85 (by decide) ?_
  refine z_icmp_geF (tgt := 109) (pc := 87) hc dX4_init_87 rfl H (fun hq H => ?_) (fun hq H => ?_)
  · refine z_aload_n (pc := 90) hc dX4_init_90 rfl ?_
    refine z_getR (pc := 91) hc dX4_init_91 zf_RX4_40 rfl rfl rfl H (fun r18 H => ?_)
    refine z_iload_n (pc := 94) hc dX4_init_94 rfl ?_
    refine z_new (pc := 95) (ci := 0) hc dX4_init_95 zc0 (by decide +kernel) (zT_mem 147 (by decide +kernel) rfl) (zT_mem 149 (by decide +kernel) rfl) (zT_mem 10 (by decide +kernel) rfl) (by (show _ + 1 ≤ 51; omega)) (by (show _ + 3 ≤ 651; omega)) H (fun r19 h20 H => ?_)
    refine z_dup (pc := 98) hc dX4_init_98 rfl ?_
    refine z_calV (mc := 2) (ms := 16) (z_runI (pc := 99) hc dX4_init_99 zw_RX4_44 (metX0_init _ _ _ H.2) rfl (Nat.le_of_ble_eq_true rfl) ⟨Nat.le_of_ble_eq_true rfl, Nat.le_of_ble_eq_true rfl⟩ ⟨by (show _ + 2 ≤ 51; omega), by (show _ + 16 ≤ 651; omega)⟩ (d := 10) (by decide) H.1) rfl ⟨rfl, rfl⟩ (fun h21 H => ?_)
    refine z_aastore (pc := 102) (ci := 0) (C := RX0) (T := TX0) (N := 3) hc dX4_init_102 (by decide) rfl rfl rfl H (fun h22 H => ?_)
    refine z_iinc (pc := 103) hc dX4_init_103 (by decide) rfl (ρ' := [some (.inr (.inl a0)), some (.inl (x1 + 1))]) rfl rfl ?_
    refine z_goto (tgt := 84) (pc := 106) hc dX4_init_106 rfl ?_
    refine z_cells (cells' := 30 + 3 * ((x1 + 1) : Int).toNat) (slots' := 518 + 19 * ((x1 + 1) : Int).toNat) (by omega) (by omega) ?_
    exact hX84 _ _ ⟨by omega, by omega⟩ H
  · refine z_cells (cells' := 51) (slots' := 651) (by omega) (by omega) ?_
    refine z_cells (cells' := 51) (slots' := 651) (by omega) (by omega) ?_
    exact z_return (pc := 109) hc dX4_init_109 H
theorem rX4_init_H84 (hc : zOk p s m args meth c D cX4_init 2 RX4 none) (hin : meth.name = "<init>")  {a0 : Nat} {x1 : Int} {h : Zm} {Q : Zm → Prop}  (hg : 0 ≤ x1 ∧ x1 ≤ 7) (H : mX4_init_H84  a0 x1 h Q) : zW p l e zrX4_init s m args below meth c D base 2 (MQ below (zQv D base Q) args s 51 651 (zFree base)) (30 + 3 * x1.toNat) (518 + 19 * x1.toNat) 84 [some (.inr (.inl a0)), some (.inl x1)] [] h :=
  H (fun x1 h => 0 ≤ x1 ∧ x1 ≤ 7 → zW p l e zrX4_init s m args below meth c D base 2 (MQ below (zQv D base Q) args s 51 651 (zFree base)) (30 + 3 * x1.toNat) (518 + 19 * x1.toNat) 84 [some (.inr (.inl a0)), some (.inl x1)] [] h) (fun x1 h H hg => rX4_init_B84 hc hin (fun _ _ g q => q g) hg H) hg
set_option maxRecDepth 100000 in
set_option maxHeartbeats 4000000 in
theorem rX4_init_B44 (hc : zOk p s m args meth c D cX4_init 2 RX4 none) (hin : meth.name = "<init>") {X44 : Int → Zm → Prop} {a0 : Nat} {x1 : Int} {h : Zm} {Q : Zm → Prop} (hX44 : ∀ (x1 : Int) (h : Zm), X44 x1 h → zW p l e zrX4_init s m args below meth c D base 2 (MQ below (zQv D base Q) args s 51 651 (zFree base)) 1 3 44 [some (.inr (.inl a0)), some (.inl x1)] [] h) (H : mX4_init_B44 X44 a0 x1 h Q) : zW p l e zrX4_init s m args below meth c D base 2 (MQ below (zQv D base Q) args s 51 651 (zFree base)) 1 3 44 [some (.inr (.inl a0)), some (.inl x1)] [] h := by
  unfold mX4_init_B44 at H
  refine z_iload_n (pc := 44) hc dX4_init_44 rfl ?_
  refine z_iconst (pc := 45) hc dX4_init_45 ?_
  refine z_icmp_ge (tgt := 62) (pc := 46) hc dX4_init_46 rfl H (fun H => ?_) (fun H => ?_)
  · refine z_aload_n (pc := 49) hc dX4_init_49 rfl ?_
    refine z_getR (pc := 50) hc dX4_init_50 zf_RX4_27 rfl rfl rfl H (fun r16 H => ?_)
    refine z_iload_n (pc := 53) hc dX4_init_53 rfl ?_
    refine z_iconst (pc := 54) hc dX4_init_54 ?_
    refine z_iastore (pc := 55) hc dX4_init_55 H (fun h17 H => ?_)
    refine z_iinc (pc := 56) hc dX4_init_56 (by decide) rfl (ρ' := [some (.inr (.inl a0)), some (.inl (x1 + 1))]) rfl rfl ?_
    refine z_goto (tgt := 44) (pc := 59) hc dX4_init_59 rfl ?_
    refine z_cells (cells' := 1) (slots' := 3) (by omega) (by omega) ?_
    exact hX44 _ _ H
  · refine z_aload_n (pc := 62) hc dX4_init_62 rfl ?_
    refine z_new (pc := 63) (ci := 5) hc dX4_init_63 zc5 (by decide +kernel) (zT_mem 28 (by decide +kernel) rfl) (zT_mem 29 (by decide +kernel) rfl) (zT_mem 8 (by decide +kernel) rfl) (by exact Nat.le_of_ble_eq_true rfl) (by exact Nat.le_of_ble_eq_true rfl) H (fun r9 h10 H => ?_)
    refine z_dup (pc := 66) hc dX4_init_66 rfl ?_
    refine z_calV (mc := 27) (ms := 504) (z_runI (pc := 67) hc dX4_init_67 zw_RX4_33 (metX5_init _ _ _ H.2) rfl (Nat.le_of_ble_eq_true rfl) ⟨Nat.le_of_ble_eq_true rfl, Nat.le_of_ble_eq_true rfl⟩ ⟨by exact Nat.le_of_ble_eq_true rfl, by exact Nat.le_of_ble_eq_true rfl⟩ (d := 15) (by decide) H.1) rfl ⟨rfl, rfl⟩ (fun h11 H => ?_)
    refine z_putR (pc := 70) hc dX4_init_70 zf_RX4_34 rfl rfl rfl hin (fun C T N q => by cases q; rfl) H (fun h12 H => ?_)
    refine z_aload_n (pc := 73) hc dX4_init_73 rfl ?_
    refine z_bipush (pc := 74) hc dX4_init_74 (by decide) ?_
    refine z_anew (pc := 76) (t := 4) (n := 7) (C := RX0) hc dX4_init_76 (by decide) rfl (zT_mem 147 (by decide +kernel) rfl) (by decide +kernel) (by decide) (by exact Nat.le_of_ble_eq_true rfl) (by exact Nat.le_of_ble_eq_true rfl) H (fun r13 h14 H => ?_)
    refine z_putR (pc := 79) hc dX4_init_79 zf_RX4_40 rfl rfl rfl hin (fun C T N q => by cases q; rfl) H (fun h15 H => ?_)
    refine z_iconst (pc := 82) hc dX4_init_82 ?_
    refine z_istore_n (pc := 83) hc dX4_init_83 (by decide) (ρ' := [some (.inr (.inl a0)), some (.inl 0)]) rfl rfl ?_
    refine z_cells (cells' := 30 + 3 * (0 : Int).toNat) (slots' := 518 + 19 * (0 : Int).toNat) (by omega) (by omega) ?_
    exact rX4_init_H84 hc hin ⟨by omega, by omega⟩ H
theorem rX4_init_H44 (hc : zOk p s m args meth c D cX4_init 2 RX4 none) (hin : meth.name = "<init>")  {a0 : Nat} {x1 : Int} {h : Zm} {Q : Zm → Prop}  (H : mX4_init_H44  a0 x1 h Q) : zW p l e zrX4_init s m args below meth c D base 2 (MQ below (zQv D base Q) args s 51 651 (zFree base)) 1 3 44 [some (.inr (.inl a0)), some (.inl x1)] [] h :=
  H (fun x1 h => zW p l e zrX4_init s m args below meth c D base 2 (MQ below (zQv D base Q) args s 51 651 (zFree base)) 1 3 44 [some (.inr (.inl a0)), some (.inl x1)] [] h) (fun x1 h H => rX4_init_B44 hc hin (fun _ _ q => q) H)
set_option maxRecDepth 100000 in
set_option maxHeartbeats 4000000 in
theorem rX4_init (hc : zOk p s m args meth c D cX4_init 2 RX4 none) (hin : meth.name = "<init>") {a0 : Nat} {h : Zm} {Q : Zm → Prop} (H : mX4_init a0 h Q) : zW p l e zrX4_init s m args below meth c D base 2 (MQ below (zQv D base Q) args s 51 651 (zFree base)) 0 0 0 [some (.inr (.inl a0)), none] [] h := by
  unfold mX4_init at H
  refine z_aload_n (pc := 0) hc dX4_init_0 rfl ?_
  refine z_objInit (pc := 1) hc dX4_init_1 (zT_mem 27 (by decide +kernel) rfl) (zT_mem 20 (by decide +kernel) rfl) (zT_mem 21 (by decide +kernel) rfl) (by decide) (by decide) (Nat.le_of_ble_eq_true rfl) (d := 14) (by decide) H (fun H => ?_)
  refine z_aload_n (pc := 4) hc dX4_init_4 rfl ?_
  refine z_bipush (pc := 5) hc dX4_init_5 (by decide) ?_
  refine z_putI (pc := 7) hc dX4_init_7 zf_RX4_9 rfl rfl rfl H (fun h1 H => ?_)
  refine z_aload_n (pc := 10) hc dX4_init_10 rfl ?_
  refine z_bipush (pc := 11) hc dX4_init_11 (by decide) ?_
  refine z_putI (pc := 13) hc dX4_init_13 zf_RX4_15 rfl rfl rfl H (fun h2 H => ?_)
  refine z_aload_n (pc := 16) hc dX4_init_16 rfl ?_
  refine z_bipush (pc := 17) hc dX4_init_17 (by decide) ?_
  refine z_putI (pc := 19) hc dX4_init_19 zf_RX4_18 rfl rfl rfl H (fun h3 H => ?_)
  refine z_aload_n (pc := 22) hc dX4_init_22 rfl ?_
  refine z_bipush (pc := 23) hc dX4_init_23 (by decide) ?_
  refine z_putI (pc := 25) hc dX4_init_25 zf_RX4_21 rfl rfl rfl H (fun h4 H => ?_)
  refine z_aload_n (pc := 28) hc dX4_init_28 rfl ?_
  refine z_sipush (pc := 29) hc dX4_init_29 (by decide) ?_
  refine z_putI (pc := 32) hc dX4_init_32 zf_RX4_24 rfl rfl rfl H (fun h5 H => ?_)
  refine z_aload_n (pc := 35) hc dX4_init_35 rfl ?_
  refine z_iconst (pc := 36) hc dX4_init_36 ?_
  refine z_newarr (pc := 37) (t := 1) (n := 3) hc dX4_init_37 (by decide) rfl (zT_mem 129 (by decide +kernel) rfl) (by decide) (by exact Nat.le_of_ble_eq_true rfl) (by exact Nat.le_of_ble_eq_true rfl) H (fun r6 h7 H => ?_)
  refine z_putR (pc := 39) hc dX4_init_39 zf_RX4_27 rfl rfl rfl hin (fun C T N q => by cases q; rfl) H (fun h8 H => ?_)
  refine z_iconst (pc := 42) hc dX4_init_42 ?_
  refine z_istore_n (pc := 43) hc dX4_init_43 (by decide) (ρ' := [some (.inr (.inl a0)), some (.inl 0)]) rfl rfl ?_
  refine z_cells (cells' := 1) (slots' := 3) (by omega) (by omega) ?_
  exact rX4_init_H44 hc hin H
end
theorem metX4_init (l : Launch) (D : Zd) (base : Nat) {a0 : Nat} {h : Zm} {Q : Zm → Prop} (H : mX4_init a0 h Q) : zMet l D base yX4_init cX4_init 2 none zrX4_init [.inr (.inl a0)] h (zQv D base Q) :=
  z_met (by decide +kernel) (Nat.le_of_ble_eq_true rfl) rfl (fun p e s m args below meth c hc hn => rX4_init hc hn H)
def zrX5_copyFrom : Room := { frames := 2, cells := 0, slots := 0, locals := 42 }
def mX5_copyFrom_B2 (X2 : Int → Zm → Prop) (a0 : Nat) (a1 : Nat) (x2 : Int) (h : Zm) (Q : Zm → Prop) : Prop :=
  cLt x2 24
  (cGr h 15 a0 0 fun r3 => cLdR h r3 x2 fun r4 => cGr h 15 a1 0 fun r5 => cLdR h r5 x2 fun r6 => cRc h 12 r4 <| mX2_copyFrom r4 r6 h fun h7 => cGr h7 15 a0 1 fun r8 => cGr h7 15 a1 1 fun r9 => cLd h7 1 r9 x2 fun v10 => cSt h7 r8 x2 v10 fun h11 => X2 (x2 + 1) h11)
  (cGi h 15 a1 3 fun v1 => cPi h 15 a0 3 v1 fun h2 => Q h2)
def mX5_copyFrom_H2  (a0 : Nat) (a1 : Nat) (x2 : Int) (h : Zm) (Q : Zm → Prop) : Prop :=
  lfp1 (fun X2 x2 h => mX5_copyFrom_B2 X2 a0 a1 x2 h Q) x2 h
def mX5_copyFrom (a0 : Nat) (a1 : Nat) (h : Zm) (Q : Zm → Prop) : Prop :=
  mX5_copyFrom_H2  a0 a1 0 h Q
section
variable {p : Program} {l : Launch} {e : Env} {s : State} {m : MethodId} {args : Array Value} {below : List Frame} {meth : Method} {c : Code} {D : Zd} {base : Nat}
set_option maxRecDepth 100000 in
set_option maxHeartbeats 4000000 in
theorem rX5_copyFrom_B2 (hc : zOk p s m args meth c D cX5_copyFrom 3 RX5 none) {X2 : Int → Zm → Prop} {a0 : Nat} {a1 : Nat} {x2 : Int} {h : Zm} {Q : Zm → Prop} (hX2 : ∀ (x2 : Int) (h : Zm), X2 x2 h → zW p l e zrX5_copyFrom s m args below meth c D base 3 (MQ below (zQv D base Q) args s 0 0 (zFree base)) 0 0 2 [some (.inr (.inl a0)), some (.inr (.inl a1)), some (.inl x2)] [] h) (H : mX5_copyFrom_B2 X2 a0 a1 x2 h Q) : zW p l e zrX5_copyFrom s m args below meth c D base 3 (MQ below (zQv D base Q) args s 0 0 (zFree base)) 0 0 2 [some (.inr (.inl a0)), some (.inr (.inl a1)), some (.inl x2)] [] h := by
  unfold mX5_copyFrom_B2 at H
  refine z_iload_n (pc := 2) hc dX5_copyFrom_2 rfl ?_
  refine z_bipush (pc := 3) hc dX5_copyFrom_3 (by decide) ?_
  refine z_icmp_ge (tgt := 41) (pc := 5) hc dX5_copyFrom_5 rfl H (fun H => ?_) (fun H => ?_)
  · refine z_aload_n (pc := 8) hc dX5_copyFrom_8 rfl ?_
    refine z_getR (pc := 9) hc dX5_copyFrom_9 zf_RX5_11 rfl rfl rfl H (fun r3 H => ?_)
    refine z_iload_n (pc := 12) hc dX5_copyFrom_12 rfl ?_
    refine z_aaload (pc := 13) hc dX5_copyFrom_13 H (fun r4 H => ?_)
    refine z_aload_n (pc := 14) hc dX5_copyFrom_14 rfl ?_
    refine z_getR (pc := 15) hc dX5_copyFrom_15 zf_RX5_11 rfl rfl rfl H (fun r5 H => ?_)
    refine z_iload_n (pc := 18) hc dX5_copyFrom_18 rfl ?_
    refine z_aaload (pc := 19) hc dX5_copyFrom_19 H (fun r6 H => ?_)
    refine z_calV0 (z_runV (pc := 20) (ci := 2) (T := TX2) (N := 18) hc dX5_copyFrom_20 zw_RX5_38 (metX2_copyFrom _ _ _ H.2) rfl (Nat.le_of_ble_eq_true rfl) ⟨Nat.le_of_ble_eq_true rfl, Nat.le_of_ble_eq_true rfl⟩ ⟨by exact Nat.le_of_ble_eq_true rfl, by exact Nat.le_of_ble_eq_true rfl⟩ rfl H.1) rfl ⟨rfl, rfl⟩ (fun h7 H => ?_)
    refine z_aload_n (pc := 23) hc dX5_copyFrom_23 rfl ?_
    refine z_getR (pc := 24) hc dX5_copyFrom_24 zf_RX5_18 rfl rfl rfl H (fun r8 H => ?_)
    refine z_iload_n (pc := 27) hc dX5_copyFrom_27 rfl ?_
    refine z_aload_n (pc := 28) hc dX5_copyFrom_28 rfl ?_
    refine z_getR (pc := 29) hc dX5_copyFrom_29 zf_RX5_18 rfl rfl rfl H (fun r9 H => ?_)
    refine z_iload_n (pc := 32) hc dX5_copyFrom_32 rfl ?_
    refine z_iaload (pc := 33) hc dX5_copyFrom_33 H (fun v10 H => ?_)
    refine z_iastore (pc := 34) hc dX5_copyFrom_34 H (fun h11 H => ?_)
    refine z_iinc (pc := 35) hc dX5_copyFrom_35 (by decide) rfl (ρ' := [some (.inr (.inl a0)), some (.inr (.inl a1)), some (.inl (x2 + 1))]) rfl rfl ?_
    refine z_goto (tgt := 2) (pc := 38) hc dX5_copyFrom_38 rfl ?_
    exact hX2 _ _ H
  · refine z_aload_n (pc := 41) hc dX5_copyFrom_41 rfl ?_
    refine z_aload_n (pc := 42) hc dX5_copyFrom_42 rfl ?_
    refine z_getI (pc := 43) hc dX5_copyFrom_43 zf_RX5_25 rfl rfl rfl H (fun v1 H => ?_)
    refine z_putI (pc := 46) hc dX5_copyFrom_46 zf_RX5_25 rfl rfl rfl H (fun h2 H => ?_)
    exact z_return (pc := 49) hc dX5_copyFrom_49 H
theorem rX5_copyFrom_H2 (hc : zOk p s m args meth c D cX5_copyFrom 3 RX5 none)  {a0 : Nat} {a1 : Nat} {x2 : Int} {h : Zm} {Q : Zm → Prop}  (H : mX5_copyFrom_H2  a0 a1 x2 h Q) : zW p l e zrX5_copyFrom s m args below meth c D base 3 (MQ below (zQv D base Q) args s 0 0 (zFree base)) 0 0 2 [some (.inr (.inl a0)), some (.inr (.inl a1)), some (.inl x2)] [] h :=
  H (fun x2 h => zW p l e zrX5_copyFrom s m args below meth c D base 3 (MQ below (zQv D base Q) args s 0 0 (zFree base)) 0 0 2 [some (.inr (.inl a0)), some (.inr (.inl a1)), some (.inl x2)] [] h) (fun x2 h H => rX5_copyFrom_B2 hc (fun _ _ q => q) H)
set_option maxRecDepth 100000 in
set_option maxHeartbeats 4000000 in
theorem rX5_copyFrom (hc : zOk p s m args meth c D cX5_copyFrom 3 RX5 none) {a0 : Nat} {a1 : Nat} {h : Zm} {Q : Zm → Prop} (H : mX5_copyFrom a0 a1 h Q) : zW p l e zrX5_copyFrom s m args below meth c D base 3 (MQ below (zQv D base Q) args s 0 0 (zFree base)) 0 0 0 [some (.inr (.inl a0)), some (.inr (.inl a1)), none] [] h := by
  unfold mX5_copyFrom at H
  refine z_iconst (pc := 0) hc dX5_copyFrom_0 ?_
  refine z_istore_n (pc := 1) hc dX5_copyFrom_1 (by decide) (ρ' := [some (.inr (.inl a0)), some (.inr (.inl a1)), some (.inl 0)]) rfl rfl ?_
  exact rX5_copyFrom_H2 hc H
end
theorem metX5_copyFrom (l : Launch) (D : Zd) (base : Nat) {a0 : Nat} {a1 : Nat} {h : Zm} {Q : Zm → Prop} (H : mX5_copyFrom a0 a1 h Q) : zMet l D base yX5_copyFrom cX5_copyFrom 3 none zrX5_copyFrom [.inr (.inl a0), .inr (.inl a1)] h (zQv D base Q) :=
  z_met (by decide +kernel) (Nat.le_of_ble_eq_true rfl) rfl (fun p e s m args below meth c hc hn => rX5_copyFrom hc H)
def zrX4_copyFrom : Room := { frames := 3, cells := 0, slots := 0, locals := 64 }
def mX4_copyFrom_B78 (X78 : Int → Zm → Prop) (a0 : Nat) (a1 : Nat) (x2 : Int) (h : Zm) (Q : Zm → Prop) : Prop :=
  cLt x2 7
  (cGr h 14 a0 7 fun r18 => cLdR h r18 x2 fun r19 => cGr h 14 a1 7 fun r20 => cLdR h r20 x2 fun r21 => cRc h 10 r19 <| mX0_copyFrom r19 r21 h fun h22 => X78 (x2 + 1) h22)
  (Q h)
def mX4_copyFrom_H78  (a0 : Nat) (a1 : Nat) (x2 : Int) (h : Zm) (Q : Zm → Prop) : Prop :=
  lfp1 (fun X78 x2 h => mX4_copyFrom_B78 X78 a0 a1 x2 h Q) x2 h
def mX4_copyFrom_B42 (X42 : Int → Zm → Prop) (a0 : Nat) (a1 : Nat) (x2 : Int) (h : Zm) (Q : Zm → Prop) : Prop :=
  cLt x2 3
  (cGr h 14 a0 5 fun r14 => cGr h 14 a1 5 fun r15 => cLd h 1 r15 x2 fun v16 => cSt h r14 x2 v16 fun h17 => X42 (x2 + 1) h17)
  (cGr h 14 a0 6 fun r11 => cGr h 14 a1 6 fun r12 => cRc h 15 r11 <| mX5_copyFrom r11 r12 h fun h13 => mX4_copyFrom_H78  a0 a1 0 h13 Q)
def mX4_copyFrom_H42  (a0 : Nat) (a1 : Nat) (x2 : Int) (h : Zm) (Q : Zm → Prop) : Prop :=
  lfp1 (fun X42 x2 h => mX4_copyFrom_B42 X42 a0 a1 x2 h Q) x2 h
def mX4_copyFrom (a0 : Nat) (a1 : Nat) (h : Zm) (Q : Zm → Prop) : Prop :=
  cGi h 14 a1 0 fun v1 => cPi h 14 a0 0 v1 fun h2 => cGi h2 14 a1 1 fun v3 => cPi h2 14 a0 1 v3 fun h4 => cGi h4 14 a1 2 fun v5 => cPi h4 14 a0 2 v5 fun h6 => cGi h6 14 a1 3 fun v7 => cPi h6 14 a0 3 v7 fun h8 => cGi h8 14 a1 4 fun v9 => cPi h8 14 a0 4 v9 fun h10 => mX4_copyFrom_H42  a0 a1 0 h10 Q
section
variable {p : Program} {l : Launch} {e : Env} {s : State} {m : MethodId} {args : Array Value} {below : List Frame} {meth : Method} {c : Code} {D : Zd} {base : Nat}
set_option maxRecDepth 100000 in
set_option maxHeartbeats 4000000 in
theorem rX4_copyFrom_B78 (hc : zOk p s m args meth c D cX4_copyFrom 3 RX4 none) {X78 : Int → Zm → Prop} {a0 : Nat} {a1 : Nat} {x2 : Int} {h : Zm} {Q : Zm → Prop} (hX78 : ∀ (x2 : Int) (h : Zm), X78 x2 h → zW p l e zrX4_copyFrom s m args below meth c D base 3 (MQ below (zQv D base Q) args s 0 0 (zFree base)) 0 0 78 [some (.inr (.inl a0)), some (.inr (.inl a1)), some (.inl x2)] [] h) (H : mX4_copyFrom_B78 X78 a0 a1 x2 h Q) : zW p l e zrX4_copyFrom s m args below meth c D base 3 (MQ below (zQv D base Q) args s 0 0 (zFree base)) 0 0 78 [some (.inr (.inl a0)), some (.inr (.inl a1)), some (.inl x2)] [] h := by
  unfold mX4_copyFrom_B78 at H
  refine z_iload_n (pc := 78) hc dX4_copyFrom_78 rfl ?_
  refine z_bipush (pc := 79) hc dX4_copyFrom_79 (by decide) ?_
  refine z_icmp_ge (tgt := 105) (pc := 81) hc dX4_copyFrom_81 rfl H (fun H => ?_) (fun H => ?_)
  · refine z_aload_n (pc := 84) hc dX4_copyFrom_84 rfl ?_
    refine z_getR (pc := 85) hc dX4_copyFrom_85 zf_RX4_40 rfl rfl rfl H (fun r18 H => ?_)
    refine z_iload_n (pc := 88) hc dX4_copyFrom_88 rfl ?_
    refine z_aaload (pc := 89) hc dX4_copyFrom_89 H (fun r19 H => ?_)
    refine z_aload_n (pc := 90) hc dX4_copyFrom_90 rfl ?_
    refine z_getR (pc := 91) hc dX4_copyFrom_91 zf_RX4_40 rfl rfl rfl H (fun r20 H => ?_)
    refine z_iload_n (pc := 94) hc dX4_copyFrom_94 rfl ?_
    refine z_aaload (pc := 95) hc dX4_copyFrom_95 H (fun r21 H => ?_)
    refine z_calV0 (z_runV (pc := 96) (ci := 0) (T := TX0) (N := 3) hc dX4_copyFrom_96 zw_RX4_49 (metX0_copyFrom _ _ _ H.2) rfl (Nat.le_of_ble_eq_true rfl) ⟨Nat.le_of_ble_eq_true rfl, Nat.le_of_ble_eq_true rfl⟩ ⟨by exact Nat.le_of_ble_eq_true rfl, by exact Nat.le_of_ble_eq_true rfl⟩ rfl H.1) rfl ⟨rfl, rfl⟩ (fun h22 H => ?_)
    refine z_iinc (pc := 99) hc dX4_copyFrom_99 (by decide) rfl (ρ' := [some (.inr (.inl a0)), some (.inr (.inl a1)), some (.inl (x2 + 1))]) rfl rfl ?_
    refine z_goto (tgt := 78) (pc := 102) hc dX4_copyFrom_102 rfl ?_
    exact hX78 _ _ H
  · exact z_return (pc := 105) hc dX4_copyFrom_105 H
theorem rX4_copyFrom_H78 (hc : zOk p s m args meth c D cX4_copyFrom 3 RX4 none)  {a0 : Nat} {a1 : Nat} {x2 : Int} {h : Zm} {Q : Zm → Prop}  (H : mX4_copyFrom_H78  a0 a1 x2 h Q) : zW p l e zrX4_copyFrom s m args below meth c D base 3 (MQ below (zQv D base Q) args s 0 0 (zFree base)) 0 0 78 [some (.inr (.inl a0)), some (.inr (.inl a1)), some (.inl x2)] [] h :=
  H (fun x2 h => zW p l e zrX4_copyFrom s m args below meth c D base 3 (MQ below (zQv D base Q) args s 0 0 (zFree base)) 0 0 78 [some (.inr (.inl a0)), some (.inr (.inl a1)), some (.inl x2)] [] h) (fun x2 h H => rX4_copyFrom_B78 hc (fun _ _ q => q) H)
set_option maxRecDepth 100000 in
set_option maxHeartbeats 4000000 in
theorem rX4_copyFrom_B42 (hc : zOk p s m args meth c D cX4_copyFrom 3 RX4 none) {X42 : Int → Zm → Prop} {a0 : Nat} {a1 : Nat} {x2 : Int} {h : Zm} {Q : Zm → Prop} (hX42 : ∀ (x2 : Int) (h : Zm), X42 x2 h → zW p l e zrX4_copyFrom s m args below meth c D base 3 (MQ below (zQv D base Q) args s 0 0 (zFree base)) 0 0 42 [some (.inr (.inl a0)), some (.inr (.inl a1)), some (.inl x2)] [] h) (H : mX4_copyFrom_B42 X42 a0 a1 x2 h Q) : zW p l e zrX4_copyFrom s m args below meth c D base 3 (MQ below (zQv D base Q) args s 0 0 (zFree base)) 0 0 42 [some (.inr (.inl a0)), some (.inr (.inl a1)), some (.inl x2)] [] h := by
  unfold mX4_copyFrom_B42 at H
  refine z_iload_n (pc := 42) hc dX4_copyFrom_42 rfl ?_
  refine z_iconst (pc := 43) hc dX4_copyFrom_43 ?_
  refine z_icmp_ge (tgt := 65) (pc := 44) hc dX4_copyFrom_44 rfl H (fun H => ?_) (fun H => ?_)
  · refine z_aload_n (pc := 47) hc dX4_copyFrom_47 rfl ?_
    refine z_getR (pc := 48) hc dX4_copyFrom_48 zf_RX4_27 rfl rfl rfl H (fun r14 H => ?_)
    refine z_iload_n (pc := 51) hc dX4_copyFrom_51 rfl ?_
    refine z_aload_n (pc := 52) hc dX4_copyFrom_52 rfl ?_
    refine z_getR (pc := 53) hc dX4_copyFrom_53 zf_RX4_27 rfl rfl rfl H (fun r15 H => ?_)
    refine z_iload_n (pc := 56) hc dX4_copyFrom_56 rfl ?_
    refine z_iaload (pc := 57) hc dX4_copyFrom_57 H (fun v16 H => ?_)
    refine z_iastore (pc := 58) hc dX4_copyFrom_58 H (fun h17 H => ?_)
    refine z_iinc (pc := 59) hc dX4_copyFrom_59 (by decide) rfl (ρ' := [some (.inr (.inl a0)), some (.inr (.inl a1)), some (.inl (x2 + 1))]) rfl rfl ?_
    refine z_goto (tgt := 42) (pc := 62) hc dX4_copyFrom_62 rfl ?_
    exact hX42 _ _ H
  · refine z_aload_n (pc := 65) hc dX4_copyFrom_65 rfl ?_
    refine z_getR (pc := 66) hc dX4_copyFrom_66 zf_RX4_34 rfl rfl rfl H (fun r11 H => ?_)
    refine z_aload_n (pc := 69) hc dX4_copyFrom_69 rfl ?_
    refine z_getR (pc := 70) hc dX4_copyFrom_70 zf_RX4_34 rfl rfl rfl H (fun r12 H => ?_)
    refine z_calV0 (z_runV (pc := 73) (ci := 5) (T := TX5) (N := 4) hc dX4_copyFrom_73 zw_RX4_45 (metX5_copyFrom _ _ _ H.2) rfl (Nat.le_of_ble_eq_true rfl) ⟨Nat.le_of_ble_eq_true rfl, Nat.le_of_ble_eq_true rfl⟩ ⟨by exact Nat.le_of_ble_eq_true rfl, by exact Nat.le_of_ble_eq_true rfl⟩ rfl H.1) rfl ⟨rfl, rfl⟩ (fun h13 H => ?_)
    refine z_iconst (pc := 76) hc dX4_copyFrom_76 ?_
    refine z_istore_n (pc := 77) hc dX4_copyFrom_77 (by decide) (ρ' := [some (.inr (.inl a0)), some (.inr (.inl a1)), some (.inl 0)]) rfl rfl ?_
    exact rX4_copyFrom_H78 hc H
theorem rX4_copyFrom_H42 (hc : zOk p s m args meth c D cX4_copyFrom 3 RX4 none)  {a0 : Nat} {a1 : Nat} {x2 : Int} {h : Zm} {Q : Zm → Prop}  (H : mX4_copyFrom_H42  a0 a1 x2 h Q) : zW p l e zrX4_copyFrom s m args below meth c D base 3 (MQ below (zQv D base Q) args s 0 0 (zFree base)) 0 0 42 [some (.inr (.inl a0)), some (.inr (.inl a1)), some (.inl x2)] [] h :=
  H (fun x2 h => zW p l e zrX4_copyFrom s m args below meth c D base 3 (MQ below (zQv D base Q) args s 0 0 (zFree base)) 0 0 42 [some (.inr (.inl a0)), some (.inr (.inl a1)), some (.inl x2)] [] h) (fun x2 h H => rX4_copyFrom_B42 hc (fun _ _ q => q) H)
set_option maxRecDepth 100000 in
set_option maxHeartbeats 4000000 in
theorem rX4_copyFrom (hc : zOk p s m args meth c D cX4_copyFrom 3 RX4 none) {a0 : Nat} {a1 : Nat} {h : Zm} {Q : Zm → Prop} (H : mX4_copyFrom a0 a1 h Q) : zW p l e zrX4_copyFrom s m args below meth c D base 3 (MQ below (zQv D base Q) args s 0 0 (zFree base)) 0 0 0 [some (.inr (.inl a0)), some (.inr (.inl a1)), none] [] h := by
  unfold mX4_copyFrom at H
  refine z_aload_n (pc := 0) hc dX4_copyFrom_0 rfl ?_
  refine z_aload_n (pc := 1) hc dX4_copyFrom_1 rfl ?_
  refine z_getI (pc := 2) hc dX4_copyFrom_2 zf_RX4_9 rfl rfl rfl H (fun v1 H => ?_)
  refine z_putI (pc := 5) hc dX4_copyFrom_5 zf_RX4_9 rfl rfl rfl H (fun h2 H => ?_)
  refine z_aload_n (pc := 8) hc dX4_copyFrom_8 rfl ?_
  refine z_aload_n (pc := 9) hc dX4_copyFrom_9 rfl ?_
  refine z_getI (pc := 10) hc dX4_copyFrom_10 zf_RX4_15 rfl rfl rfl H (fun v3 H => ?_)
  refine z_putI (pc := 13) hc dX4_copyFrom_13 zf_RX4_15 rfl rfl rfl H (fun h4 H => ?_)
  refine z_aload_n (pc := 16) hc dX4_copyFrom_16 rfl ?_
  refine z_aload_n (pc := 17) hc dX4_copyFrom_17 rfl ?_
  refine z_getI (pc := 18) hc dX4_copyFrom_18 zf_RX4_18 rfl rfl rfl H (fun v5 H => ?_)
  refine z_putI (pc := 21) hc dX4_copyFrom_21 zf_RX4_18 rfl rfl rfl H (fun h6 H => ?_)
  refine z_aload_n (pc := 24) hc dX4_copyFrom_24 rfl ?_
  refine z_aload_n (pc := 25) hc dX4_copyFrom_25 rfl ?_
  refine z_getI (pc := 26) hc dX4_copyFrom_26 zf_RX4_21 rfl rfl rfl H (fun v7 H => ?_)
  refine z_putI (pc := 29) hc dX4_copyFrom_29 zf_RX4_21 rfl rfl rfl H (fun h8 H => ?_)
  refine z_aload_n (pc := 32) hc dX4_copyFrom_32 rfl ?_
  refine z_aload_n (pc := 33) hc dX4_copyFrom_33 rfl ?_
  refine z_getI (pc := 34) hc dX4_copyFrom_34 zf_RX4_24 rfl rfl rfl H (fun v9 H => ?_)
  refine z_putI (pc := 37) hc dX4_copyFrom_37 zf_RX4_24 rfl rfl rfl H (fun h10 H => ?_)
  refine z_iconst (pc := 40) hc dX4_copyFrom_40 ?_
  refine z_istore_n (pc := 41) hc dX4_copyFrom_41 (by decide) (ρ' := [some (.inr (.inl a0)), some (.inr (.inl a1)), some (.inl 0)]) rfl rfl ?_
  exact rX4_copyFrom_H42 hc H
end
theorem metX4_copyFrom (l : Launch) (D : Zd) (base : Nat) {a0 : Nat} {a1 : Nat} {h : Zm} {Q : Zm → Prop} (H : mX4_copyFrom a0 a1 h Q) : zMet l D base yX4_copyFrom cX4_copyFrom 3 none zrX4_copyFrom [.inr (.inl a0), .inr (.inl a1)] h (zQv D base Q) :=
  z_met (by decide +kernel) (Nat.le_of_ble_eq_true rfl) rfl (fun p e s m args below meth c hc hn => rX4_copyFrom hc H)
def zrX5_has : Room := { frames := 1, cells := 0, slots := 0, locals := 22 }
def mX5_has (a0 : Nat) (x1 : Int) (h : Zm) (Q : Int → Zm → Prop) : Prop :=
  mX6_within x1 0 23 h fun v2 h1 => cEq v2 0
  (Q 0 h1)
  (cGr h1 15 a0 0 fun r3 => cLdR h1 r3 x1 fun r4 => cGi h1 12 r4 0 fun v5 => cEq v5 (-1)
    (Q 0 h1)
    (Q 1 h1))
section
variable {p : Program} {l : Launch} {e : Env} {s : State} {m : MethodId} {args : Array Value} {below : List Frame} {meth : Method} {c : Code} {D : Zd} {base : Nat}
set_option maxRecDepth 100000 in
set_option maxHeartbeats 4000000 in
theorem rX5_has (hc : zOk p s m args meth c D cX5_has 2 RX5 (some .boolean)) {a0 : Nat} {x1 : Int} {h : Zm} {Q : Int → Zm → Prop} (H : mX5_has a0 x1 h Q) : zW p l e zrX5_has s m args below meth c D base 2 (MQ below (zQi D base Q) args s 0 0 (zFree base)) 0 0 0 [some (.inr (.inl a0)), some (.inl x1)] [] h := by
  unfold mX5_has at H
  refine z_iload_n (pc := 0) hc dX5_has_0 rfl ?_
  refine z_iconst (pc := 1) hc dX5_has_1 ?_
  refine z_bipush (pc := 2) hc dX5_has_2 (by decide) ?_
  refine z_calI (z_runN (pc := 4) hc dX5_has_4 zw_RX5_42 (metX6_within _ _ _ H) rfl (Nat.le_of_ble_eq_true rfl) ⟨Nat.le_of_ble_eq_true rfl, Nat.le_of_ble_eq_true rfl⟩ ⟨by exact Nat.le_of_ble_eq_true rfl, by exact Nat.le_of_ble_eq_true rfl⟩) rfl ⟨rfl, rfl⟩ (fun v2 h1 H => ?_)
  refine z_if_eq (tgt := 27) (pc := 7) hc dX5_has_7 rfl H (fun H => ?_) (fun H => ?_)
  · refine z_iconst (pc := 27) hc dX5_has_27 ?_
    exact z_zreturn (pc := 28) hc dX5_has_28 ⟨Or.inl rfl, H⟩
  · refine z_aload_n (pc := 10) hc dX5_has_10 rfl ?_
    refine z_getR (pc := 11) hc dX5_has_11 zf_RX5_11 rfl rfl rfl H (fun r3 H => ?_)
    refine z_iload_n (pc := 14) hc dX5_has_14 rfl ?_
    refine z_aaload (pc := 15) hc dX5_has_15 H (fun r4 H => ?_)
    refine z_getI (pc := 16) hc dX5_has_16 zf_RX5_29 rfl rfl rfl H (fun v5 H => ?_)
    refine z_iconst (pc := 19) hc dX5_has_19 ?_
    refine z_icmp_eq (tgt := 27) (pc := 20) hc dX5_has_20 rfl H (fun H => ?_) (fun H => ?_)
    · refine z_iconst (pc := 27) hc dX5_has_27 ?_
      exact z_zreturn (pc := 28) hc dX5_has_28 ⟨Or.inl rfl, H⟩
    · refine z_iconst (pc := 23) hc dX5_has_23 ?_
      refine z_goto (tgt := 28) (pc := 24) hc dX5_has_24 rfl ?_
      exact z_zreturn (pc := 28) hc dX5_has_28 ⟨Or.inr rfl, H⟩
end
theorem metX5_has (l : Launch) (D : Zd) (base : Nat) {a0 : Nat} {x1 : Int} {h : Zm} {Q : Int → Zm → Prop} (H : mX5_has a0 x1 h Q) : zMet l D base yX5_has cX5_has 2 (some .boolean) zrX5_has [.inr (.inl a0), .inl x1] h (zQi D base Q) :=
  z_met (by decide +kernel) (Nat.le_of_ble_eq_true rfl) rfl (fun p e s m args below meth c hc hn => rX5_has hc H)
def zrX5_freeNumber : Room := { frames := 0, cells := 0, slots := 0, locals := 0 }
def mX5_freeNumber_B2 (X2 : Int → Zm → Prop) (a0 : Nat) (x1 : Int) (h : Zm) (Q : Int → Zm → Prop) : Prop :=
  cLt x1 24
  (cGr h 15 a0 0 fun r1 => cLdR h r1 x1 fun r2 => cGi h 12 r2 0 fun v3 => cEq v3 (-1)
    (Q x1 h)
    (X2 (x1 + 1) h))
  (Q (-1) h)
def mX5_freeNumber_H2  (a0 : Nat) (x1 : Int) (h : Zm) (Q : Int → Zm → Prop) : Prop :=
  lfp1 (fun X2 x1 h => mX5_freeNumber_B2 X2 a0 x1 h Q) x1 h
def mX5_freeNumber (a0 : Nat) (h : Zm) (Q : Int → Zm → Prop) : Prop :=
  mX5_freeNumber_H2  a0 1 h Q
section
variable {p : Program} {l : Launch} {e : Env} {s : State} {m : MethodId} {args : Array Value} {below : List Frame} {meth : Method} {c : Code} {D : Zd} {base : Nat}
set_option maxRecDepth 100000 in
set_option maxHeartbeats 4000000 in
theorem rX5_freeNumber_B2 (hc : zOk p s m args meth c D cX5_freeNumber 2 RX5 (some .int)) {X2 : Int → Zm → Prop} {a0 : Nat} {x1 : Int} {h : Zm} {Q : Int → Zm → Prop} (hX2 : ∀ (x1 : Int) (h : Zm), X2 x1 h → zW p l e zrX5_freeNumber s m args below meth c D base 2 (MQ below (zQi D base Q) args s 0 0 (zFree base)) 0 0 2 [some (.inr (.inl a0)), some (.inl x1)] [] h) (H : mX5_freeNumber_B2 X2 a0 x1 h Q) : zW p l e zrX5_freeNumber s m args below meth c D base 2 (MQ below (zQi D base Q) args s 0 0 (zFree base)) 0 0 2 [some (.inr (.inl a0)), some (.inl x1)] [] h := by
  unfold mX5_freeNumber_B2 at H
  refine z_iload_n (pc := 2) hc dX5_freeNumber_2 rfl ?_
  refine z_bipush (pc := 3) hc dX5_freeNumber_3 (by decide) ?_
  refine z_icmp_ge (tgt := 29) (pc := 5) hc dX5_freeNumber_5 rfl H (fun H => ?_) (fun H => ?_)
  · refine z_aload_n (pc := 8) hc dX5_freeNumber_8 rfl ?_
    refine z_getR (pc := 9) hc dX5_freeNumber_9 zf_RX5_11 rfl rfl rfl H (fun r1 H => ?_)
    refine z_iload_n (pc := 12) hc dX5_freeNumber_12 rfl ?_
    refine z_aaload (pc := 13) hc dX5_freeNumber_13 H (fun r2 H => ?_)
    refine z_getI (pc := 14) hc dX5_freeNumber_14 zf_RX5_29 rfl rfl rfl H (fun v3 H => ?_)
    refine z_iconst (pc := 17) hc dX5_freeNumber_17 ?_
    refine z_icmp_ne (tgt := 23) (pc := 18) hc dX5_freeNumber_18 rfl H (fun H => ?_) (fun H => ?_)
    · refine z_iload_n (pc := 21) hc dX5_freeNumber_21 rfl ?_
      exact z_ireturn (pc := 22) hc dX5_freeNumber_22 H
    · refine z_iinc (pc := 23) hc dX5_freeNumber_23 (by decide) rfl (ρ' := [some (.inr (.inl a0)), some (.inl (x1 + 1))]) rfl rfl ?_
      refine z_goto (tgt := 2) (pc := 26) hc dX5_freeNumber_26 rfl ?_
      exact hX2 _ _ H
  · refine z_iconst (pc := 29) hc dX5_freeNumber_29 ?_
    exact z_ireturn (pc := 30) hc dX5_freeNumber_30 H
theorem rX5_freeNumber_H2 (hc : zOk p s m args meth c D cX5_freeNumber 2 RX5 (some .int))  {a0 : Nat} {x1 : Int} {h : Zm} {Q : Int → Zm → Prop}  (H : mX5_freeNumber_H2  a0 x1 h Q) : zW p l e zrX5_freeNumber s m args below meth c D base 2 (MQ below (zQi D base Q) args s 0 0 (zFree base)) 0 0 2 [some (.inr (.inl a0)), some (.inl x1)] [] h :=
  H (fun x1 h => zW p l e zrX5_freeNumber s m args below meth c D base 2 (MQ below (zQi D base Q) args s 0 0 (zFree base)) 0 0 2 [some (.inr (.inl a0)), some (.inl x1)] [] h) (fun x1 h H => rX5_freeNumber_B2 hc (fun _ _ q => q) H)
set_option maxRecDepth 100000 in
set_option maxHeartbeats 4000000 in
theorem rX5_freeNumber (hc : zOk p s m args meth c D cX5_freeNumber 2 RX5 (some .int)) {a0 : Nat} {h : Zm} {Q : Int → Zm → Prop} (H : mX5_freeNumber a0 h Q) : zW p l e zrX5_freeNumber s m args below meth c D base 2 (MQ below (zQi D base Q) args s 0 0 (zFree base)) 0 0 0 [some (.inr (.inl a0)), none] [] h := by
  unfold mX5_freeNumber at H
  refine z_iconst (pc := 0) hc dX5_freeNumber_0 ?_
  refine z_istore_n (pc := 1) hc dX5_freeNumber_1 (by decide) (ρ' := [some (.inr (.inl a0)), some (.inl 1)]) rfl rfl ?_
  exact rX5_freeNumber_H2 hc H
end
theorem metX5_freeNumber (l : Launch) (D : Zd) (base : Nat) {a0 : Nat} {h : Zm} {Q : Int → Zm → Prop} (H : mX5_freeNumber a0 h Q) : zMet l D base yX5_freeNumber cX5_freeNumber 2 (some .int) zrX5_freeNumber [.inr (.inl a0)] h (zQi D base Q) :=
  z_met (by decide +kernel) (Nat.le_of_ble_eq_true rfl) rfl (fun p e s m args below meth c hc hn => rX5_freeNumber hc H)
def zrX5_startOf : Room := { frames := 0, cells := 0, slots := 0, locals := 0 }
def mX5_startOf_B2 (X2 : Int → Zm → Prop) (a0 : Nat) (x1 : Int) (x2 : Int) (h : Zm) (Q : Int → Zm → Prop) : Prop :=
  cGi h 15 a0 3 fun v1 => cLt x2 v1
  (cGr h 15 a0 1 fun r3 => cLd h 1 r3 x2 fun v4 => cEq v4 x1
    (Q x2 h)
    (X2 (x2 + 1) h))
  (cGi h 15 a0 3 fun v2 => Q v2 h)
def mX5_startOf_H2  (a0 : Nat) (x1 : Int) (x2 : Int) (h : Zm) (Q : Int → Zm → Prop) : Prop :=
  lfp1 (fun X2 x2 h => mX5_startOf_B2 X2 a0 x1 x2 h Q) x2 h
def mX5_startOf (a0 : Nat) (x1 : Int) (h : Zm) (Q : Int → Zm → Prop) : Prop :=
  mX5_startOf_H2  a0 x1 0 h Q
section
variable {p : Program} {l : Launch} {e : Env} {s : State} {m : MethodId} {args : Array Value} {below : List Frame} {meth : Method} {c : Code} {D : Zd} {base : Nat}
set_option maxRecDepth 100000 in
set_option maxHeartbeats 4000000 in
theorem rX5_startOf_B2 (hc : zOk p s m args meth c D cX5_startOf 3 RX5 (some .int)) {X2 : Int → Zm → Prop} {a0 : Nat} {x1 : Int} {x2 : Int} {h : Zm} {Q : Int → Zm → Prop} (hX2 : ∀ (x2 : Int) (h : Zm), X2 x2 h → zW p l e zrX5_startOf s m args below meth c D base 3 (MQ below (zQi D base Q) args s 0 0 (zFree base)) 0 0 2 [some (.inr (.inl a0)), some (.inl x1), some (.inl x2)] [] h) (H : mX5_startOf_B2 X2 a0 x1 x2 h Q) : zW p l e zrX5_startOf s m args below meth c D base 3 (MQ below (zQi D base Q) args s 0 0 (zFree base)) 0 0 2 [some (.inr (.inl a0)), some (.inl x1), some (.inl x2)] [] h := by
  unfold mX5_startOf_B2 at H
  refine z_iload_n (pc := 2) hc dX5_startOf_2 rfl ?_
  refine z_aload_n (pc := 3) hc dX5_startOf_3 rfl ?_
  refine z_getI (pc := 4) hc dX5_startOf_4 zf_RX5_25 rfl rfl rfl H (fun v1 H => ?_)
  refine z_icmp_ge (tgt := 28) (pc := 7) hc dX5_startOf_7 rfl H (fun H => ?_) (fun H => ?_)
  · refine z_aload_n (pc := 10) hc dX5_startOf_10 rfl ?_
    refine z_getR (pc := 11) hc dX5_startOf_11 zf_RX5_18 rfl rfl rfl H (fun r3 H => ?_)
    refine z_iload_n (pc := 14) hc dX5_startOf_14 rfl ?_
    refine z_iaload (pc := 15) hc dX5_startOf_15 H (fun v4 H => ?_)
    refine z_iload_n (pc := 16) hc dX5_startOf_16 rfl ?_
    refine z_icmp_ne (tgt := 22) (pc := 17) hc dX5_startOf_17 rfl H (fun H => ?_) (fun H => ?_)
    · refine z_iload_n (pc := 20) hc dX5_startOf_20 rfl ?_
      exact z_ireturn (pc := 21) hc dX5_startOf_21 H
    · refine z_iinc (pc := 22) hc dX5_startOf_22 (by decide) rfl (ρ' := [some (.inr (.inl a0)), some (.inl x1), some (.inl (x2 + 1))]) rfl rfl ?_
      refine z_goto (tgt := 2) (pc := 25) hc dX5_startOf_25 rfl ?_
      exact hX2 _ _ H
  · refine z_aload_n (pc := 28) hc dX5_startOf_28 rfl ?_
    refine z_getI (pc := 29) hc dX5_startOf_29 zf_RX5_25 rfl rfl rfl H (fun v2 H => ?_)
    exact z_ireturn (pc := 32) hc dX5_startOf_32 H
theorem rX5_startOf_H2 (hc : zOk p s m args meth c D cX5_startOf 3 RX5 (some .int))  {a0 : Nat} {x1 : Int} {x2 : Int} {h : Zm} {Q : Int → Zm → Prop}  (H : mX5_startOf_H2  a0 x1 x2 h Q) : zW p l e zrX5_startOf s m args below meth c D base 3 (MQ below (zQi D base Q) args s 0 0 (zFree base)) 0 0 2 [some (.inr (.inl a0)), some (.inl x1), some (.inl x2)] [] h :=
  H (fun x2 h => zW p l e zrX5_startOf s m args below meth c D base 3 (MQ below (zQi D base Q) args s 0 0 (zFree base)) 0 0 2 [some (.inr (.inl a0)), some (.inl x1), some (.inl x2)] [] h) (fun x2 h H => rX5_startOf_B2 hc (fun _ _ q => q) H)
set_option maxRecDepth 100000 in
set_option maxHeartbeats 4000000 in
theorem rX5_startOf (hc : zOk p s m args meth c D cX5_startOf 3 RX5 (some .int)) {a0 : Nat} {x1 : Int} {h : Zm} {Q : Int → Zm → Prop} (H : mX5_startOf a0 x1 h Q) : zW p l e zrX5_startOf s m args below meth c D base 3 (MQ below (zQi D base Q) args s 0 0 (zFree base)) 0 0 0 [some (.inr (.inl a0)), some (.inl x1), none] [] h := by
  unfold mX5_startOf at H
  refine z_iconst (pc := 0) hc dX5_startOf_0 ?_
  refine z_istore_n (pc := 1) hc dX5_startOf_1 (by decide) (ρ' := [some (.inr (.inl a0)), some (.inl x1), some (.inl 0)]) rfl rfl ?_
  exact rX5_startOf_H2 hc H
end
theorem metX5_startOf (l : Launch) (D : Zd) (base : Nat) {a0 : Nat} {x1 : Int} {h : Zm} {Q : Int → Zm → Prop} (H : mX5_startOf a0 x1 h Q) : zMet l D base yX5_startOf cX5_startOf 3 (some .int) zrX5_startOf [.inr (.inl a0), .inl x1] h (zQi D base Q) :=
  z_met (by decide +kernel) (Nat.le_of_ble_eq_true rfl) rfl (fun p e s m args below meth c hc hn => rX5_startOf hc H)
def zrJ9_min_7cf53 : Room := { frames := 0, cells := 0, slots := 0, locals := 0 }
def mJ9_min_7cf53 (x0 : Int) (x1 : Int) (h : Zm) (Q : Int → Zm → Prop) : Prop :=
  cLe x0 x1
  (Q x0 h)
  (Q x1 h)
section
variable {p : Program} {l : Launch} {e : Env} {s : State} {m : MethodId} {args : Array Value} {below : List Frame} {meth : Method} {c : Code} {D : Zd} {base : Nat}
set_option maxRecDepth 100000 in
set_option maxHeartbeats 4000000 in
theorem rJ9_min_7cf53 (hc : zOk p s m args meth c D cJ9_min_7cf53 2 RJ9 (some .int)) {x0 : Int} {x1 : Int} {h : Zm} {Q : Int → Zm → Prop} (H : mJ9_min_7cf53 x0 x1 h Q) : zW p l e zrJ9_min_7cf53 s m args below meth c D base 2 (MQ below (zQi D base Q) args s 0 0 (zFree base)) 0 0 0 [some (.inl x0), some (.inl x1)] [] h := by
  unfold mJ9_min_7cf53 at H
  refine z_iload_n (pc := 0) hc dJ9_min_7cf53_0 rfl ?_
  refine z_iload_n (pc := 1) hc dJ9_min_7cf53_1 rfl ?_
  refine z_icmp_gt (tgt := 9) (pc := 2) hc dJ9_min_7cf53_2 rfl H (fun H => ?_) (fun H => ?_)
  · refine z_iload_n (pc := 5) hc dJ9_min_7cf53_5 rfl ?_
    refine z_goto (tgt := 10) (pc := 6) hc dJ9_min_7cf53_6 rfl ?_
    exact z_ireturn (pc := 10) hc dJ9_min_7cf53_10 H
  · refine z_iload_n (pc := 9) hc dJ9_min_7cf53_9 rfl ?_
    exact z_ireturn (pc := 10) hc dJ9_min_7cf53_10 H
end
theorem metJ9_min_7cf53 (l : Launch) (D : Zd) (base : Nat) {x0 : Int} {x1 : Int} {h : Zm} {Q : Int → Zm → Prop} (H : mJ9_min_7cf53 x0 x1 h Q) : zMet l D base yJ9_min_7cf53 cJ9_min_7cf53 2 (some .int) zrJ9_min_7cf53 [.inl x0, .inl x1] h (zQi D base Q) :=
  z_met (by decide +kernel) (Nat.le_of_ble_eq_true rfl) rfl (fun p e s m args below meth c hc hn => rJ9_min_7cf53 hc H)
def zrX5_endOf : Room := { frames := 2, cells := 0, slots := 0, locals := 43 }
def mX5_endOf_B17 (X17 : Int → Zm → Prop) (a0 : Nat) (x2 : Int) (x3 : Int) (h : Zm) (Q : Int → Zm → Prop) : Prop :=
  cGi h 15 a0 3 fun v6 => cLt x2 v6
  (cGr h 15 a0 1 fun r10 => cLd h 1 r10 x2 fun v11 => cRc h 15 a0 <| mX5_nodeAt a0 v11 h fun r13 h12 => cGi h12 12 r13 2 fun v14 => cLe v14 x3
    (cGi h12 15 a0 3 fun v15 => mJ9_min_7cf53 x2 v15 h12 fun v17 h16 => Q v17 h16)
    (X17 (x2 + 1) h12))
  (cGi h 15 a0 3 fun v7 => mJ9_min_7cf53 x2 v7 h fun v9 h8 => Q v9 h8)
def mX5_endOf_H17  (a0 : Nat) (x2 : Int) (x3 : Int) (h : Zm) (Q : Int → Zm → Prop) : Prop :=
  lfp1 (fun X17 x2 h => mX5_endOf_B17 X17 a0 x2 x3 h Q) x2 h
def mX5_endOf (a0 : Nat) (x1 : Int) (h : Zm) (Q : Int → Zm → Prop) : Prop :=
  cRc h 15 a0 <| mX5_startOf a0 x1 h fun v2 h1 => cRc h1 15 a0 <| mX5_nodeAt a0 x1 h1 fun r4 h3 => cGi h3 12 r4 2 fun v5 => mX5_endOf_H17  a0 (v2 + 1) v5 h3 Q
section
variable {p : Program} {l : Launch} {e : Env} {s : State} {m : MethodId} {args : Array Value} {below : List Frame} {meth : Method} {c : Code} {D : Zd} {base : Nat}
set_option maxRecDepth 100000 in
set_option maxHeartbeats 4000000 in
theorem rX5_endOf_B17 (hc : zOk p s m args meth c D cX5_endOf 4 RX5 (some .int)) {X17 : Int → Zm → Prop} {a0 : Nat} {x2 : Int} {x3 : Int} {h : Zm} {Q : Int → Zm → Prop} (hX17 : ∀ (x2 : Int) (h : Zm), X17 x2 h → zW p l e zrX5_endOf s m args below meth c D base 4 (MQ below (zQi D base Q) args s 0 0 (zFree base)) 0 0 17 [some (.inr (.inl a0)), none, some (.inl x2), some (.inl x3)] [] h) (H : mX5_endOf_B17 X17 a0 x2 x3 h Q) : zW p l e zrX5_endOf s m args below meth c D base 4 (MQ below (zQi D base Q) args s 0 0 (zFree base)) 0 0 17 [some (.inr (.inl a0)), none, some (.inl x2), some (.inl x3)] [] h := by
  unfold mX5_endOf_B17 at H
  refine z_iload_n (pc := 17) hc dX5_endOf_17 rfl ?_
  refine z_aload_n (pc := 18) hc dX5_endOf_18 rfl ?_
  refine z_getI (pc := 19) hc dX5_endOf_19 zf_RX5_25 rfl rfl rfl H (fun v6 H => ?_)
  refine z_icmp_ge (tgt := 48) (pc := 22) hc dX5_endOf_22 rfl H (fun H => ?_) (fun H => ?_)
  · refine z_aload_n (pc := 25) hc dX5_endOf_25 rfl ?_
    refine z_aload_n (pc := 26) hc dX5_endOf_26 rfl ?_
    refine z_getR (pc := 27) hc dX5_endOf_27 zf_RX5_18 rfl rfl rfl H (fun r10 H => ?_)
    refine z_iload_n (pc := 30) hc dX5_endOf_30 rfl ?_
    refine z_iaload (pc := 31) hc dX5_endOf_31 H (fun v11 H => ?_)
    refine z_calR (z_runV (pc := 32) (ci := 5) (T := TX5) (N := 4) hc dX5_endOf_32 zw_RX5_50 (metX5_nodeAt _ _ _ H.2) rfl (Nat.le_of_ble_eq_true rfl) ⟨Nat.le_of_ble_eq_true rfl, Nat.le_of_ble_eq_true rfl⟩ ⟨by exact Nat.le_of_ble_eq_true rfl, by exact Nat.le_of_ble_eq_true rfl⟩ rfl H.1) rfl ⟨rfl, rfl⟩ (fun r13 h12 H => ?_)
    refine z_getI (pc := 35) hc dX5_endOf_35 zf_RX5_54 rfl rfl rfl H (fun v14 H => ?_)
    refine z_iload_n (pc := 38) hc dX5_endOf_38 rfl ?_
    refine z_icmp_le (tgt := 48) (pc := 39) hc dX5_endOf_39 rfl H (fun H => ?_) (fun H => ?_)
    · refine z_iload_n (pc := 48) hc dX5_endOf_48 rfl ?_
      refine z_aload_n (pc := 49) hc dX5_endOf_49 rfl ?_
      refine z_getI (pc := 50) hc dX5_endOf_50 zf_RX5_25 rfl rfl rfl H (fun v15 H => ?_)
      refine z_calI (z_runS (pc := 53) hc dX5_endOf_53 zw_RX5_57 (metJ9_min_7cf53 _ _ _ H) rfl (Nat.le_of_ble_eq_true rfl) ⟨Nat.le_of_ble_eq_true rfl, Nat.le_of_ble_eq_true rfl⟩ ⟨by exact Nat.le_of_ble_eq_true rfl, by exact Nat.le_of_ble_eq_true rfl⟩) rfl ⟨rfl, rfl⟩ (fun v17 h16 H => ?_)
      exact z_ireturn (pc := 56) hc dX5_endOf_56 H
    · refine z_iinc (pc := 42) hc dX5_endOf_42 (by decide) rfl (ρ' := [some (.inr (.inl a0)), none, some (.inl (x2 + 1)), some (.inl x3)]) rfl rfl ?_
      refine z_goto (tgt := 17) (pc := 45) hc dX5_endOf_45 rfl ?_
      exact hX17 _ _ H
  · refine z_iload_n (pc := 48) hc dX5_endOf_48 rfl ?_
    refine z_aload_n (pc := 49) hc dX5_endOf_49 rfl ?_
    refine z_getI (pc := 50) hc dX5_endOf_50 zf_RX5_25 rfl rfl rfl H (fun v7 H => ?_)
    refine z_calI (z_runS (pc := 53) hc dX5_endOf_53 zw_RX5_57 (metJ9_min_7cf53 _ _ _ H) rfl (Nat.le_of_ble_eq_true rfl) ⟨Nat.le_of_ble_eq_true rfl, Nat.le_of_ble_eq_true rfl⟩ ⟨by exact Nat.le_of_ble_eq_true rfl, by exact Nat.le_of_ble_eq_true rfl⟩) rfl ⟨rfl, rfl⟩ (fun v9 h8 H => ?_)
    exact z_ireturn (pc := 56) hc dX5_endOf_56 H
theorem rX5_endOf_H17 (hc : zOk p s m args meth c D cX5_endOf 4 RX5 (some .int))  {a0 : Nat} {x2 : Int} {x3 : Int} {h : Zm} {Q : Int → Zm → Prop}  (H : mX5_endOf_H17  a0 x2 x3 h Q) : zW p l e zrX5_endOf s m args below meth c D base 4 (MQ below (zQi D base Q) args s 0 0 (zFree base)) 0 0 17 [some (.inr (.inl a0)), none, some (.inl x2), some (.inl x3)] [] h :=
  H (fun x2 h => zW p l e zrX5_endOf s m args below meth c D base 4 (MQ below (zQi D base Q) args s 0 0 (zFree base)) 0 0 17 [some (.inr (.inl a0)), none, some (.inl x2), some (.inl x3)] [] h) (fun x2 h H => rX5_endOf_B17 hc (fun _ _ q => q) H)
set_option maxRecDepth 100000 in
set_option maxHeartbeats 4000000 in
theorem rX5_endOf (hc : zOk p s m args meth c D cX5_endOf 4 RX5 (some .int)) {a0 : Nat} {x1 : Int} {h : Zm} {Q : Int → Zm → Prop} (H : mX5_endOf a0 x1 h Q) : zW p l e zrX5_endOf s m args below meth c D base 4 (MQ below (zQi D base Q) args s 0 0 (zFree base)) 0 0 0 [some (.inr (.inl a0)), some (.inl x1), none, none] [] h := by
  unfold mX5_endOf at H
  refine z_aload_n (pc := 0) hc dX5_endOf_0 rfl ?_
  refine z_iload_n (pc := 1) hc dX5_endOf_1 rfl ?_
  refine z_calI (z_runV (pc := 2) (ci := 5) (T := TX5) (N := 4) hc dX5_endOf_2 zw_RX5_46 (metX5_startOf _ _ _ H.2) rfl (Nat.le_of_ble_eq_true rfl) ⟨Nat.le_of_ble_eq_true rfl, Nat.le_of_ble_eq_true rfl⟩ ⟨by exact Nat.le_of_ble_eq_true rfl, by exact Nat.le_of_ble_eq_true rfl⟩ rfl H.1) rfl ⟨rfl, rfl⟩ (fun v2 h1 H => ?_)
  refine z_iconst (pc := 5) hc dX5_endOf_5 ?_
  refine z_iadd (pc := 6) hc dX5_endOf_6 ?_
  refine z_istore_n (pc := 7) hc dX5_endOf_7 (by decide) (ρ' := [some (.inr (.inl a0)), some (.inl x1), some (.inl (v2 + 1)), none]) rfl rfl ?_
  refine z_aload_n (pc := 8) hc dX5_endOf_8 rfl ?_
  refine z_iload_n (pc := 9) hc dX5_endOf_9 rfl ?_
  refine z_calR (z_runV (pc := 10) (ci := 5) (T := TX5) (N := 4) hc dX5_endOf_10 zw_RX5_50 (metX5_nodeAt _ _ _ H.2) rfl (Nat.le_of_ble_eq_true rfl) ⟨Nat.le_of_ble_eq_true rfl, Nat.le_of_ble_eq_true rfl⟩ ⟨by exact Nat.le_of_ble_eq_true rfl, by exact Nat.le_of_ble_eq_true rfl⟩ rfl H.1) rfl ⟨rfl, rfl⟩ (fun r4 h3 H => ?_)
  refine z_getI (pc := 13) hc dX5_endOf_13 zf_RX5_54 rfl rfl rfl H (fun v5 H => ?_)
  refine z_istore_n (pc := 16) hc dX5_endOf_16 (by decide) (ρ' := [some (.inr (.inl a0)), some (.inl x1), some (.inl (v2 + 1)), some (.inl v5)]) rfl rfl ?_
  refine z_mask [true, false, true, true] (ρ' := [some (.inr (.inl a0)), none, some (.inl (v2 + 1)), some (.inl v5)]) rfl ?_
  exact rX5_endOf_H17 hc H
end
theorem metX5_endOf (l : Launch) (D : Zd) (base : Nat) {a0 : Nat} {x1 : Int} {h : Zm} {Q : Int → Zm → Prop} (H : mX5_endOf a0 x1 h Q) : zMet l D base yX5_endOf cX5_endOf 4 (some .int) zrX5_endOf [.inr (.inl a0), .inl x1] h (zQi D base Q) :=
  z_met (by decide +kernel) (Nat.le_of_ble_eq_true rfl) rfl (fun p e s m args below meth c hc hn => rX5_endOf hc H)
def zrX5_settle : Room := { frames := 2, cells := 0, slots := 0, locals := 43 }
def mX5_settle_B2 (X2 : Int → Zm → Prop) (a0 : Nat) (x1 : Int) (h : Zm) (Q : Zm → Prop) : Prop :=
  cGi h 15 a0 3 fun v1 => cLt x1 v1
  (cGr h 15 a0 1 fun r2 => cLd h 1 r2 x1 fun v3 => cRc h 15 a0 <| mX5_nodeAt a0 v3 h fun r5 h4 => cGi h4 12 r5 1 fun v6 => cRc h4 15 a0 <| mX5_nodeAt a0 v6 h4 fun r8 h7 => cRc h7 12 r5 <| mX2_settleBelow r5 r8 h7 fun h9 => X2 (x1 + 1) h9)
  (Q h)
def mX5_settle_H2  (a0 : Nat) (x1 : Int) (h : Zm) (Q : Zm → Prop) : Prop :=
  lfp1 (fun X2 x1 h => mX5_settle_B2 X2 a0 x1 h Q) x1 h
def mX5_settle (a0 : Nat) (h : Zm) (Q : Zm → Prop) : Prop :=
  mX5_settle_H2  a0 1 h Q
section
variable {p : Program} {l : Launch} {e : Env} {s : State} {m : MethodId} {args : Array Value} {below : List Frame} {meth : Method} {c : Code} {D : Zd} {base : Nat}
set_option maxRecDepth 100000 in
set_option maxHeartbeats 4000000 in
theorem rX5_settle_B2 (hc : zOk p s m args meth c D cX5_settle 3 RX5 none) {X2 : Int → Zm → Prop} {a0 : Nat} {x1 : Int} {h : Zm} {Q : Zm → Prop} (hX2 : ∀ (x1 : Int) (h : Zm), X2 x1 h → zW p l e zrX5_settle s m args below meth c D base 3 (MQ below (zQv D base Q) args s 0 0 (zFree base)) 0 0 2 [some (.inr (.inl a0)), some (.inl x1), none] [] h) (H : mX5_settle_B2 X2 a0 x1 h Q) : zW p l e zrX5_settle s m args below meth c D base 3 (MQ below (zQv D base Q) args s 0 0 (zFree base)) 0 0 2 [some (.inr (.inl a0)), some (.inl x1), none] [] h := by
  unfold mX5_settle_B2 at H
  refine z_iload_n (pc := 2) hc dX5_settle_2 rfl ?_
  refine z_aload_n (pc := 3) hc dX5_settle_3 rfl ?_
  refine z_getI (pc := 4) hc dX5_settle_4 zf_RX5_25 rfl rfl rfl H (fun v1 H => ?_)
  refine z_icmp_ge (tgt := 39) (pc := 7) hc dX5_settle_7 rfl H (fun H => ?_) (fun H => ?_)
  · refine z_aload_n (pc := 10) hc dX5_settle_10 rfl ?_
    refine z_aload_n (pc := 11) hc dX5_settle_11 rfl ?_
    refine z_getR (pc := 12) hc dX5_settle_12 zf_RX5_18 rfl rfl rfl H (fun r2 H => ?_)
    refine z_iload_n (pc := 15) hc dX5_settle_15 rfl ?_
    refine z_iaload (pc := 16) hc dX5_settle_16 H (fun v3 H => ?_)
    refine z_calR (z_runV (pc := 17) (ci := 5) (T := TX5) (N := 4) hc dX5_settle_17 zw_RX5_50 (metX5_nodeAt _ _ _ H.2) rfl (Nat.le_of_ble_eq_true rfl) ⟨Nat.le_of_ble_eq_true rfl, Nat.le_of_ble_eq_true rfl⟩ ⟨by exact Nat.le_of_ble_eq_true rfl, by exact Nat.le_of_ble_eq_true rfl⟩ rfl H.1) rfl ⟨rfl, rfl⟩ (fun r5 h4 H => ?_)
    refine z_astore_n (pc := 20) hc dX5_settle_20 (by decide) (ρ' := [some (.inr (.inl a0)), some (.inl x1), some (.inr (.inl r5))]) rfl rfl ?_
    refine z_aload_n (pc := 21) hc dX5_settle_21 rfl ?_
    refine z_aload_n (pc := 22) hc dX5_settle_22 rfl ?_
    refine z_aload_n (pc := 23) hc dX5_settle_23 rfl ?_
    refine z_getI (pc := 24) hc dX5_settle_24 zf_RX5_66 rfl rfl rfl H (fun v6 H => ?_)
    refine z_calR (z_runV (pc := 27) (ci := 5) (T := TX5) (N := 4) hc dX5_settle_27 zw_RX5_50 (metX5_nodeAt _ _ _ H.2) rfl (Nat.le_of_ble_eq_true rfl) ⟨Nat.le_of_ble_eq_true rfl, Nat.le_of_ble_eq_true rfl⟩ ⟨by exact Nat.le_of_ble_eq_true rfl, by exact Nat.le_of_ble_eq_true rfl⟩ rfl H.1) rfl ⟨rfl, rfl⟩ (fun r8 h7 H => ?_)
    refine z_calV0 (z_runV (pc := 30) (ci := 2) (T := TX2) (N := 18) hc dX5_settle_30 zw_RX5_82 (metX2_settleBelow _ _ _ H.2) rfl (Nat.le_of_ble_eq_true rfl) ⟨Nat.le_of_ble_eq_true rfl, Nat.le_of_ble_eq_true rfl⟩ ⟨by exact Nat.le_of_ble_eq_true rfl, by exact Nat.le_of_ble_eq_true rfl⟩ rfl H.1) rfl ⟨rfl, rfl⟩ (fun h9 H => ?_)
    refine z_iinc (pc := 33) hc dX5_settle_33 (by decide) rfl (ρ' := [some (.inr (.inl a0)), some (.inl (x1 + 1)), some (.inr (.inl r5))]) rfl rfl ?_
    refine z_goto (tgt := 2) (pc := 36) hc dX5_settle_36 rfl ?_
    refine z_mask [true, true, false] (ρ' := [some (.inr (.inl a0)), some (.inl (x1 + 1)), none]) rfl ?_
    exact hX2 _ _ H
  · exact z_return (pc := 39) hc dX5_settle_39 H
theorem rX5_settle_H2 (hc : zOk p s m args meth c D cX5_settle 3 RX5 none)  {a0 : Nat} {x1 : Int} {h : Zm} {Q : Zm → Prop}  (H : mX5_settle_H2  a0 x1 h Q) : zW p l e zrX5_settle s m args below meth c D base 3 (MQ below (zQv D base Q) args s 0 0 (zFree base)) 0 0 2 [some (.inr (.inl a0)), some (.inl x1), none] [] h :=
  H (fun x1 h => zW p l e zrX5_settle s m args below meth c D base 3 (MQ below (zQv D base Q) args s 0 0 (zFree base)) 0 0 2 [some (.inr (.inl a0)), some (.inl x1), none] [] h) (fun x1 h H => rX5_settle_B2 hc (fun _ _ q => q) H)
set_option maxRecDepth 100000 in
set_option maxHeartbeats 4000000 in
theorem rX5_settle (hc : zOk p s m args meth c D cX5_settle 3 RX5 none) {a0 : Nat} {h : Zm} {Q : Zm → Prop} (H : mX5_settle a0 h Q) : zW p l e zrX5_settle s m args below meth c D base 3 (MQ below (zQv D base Q) args s 0 0 (zFree base)) 0 0 0 [some (.inr (.inl a0)), none, none] [] h := by
  unfold mX5_settle at H
  refine z_iconst (pc := 0) hc dX5_settle_0 ?_
  refine z_istore_n (pc := 1) hc dX5_settle_1 (by decide) (ρ' := [some (.inr (.inl a0)), some (.inl 1), none]) rfl rfl ?_
  exact rX5_settle_H2 hc H
end
theorem metX5_settle (l : Launch) (D : Zd) (base : Nat) {a0 : Nat} {h : Zm} {Q : Zm → Prop} (H : mX5_settle a0 h Q) : zMet l D base yX5_settle cX5_settle 3 none zrX5_settle [.inr (.inl a0)] h (zQv D base Q) :=
  z_met (by decide +kernel) (Nat.le_of_ble_eq_true rfl) rfl (fun p e s m args below meth c hc hn => rX5_settle hc H)
