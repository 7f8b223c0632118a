/-! printed by gen.py: X5_init X4_init X5_copyFrom X4_copyFrom X5_has X5_freeNumber X5_startOf J9_min_7cf53 X5_endOf X5_belowOf X5_childrenOf X5_placeOf X5_settle X5_putIn X5_append X5_cutOut X5_cutAndFree X5_canHang X5_hang -/
def zrX5_init : Room := { frames := 2, cells := 27, slots := 504, locals := 40 }
def mX5_init_B15 (X15 : Int → Zm → Prop) (a0 : Nat) (x1 : Int) (h : Zm) (Q : Zm → Prop) : Prop :=
  cLt x1 24
  (cGr h 15 a0 0 fun r4 => cNw h 12 18 fun r5 h6 => cRc h6 12 r5 <| mX2_init r5 h6 fun h7 => cStR h7 5 12 r4 x1 r5 fun h8 => X15 (x1 + 1) h8)
  (cNw h 1 24 fun r9 h10 => cPr h10 15 a0 1 r9 fun h11 => cNw h11 1 24 fun r12 h13 => cPr h13 15 a0 2 r12 fun h14 => cPi h14 15 a0 3 1 fun h15 => cGr h15 15 a0 0 fun r16 => cLdR h15 r16 0 fun r17 => cPi h15 12 r17 0 0 fun h18 => cGr h18 15 a0 0 fun r19 => cLdR h18 r19 0 fun r20 => cPi h18 12 r20 3 100 fun h21 => cGr h21 15 a0 0 fun r22 => cLdR h21 r22 0 fun r23 => cPi h21 12 r23 6 100 fun h24 => Q h24)
def mX5_init_H15  (a0 : Nat) (x1 : Int) (h : Zm) (Q : Zm → Prop) : Prop :=
  lfp1 (fun X15 x1 h => mX5_init_B15 X15 a0 x1 h Q) x1 h
def mX5_init (a0 : Nat) (h : Zm) (Q : Zm → Prop) : Prop :=
  cRc h 15 a0 <| cNw h 5 24 fun r1 h2 => cPr h2 15 a0 0 r1 fun h3 => mX5_init_H15  a0 0 h3 Q
section
variable {p : Program} {l : Launch} {e : Env} {s : State} {m : MethodId} {args : Array Value} {below : List Frame} {meth : Method} {c : Code} {D : Zd} {base : Nat}
set_option maxRecDepth 100000 in
set_option maxHeartbeats 4000000 in
theorem rX5_init_B15 (hc : zOk p s m args meth c D cX5_init 2 RX5 none) (hin : meth.name = "<init>") {X15 : Int → Zm → Prop} {a0 : Nat} {x1 : Int} {h : Zm} {Q : Zm → Prop} (hX15 : ∀ (x1 : Int) (h : Zm), 0 ≤ x1 ∧ x1 ≤ 24 → X15 x1 h → zW p l e zrX5_init s m args below meth c D base 2 (MQ below (zQv D base Q) args s 27 504 (zFree base)) (1 + 1 * x1.toNat) (24 + 18 * x1.toNat) 15 [some (.inr a0), some (.inl x1)] [] h) (hg : 0 ≤ x1 ∧ x1 ≤ 24) (H : mX5_init_B15 X15 a0 x1 h Q) : zW p l e zrX5_init s m args below meth c D base 2 (MQ below (zQv D base Q) args s 27 504 (zFree base)) (1 + 1 * x1.toNat) (24 + 18 * x1.toNat) 15 [some (.inr a0), some (.inl x1)] [] h := by
  unfold mX5_init_B15 at H
  refine z_iload_n (pc := 15) hc dX5_init_15 rfl ?_
  refine z_bipush (pc := 16) hc dX5_init_16 (by decide) ?_
  refine z_icmp_geF (tgt := 40) (pc := 18) hc dX5_init_18 rfl H (fun hq H => ?_) (fun hq H => ?_)
  · refine z_aload_n (pc := 21) hc dX5_init_21 rfl ?_
    refine z_getR (pc := 22) hc dX5_init_22 zf_RX5_11 rfl rfl rfl H (fun r4 H => ?_)
    refine z_iload_n (pc := 25) hc dX5_init_25 rfl ?_
    refine z_new (pc := 26) (ci := 2) hc dX5_init_26 zc2 (by decide +kernel) (zT_mem 70 (by decide +kernel) rfl) (zT_mem 72 (by decide +kernel) rfl) (zT_mem 44 (by decide +kernel) rfl) (by (show _ + 1 ≤ 27; omega)) (by (show _ + 18 ≤ 504; omega)) H (fun r5 h6 H => ?_)
    refine z_dup (pc := 29) hc dX5_init_29 ?_
    refine z_calV (mc := 0) (ms := 0) (z_runI (pc := 30) hc dX5_init_30 zw_RX5_17 (metX2_init _ _ _ H.2) rfl (Nat.le_of_ble_eq_true rfl) ⟨Nat.le_of_ble_eq_true rfl, Nat.le_of_ble_eq_true rfl⟩ ⟨by (show _ + 0 ≤ 27; omega), by (show _ + 0 ≤ 504; omega)⟩ (d := 12) (by decide) H.1) rfl ⟨rfl, rfl⟩ (fun h7 H => ?_)
    refine z_aastore (pc := 33) (ci := 2) (C := RX2) (T := TX2) (N := 18) hc dX5_init_33 (by decide) rfl rfl rfl H (fun h8 H => ?_)
    refine z_iinc (pc := 34) hc dX5_init_34 (by decide) rfl (ρ' := [some (.inr a0), some (.inl (x1 + 1))]) rfl ?_
    refine z_goto (tgt := 15) (pc := 37) hc dX5_init_37 rfl ?_
    refine z_cells (cells' := 1 + 1 * ((x1 + 1)).toNat) (slots' := 24 + 18 * ((x1 + 1)).toNat) (by omega) (by omega) ?_
    exact hX15 _ _ ⟨by omega, by omega⟩ H
  · refine z_cells (cells' := 25) (slots' := 456) (by omega) (by omega) ?_
    refine z_aload_n (pc := 40) hc dX5_init_40 rfl ?_
    refine z_bipush (pc := 41) hc dX5_init_41 (by decide) ?_
    refine z_newarr (pc := 43) (t := 1) (n := 24) hc dX5_init_43 (by decide) rfl (zT_mem 165 (by decide +kernel) rfl) (by decide) (by exact Nat.le_of_ble_eq_true rfl) (by exact Nat.le_of_ble_eq_true rfl) H (fun r9 h10 H => ?_)
    refine z_putR (pc := 45) hc dX5_init_45 zf_RX5_18 rfl rfl rfl hin (fun C T N q => by cases q; rfl) H (fun h11 H => ?_)
    refine z_aload_n (pc := 48) hc dX5_init_48 rfl ?_
    refine z_bipush (pc := 49) hc dX5_init_49 (by decide) ?_
    refine z_newarr (pc := 51) (t := 1) (n := 24) hc dX5_init_51 (by decide) rfl (zT_mem 165 (by decide +kernel) rfl) (by decide) (by exact Nat.le_of_ble_eq_true rfl) (by exact Nat.le_of_ble_eq_true rfl) H (fun r12 h13 H => ?_)
    refine z_putR (pc := 53) hc dX5_init_53 zf_RX5_22 rfl rfl rfl hin (fun C T N q => by cases q; rfl) H (fun h14 H => ?_)
    refine z_aload_n (pc := 56) hc dX5_init_56 rfl ?_
    refine z_iconst (pc := 57) hc dX5_init_57 ?_
    refine z_putI (pc := 58) hc dX5_init_58 zf_RX5_25 rfl rfl rfl H (fun h15 H => ?_)
    refine z_aload_n (pc := 61) hc dX5_init_61 rfl ?_
    refine z_getR (pc := 62) hc dX5_init_62 zf_RX5_11 rfl rfl rfl H (fun r16 H => ?_)
    refine z_iconst (pc := 65) hc dX5_init_65 ?_
    refine z_aaload (pc := 66) hc dX5_init_66 H (fun r17 H => ?_)
    refine z_iconst (pc := 67) hc dX5_init_67 ?_
    refine z_putI (pc := 68) hc dX5_init_68 zf_RX5_29 rfl rfl rfl H (fun h18 H => ?_)
    refine z_aload_n (pc := 71) hc dX5_init_71 rfl ?_
    refine z_getR (pc := 72) hc dX5_init_72 zf_RX5_11 rfl rfl rfl H (fun r19 H => ?_)
    refine z_iconst (pc := 75) hc dX5_init_75 ?_
    refine z_aaload (pc := 76) hc dX5_init_76 H (fun r20 H => ?_)
    refine z_bipush (pc := 77) hc dX5_init_77 (by decide) ?_
    refine z_putI (pc := 79) hc dX5_init_79 zf_RX5_32 rfl rfl rfl H (fun h21 H => ?_)
    refine z_aload_n (pc := 82) hc dX5_init_82 rfl ?_
    refine z_getR (pc := 83) hc dX5_init_83 zf_RX5_11 rfl rfl rfl H (fun r22 H => ?_)
    refine z_iconst (pc := 86) hc dX5_init_86 ?_
    refine z_aaload (pc := 87) hc dX5_init_87 H (fun r23 H => ?_)
    refine z_bipush (pc := 88) hc dX5_init_88 (by decide) ?_
    refine z_putI (pc := 90) hc dX5_init_90 zf_RX5_35 rfl rfl rfl H (fun h24 H => ?_)
    refine z_cells (cells' := 27) (slots' := 504) (by omega) (by omega) ?_
    exact z_return (pc := 93) hc dX5_init_93 H
theorem rX5_init_H15 (hc : zOk p s m args meth c D cX5_init 2 RX5 none) (hin : meth.name = "<init>")  {a0 : Nat} {x1 : Int} {h : Zm} {Q : Zm → Prop}  (hg : 0 ≤ x1 ∧ x1 ≤ 24) (H : mX5_init_H15  a0 x1 h Q) : zW p l e zrX5_init s m args below meth c D base 2 (MQ below (zQv D base Q) args s 27 504 (zFree base)) (1 + 1 * x1.toNat) (24 + 18 * x1.toNat) 15 [some (.inr a0), some (.inl x1)] [] h :=
  H (fun x1 h => 0 ≤ x1 ∧ x1 ≤ 24 → zW p l e zrX5_init s m args below meth c D base 2 (MQ below (zQv D base Q) args s 27 504 (zFree base)) (1 + 1 * x1.toNat) (24 + 18 * x1.toNat) 15 [some (.inr a0), some (.inl x1)] [] h) (fun x1 h H hg => rX5_init_B15 hc hin (fun _ _ g q => q g) hg H) hg
set_option maxRecDepth 100000 in
set_option maxHeartbeats 4000000 in
theorem rX5_init (hc : zOk p s m args meth c D cX5_init 2 RX5 none) (hin : meth.name = "<init>") {a0 : Nat} {h : Zm} {Q : Zm → Prop} (H : mX5_init a0 h Q) : zW p l e zrX5_init s m args below meth c D base 2 (MQ below (zQv D base Q) args s 27 504 (zFree base)) 0 0 0 [some (.inr a0), none] [] h := by
  unfold mX5_init at H
  refine z_aload_n (pc := 0) hc dX5_init_0 rfl ?_
  refine z_objInit (pc := 1) hc dX5_init_1 (zT_mem 69 (by decide +kernel) rfl) (zT_mem 56 (by decide +kernel) rfl) (zT_mem 57 (by decide +kernel) rfl) (by decide) (by decide) (by decide) (d := 15) (by decide) H (fun H => ?_)
  refine z_aload_n (pc := 4) hc dX5_init_4 rfl ?_
  refine z_bipush (pc := 5) hc dX5_init_5 (by decide) ?_
  refine z_anew (pc := 7) (t := 5) (n := 24) (C := RX2) hc dX5_init_7 (by decide) rfl (zT_mem 70 (by decide +kernel) rfl) (by decide +kernel) (by decide) (by exact Nat.le_of_ble_eq_true rfl) (by exact Nat.le_of_ble_eq_true rfl) H (fun r1 h2 H => ?_)
  refine z_putR (pc := 10) hc dX5_init_10 zf_RX5_11 rfl rfl rfl hin (fun C T N q => by cases q; rfl) H (fun h3 H => ?_)
  refine z_iconst (pc := 13) hc dX5_init_13 ?_
  refine z_istore_n (pc := 14) hc dX5_init_14 (by decide) (ρ' := [some (.inr a0), some (.inl 0)]) rfl ?_
  refine z_cells (cells' := 1 + 1 * (0 : Int).toNat) (slots' := 24 + 18 * (0 : Int).toNat) (by omega) (by omega) ?_
  exact rX5_init_H15 hc hin ⟨by omega, by omega⟩ H
end
theorem metX5_init (l : Launch) (D : Zd) (base : Nat) {a0 : Nat} {h : Zm} {Q : Zm → Prop} (H : mX5_init a0 h Q) : zMet l D base yX5_init cX5_init 2 none zrX5_init [.inr a0] h (zQv D base Q) :=
  z_met (by decide +kernel) (Nat.le_of_ble_eq_true rfl) (fun p e s m args below meth c hc hn => rX5_init hc hn H)
def zrX4_init : Room := { frames := 3, cells := 51, slots := 651, locals := 61 }
def mX4_init_B84 (X84 : Int → Zm → Prop) (a0 : Nat) (x1 : Int) (h : Zm) (Q : Zm → Prop) : Prop :=
  cLt x1 7
  (cGr h 14 a0 7 fun r18 => cNw h 10 3 fun r19 h20 => cRc h20 10 r19 <| mX0_init r19 h20 fun h21 => cStR h21 4 10 r18 x1 r19 fun h22 => X84 (x1 + 1) h22)
  (Q h)
def mX4_init_H84  (a0 : Nat) (x1 : Int) (h : Zm) (Q : Zm → Prop) : Prop :=
  lfp1 (fun X84 x1 h => mX4_init_B84 X84 a0 x1 h Q) x1 h
def mX4_init_B44 (X44 : Int → Zm → Prop) (a0 : Nat) (x1 : Int) (h : Zm) (Q : Zm → Prop) : Prop :=
  cLt x1 3
  (cGr h 14 a0 5 fun r16 => cSt h r16 x1 1 fun h17 => X44 (x1 + 1) h17)
  (cNw h 15 4 fun r9 h10 => cRc h10 15 r9 <| mX5_init r9 h10 fun h11 => cPr h11 14 a0 6 r9 fun h12 => cNw h12 4 7 fun r13 h14 => cPr h14 14 a0 7 r13 fun h15 => mX4_init_H84  a0 0 h15 Q)
def mX4_init_H44  (a0 : Nat) (x1 : Int) (h : Zm) (Q : Zm → Prop) : Prop :=
  lfp1 (fun X44 x1 h => mX4_init_B44 X44 a0 x1 h Q) x1 h
def mX4_init (a0 : Nat) (h : Zm) (Q : Zm → Prop) : Prop :=
  cRc h 14 a0 <| cPi h 14 a0 0 8 fun h1 => cPi h1 14 a0 1 6 fun h2 => cPi h2 14 a0 2 50 fun h3 => cPi h3 14 a0 3 40 fun h4 => cPi h4 14 a0 4 700 fun h5 => cNw h5 1 3 fun r6 h7 => cPr h7 14 a0 5 r6 fun h8 => mX4_init_H44  a0 0 h8 Q
section
variable {p : Program} {l : Launch} {e : Env} {s : State} {m : MethodId} {args : Array Value} {below : List Frame} {meth : Method} {c : Code} {D : Zd} {base : Nat}
set_option maxRecDepth 100000 in
set_option maxHeartbeats 4000000 in
theorem rX4_init_B84 (hc : zOk p s m args meth c D cX4_init 2 RX4 none) (hin : meth.name = "<init>") {X84 : Int → Zm → Prop} {a0 : Nat} {x1 : Int} {h : Zm} {Q : Zm → Prop} (hX84 : ∀ (x1 : Int) (h : Zm), 0 ≤ x1 ∧ x1 ≤ 7 → X84 x1 h → zW p l e zrX4_init s m args below meth c D base 2 (MQ below (zQv D base Q) args s 51 651 (zFree base)) (30 + 3 * x1.toNat) (518 + 19 * x1.toNat) 84 [some (.inr a0), some (.inl x1)] [] h) (hg : 0 ≤ x1 ∧ x1 ≤ 7) (H : mX4_init_B84 X84 a0 x1 h Q) : zW p l e zrX4_init s m args below meth c D base 2 (MQ below (zQv D base Q) args s 51 651 (zFree base)) (30 + 3 * x1.toNat) (518 + 19 * x1.toNat) 84 [some (.inr a0), some (.inl x1)] [] h := by
  unfold mX4_init_B84 at H
  refine z_iload_n (pc := 84) hc dX4_init_84 rfl ?_
  refine z_bipush (pc := 85) hc dX4_init_85 (by decide) ?_
  refine z_icmp_geF (tgt := 109) (pc := 87) hc dX4_init_87 rfl H (fun hq H => ?_) (fun hq H => ?_)
  · refine z_aload_n (pc := 90) hc dX4_init_90 rfl ?_
    refine z_getR (pc := 91) hc dX4_init_91 zf_RX4_40 rfl rfl rfl H (fun r18 H => ?_)
    refine z_iload_n (pc := 94) hc dX4_init_94 rfl ?_
    refine z_new (pc := 95) (ci := 0) hc dX4_init_95 zc0 (by decide +kernel) (zT_mem 183 (by decide +kernel) rfl) (zT_mem 185 (by decide +kernel) rfl) (zT_mem 45 (by decide +kernel) rfl) (by (show _ + 1 ≤ 51; omega)) (by (show _ + 3 ≤ 651; omega)) H (fun r19 h20 H => ?_)
    refine z_dup (pc := 98) hc dX4_init_98 ?_
    refine z_calV (mc := 2) (ms := 16) (z_runI (pc := 99) hc dX4_init_99 zw_RX4_44 (metX0_init _ _ _ H.2) rfl (Nat.le_of_ble_eq_true rfl) ⟨Nat.le_of_ble_eq_true rfl, Nat.le_of_ble_eq_true rfl⟩ ⟨by (show _ + 2 ≤ 51; omega), by (show _ + 16 ≤ 651; omega)⟩ (d := 10) (by decide) H.1) rfl ⟨rfl, rfl⟩ (fun h21 H => ?_)
    refine z_aastore (pc := 102) (ci := 0) (C := RX0) (T := TX0) (N := 3) hc dX4_init_102 (by decide) rfl rfl rfl H (fun h22 H => ?_)
    refine z_iinc (pc := 103) hc dX4_init_103 (by decide) rfl (ρ' := [some (.inr a0), some (.inl (x1 + 1))]) rfl ?_
    refine z_goto (tgt := 84) (pc := 106) hc dX4_init_106 rfl ?_
    refine z_cells (cells' := 30 + 3 * ((x1 + 1)).toNat) (slots' := 518 + 19 * ((x1 + 1)).toNat) (by omega) (by omega) ?_
    exact hX84 _ _ ⟨by omega, by omega⟩ H
  · refine z_cells (cells' := 51) (slots' := 651) (by omega) (by omega) ?_
    refine z_cells (cells' := 51) (slots' := 651) (by omega) (by omega) ?_
    exact z_return (pc := 109) hc dX4_init_109 H
theorem rX4_init_H84 (hc : zOk p s m args meth c D cX4_init 2 RX4 none) (hin : meth.name = "<init>")  {a0 : Nat} {x1 : Int} {h : Zm} {Q : Zm → Prop}  (hg : 0 ≤ x1 ∧ x1 ≤ 7) (H : mX4_init_H84  a0 x1 h Q) : zW p l e zrX4_init s m args below meth c D base 2 (MQ below (zQv D base Q) args s 51 651 (zFree base)) (30 + 3 * x1.toNat) (518 + 19 * x1.toNat) 84 [some (.inr a0), some (.inl x1)] [] h :=
  H (fun x1 h => 0 ≤ x1 ∧ x1 ≤ 7 → zW p l e zrX4_init s m args below meth c D base 2 (MQ below (zQv D base Q) args s 51 651 (zFree base)) (30 + 3 * x1.toNat) (518 + 19 * x1.toNat) 84 [some (.inr a0), some (.inl x1)] [] h) (fun x1 h H hg => rX4_init_B84 hc hin (fun _ _ g q => q g) hg H) hg
set_option maxRecDepth 100000 in
set_option maxHeartbeats 4000000 in
theorem rX4_init_B44 (hc : zOk p s m args meth c D cX4_init 2 RX4 none) (hin : meth.name = "<init>") {X44 : Int → Zm → Prop} {a0 : Nat} {x1 : Int} {h : Zm} {Q : Zm → Prop} (hX44 : ∀ (x1 : Int) (h : Zm), X44 x1 h → zW p l e zrX4_init s m args below meth c D base 2 (MQ below (zQv D base Q) args s 51 651 (zFree base)) 1 3 44 [some (.inr a0), some (.inl x1)] [] h) (H : mX4_init_B44 X44 a0 x1 h Q) : zW p l e zrX4_init s m args below meth c D base 2 (MQ below (zQv D base Q) args s 51 651 (zFree base)) 1 3 44 [some (.inr a0), some (.inl x1)] [] h := by
  unfold mX4_init_B44 at H
  refine z_iload_n (pc := 44) hc dX4_init_44 rfl ?_
  refine z_iconst (pc := 45) hc dX4_init_45 ?_
  refine z_icmp_ge (tgt := 62) (pc := 46) hc dX4_init_46 rfl H (fun H => ?_) (fun H => ?_)
  · refine z_aload_n (pc := 49) hc dX4_init_49 rfl ?_
    refine z_getR (pc := 50) hc dX4_init_50 zf_RX4_27 rfl rfl rfl H (fun r16 H => ?_)
    refine z_iload_n (pc := 53) hc dX4_init_53 rfl ?_
    refine z_iconst (pc := 54) hc dX4_init_54 ?_
    refine z_iastore (pc := 55) hc dX4_init_55 H (fun h17 H => ?_)
    refine z_iinc (pc := 56) hc dX4_init_56 (by decide) rfl (ρ' := [some (.inr a0), some (.inl (x1 + 1))]) rfl ?_
    refine z_goto (tgt := 44) (pc := 59) hc dX4_init_59 rfl ?_
    refine z_cells (cells' := 1) (slots' := 3) (by omega) (by omega) ?_
    exact hX44 _ _ H
  · refine z_aload_n (pc := 62) hc dX4_init_62 rfl ?_
    refine z_new (pc := 63) (ci := 5) hc dX4_init_63 zc5 (by decide +kernel) (zT_mem 64 (by decide +kernel) rfl) (zT_mem 65 (by decide +kernel) rfl) (zT_mem 43 (by decide +kernel) rfl) (by exact Nat.le_of_ble_eq_true rfl) (by exact Nat.le_of_ble_eq_true rfl) H (fun r9 h10 H => ?_)
    refine z_dup (pc := 66) hc dX4_init_66 ?_
    refine z_calV (mc := 27) (ms := 504) (z_runI (pc := 67) hc dX4_init_67 zw_RX4_33 (metX5_init _ _ _ H.2) rfl (Nat.le_of_ble_eq_true rfl) ⟨Nat.le_of_ble_eq_true rfl, Nat.le_of_ble_eq_true rfl⟩ ⟨by exact Nat.le_of_ble_eq_true rfl, by exact Nat.le_of_ble_eq_true rfl⟩ (d := 15) (by decide) H.1) rfl ⟨rfl, rfl⟩ (fun h11 H => ?_)
    refine z_putR (pc := 70) hc dX4_init_70 zf_RX4_34 rfl rfl rfl hin (fun C T N q => by cases q; rfl) H (fun h12 H => ?_)
    refine z_aload_n (pc := 73) hc dX4_init_73 rfl ?_
    refine z_bipush (pc := 74) hc dX4_init_74 (by decide) ?_
    refine z_anew (pc := 76) (t := 4) (n := 7) (C := RX0) hc dX4_init_76 (by decide) rfl (zT_mem 183 (by decide +kernel) rfl) (by decide +kernel) (by decide) (by exact Nat.le_of_ble_eq_true rfl) (by exact Nat.le_of_ble_eq_true rfl) H (fun r13 h14 H => ?_)
    refine z_putR (pc := 79) hc dX4_init_79 zf_RX4_40 rfl rfl rfl hin (fun C T N q => by cases q; rfl) H (fun h15 H => ?_)
    refine z_iconst (pc := 82) hc dX4_init_82 ?_
    refine z_istore_n (pc := 83) hc dX4_init_83 (by decide) (ρ' := [some (.inr a0), some (.inl 0)]) rfl ?_
    refine z_cells (cells' := 30 + 3 * (0 : Int).toNat) (slots' := 518 + 19 * (0 : Int).toNat) (by omega) (by omega) ?_
    exact rX4_init_H84 hc hin ⟨by omega, by omega⟩ H
theorem rX4_init_H44 (hc : zOk p s m args meth c D cX4_init 2 RX4 none) (hin : meth.name = "<init>")  {a0 : Nat} {x1 : Int} {h : Zm} {Q : Zm → Prop}  (H : mX4_init_H44  a0 x1 h Q) : zW p l e zrX4_init s m args below meth c D base 2 (MQ below (zQv D base Q) args s 51 651 (zFree base)) 1 3 44 [some (.inr a0), some (.inl x1)] [] h :=
  H (fun x1 h => zW p l e zrX4_init s m args below meth c D base 2 (MQ below (zQv D base Q) args s 51 651 (zFree base)) 1 3 44 [some (.inr a0), some (.inl x1)] [] h) (fun x1 h H => rX4_init_B44 hc hin (fun _ _ q => q) H)
set_option maxRecDepth 100000 in
set_option maxHeartbeats 4000000 in
theorem rX4_init (hc : zOk p s m args meth c D cX4_init 2 RX4 none) (hin : meth.name = "<init>") {a0 : Nat} {h : Zm} {Q : Zm → Prop} (H : mX4_init a0 h Q) : zW p l e zrX4_init s m args below meth c D base 2 (MQ below (zQv D base Q) args s 51 651 (zFree base)) 0 0 0 [some (.inr a0), none] [] h := by
  unfold mX4_init at H
  refine z_aload_n (pc := 0) hc dX4_init_0 rfl ?_
  refine z_objInit (pc := 1) hc dX4_init_1 (zT_mem 63 (by decide +kernel) rfl) (zT_mem 56 (by decide +kernel) rfl) (zT_mem 57 (by decide +kernel) rfl) (by decide) (by decide) (by decide) (d := 14) (by decide) H (fun H => ?_)
  refine z_aload_n (pc := 4) hc dX4_init_4 rfl ?_
  refine z_bipush (pc := 5) hc dX4_init_5 (by decide) ?_
  refine z_putI (pc := 7) hc dX4_init_7 zf_RX4_9 rfl rfl rfl H (fun h1 H => ?_)
  refine z_aload_n (pc := 10) hc dX4_init_10 rfl ?_
  refine z_bipush (pc := 11) hc dX4_init_11 (by decide) ?_
  refine z_putI (pc := 13) hc dX4_init_13 zf_RX4_15 rfl rfl rfl H (fun h2 H => ?_)
  refine z_aload_n (pc := 16) hc dX4_init_16 rfl ?_
  refine z_bipush (pc := 17) hc dX4_init_17 (by decide) ?_
  refine z_putI (pc := 19) hc dX4_init_19 zf_RX4_18 rfl rfl rfl H (fun h3 H => ?_)
  refine z_aload_n (pc := 22) hc dX4_init_22 rfl ?_
  refine z_bipush (pc := 23) hc dX4_init_23 (by decide) ?_
  refine z_putI (pc := 25) hc dX4_init_25 zf_RX4_21 rfl rfl rfl H (fun h4 H => ?_)
  refine z_aload_n (pc := 28) hc dX4_init_28 rfl ?_
  refine z_sipush (pc := 29) hc dX4_init_29 (by decide) ?_
  refine z_putI (pc := 32) hc dX4_init_32 zf_RX4_24 rfl rfl rfl H (fun h5 H => ?_)
  refine z_aload_n (pc := 35) hc dX4_init_35 rfl ?_
  refine z_iconst (pc := 36) hc dX4_init_36 ?_
  refine z_newarr (pc := 37) (t := 1) (n := 3) hc dX4_init_37 (by decide) rfl (zT_mem 165 (by decide +kernel) rfl) (by decide) (by exact Nat.le_of_ble_eq_true rfl) (by exact Nat.le_of_ble_eq_true rfl) H (fun r6 h7 H => ?_)
  refine z_putR (pc := 39) hc dX4_init_39 zf_RX4_27 rfl rfl rfl hin (fun C T N q => by cases q; rfl) H (fun h8 H => ?_)
  refine z_iconst (pc := 42) hc dX4_init_42 ?_
  refine z_istore_n (pc := 43) hc dX4_init_43 (by decide) (ρ' := [some (.inr a0), some (.inl 0)]) rfl ?_
  refine z_cells (cells' := 1) (slots' := 3) (by omega) (by omega) ?_
  exact rX4_init_H44 hc hin H
end
theorem metX4_init (l : Launch) (D : Zd) (base : Nat) {a0 : Nat} {h : Zm} {Q : Zm → Prop} (H : mX4_init a0 h Q) : zMet l D base yX4_init cX4_init 2 none zrX4_init [.inr a0] h (zQv D base Q) :=
  z_met (by decide +kernel) (Nat.le_of_ble_eq_true rfl) (fun p e s m args below meth c hc hn => rX4_init hc hn H)
def zrX5_copyFrom : Room := { frames := 2, cells := 0, slots := 0, locals := 42 }
def mX5_copyFrom_B2 (X2 : Int → Zm → Prop) (a0 : Nat) (a1 : Nat) (x2 : Int) (h : Zm) (Q : Zm → Prop) : Prop :=
  cLt x2 24
  (cGr h 15 a0 0 fun r3 => cLdR h r3 x2 fun r4 => cGr h 15 a1 0 fun r5 => cLdR h r5 x2 fun r6 => cRc h 12 r4 <| mX2_copyFrom r4 r6 h fun h7 => cGr h7 15 a0 1 fun r8 => cGr h7 15 a1 1 fun r9 => cLd h7 1 r9 x2 fun v10 => cSt h7 r8 x2 v10 fun h11 => X2 (x2 + 1) h11)
  (cGi h 15 a1 3 fun v1 => cPi h 15 a0 3 v1 fun h2 => Q h2)
def mX5_copyFrom_H2  (a0 : Nat) (a1 : Nat) (x2 : Int) (h : Zm) (Q : Zm → Prop) : Prop :=
  lfp1 (fun X2 x2 h => mX5_copyFrom_B2 X2 a0 a1 x2 h Q) x2 h
def mX5_copyFrom (a0 : Nat) (a1 : Nat) (h : Zm) (Q : Zm → Prop) : Prop :=
  mX5_copyFrom_H2  a0 a1 0 h Q
section
variable {p : Program} {l : Launch} {e : Env} {s : State} {m : MethodId} {args : Array Value} {below : List Frame} {meth : Method} {c : Code} {D : Zd} {base : Nat}
set_option maxRecDepth 100000 in
set_option maxHeartbeats 4000000 in
theorem rX5_copyFrom_B2 (hc : zOk p s m args meth c D cX5_copyFrom 3 RX5 none) {X2 : Int → Zm → Prop} {a0 : Nat} {a1 : Nat} {x2 : Int} {h : Zm} {Q : Zm → Prop} (hX2 : ∀ (x2 : Int) (h : Zm), X2 x2 h → zW p l e zrX5_copyFrom s m args below meth c D base 3 (MQ below (zQv D base Q) args s 0 0 (zFree base)) 0 0 2 [some (.inr a0), some (.inr a1), some (.inl x2)] [] h) (H : mX5_copyFrom_B2 X2 a0 a1 x2 h Q) : zW p l e zrX5_copyFrom s m args below meth c D base 3 (MQ below (zQv D base Q) args s 0 0 (zFree base)) 0 0 2 [some (.inr a0), some (.inr a1), some (.inl x2)] [] h := by
  unfold mX5_copyFrom_B2 at H
  refine z_iload_n (pc := 2) hc dX5_copyFrom_2 rfl ?_
  refine z_bipush (pc := 3) hc dX5_copyFrom_3 (by decide) ?_
  refine z_icmp_ge (tgt := 41) (pc := 5) hc dX5_copyFrom_5 rfl H (fun H => ?_) (fun H => ?_)
  · refine z_aload_n (pc := 8) hc dX5_copyFrom_8 rfl ?_
    refine z_getR (pc := 9) hc dX5_copyFrom_9 zf_RX5_11 rfl rfl rfl H (fun r3 H => ?_)
    refine z_iload_n (pc := 12) hc dX5_copyFrom_12 rfl ?_
    refine z_aaload (pc := 13) hc dX5_copyFrom_13 H (fun r4 H => ?_)
    refine z_aload_n (pc := 14) hc dX5_copyFrom_14 rfl ?_
    refine z_getR (pc := 15) hc dX5_copyFrom_15 zf_RX5_11 rfl rfl rfl H (fun r5 H => ?_)
    refine z_iload_n (pc := 18) hc dX5_copyFrom_18 rfl ?_
    refine z_aaload (pc := 19) hc dX5_copyFrom_19 H (fun r6 H => ?_)
    refine z_calV0 (z_runV (pc := 20) (ci := 2) (T := TX2) (N := 18) hc dX5_copyFrom_20 zw_RX5_38 (metX2_copyFrom _ _ _ H.2) rfl (Nat.le_of_ble_eq_true rfl) ⟨Nat.le_of_ble_eq_true rfl, Nat.le_of_ble_eq_true rfl⟩ ⟨by exact Nat.le_of_ble_eq_true rfl, by exact Nat.le_of_ble_eq_true rfl⟩ rfl H.1) rfl ⟨rfl, rfl⟩ (fun h7 H => ?_)
    refine z_aload_n (pc := 23) hc dX5_copyFrom_23 rfl ?_
    refine z_getR (pc := 24) hc dX5_copyFrom_24 zf_RX5_18 rfl rfl rfl H (fun r8 H => ?_)
    refine z_iload_n (pc := 27) hc dX5_copyFrom_27 rfl ?_
    refine z_aload_n (pc := 28) hc dX5_copyFrom_28 rfl ?_
    refine z_getR (pc := 29) hc dX5_copyFrom_29 zf_RX5_18 rfl rfl rfl H (fun r9 H => ?_)
    refine z_iload_n (pc := 32) hc dX5_copyFrom_32 rfl ?_
    refine z_iaload (pc := 33) hc dX5_copyFrom_33 H (fun v10 H => ?_)
    refine z_iastore (pc := 34) hc dX5_copyFrom_34 H (fun h11 H => ?_)
    refine z_iinc (pc := 35) hc dX5_copyFrom_35 (by decide) rfl (ρ' := [some (.inr a0), some (.inr a1), some (.inl (x2 + 1))]) rfl ?_
    refine z_goto (tgt := 2) (pc := 38) hc dX5_copyFrom_38 rfl ?_
    exact hX2 _ _ H
  · refine z_aload_n (pc := 41) hc dX5_copyFrom_41 rfl ?_
    refine z_aload_n (pc := 42) hc dX5_copyFrom_42 rfl ?_
    refine z_getI (pc := 43) hc dX5_copyFrom_43 zf_RX5_25 rfl rfl rfl H (fun v1 H => ?_)
    refine z_putI (pc := 46) hc dX5_copyFrom_46 zf_RX5_25 rfl rfl rfl H (fun h2 H => ?_)
    exact z_return (pc := 49) hc dX5_copyFrom_49 H
theorem rX5_copyFrom_H2 (hc : zOk p s m args meth c D cX5_copyFrom 3 RX5 none)  {a0 : Nat} {a1 : Nat} {x2 : Int} {h : Zm} {Q : Zm → Prop}  (H : mX5_copyFrom_H2  a0 a1 x2 h Q) : zW p l e zrX5_copyFrom s m args below meth c D base 3 (MQ below (zQv D base Q) args s 0 0 (zFree base)) 0 0 2 [some (.inr a0), some (.inr a1), some (.inl x2)] [] h :=
  H (fun x2 h => zW p l e zrX5_copyFrom s m args below meth c D base 3 (MQ below (zQv D base Q) args s 0 0 (zFree base)) 0 0 2 [some (.inr a0), some (.inr a1), some (.inl x2)] [] h) (fun x2 h H => rX5_copyFrom_B2 hc (fun _ _ q => q) H)
set_option maxRecDepth 100000 in
set_option maxHeartbeats 4000000 in
theorem rX5_copyFrom (hc : zOk p s m args meth c D cX5_copyFrom 3 RX5 none) {a0 : Nat} {a1 : Nat} {h : Zm} {Q : Zm → Prop} (H : mX5_copyFrom a0 a1 h Q) : zW p l e zrX5_copyFrom s m args below meth c D base 3 (MQ below (zQv D base Q) args s 0 0 (zFree base)) 0 0 0 [some (.inr a0), some (.inr a1), none] [] h := by
  unfold mX5_copyFrom at H
  refine z_iconst (pc := 0) hc dX5_copyFrom_0 ?_
  refine z_istore_n (pc := 1) hc dX5_copyFrom_1 (by decide) (ρ' := [some (.inr a0), some (.inr a1), some (.inl 0)]) rfl ?_
  exact rX5_copyFrom_H2 hc H
end
theorem metX5_copyFrom (l : Launch) (D : Zd) (base : Nat) {a0 : Nat} {a1 : Nat} {h : Zm} {Q : Zm → Prop} (H : mX5_copyFrom a0 a1 h Q) : zMet l D base yX5_copyFrom cX5_copyFrom 3 none zrX5_copyFrom [.inr a0, .inr a1] h (zQv D base Q) :=
  z_met (by decide +kernel) (Nat.le_of_ble_eq_true rfl) (fun p e s m args below meth c hc hn => rX5_copyFrom hc H)
def zrX4_copyFrom : Room := { frames := 3, cells := 0, slots := 0, locals := 64 }
def mX4_copyFrom_B78 (X78 : Int → Zm → Prop) (a0 : Nat) (a1 : Nat) (x2 : Int) (h : Zm) (Q : Zm → Prop) : Prop :=
  cLt x2 7
  (cGr h 14 a0 7 fun r18 => cLdR h r18 x2 fun r19 => cGr h 14 a1 7 fun r20 => cLdR h r20 x2 fun r21 => cRc h 10 r19 <| mX0_copyFrom r19 r21 h fun h22 => X78 (x2 + 1) h22)
  (Q h)
def mX4_copyFrom_H78  (a0 : Nat) (a1 : Nat) (x2 : Int) (h : Zm) (Q : Zm → Prop) : Prop :=
  lfp1 (fun X78 x2 h => mX4_copyFrom_B78 X78 a0 a1 x2 h Q) x2 h
def mX4_copyFrom_B42 (X42 : Int → Zm → Prop) (a0 : Nat) (a1 : Nat) (x2 : Int) (h : Zm) (Q : Zm → Prop) : Prop :=
  cLt x2 3
  (cGr h 14 a0 5 fun r14 => cGr h 14 a1 5 fun r15 => cLd h 1 r15 x2 fun v16 => cSt h r14 x2 v16 fun h17 => X42 (x2 + 1) h17)
  (cGr h 14 a0 6 fun r11 => cGr h 14 a1 6 fun r12 => cRc h 15 r11 <| mX5_copyFrom r11 r12 h fun h13 => mX4_copyFrom_H78  a0 a1 0 h13 Q)
def mX4_copyFrom_H42  (a0 : Nat) (a1 : Nat) (x2 : Int) (h : Zm) (Q : Zm → Prop) : Prop :=
  lfp1 (fun X42 x2 h => mX4_copyFrom_B42 X42 a0 a1 x2 h Q) x2 h
def mX4_copyFrom (a0 : Nat) (a1 : Nat) (h : Zm) (Q : Zm → Prop) : Prop :=
  cGi h 14 a1 0 fun v1 => cPi h 14 a0 0 v1 fun h2 => cGi h2 14 a1 1 fun v3 => cPi h2 14 a0 1 v3 fun h4 => cGi h4 14 a1 2 fun v5 => cPi h4 14 a0 2 v5 fun h6 => cGi h6 14 a1 3 fun v7 => cPi h6 14 a0 3 v7 fun h8 => cGi h8 14 a1 4 fun v9 => cPi h8 14 a0 4 v9 fun h10 => mX4_copyFrom_H42  a0 a1 0 h10 Q
section
variable {p : Program} {l : Launch} {e : Env} {s : State} {m : MethodId} {args : Array Value} {below : List Frame} {meth : Method} {c : Code} {D : Zd} {base : Nat}
set_option maxRecDepth 100000 in
set_option maxHeartbeats 4000000 in
theorem rX4_copyFrom_B78 (hc : zOk p s m args meth c D cX4_copyFrom 3 RX4 none) {X78 : Int → Zm → Prop} {a0 : Nat} {a1 : Nat} {x2 : Int} {h : Zm} {Q : Zm → Prop} (hX78 : ∀ (x2 : Int) (h : Zm), X78 x2 h → zW p l e zrX4_copyFrom s m args below meth c D base 3 (MQ below (zQv D base Q) args s 0 0 (zFree base)) 0 0 78 [some (.inr a0), some (.inr a1), some (.inl x2)] [] h) (H : mX4_copyFrom_B78 X78 a0 a1 x2 h Q) : zW p l e zrX4_copyFrom s m args below meth c D base 3 (MQ below (zQv D base Q) args s 0 0 (zFree base)) 0 0 78 [some (.inr a0), some (.inr a1), some (.inl x2)] [] h := by
  unfold mX4_copyFrom_B78 at H
  refine z_iload_n (pc := 78) hc dX4_copyFrom_78 rfl ?_
  refine z_bipush (pc := 79) hc dX4_copyFrom_79 (by decide) ?_
  refine z_icmp_ge (tgt := 105) (pc := 81) hc dX4_copyFrom_81 rfl H (fun H => ?_) (fun H => ?_)
  · refine z_aload_n (pc := 84) hc dX4_copyFrom_84 rfl ?_
    refine z_getR (pc := 85) hc dX4_copyFrom_85 zf_RX4_40 rfl rfl rfl H (fun r18 H => ?_)
    refine z_iload_n (pc := 88) hc dX4_copyFrom_88 rfl ?_
    refine z_aaload (pc := 89) hc dX4_copyFrom_89 H (fun r19 H => ?_)
    refine z_aload_n (pc := 90) hc dX4_copyFrom_90 rfl ?_
    refine z_getR (pc := 91) hc dX4_copyFrom_91 zf_RX4_40 rfl rfl rfl H (fun r20 H => ?_)
    refine z_iload_n (pc := 94) hc dX4_copyFrom_94 rfl ?_
    refine z_aaload (pc := 95) hc dX4_copyFrom_95 H (fun r21 H => ?_)
    refine z_calV0 (z_runV (pc := 96) (ci := 0) (T := TX0) (N := 3) hc dX4_copyFrom_96 zw_RX4_49 (metX0_copyFrom _ _ _ H.2) rfl (Nat.le_of_ble_eq_true rfl) ⟨Nat.le_of_ble_eq_true rfl, Nat.le_of_ble_eq_true rfl⟩ ⟨by exact Nat.le_of_ble_eq_true rfl, by exact Nat.le_of_ble_eq_true rfl⟩ rfl H.1) rfl ⟨rfl, rfl⟩ (fun h22 H => ?_)
    refine z_iinc (pc := 99) hc dX4_copyFrom_99 (by decide) rfl (ρ' := [some (.inr a0), some (.inr a1), some (.inl (x2 + 1))]) rfl ?_
    refine z_goto (tgt := 78) (pc := 102) hc dX4_copyFrom_102 rfl ?_
    exact hX78 _ _ H
  · exact z_return (pc := 105) hc dX4_copyFrom_105 H
theorem rX4_copyFrom_H78 (hc : zOk p s m args meth c D cX4_copyFrom 3 RX4 none)  {a0 : Nat} {a1 : Nat} {x2 : Int} {h : Zm} {Q : Zm → Prop}  (H : mX4_copyFrom_H78  a0 a1 x2 h Q) : zW p l e zrX4_copyFrom s m args below meth c D base 3 (MQ below (zQv D base Q) args s 0 0 (zFree base)) 0 0 78 [some (.inr a0), some (.inr a1), some (.inl x2)] [] h :=
  H (fun x2 h => zW p l e zrX4_copyFrom s m args below meth c D base 3 (MQ below (zQv D base Q) args s 0 0 (zFree base)) 0 0 78 [some (.inr a0), some (.inr a1), some (.inl x2)] [] h) (fun x2 h H => rX4_copyFrom_B78 hc (fun _ _ q => q) H)
set_option maxRecDepth 100000 in
set_option maxHeartbeats 4000000 in
theorem rX4_copyFrom_B42 (hc : zOk p s m args meth c D cX4_copyFrom 3 RX4 none) {X42 : Int → Zm → Prop} {a0 : Nat} {a1 : Nat} {x2 : Int} {h : Zm} {Q : Zm → Prop} (hX42 : ∀ (x2 : Int) (h : Zm), X42 x2 h → zW p l e zrX4_copyFrom s m args below meth c D base 3 (MQ below (zQv D base Q) args s 0 0 (zFree base)) 0 0 42 [some (.inr a0), some (.inr a1), some (.inl x2)] [] h) (H : mX4_copyFrom_B42 X42 a0 a1 x2 h Q) : zW p l e zrX4_copyFrom s m args below meth c D base 3 (MQ below (zQv D base Q) args s 0 0 (zFree base)) 0 0 42 [some (.inr a0), some (.inr a1), some (.inl x2)] [] h := by
  unfold mX4_copyFrom_B42 at H
  refine z_iload_n (pc := 42) hc dX4_copyFrom_42 rfl ?_
  refine z_iconst (pc := 43) hc dX4_copyFrom_43 ?_
  refine z_icmp_ge (tgt := 65) (pc := 44) hc dX4_copyFrom_44 rfl H (fun H => ?_) (fun H => ?_)
  · refine z_aload_n (pc := 47) hc dX4_copyFrom_47 rfl ?_
    refine z_getR (pc := 48) hc dX4_copyFrom_48 zf_RX4_27 rfl rfl rfl H (fun r14 H => ?_)
    refine z_iload_n (pc := 51) hc dX4_copyFrom_51 rfl ?_
    refine z_aload_n (pc := 52) hc dX4_copyFrom_52 rfl ?_
    refine z_getR (pc := 53) hc dX4_copyFrom_53 zf_RX4_27 rfl rfl rfl H (fun r15 H => ?_)
    refine z_iload_n (pc := 56) hc dX4_copyFrom_56 rfl ?_
    refine z_iaload (pc := 57) hc dX4_copyFrom_57 H (fun v16 H => ?_)
    refine z_iastore (pc := 58) hc dX4_copyFrom_58 H (fun h17 H => ?_)
    refine z_iinc (pc := 59) hc dX4_copyFrom_59 (by decide) rfl (ρ' := [some (.inr a0), some (.inr a1), some (.inl (x2 + 1))]) rfl ?_
    refine z_goto (tgt := 42) (pc := 62) hc dX4_copyFrom_62 rfl ?_
    exact hX42 _ _ H
  · refine z_aload_n (pc := 65) hc dX4_copyFrom_65 rfl ?_
    refine z_getR (pc := 66) hc dX4_copyFrom_66 zf_RX4_34 rfl rfl rfl H (fun r11 H => ?_)
    refine z_aload_n (pc := 69) hc dX4_copyFrom_69 rfl ?_
    refine z_getR (pc := 70) hc dX4_copyFrom_70 zf_RX4_34 rfl rfl rfl H (fun r12 H => ?_)
    refine z_calV0 (z_runV (pc := 73) (ci := 5) (T := TX5) (N := 4) hc dX4_copyFrom_73 zw_RX4_45 (metX5_copyFrom _ _ _ H.2) rfl (Nat.le_of_ble_eq_true rfl) ⟨Nat.le_of_ble_eq_true rfl, Nat.le_of_ble_eq_true rfl⟩ ⟨by exact Nat.le_of_ble_eq_true rfl, by exact Nat.le_of_ble_eq_true rfl⟩ rfl H.1) rfl ⟨rfl, rfl⟩ (fun h13 H => ?_)
    refine z_iconst (pc := 76) hc dX4_copyFrom_76 ?_
    refine z_istore_n (pc := 77) hc dX4_copyFrom_77 (by decide) (ρ' := [some (.inr a0), some (.inr a1), some (.inl 0)]) rfl ?_
    exact rX4_copyFrom_H78 hc H
theorem rX4_copyFrom_H42 (hc : zOk p s m args meth c D cX4_copyFrom 3 RX4 none)  {a0 : Nat} {a1 : Nat} {x2 : Int} {h : Zm} {Q : Zm → Prop}  (H : mX4_copyFrom_H42  a0 a1 x2 h Q) : zW p l e zrX4_copyFrom s m args below meth c D base 3 (MQ below (zQv D base Q) args s 0 0 (zFree base)) 0 0 42 [some (.inr a0), some (.inr a1), some (.inl x2)] [] h :=
  H (fun x2 h => zW p l e zrX4_copyFrom s m args below meth c D base 3 (MQ below (zQv D base Q) args s 0 0 (zFree base)) 0 0 42 [some (.inr a0), some (.inr a1), some (.inl x2)] [] h) (fun x2 h H => rX4_copyFrom_B42 hc (fun _ _ q => q) H)
set_option maxRecDepth 100000 in
set_option maxHeartbeats 4000000 in
theorem rX4_copyFrom (hc : zOk p s m args meth c D cX4_copyFrom 3 RX4 none) {a0 : Nat} {a1 : Nat} {h : Zm} {Q : Zm → Prop} (H : mX4_copyFrom a0 a1 h Q) : zW p l e zrX4_copyFrom s m args below meth c D base 3 (MQ below (zQv D base Q) args s 0 0 (zFree base)) 0 0 0 [some (.inr a0), some (.inr a1), none] [] h := by
  unfold mX4_copyFrom at H
  refine z_aload_n (pc := 0) hc dX4_copyFrom_0 rfl ?_
  refine z_aload_n (pc := 1) hc dX4_copyFrom_1 rfl ?_
  refine z_getI (pc := 2) hc dX4_copyFrom_2 zf_RX4_9 rfl rfl rfl H (fun v1 H => ?_)
  refine z_putI (pc := 5) hc dX4_copyFrom_5 zf_RX4_9 rfl rfl rfl H (fun h2 H => ?_)
  refine z_aload_n (pc := 8) hc dX4_copyFrom_8 rfl ?_
  refine z_aload_n (pc := 9) hc dX4_copyFrom_9 rfl ?_
  refine z_getI (pc := 10) hc dX4_copyFrom_10 zf_RX4_15 rfl rfl rfl H (fun v3 H => ?_)
  refine z_putI (pc := 13) hc dX4_copyFrom_13 zf_RX4_15 rfl rfl rfl H (fun h4 H => ?_)
  refine z_aload_n (pc := 16) hc dX4_copyFrom_16 rfl ?_
  refine z_aload_n (pc := 17) hc dX4_copyFrom_17 rfl ?_
  refine z_getI (pc := 18) hc dX4_copyFrom_18 zf_RX4_18 rfl rfl rfl H (fun v5 H => ?_)
  refine z_putI (pc := 21) hc dX4_copyFrom_21 zf_RX4_18 rfl rfl rfl H (fun h6 H => ?_)
  refine z_aload_n (pc := 24) hc dX4_copyFrom_24 rfl ?_
  refine z_aload_n (pc := 25) hc dX4_copyFrom_25 rfl ?_
  refine z_getI (pc := 26) hc dX4_copyFrom_26 zf_RX4_21 rfl rfl rfl H (fun v7 H => ?_)
  refine z_putI (pc := 29) hc dX4_copyFrom_29 zf_RX4_21 rfl rfl rfl H (fun h8 H => ?_)
  refine z_aload_n (pc := 32) hc dX4_copyFrom_32 rfl ?_
  refine z_aload_n (pc := 33) hc dX4_copyFrom_33 rfl ?_
  refine z_getI (pc := 34) hc dX4_copyFrom_34 zf_RX4_24 rfl rfl rfl H (fun v9 H => ?_)
  refine z_putI (pc := 37) hc dX4_copyFrom_37 zf_RX4_24 rfl rfl rfl H (fun h10 H => ?_)
  refine z_iconst (pc := 40) hc dX4_copyFrom_40 ?_
  refine z_istore_n (pc := 41) hc dX4_copyFrom_41 (by decide) (ρ' := [some (.inr a0), some (.inr a1), some (.inl 0)]) rfl ?_
  exact rX4_copyFrom_H42 hc H
end
theorem metX4_copyFrom (l : Launch) (D : Zd) (base : Nat) {a0 : Nat} {a1 : Nat} {h : Zm} {Q : Zm → Prop} (H : mX4_copyFrom a0 a1 h Q) : zMet l D base yX4_copyFrom cX4_copyFrom 3 none zrX4_copyFrom [.inr a0, .inr a1] h (zQv D base Q) :=
  z_met (by decide +kernel) (Nat.le_of_ble_eq_true rfl) (fun p e s m args below meth c hc hn => rX4_copyFrom hc H)
def zrX5_has : Room := { frames := 1, cells := 0, slots := 0, locals := 22 }
def mX5_has (a0 : Nat) (x1 : Int) (h : Zm) (Q : Int → Zm → Prop) : Prop :=
  mX6_within x1 0 23 h fun v2 h1 => cEq v2 0
  (Q 0 h1)
  (cGr h1 15 a0 0 fun r3 => cLdR h1 r3 x1 fun r4 => cGi h1 12 r4 0 fun v5 => cEq v5 (-1)
    (Q 0 h1)
    (Q 1 h1))
section
variable {p : Program} {l : Launch} {e : Env} {s : State} {m : MethodId} {args : Array Value} {below : List Frame} {meth : Method} {c : Code} {D : Zd} {base : Nat}
set_option maxRecDepth 100000 in
set_option maxHeartbeats 4000000 in
theorem rX5_has (hc : zOk p s m args meth c D cX5_has 2 RX5 (some .boolean)) {a0 : Nat} {x1 : Int} {h : Zm} {Q : Int → Zm → Prop} (H : mX5_has a0 x1 h Q) : zW p l e zrX5_has s m args below meth c D base 2 (MQ below (zQi D base Q) args s 0 0 (zFree base)) 0 0 0 [some (.inr a0), some (.inl x1)] [] h := by
  unfold mX5_has at H
  refine z_iload_n (pc := 0) hc dX5_has_0 rfl ?_
  refine z_iconst (pc := 1) hc dX5_has_1 ?_
  refine z_bipush (pc := 2) hc dX5_has_2 (by decide) ?_
  refine z_calI (z_runN (pc := 4) hc dX5_has_4 zw_RX5_42 (metX6_within _ _ _ H) rfl (Nat.le_of_ble_eq_true rfl) ⟨Nat.le_of_ble_eq_true rfl, Nat.le_of_ble_eq_true rfl⟩ ⟨by exact Nat.le_of_ble_eq_true rfl, by exact Nat.le_of_ble_eq_true rfl⟩) rfl ⟨rfl, rfl⟩ (fun v2 h1 H => ?_)
  refine z_if_eq (tgt := 27) (pc := 7) hc dX5_has_7 rfl H (fun H => ?_) (fun H => ?_)
  · refine z_iconst (pc := 27) hc dX5_has_27 ?_
    exact z_zreturn (pc := 28) hc dX5_has_28 ⟨Or.inl rfl, H⟩
  · refine z_aload_n (pc := 10) hc dX5_has_10 rfl ?_
    refine z_getR (pc := 11) hc dX5_has_11 zf_RX5_11 rfl rfl rfl H (fun r3 H => ?_)
    refine z_iload_n (pc := 14) hc dX5_has_14 rfl ?_
    refine z_aaload (pc := 15) hc dX5_has_15 H (fun r4 H => ?_)
    refine z_getI (pc := 16) hc dX5_has_16 zf_RX5_29 rfl rfl rfl H (fun v5 H => ?_)
    refine z_iconst (pc := 19) hc dX5_has_19 ?_
    refine z_icmp_eq (tgt := 27) (pc := 20) hc dX5_has_20 rfl H (fun H => ?_) (fun H => ?_)
    · refine z_iconst (pc := 27) hc dX5_has_27 ?_
      exact z_zreturn (pc := 28) hc dX5_has_28 ⟨Or.inl rfl, H⟩
    · refine z_iconst (pc := 23) hc dX5_has_23 ?_
      refine z_goto (tgt := 28) (pc := 24) hc dX5_has_24 rfl ?_
      exact z_zreturn (pc := 28) hc dX5_has_28 ⟨Or.inr rfl, H⟩
end
theorem metX5_has (l : Launch) (D : Zd) (base : Nat) {a0 : Nat} {x1 : Int} {h : Zm} {Q : Int → Zm → Prop} (H : mX5_has a0 x1 h Q) : zMet l D base yX5_has cX5_has 2 (some .boolean) zrX5_has [.inr a0, .inl x1] h (zQi D base Q) :=
  z_met (by decide +kernel) (Nat.le_of_ble_eq_true rfl) (fun p e s m args below meth c hc hn => rX5_has hc H)
def zrX5_freeNumber : Room := { frames := 0, cells := 0, slots := 0, locals := 0 }
def mX5_freeNumber_B2 (X2 : Int → Zm → Prop) (a0 : Nat) (x1 : Int) (h : Zm) (Q : Int → Zm → Prop) : Prop :=
  cLt x1 24
  (cGr h 15 a0 0 fun r1 => cLdR h r1 x1 fun r2 => cGi h 12 r2 0 fun v3 => cEq v3 (-1)
    (Q x1 h)
    (X2 (x1 + 1) h))
  (Q (-1) h)
def mX5_freeNumber_H2  (a0 : Nat) (x1 : Int) (h : Zm) (Q : Int → Zm → Prop) : Prop :=
  lfp1 (fun X2 x1 h => mX5_freeNumber_B2 X2 a0 x1 h Q) x1 h
def mX5_freeNumber (a0 : Nat) (h : Zm) (Q : Int → Zm → Prop) : Prop :=
  mX5_freeNumber_H2  a0 1 h Q
section
variable {p : Program} {l : Launch} {e : Env} {s : State} {m : MethodId} {args : Array Value} {below : List Frame} {meth : Method} {c : Code} {D : Zd} {base : Nat}
set_option maxRecDepth 100000 in
set_option maxHeartbeats 4000000 in
theorem rX5_freeNumber_B2 (hc : zOk p s m args meth c D cX5_freeNumber 2 RX5 (some .int)) {X2 : Int → Zm → Prop} {a0 : Nat} {x1 : Int} {h : Zm} {Q : Int → Zm → Prop} (hX2 : ∀ (x1 : Int) (h : Zm), X2 x1 h → zW p l e zrX5_freeNumber s m args below meth c D base 2 (MQ below (zQi D base Q) args s 0 0 (zFree base)) 0 0 2 [some (.inr a0), some (.inl x1)] [] h) (H : mX5_freeNumber_B2 X2 a0 x1 h Q) : zW p l e zrX5_freeNumber s m args below meth c D base 2 (MQ below (zQi D base Q) args s 0 0 (zFree base)) 0 0 2 [some (.inr a0), some (.inl x1)] [] h := by
  unfold mX5_freeNumber_B2 at H
  refine z_iload_n (pc := 2) hc dX5_freeNumber_2 rfl ?_
  refine z_bipush (pc := 3) hc dX5_freeNumber_3 (by decide) ?_
  refine z_icmp_ge (tgt := 29) (pc := 5) hc dX5_freeNumber_5 rfl H (fun H => ?_) (fun H => ?_)
  · refine z_aload_n (pc := 8) hc dX5_freeNumber_8 rfl ?_
    refine z_getR (pc := 9) hc dX5_freeNumber_9 zf_RX5_11 rfl rfl rfl H (fun r1 H => ?_)
    refine z_iload_n (pc := 12) hc dX5_freeNumber_12 rfl ?_
    refine z_aaload (pc := 13) hc dX5_freeNumber_13 H (fun r2 H => ?_)
    refine z_getI (pc := 14) hc dX5_freeNumber_14 zf_RX5_29 rfl rfl rfl H (fun v3 H => ?_)
    refine z_iconst (pc := 17) hc dX5_freeNumber_17 ?_
    refine z_icmp_ne (tgt := 23) (pc := 18) hc dX5_freeNumber_18 rfl H (fun H => ?_) (fun H => ?_)
    · refine z_iload_n (pc := 21) hc dX5_freeNumber_21 rfl ?_
      exact z_ireturn (pc := 22) hc dX5_freeNumber_22 H
    · refine z_iinc (pc := 23) hc dX5_freeNumber_23 (by decide) rfl (ρ' := [some (.inr a0), some (.inl (x1 + 1))]) rfl ?_
      refine z_goto (tgt := 2) (pc := 26) hc dX5_freeNumber_26 rfl ?_
      exact hX2 _ _ H
  · refine z_iconst (pc := 29) hc dX5_freeNumber_29 ?_
    exact z_ireturn (pc := 30) hc dX5_freeNumber_30 H
theorem rX5_freeNumber_H2 (hc : zOk p s m args meth c D cX5_freeNumber 2 RX5 (some .int))  {a0 : Nat} {x1 : Int} {h : Zm} {Q : Int → Zm → Prop}  (H : mX5_freeNumber_H2  a0 x1 h Q) : zW p l e zrX5_freeNumber s m args below meth c D base 2 (MQ below (zQi D base Q) args s 0 0 (zFree base)) 0 0 2 [some (.inr a0), some (.inl x1)] [] h :=
  H (fun x1 h => zW p l e zrX5_freeNumber s m args below meth c D base 2 (MQ below (zQi D base Q) args s 0 0 (zFree base)) 0 0 2 [some (.inr a0), some (.inl x1)] [] h) (fun x1 h H => rX5_freeNumber_B2 hc (fun _ _ q => q) H)
set_option maxRecDepth 100000 in
set_option maxHeartbeats 4000000 in
theorem rX5_freeNumber (hc : zOk p s m args meth c D cX5_freeNumber 2 RX5 (some .int)) {a0 : Nat} {h : Zm} {Q : Int → Zm → Prop} (H : mX5_freeNumber a0 h Q) : zW p l e zrX5_freeNumber s m args below meth c D base 2 (MQ below (zQi D base Q) args s 0 0 (zFree base)) 0 0 0 [some (.inr a0), none] [] h := by
  unfold mX5_freeNumber at H
  refine z_iconst (pc := 0) hc dX5_freeNumber_0 ?_
  refine z_istore_n (pc := 1) hc dX5_freeNumber_1 (by decide) (ρ' := [some (.inr a0), some (.inl 1)]) rfl ?_
  exact rX5_freeNumber_H2 hc H
end
theorem metX5_freeNumber (l : Launch) (D : Zd) (base : Nat) {a0 : Nat} {h : Zm} {Q : Int → Zm → Prop} (H : mX5_freeNumber a0 h Q) : zMet l D base yX5_freeNumber cX5_freeNumber 2 (some .int) zrX5_freeNumber [.inr a0] h (zQi D base Q) :=
  z_met (by decide +kernel) (Nat.le_of_ble_eq_true rfl) (fun p e s m args below meth c hc hn => rX5_freeNumber hc H)
def zrX5_startOf : Room := { frames := 0, cells := 0, slots := 0, locals := 0 }
def mX5_startOf_B2 (X2 : Int → Zm → Prop) (a0 : Nat) (x1 : Int) (x2 : Int) (h : Zm) (Q : Int → Zm → Prop) : Prop :=
  cGi h 15 a0 3 fun v1 => cLt x2 v1
  (cGr h 15 a0 1 fun r3 => cLd h 1 r3 x2 fun v4 => cEq v4 x1
    (Q x2 h)
    (X2 (x2 + 1) h))
  (cGi h 15 a0 3 fun v2 => Q v2 h)
def mX5_startOf_H2  (a0 : Nat) (x1 : Int) (x2 : Int) (h : Zm) (Q : Int → Zm → Prop) : Prop :=
  lfp1 (fun X2 x2 h => mX5_startOf_B2 X2 a0 x1 x2 h Q) x2 h
def mX5_startOf (a0 : Nat) (x1 : Int) (h : Zm) (Q : Int → Zm → Prop) : Prop :=
  mX5_startOf_H2  a0 x1 0 h Q
section
variable {p : Program} {l : Launch} {e : Env} {s : State} {m : MethodId} {args : Array Value} {below : List Frame} {meth : Method} {c : Code} {D : Zd} {base : Nat}
set_option maxRecDepth 100000 in
set_option maxHeartbeats 4000000 in
theorem rX5_startOf_B2 (hc : zOk p s m args meth c D cX5_startOf 3 RX5 (some .int)) {X2 : Int → Zm → Prop} {a0 : Nat} {x1 : Int} {x2 : Int} {h : Zm} {Q : Int → Zm → Prop} (hX2 : ∀ (x2 : Int) (h : Zm), X2 x2 h → zW p l e zrX5_startOf s m args below meth c D base 3 (MQ below (zQi D base Q) args s 0 0 (zFree base)) 0 0 2 [some (.inr a0), some (.inl x1), some (.inl x2)] [] h) (H : mX5_startOf_B2 X2 a0 x1 x2 h Q) : zW p l e zrX5_startOf s m args below meth c D base 3 (MQ below (zQi D base Q) args s 0 0 (zFree base)) 0 0 2 [some (.inr a0), some (.inl x1), some (.inl x2)] [] h := by
  unfold mX5_startOf_B2 at H
  refine z_iload_n (pc := 2) hc dX5_startOf_2 rfl ?_
  refine z_aload_n (pc := 3) hc dX5_startOf_3 rfl ?_
  refine z_getI (pc := 4) hc dX5_startOf_4 zf_RX5_25 rfl rfl rfl H (fun v1 H => ?_)
  refine z_icmp_ge (tgt := 28) (pc := 7) hc dX5_startOf_7 rfl H (fun H => ?_) (fun H => ?_)
  · refine z_aload_n (pc := 10) hc dX5_startOf_10 rfl ?_
    refine z_getR (pc := 11) hc dX5_startOf_11 zf_RX5_18 rfl rfl rfl H (fun r3 H => ?_)
    refine z_iload_n (pc := 14) hc dX5_startOf_14 rfl ?_
    refine z_iaload (pc := 15) hc dX5_startOf_15 H (fun v4 H => ?_)
    refine z_iload_n (pc := 16) hc dX5_startOf_16 rfl ?_
    refine z_icmp_ne (tgt := 22) (pc := 17) hc dX5_startOf_17 rfl H (fun H => ?_) (fun H => ?_)
    · refine z_iload_n (pc := 20) hc dX5_startOf_20 rfl ?_
      exact z_ireturn (pc := 21) hc dX5_startOf_21 H
    · refine z_iinc (pc := 22) hc dX5_startOf_22 (by decide) rfl (ρ' := [some (.inr a0), some (.inl x1), some (.inl (x2 + 1))]) rfl ?_
      refine z_goto (tgt := 2) (pc := 25) hc dX5_startOf_25 rfl ?_
      exact hX2 _ _ H
  · refine z_aload_n (pc := 28) hc dX5_startOf_28 rfl ?_
    refine z_getI (pc := 29) hc dX5_startOf_29 zf_RX5_25 rfl rfl rfl H (fun v2 H => ?_)
    exact z_ireturn (pc := 32) hc dX5_startOf_32 H
theorem rX5_startOf_H2 (hc : zOk p s m args meth c D cX5_startOf 3 RX5 (some .int))  {a0 : Nat} {x1 : Int} {x2 : Int} {h : Zm} {Q : Int → Zm → Prop}  (H : mX5_startOf_H2  a0 x1 x2 h Q) : zW p l e zrX5_startOf s m args below meth c D base 3 (MQ below (zQi D base Q) args s 0 0 (zFree base)) 0 0 2 [some (.inr a0), some (.inl x1), some (.inl x2)] [] h :=
  H (fun x2 h => zW p l e zrX5_startOf s m args below meth c D base 3 (MQ below (zQi D base Q) args s 0 0 (zFree base)) 0 0 2 [some (.inr a0), some (.inl x1), some (.inl x2)] [] h) (fun x2 h H => rX5_startOf_B2 hc (fun _ _ q => q) H)
set_option maxRecDepth 100000 in
set_option maxHeartbeats 4000000 in
theorem rX5_startOf (hc : zOk p s m args meth c D cX5_startOf 3 RX5 (some .int)) {a0 : Nat} {x1 : Int} {h : Zm} {Q : Int → Zm → Prop} (H : mX5_startOf a0 x1 h Q) : zW p l e zrX5_startOf s m args below meth c D base 3 (MQ below (zQi D base Q) args s 0 0 (zFree base)) 0 0 0 [some (.inr a0), some (.inl x1), none] [] h := by
  unfold mX5_startOf at H
  refine z_iconst (pc := 0) hc dX5_startOf_0 ?_
  refine z_istore_n (pc := 1) hc dX5_startOf_1 (by decide) (ρ' := [some (.inr a0), some (.inl x1), some (.inl 0)]) rfl ?_
  exact rX5_startOf_H2 hc H
end
theorem metX5_startOf (l : Launch) (D : Zd) (base : Nat) {a0 : Nat} {x1 : Int} {h : Zm} {Q : Int → Zm → Prop} (H : mX5_startOf a0 x1 h Q) : zMet l D base yX5_startOf cX5_startOf 3 (some .int) zrX5_startOf [.inr a0, .inl x1] h (zQi D base Q) :=
  z_met (by decide +kernel) (Nat.le_of_ble_eq_true rfl) (fun p e s m args below meth c hc hn => rX5_startOf hc H)
def zrJ9_min_7cf53 : Room := { frames := 0, cells := 0, slots := 0, locals := 0 }
def mJ9_min_7cf53 (x0 : Int) (x1 : Int) (h : Zm) (Q : Int → Zm → Prop) : Prop :=
  cLe x0 x1
  (Q x0 h)
  (Q x1 h)
section
variable {p : Program} {l : Launch} {e : Env} {s : State} {m : MethodId} {args : Array Value} {below : List Frame} {meth : Method} {c : Code} {D : Zd} {base : Nat}
set_option maxRecDepth 100000 in
set_option maxHeartbeats 4000000 in
theorem rJ9_min_7cf53 (hc : zOk p s m args meth c D cJ9_min_7cf53 2 RJ9 (some .int)) {x0 : Int} {x1 : Int} {h : Zm} {Q : Int → Zm → Prop} (H : mJ9_min_7cf53 x0 x1 h Q) : zW p l e zrJ9_min_7cf53 s m args below meth c D base 2 (MQ below (zQi D base Q) args s 0 0 (zFree base)) 0 0 0 [some (.inl x0), some (.inl x1)] [] h := by
  unfold mJ9_min_7cf53 at H
  refine z_iload_n (pc := 0) hc dJ9_min_7cf53_0 rfl ?_
  refine z_iload_n (pc := 1) hc dJ9_min_7cf53_1 rfl ?_
  refine z_icmp_gt (tgt := 9) (pc := 2) hc dJ9_min_7cf53_2 rfl H (fun H => ?_) (fun H => ?_)
  · refine z_iload_n (pc := 5) hc dJ9_min_7cf53_5 rfl ?_
    refine z_goto (tgt := 10) (pc := 6) hc dJ9_min_7cf53_6 rfl ?_
    exact z_ireturn (pc := 10) hc dJ9_min_7cf53_10 H
  · refine z_iload_n (pc := 9) hc dJ9_min_7cf53_9 rfl ?_
    exact z_ireturn (pc := 10) hc dJ9_min_7cf53_10 H
end
theorem metJ9_min_7cf53 (l : Launch) (D : Zd) (base : Nat) {x0 : Int} {x1 : Int} {h : Zm} {Q : Int → Zm → Prop} (H : mJ9_min_7cf53 x0 x1 h Q) : zMet l D base yJ9_min_7cf53 cJ9_min_7cf53 2 (some .int) zrJ9_min_7cf53 [.inl x0, .inl x1] h (zQi D base Q) :=
  z_met (by decide +kernel) (Nat.le_of_ble_eq_true rfl) (fun p e s m args below meth c hc hn => rJ9_min_7cf53 hc H)
def zrX5_endOf : Room := { frames := 2, cells := 0, slots := 0, locals := 43 }
def mX5_endOf_B17 (X17 : Int → Zm → Prop) (a0 : Nat) (x2 : Int) (x3 : Int) (h : Zm) (Q : Int → Zm → Prop) : Prop :=
  cGi h 15 a0 3 fun v6 => cLt x2 v6
  (cGr h 15 a0 1 fun r10 => cLd h 1 r10 x2 fun v11 => cRc h 15 a0 <| mX5_nodeAt a0 v11 h fun r13 h12 => cGi h12 12 r13 2 fun v14 => cLe v14 x3
    (cGi h12 15 a0 3 fun v15 => mJ9_min_7cf53 x2 v15 h12 fun v17 h16 => Q v17 h16)
    (X17 (x2 + 1) h12))
  (cGi h 15 a0 3 fun v7 => mJ9_min_7cf53 x2 v7 h fun v9 h8 => Q v9 h8)
def mX5_endOf_H17  (a0 : Nat) (x2 : Int) (x3 : Int) (h : Zm) (Q : Int → Zm → Prop) : Prop :=
  lfp1 (fun X17 x2 h => mX5_endOf_B17 X17 a0 x2 x3 h Q) x2 h
def mX5_endOf (a0 : Nat) (x1 : Int) (h : Zm) (Q : Int → Zm → Prop) : Prop :=
  cRc h 15 a0 <| mX5_startOf a0 x1 h fun v2 h1 => cRc h1 15 a0 <| mX5_nodeAt a0 x1 h1 fun r4 h3 => cGi h3 12 r4 2 fun v5 => mX5_endOf_H17  a0 (v2 + 1) v5 h3 Q
section
variable {p : Program} {l : Launch} {e : Env} {s : State} {m : MethodId} {args : Array Value} {below : List Frame} {meth : Method} {c : Code} {D : Zd} {base : Nat}
set_option maxRecDepth 100000 in
set_option maxHeartbeats 4000000 in
theorem rX5_endOf_B17 (hc : zOk p s m args meth c D cX5_endOf 4 RX5 (some .int)) {X17 : Int → Zm → Prop} {a0 : Nat} {x2 : Int} {x3 : Int} {h : Zm} {Q : Int → Zm → Prop} (hX17 : ∀ (x2 : Int) (h : Zm), X17 x2 h → zW p l e zrX5_endOf s m args below meth c D base 4 (MQ below (zQi D base Q) args s 0 0 (zFree base)) 0 0 17 [some (.inr a0), none, some (.inl x2), some (.inl x3)] [] h) (H : mX5_endOf_B17 X17 a0 x2 x3 h Q) : zW p l e zrX5_endOf s m args below meth c D base 4 (MQ below (zQi D base Q) args s 0 0 (zFree base)) 0 0 17 [some (.inr a0), none, some (.inl x2), some (.inl x3)] [] h := by
  unfold mX5_endOf_B17 at H
  refine z_iload_n (pc := 17) hc dX5_endOf_17 rfl ?_
  refine z_aload_n (pc := 18) hc dX5_endOf_18 rfl ?_
  refine z_getI (pc := 19) hc dX5_endOf_19 zf_RX5_25 rfl rfl rfl H (fun v6 H => ?_)
  refine z_icmp_ge (tgt := 48) (pc := 22) hc dX5_endOf_22 rfl H (fun H => ?_) (fun H => ?_)
  · refine z_aload_n (pc := 25) hc dX5_endOf_25 rfl ?_
    refine z_aload_n (pc := 26) hc dX5_endOf_26 rfl ?_
    refine z_getR (pc := 27) hc dX5_endOf_27 zf_RX5_18 rfl rfl rfl H (fun r10 H => ?_)
    refine z_iload_n (pc := 30) hc dX5_endOf_30 rfl ?_
    refine z_iaload (pc := 31) hc dX5_endOf_31 H (fun v11 H => ?_)
    refine z_calR (z_runV (pc := 32) (ci := 5) (T := TX5) (N := 4) hc dX5_endOf_32 zw_RX5_50 (metX5_nodeAt _ _ _ H.2) rfl (Nat.le_of_ble_eq_true rfl) ⟨Nat.le_of_ble_eq_true rfl, Nat.le_of_ble_eq_true rfl⟩ ⟨by exact Nat.le_of_ble_eq_true rfl, by exact Nat.le_of_ble_eq_true rfl⟩ rfl H.1) rfl ⟨rfl, rfl⟩ (fun r13 h12 H => ?_)
    refine z_getI (pc := 35) hc dX5_endOf_35 zf_RX5_54 rfl rfl rfl H (fun v14 H => ?_)
    refine z_iload_n (pc := 38) hc dX5_endOf_38 rfl ?_
    refine z_icmp_le (tgt := 48) (pc := 39) hc dX5_endOf_39 rfl H (fun H => ?_) (fun H => ?_)
    · refine z_iload_n (pc := 48) hc dX5_endOf_48 rfl ?_
      refine z_aload_n (pc := 49) hc dX5_endOf_49 rfl ?_
      refine z_getI (pc := 50) hc dX5_endOf_50 zf_RX5_25 rfl rfl rfl H (fun v15 H => ?_)
      refine z_calI (z_runS (pc := 53) hc dX5_endOf_53 zw_RX5_57 (metJ9_min_7cf53 _ _ _ H) rfl (Nat.le_of_ble_eq_true rfl) ⟨Nat.le_of_ble_eq_true rfl, Nat.le_of_ble_eq_true rfl⟩ ⟨by exact Nat.le_of_ble_eq_true rfl, by exact Nat.le_of_ble_eq_true rfl⟩) rfl ⟨rfl, rfl⟩ (fun v17 h16 H => ?_)
      exact z_ireturn (pc := 56) hc dX5_endOf_56 H
    · refine z_iinc (pc := 42) hc dX5_endOf_42 (by decide) rfl (ρ' := [some (.inr a0), none, some (.inl (x2 + 1)), some (.inl x3)]) rfl ?_
      refine z_goto (tgt := 17) (pc := 45) hc dX5_endOf_45 rfl ?_
      exact hX17 _ _ H
  · refine z_iload_n (pc := 48) hc dX5_endOf_48 rfl ?_
    refine z_aload_n (pc := 49) hc dX5_endOf_49 rfl ?_
    refine z_getI (pc := 50) hc dX5_endOf_50 zf_RX5_25 rfl rfl rfl H (fun v7 H => ?_)
    refine z_calI (z_runS (pc := 53) hc dX5_endOf_53 zw_RX5_57 (metJ9_min_7cf53 _ _ _ H) rfl (Nat.le_of_ble_eq_true rfl) ⟨Nat.le_of_ble_eq_true rfl, Nat.le_of_ble_eq_true rfl⟩ ⟨by exact Nat.le_of_ble_eq_true rfl, by exact Nat.le_of_ble_eq_true rfl⟩) rfl ⟨rfl, rfl⟩ (fun v9 h8 H => ?_)
    exact z_ireturn (pc := 56) hc dX5_endOf_56 H
theorem rX5_endOf_H17 (hc : zOk p s m args meth c D cX5_endOf 4 RX5 (some .int))  {a0 : Nat} {x2 : Int} {x3 : Int} {h : Zm} {Q : Int → Zm → Prop}  (H : mX5_endOf_H17  a0 x2 x3 h Q) : zW p l e zrX5_endOf s m args below meth c D base 4 (MQ below (zQi D base Q) args s 0 0 (zFree base)) 0 0 17 [some (.inr a0), none, some (.inl x2), some (.inl x3)] [] h :=
  H (fun x2 h => zW p l e zrX5_endOf s m args below meth c D base 4 (MQ below (zQi D base Q) args s 0 0 (zFree base)) 0 0 17 [some (.inr a0), none, some (.inl x2), some (.inl x3)] [] h) (fun x2 h H => rX5_endOf_B17 hc (fun _ _ q => q) H)
set_option maxRecDepth 100000 in
set_option maxHeartbeats 4000000 in
theorem rX5_endOf (hc : zOk p s m args meth c D cX5_endOf 4 RX5 (some .int)) {a0 : Nat} {x1 : Int} {h : Zm} {Q : Int → Zm → Prop} (H : mX5_endOf a0 x1 h Q) : zW p l e zrX5_endOf s m args below meth c D base 4 (MQ below (zQi D base Q) args s 0 0 (zFree base)) 0 0 0 [some (.inr a0), some (.inl x1), none, none] [] h := by
  unfold mX5_endOf at H
  refine z_aload_n (pc := 0) hc dX5_endOf_0 rfl ?_
  refine z_iload_n (pc := 1) hc dX5_endOf_1 rfl ?_
  refine z_calI (z_runV (pc := 2) (ci := 5) (T := TX5) (N := 4) hc dX5_endOf_2 zw_RX5_46 (metX5_startOf _ _ _ H.2) rfl (Nat.le_of_ble_eq_true rfl) ⟨Nat.le_of_ble_eq_true rfl, Nat.le_of_ble_eq_true rfl⟩ ⟨by exact Nat.le_of_ble_eq_true rfl, by exact Nat.le_of_ble_eq_true rfl⟩ rfl H.1) rfl ⟨rfl, rfl⟩ (fun v2 h1 H => ?_)
  refine z_iconst (pc := 5) hc dX5_endOf_5 ?_
  refine z_iadd (pc := 6) hc dX5_endOf_6 ?_
  refine z_istore_n (pc := 7) hc dX5_endOf_7 (by decide) (ρ' := [some (.inr a0), some (.inl x1), some (.inl (v2 + 1)), none]) rfl ?_
  refine z_aload_n (pc := 8) hc dX5_endOf_8 rfl ?_
  refine z_iload_n (pc := 9) hc dX5_endOf_9 rfl ?_
  refine z_calR (z_runV (pc := 10) (ci := 5) (T := TX5) (N := 4) hc dX5_endOf_10 zw_RX5_50 (metX5_nodeAt _ _ _ H.2) rfl (Nat.le_of_ble_eq_true rfl) ⟨Nat.le_of_ble_eq_true rfl, Nat.le_of_ble_eq_true rfl⟩ ⟨by exact Nat.le_of_ble_eq_true rfl, by exact Nat.le_of_ble_eq_true rfl⟩ rfl H.1) rfl ⟨rfl, rfl⟩ (fun r4 h3 H => ?_)
  refine z_getI (pc := 13) hc dX5_endOf_13 zf_RX5_54 rfl rfl rfl H (fun v5 H => ?_)
  refine z_istore_n (pc := 16) hc dX5_endOf_16 (by decide) (ρ' := [some (.inr a0), some (.inl x1), some (.inl (v2 + 1)), some (.inl v5)]) rfl ?_
  refine z_mask [true, false, true, true] (ρ' := [some (.inr a0), none, some (.inl (v2 + 1)), some (.inl v5)]) rfl ?_
  exact rX5_endOf_H17 hc H
end
theorem metX5_endOf (l : Launch) (D : Zd) (base : Nat) {a0 : Nat} {x1 : Int} {h : Zm} {Q : Int → Zm → Prop} (H : mX5_endOf a0 x1 h Q) : zMet l D base yX5_endOf cX5_endOf 4 (some .int) zrX5_endOf [.inr a0, .inl x1] h (zQi D base Q) :=
  z_met (by decide +kernel) (Nat.le_of_ble_eq_true rfl) (fun p e s m args below meth c hc hn => rX5_endOf hc H)
def zrX5_belowOf : Room := { frames := 3, cells := 0, slots := 0, locals := 66 }
def mX5_belowOf (a0 : Nat) (x1 : Int) (h : Zm) (Q : Int → Zm → Prop) : Prop :=
  cRc h 15 a0 <| mX5_endOf a0 x1 h fun v2 h1 => cRc h1 15 a0 <| mX5_startOf a0 x1 h1 fun v4 h3 => Q ((v2 - v4) - 1) h3
section
variable {p : Program} {l : Launch} {e : Env} {s : State} {m : MethodId} {args : Array Value} {below : List Frame} {meth : Method} {c : Code} {D : Zd} {base : Nat}
set_option maxRecDepth 100000 in
set_option maxHeartbeats 4000000 in
theorem rX5_belowOf (hc : zOk p s m args meth c D cX5_belowOf 2 RX5 (some .int)) {a0 : Nat} {x1 : Int} {h : Zm} {Q : Int → Zm → Prop} (H : mX5_belowOf a0 x1 h Q) : zW p l e zrX5_belowOf s m args below meth c D base 2 (MQ below (zQi D base Q) args s 0 0 (zFree base)) 0 0 0 [some (.inr a0), some (.inl x1)] [] h := by
  unfold mX5_belowOf at H
  refine z_aload_n (pc := 0) hc dX5_belowOf_0 rfl ?_
  refine z_iload_n (pc := 1) hc dX5_belowOf_1 rfl ?_
  refine z_calI (z_runV (pc := 2) (ci := 5) (T := TX5) (N := 4) hc dX5_belowOf_2 zw_RX5_63 (metX5_endOf _ _ _ H.2) rfl (Nat.le_of_ble_eq_true rfl) ⟨Nat.le_of_ble_eq_true rfl, Nat.le_of_ble_eq_true rfl⟩ ⟨by exact Nat.le_of_ble_eq_true rfl, by exact Nat.le_of_ble_eq_true rfl⟩ rfl H.1) rfl ⟨rfl, rfl⟩ (fun v2 h1 H => ?_)
  refine z_aload_n (pc := 5) hc dX5_belowOf_5 rfl ?_
  refine z_iload_n (pc := 6) hc dX5_belowOf_6 rfl ?_
  refine z_calI (z_runV (pc := 7) (ci := 5) (T := TX5) (N := 4) hc dX5_belowOf_7 zw_RX5_46 (metX5_startOf _ _ _ H.2) rfl (Nat.le_of_ble_eq_true rfl) ⟨Nat.le_of_ble_eq_true rfl, Nat.le_of_ble_eq_true rfl⟩ ⟨by exact Nat.le_of_ble_eq_true rfl, by exact Nat.le_of_ble_eq_true rfl⟩ rfl H.1) rfl ⟨rfl, rfl⟩ (fun v4 h3 H => ?_)
  refine z_isub (pc := 10) hc dX5_belowOf_10 ?_
  refine z_iconst (pc := 11) hc dX5_belowOf_11 ?_
  refine z_isub (pc := 12) hc dX5_belowOf_12 ?_
  exact z_ireturn (pc := 13) hc dX5_belowOf_13 H
end
theorem metX5_belowOf (l : Launch) (D : Zd) (base : Nat) {a0 : Nat} {x1 : Int} {h : Zm} {Q : Int → Zm → Prop} (H : mX5_belowOf a0 x1 h Q) : zMet l D base yX5_belowOf cX5_belowOf 2 (some .int) zrX5_belowOf [.inr a0, .inl x1] h (zQi D base Q) :=
  z_met (by decide +kernel) (Nat.le_of_ble_eq_true rfl) (fun p e s m args below meth c hc hn => rX5_belowOf hc H)
def zrX5_childrenOf : Room := { frames := 2, cells := 0, slots := 0, locals := 43 }
def mX5_childrenOf_B4 (X4 : Int → Int → Zm → Prop) (a0 : Nat) (x1 : Int) (x2 : Int) (x3 : Int) (h : Zm) (Q : Int → Zm → Prop) : Prop :=
  cGi h 15 a0 3 fun v1 => cLt x3 v1
  (cGr h 15 a0 1 fun r2 => cLd h 1 r2 x3 fun v3 => cRc h 15 a0 <| mX5_nodeAt a0 v3 h fun r5 h4 => cGi h4 12 r5 1 fun v6 => cEq v6 x1
    (X4 (x2 + 1) (x3 + 1) h4)
    (X4 x2 (x3 + 1) h4))
  (Q x2 h)
def mX5_childrenOf_H4  (a0 : Nat) (x1 : Int) (x2 : Int) (x3 : Int) (h : Zm) (Q : Int → Zm → Prop) : Prop :=
  lfp2 (fun X4 x2 x3 h => mX5_childrenOf_B4 X4 a0 x1 x2 x3 h Q) x2 x3 h
def mX5_childrenOf (a0 : Nat) (x1 : Int) (h : Zm) (Q : Int → Zm → Prop) : Prop :=
  mX5_childrenOf_H4  a0 x1 0 1 h Q
section
variable {p : Program} {l : Launch} {e : Env} {s : State} {m : MethodId} {args : Array Value} {below : List Frame} {meth : Method} {c : Code} {D : Zd} {base : Nat}
set_option maxRecDepth 100000 in
set_option maxHeartbeats 4000000 in
theorem rX5_childrenOf_B4 (hc : zOk p s m args meth c D cX5_childrenOf 4 RX5 (some .int)) {X4 : Int → Int → Zm → Prop} {a0 : Nat} {x1 : Int} {x2 : Int} {x3 : Int} {h : Zm} {Q : Int → Zm → Prop} (hX4 : ∀ (x2 : Int) (x3 : Int) (h : Zm), X4 x2 x3 h → zW p l e zrX5_childrenOf s m args below meth c D base 4 (MQ below (zQi D base Q) args s 0 0 (zFree base)) 0 0 4 [some (.inr a0), some (.inl x1), some (.inl x2), some (.inl x3)] [] h) (H : mX5_childrenOf_B4 X4 a0 x1 x2 x3 h Q) : zW p l e zrX5_childrenOf s m args below meth c D base 4 (MQ below (zQi D base Q) args s 0 0 (zFree base)) 0 0 4 [some (.inr a0), some (.inl x1), some (.inl x2), some (.inl x3)] [] h := by
  unfold mX5_childrenOf_B4 at H
  refine z_iload_n (pc := 4) hc dX5_childrenOf_4 rfl ?_
  refine z_aload_n (pc := 5) hc dX5_childrenOf_5 rfl ?_
  refine z_getI (pc := 6) hc dX5_childrenOf_6 zf_RX5_25 rfl rfl rfl H (fun v1 H => ?_)
  refine z_icmp_ge (tgt := 38) (pc := 9) hc dX5_childrenOf_9 rfl H (fun H => ?_) (fun H => ?_)
  · refine z_aload_n (pc := 12) hc dX5_childrenOf_12 rfl ?_
    refine z_aload_n (pc := 13) hc dX5_childrenOf_13 rfl ?_
    refine z_getR (pc := 14) hc dX5_childrenOf_14 zf_RX5_18 rfl rfl rfl H (fun r2 H => ?_)
    refine z_iload_n (pc := 17) hc dX5_childrenOf_17 rfl ?_
    refine z_iaload (pc := 18) hc dX5_childrenOf_18 H (fun v3 H => ?_)
    refine z_calR (z_runV (pc := 19) (ci := 5) (T := TX5) (N := 4) hc dX5_childrenOf_19 zw_RX5_50 (metX5_nodeAt _ _ _ H.2) rfl (Nat.le_of_ble_eq_true rfl) ⟨Nat.le_of_ble_eq_true rfl, Nat.le_of_ble_eq_true rfl⟩ ⟨by exact Nat.le_of_ble_eq_true rfl, by exact Nat.le_of_ble_eq_true rfl⟩ rfl H.1) rfl ⟨rfl, rfl⟩ (fun r5 h4 H => ?_)
    refine z_getI (pc := 22) hc dX5_childrenOf_22 zf_RX5_66 rfl rfl rfl H (fun v6 H => ?_)
    refine z_iload_n (pc := 25) hc dX5_childrenOf_25 rfl ?_
    refine z_icmp_ne (tgt := 32) (pc := 26) hc dX5_childrenOf_26 rfl H (fun H => ?_) (fun H => ?_)
    · refine z_iinc (pc := 29) hc dX5_childrenOf_29 (by decide) rfl (ρ' := [some (.inr a0), some (.inl x1), some (.inl (x2 + 1)), some (.inl x3)]) rfl ?_
      refine z_iinc (pc := 32) hc dX5_childrenOf_32 (by decide) rfl (ρ' := [some (.inr a0), some (.inl x1), some (.inl (x2 + 1)), some (.inl (x3 + 1))]) rfl ?_
      refine z_goto (tgt := 4) (pc := 35) hc dX5_childrenOf_35 rfl ?_
      exact hX4 _ _ _ H
    · refine z_iinc (pc := 32) hc dX5_childrenOf_32 (by decide) rfl (ρ' := [some (.inr a0), some (.inl x1), some (.inl x2), some (.inl (x3 + 1))]) rfl ?_
      refine z_goto (tgt := 4) (pc := 35) hc dX5_childrenOf_35 rfl ?_
      exact hX4 _ _ _ H
  · refine z_iload_n (pc := 38) hc dX5_childrenOf_38 rfl ?_
    exact z_ireturn (pc := 39) hc dX5_childrenOf_39 H
theorem rX5_childrenOf_H4 (hc : zOk p s m args meth c D cX5_childrenOf 4 RX5 (some .int))  {a0 : Nat} {x1 : Int} {x2 : Int} {x3 : Int} {h : Zm} {Q : Int → Zm → Prop}  (H : mX5_childrenOf_H4  a0 x1 x2 x3 h Q) : zW p l e zrX5_childrenOf s m args below meth c D base 4 (MQ below (zQi D base Q) args s 0 0 (zFree base)) 0 0 4 [some (.inr a0), some (.inl x1), some (.inl x2), some (.inl x3)] [] h :=
  H (fun x2 x3 h => zW p l e zrX5_childrenOf s m args below meth c D base 4 (MQ below (zQi D base Q) args s 0 0 (zFree base)) 0 0 4 [some (.inr a0), some (.inl x1), some (.inl x2), some (.inl x3)] [] h) (fun x2 x3 h H => rX5_childrenOf_B4 hc (fun _ _ _ q => q) H)
set_option maxRecDepth 100000 in
set_option maxHeartbeats 4000000 in
theorem rX5_childrenOf (hc : zOk p s m args meth c D cX5_childrenOf 4 RX5 (some .int)) {a0 : Nat} {x1 : Int} {h : Zm} {Q : Int → Zm → Prop} (H : mX5_childrenOf a0 x1 h Q) : zW p l e zrX5_childrenOf s m args below meth c D base 4 (MQ below (zQi D base Q) args s 0 0 (zFree base)) 0 0 0 [some (.inr a0), some (.inl x1), none, none] [] h := by
  unfold mX5_childrenOf at H
  refine z_iconst (pc := 0) hc dX5_childrenOf_0 ?_
  refine z_istore_n (pc := 1) hc dX5_childrenOf_1 (by decide) (ρ' := [some (.inr a0), some (.inl x1), some (.inl 0), none]) rfl ?_
  refine z_iconst (pc := 2) hc dX5_childrenOf_2 ?_
  refine z_istore_n (pc := 3) hc dX5_childrenOf_3 (by decide) (ρ' := [some (.inr a0), some (.inl x1), some (.inl 0), some (.inl 1)]) rfl ?_
  exact rX5_childrenOf_H4 hc H
end
theorem metX5_childrenOf (l : Launch) (D : Zd) (base : Nat) {a0 : Nat} {x1 : Int} {h : Zm} {Q : Int → Zm → Prop} (H : mX5_childrenOf a0 x1 h Q) : zMet l D base yX5_childrenOf cX5_childrenOf 4 (some .int) zrX5_childrenOf [.inr a0, .inl x1] h (zQi D base Q) :=
  z_met (by decide +kernel) (Nat.le_of_ble_eq_true rfl) (fun p e s m args below meth c hc hn => rX5_childrenOf hc H)
def zrX5_placeOf : Room := { frames := 2, cells := 0, slots := 0, locals := 43 }
def mX5_placeOf_B14 (X14 : Int → Int → Zm → Prop) (a0 : Nat) (x1 : Int) (x2 : Int) (x3 : Int) (x4 : Int) (h : Zm) (Q : Int → Zm → Prop) : Prop :=
  cGi h 15 a0 3 fun v4 => cLt x4 v4
  (cGr h 15 a0 1 fun r5 => cLd h 1 r5 x4 fun v6 => cEq v6 x1
    (cEq x1 0
      (Q 0 h)
      (Q x3 h))
    (cGr h 15 a0 1 fun r7 => cLd h 1 r7 x4 fun v8 => cRc h 15 a0 <| mX5_nodeAt a0 v8 h fun r10 h9 => cGi h9 12 r10 1 fun v11 => cEq v11 x2
      (X14 (x3 + 1) (x4 + 1) h9)
      (X14 x3 (x4 + 1) h9)))
  (cEq x1 0
    (Q 0 h)
    (Q x3 h))
def mX5_placeOf_H14  (a0 : Nat) (x1 : Int) (x2 : Int) (x3 : Int) (x4 : Int) (h : Zm) (Q : Int → Zm → Prop) : Prop :=
  lfp2 (fun X14 x3 x4 h => mX5_placeOf_B14 X14 a0 x1 x2 x3 x4 h Q) x3 x4 h
def mX5_placeOf (a0 : Nat) (x1 : Int) (h : Zm) (Q : Int → Zm → Prop) : Prop :=
  cRc h 15 a0 <| mX5_nodeAt a0 x1 h fun r2 h1 => cGi h1 12 r2 1 fun v3 => mX5_placeOf_H14  a0 x1 v3 0 1 h1 Q
section
variable {p : Program} {l : Launch} {e : Env} {s : State} {m : MethodId} {args : Array Value} {below : List Frame} {meth : Method} {c : Code} {D : Zd} {base : Nat}
set_option maxRecDepth 100000 in
set_option maxHeartbeats 4000000 in
theorem rX5_placeOf_B14 (hc : zOk p s m args meth c D cX5_placeOf 5 RX5 (some .int)) {X14 : Int → Int → Zm → Prop} {a0 : Nat} {x1 : Int} {x2 : Int} {x3 : Int} {x4 : Int} {h : Zm} {Q : Int → Zm → Prop} (hX14 : ∀ (x3 : Int) (x4 : Int) (h : Zm), X14 x3 x4 h → zW p l e zrX5_placeOf s m args below meth c D base 5 (MQ below (zQi D base Q) args s 0 0 (zFree base)) 0 0 14 [some (.inr a0), some (.inl x1), some (.inl x2), some (.inl x3), some (.inl x4)] [] h) (H : mX5_placeOf_B14 X14 a0 x1 x2 x3 x4 h Q) : zW p l e zrX5_placeOf s m args below meth c D base 5 (MQ below (zQi D base Q) args s 0 0 (zFree base)) 0 0 14 [some (.inr a0), some (.inl x1), some (.inl x2), some (.inl x3), some (.inl x4)] [] h := by
  unfold mX5_placeOf_B14 at H
  refine z_iload (pc := 14) hc dX5_placeOf_14 rfl ?_
  refine z_aload_n (pc := 16) hc dX5_placeOf_16 rfl ?_
  refine z_getI (pc := 17) hc dX5_placeOf_17 zf_RX5_25 rfl rfl rfl H (fun v4 H => ?_)
  refine z_icmp_ge (tgt := 61) (pc := 20) hc dX5_placeOf_20 rfl H (fun H => ?_) (fun H => ?_)
  · refine z_aload_n (pc := 23) hc dX5_placeOf_23 rfl ?_
    refine z_getR (pc := 24) hc dX5_placeOf_24 zf_RX5_18 rfl rfl rfl H (fun r5 H => ?_)
    refine z_iload (pc := 27) hc dX5_placeOf_27 rfl ?_
    refine z_iaload (pc := 29) hc dX5_placeOf_29 H (fun v6 H => ?_)
    refine z_iload_n (pc := 30) hc dX5_placeOf_30 rfl ?_
    refine z_icmp_eq (tgt := 61) (pc := 31) hc dX5_placeOf_31 rfl H (fun H => ?_) (fun H => ?_)
    · refine z_iload_n (pc := 61) hc dX5_placeOf_61 rfl ?_
      refine z_if_ne (tgt := 69) (pc := 62) hc dX5_placeOf_62 rfl H (fun H => ?_) (fun H => ?_)
      · refine z_iconst (pc := 65) hc dX5_placeOf_65 ?_
        refine z_goto (tgt := 70) (pc := 66) hc dX5_placeOf_66 rfl ?_
        exact z_ireturn (pc := 70) hc dX5_placeOf_70 H
      · refine z_iload_n (pc := 69) hc dX5_placeOf_69 rfl ?_
        exact z_ireturn (pc := 70) hc dX5_placeOf_70 H
    · refine z_aload_n (pc := 34) hc dX5_placeOf_34 rfl ?_
      refine z_aload_n (pc := 35) hc dX5_placeOf_35 rfl ?_
      refine z_getR (pc := 36) hc dX5_placeOf_36 zf_RX5_18 rfl rfl rfl H (fun r7 H => ?_)
      refine z_iload (pc := 39) hc dX5_placeOf_39 rfl ?_
      refine z_iaload (pc := 41) hc dX5_placeOf_41 H (fun v8 H => ?_)
      refine z_calR (z_runV (pc := 42) (ci := 5) (T := TX5) (N := 4) hc dX5_placeOf_42 zw_RX5_50 (metX5_nodeAt _ _ _ H.2) rfl (Nat.le_of_ble_eq_true rfl) ⟨Nat.le_of_ble_eq_true rfl, Nat.le_of_ble_eq_true rfl⟩ ⟨by exact Nat.le_of_ble_eq_true rfl, by exact Nat.le_of_ble_eq_true rfl⟩ rfl H.1) rfl ⟨rfl, rfl⟩ (fun r10 h9 H => ?_)
      refine z_getI (pc := 45) hc dX5_placeOf_45 zf_RX5_66 rfl rfl rfl H (fun v11 H => ?_)
      refine z_iload_n (pc := 48) hc dX5_placeOf_48 rfl ?_
      refine z_icmp_ne (tgt := 55) (pc := 49) hc dX5_placeOf_49 rfl H (fun H => ?_) (fun H => ?_)
      · refine z_iinc (pc := 52) hc dX5_placeOf_52 (by decide) rfl (ρ' := [some (.inr a0), some (.inl x1), some (.inl x2), some (.inl (x3 + 1)), some (.inl x4)]) rfl ?_
        refine z_iinc (pc := 55) hc dX5_placeOf_55 (by decide) rfl (ρ' := [some (.inr a0), some (.inl x1), some (.inl x2), some (.inl (x3 + 1)), some (.inl (x4 + 1))]) rfl ?_
        refine z_goto (tgt := 14) (pc := 58) hc dX5_placeOf_58 rfl ?_
        exact hX14 _ _ _ H
      · refine z_iinc (pc := 55) hc dX5_placeOf_55 (by decide) rfl (ρ' := [some (.inr a0), some (.inl x1), some (.inl x2), some (.inl x3), some (.inl (x4 + 1))]) rfl ?_
        refine z_goto (tgt := 14) (pc := 58) hc dX5_placeOf_58 rfl ?_
        exact hX14 _ _ _ H
  · refine z_iload_n (pc := 61) hc dX5_placeOf_61 rfl ?_
    refine z_if_ne (tgt := 69) (pc := 62) hc dX5_placeOf_62 rfl H (fun H => ?_) (fun H => ?_)
    · refine z_iconst (pc := 65) hc dX5_placeOf_65 ?_
      refine z_goto (tgt := 70) (pc := 66) hc dX5_placeOf_66 rfl ?_
      exact z_ireturn (pc := 70) hc dX5_placeOf_70 H
    · refine z_iload_n (pc := 69) hc dX5_placeOf_69 rfl ?_
      exact z_ireturn (pc := 70) hc dX5_placeOf_70 H
theorem rX5_placeOf_H14 (hc : zOk p s m args meth c D cX5_placeOf 5 RX5 (some .int))  {a0 : Nat} {x1 : Int} {x2 : Int} {x3 : Int} {x4 : Int} {h : Zm} {Q : Int → Zm → Prop}  (H : mX5_placeOf_H14  a0 x1 x2 x3 x4 h Q) : zW p l e zrX5_placeOf s m args below meth c D base 5 (MQ below (zQi D base Q) args s 0 0 (zFree base)) 0 0 14 [some (.inr a0), some (.inl x1), some (.inl x2), some (.inl x3), some (.inl x4)] [] h :=
  H (fun x3 x4 h => zW p l e zrX5_placeOf s m args below meth c D base 5 (MQ below (zQi D base Q) args s 0 0 (zFree base)) 0 0 14 [some (.inr a0), some (.inl x1), some (.inl x2), some (.inl x3), some (.inl x4)] [] h) (fun x3 x4 h H => rX5_placeOf_B14 hc (fun _ _ _ q => q) H)
set_option maxRecDepth 100000 in
set_option maxHeartbeats 4000000 in
theorem rX5_placeOf (hc : zOk p s m args meth c D cX5_placeOf 5 RX5 (some .int)) {a0 : Nat} {x1 : Int} {h : Zm} {Q : Int → Zm → Prop} (H : mX5_placeOf a0 x1 h Q) : zW p l e zrX5_placeOf s m args below meth c D base 5 (MQ below (zQi D base Q) args s 0 0 (zFree base)) 0 0 0 [some (.inr a0), some (.inl x1), none, none, none] [] h := by
  unfold mX5_placeOf at H
  refine z_aload_n (pc := 0) hc dX5_placeOf_0 rfl ?_
  refine z_iload_n (pc := 1) hc dX5_placeOf_1 rfl ?_
  refine z_calR (z_runV (pc := 2) (ci := 5) (T := TX5) (N := 4) hc dX5_placeOf_2 zw_RX5_50 (metX5_nodeAt _ _ _ H.2) rfl (Nat.le_of_ble_eq_true rfl) ⟨Nat.le_of_ble_eq_true rfl, Nat.le_of_ble_eq_true rfl⟩ ⟨by exact Nat.le_of_ble_eq_true rfl, by exact Nat.le_of_ble_eq_true rfl⟩ rfl H.1) rfl ⟨rfl, rfl⟩ (fun r2 h1 H => ?_)
  refine z_getI (pc := 5) hc dX5_placeOf_5 zf_RX5_66 rfl rfl rfl H (fun v3 H => ?_)
  refine z_istore_n (pc := 8) hc dX5_placeOf_8 (by decide) (ρ' := [some (.inr a0), some (.inl x1), some (.inl v3), none, none]) rfl ?_
  refine z_iconst (pc := 9) hc dX5_placeOf_9 ?_
  refine z_istore_n (pc := 10) hc dX5_placeOf_10 (by decide) (ρ' := [some (.inr a0), some (.inl x1), some (.inl v3), some (.inl 0), none]) rfl ?_
  refine z_iconst (pc := 11) hc dX5_placeOf_11 ?_
  refine z_istore (pc := 12) hc dX5_placeOf_12 (by decide) (ρ' := [some (.inr a0), some (.inl x1), some (.inl v3), some (.inl 0), some (.inl 1)]) rfl ?_
  exact rX5_placeOf_H14 hc H
end
theorem metX5_placeOf (l : Launch) (D : Zd) (base : Nat) {a0 : Nat} {x1 : Int} {h : Zm} {Q : Int → Zm → Prop} (H : mX5_placeOf a0 x1 h Q) : zMet l D base yX5_placeOf cX5_placeOf 5 (some .int) zrX5_placeOf [.inr a0, .inl x1] h (zQi D base Q) :=
  z_met (by decide +kernel) (Nat.le_of_ble_eq_true rfl) (fun p e s m args below meth c hc hn => rX5_placeOf hc H)
def zrX5_settle : Room := { frames := 2, cells := 0, slots := 0, locals := 43 }
def mX5_settle_B2 (X2 : Int → Zm → Prop) (a0 : Nat) (x1 : Int) (h : Zm) (Q : Zm → Prop) : Prop :=
  cGi h 15 a0 3 fun v1 => cLt x1 v1
  (cGr h 15 a0 1 fun r2 => cLd h 1 r2 x1 fun v3 => cRc h 15 a0 <| mX5_nodeAt a0 v3 h fun r5 h4 => cGi h4 12 r5 1 fun v6 => cRc h4 15 a0 <| mX5_nodeAt a0 v6 h4 fun r8 h7 => cRc h7 12 r5 <| mX2_settleBelow r5 r8 h7 fun h9 => X2 (x1 + 1) h9)
  (Q h)
def mX5_settle_H2  (a0 : Nat) (x1 : Int) (h : Zm) (Q : Zm → Prop) : Prop :=
  lfp1 (fun X2 x1 h => mX5_settle_B2 X2 a0 x1 h Q) x1 h
def mX5_settle (a0 : Nat) (h : Zm) (Q : Zm → Prop) : Prop :=
  mX5_settle_H2  a0 1 h Q
section
variable {p : Program} {l : Launch} {e : Env} {s : State} {m : MethodId} {args : Array Value} {below : List Frame} {meth : Method} {c : Code} {D : Zd} {base : Nat}
set_option maxRecDepth 100000 in
set_option maxHeartbeats 4000000 in
theorem rX5_settle_B2 (hc : zOk p s m args meth c D cX5_settle 3 RX5 none) {X2 : Int → Zm → Prop} {a0 : Nat} {x1 : Int} {h : Zm} {Q : Zm → Prop} (hX2 : ∀ (x1 : Int) (h : Zm), X2 x1 h → zW p l e zrX5_settle s m args below meth c D base 3 (MQ below (zQv D base Q) args s 0 0 (zFree base)) 0 0 2 [some (.inr a0), some (.inl x1), none] [] h) (H : mX5_settle_B2 X2 a0 x1 h Q) : zW p l e zrX5_settle s m args below meth c D base 3 (MQ below (zQv D base Q) args s 0 0 (zFree base)) 0 0 2 [some (.inr a0), some (.inl x1), none] [] h := by
  unfold mX5_settle_B2 at H
  refine z_iload_n (pc := 2) hc dX5_settle_2 rfl ?_
  refine z_aload_n (pc := 3) hc dX5_settle_3 rfl ?_
  refine z_getI (pc := 4) hc dX5_settle_4 zf_RX5_25 rfl rfl rfl H (fun v1 H => ?_)
  refine z_icmp_ge (tgt := 39) (pc := 7) hc dX5_settle_7 rfl H (fun H => ?_) (fun H => ?_)
  · refine z_aload_n (pc := 10) hc dX5_settle_10 rfl ?_
    refine z_aload_n (pc := 11) hc dX5_settle_11 rfl ?_
    refine z_getR (pc := 12) hc dX5_settle_12 zf_RX5_18 rfl rfl rfl H (fun r2 H => ?_)
    refine z_iload_n (pc := 15) hc dX5_settle_15 rfl ?_
    refine z_iaload (pc := 16) hc dX5_settle_16 H (fun v3 H => ?_)
    refine z_calR (z_runV (pc := 17) (ci := 5) (T := TX5) (N := 4) hc dX5_settle_17 zw_RX5_50 (metX5_nodeAt _ _ _ H.2) rfl (Nat.le_of_ble_eq_true rfl) ⟨Nat.le_of_ble_eq_true rfl, Nat.le_of_ble_eq_true rfl⟩ ⟨by exact Nat.le_of_ble_eq_true rfl, by exact Nat.le_of_ble_eq_true rfl⟩ rfl H.1) rfl ⟨rfl, rfl⟩ (fun r5 h4 H => ?_)
    refine z_astore_n (pc := 20) hc dX5_settle_20 (by decide) (ρ' := [some (.inr a0), some (.inl x1), some (.inr r5)]) rfl ?_
    refine z_aload_n (pc := 21) hc dX5_settle_21 rfl ?_
    refine z_aload_n (pc := 22) hc dX5_settle_22 rfl ?_
    refine z_aload_n (pc := 23) hc dX5_settle_23 rfl ?_
    refine z_getI (pc := 24) hc dX5_settle_24 zf_RX5_66 rfl rfl rfl H (fun v6 H => ?_)
    refine z_calR (z_runV (pc := 27) (ci := 5) (T := TX5) (N := 4) hc dX5_settle_27 zw_RX5_50 (metX5_nodeAt _ _ _ H.2) rfl (Nat.le_of_ble_eq_true rfl) ⟨Nat.le_of_ble_eq_true rfl, Nat.le_of_ble_eq_true rfl⟩ ⟨by exact Nat.le_of_ble_eq_true rfl, by exact Nat.le_of_ble_eq_true rfl⟩ rfl H.1) rfl ⟨rfl, rfl⟩ (fun r8 h7 H => ?_)
    refine z_calV0 (z_runV (pc := 30) (ci := 2) (T := TX2) (N := 18) hc dX5_settle_30 zw_RX5_82 (metX2_settleBelow _ _ _ H.2) rfl (Nat.le_of_ble_eq_true rfl) ⟨Nat.le_of_ble_eq_true rfl, Nat.le_of_ble_eq_true rfl⟩ ⟨by exact Nat.le_of_ble_eq_true rfl, by exact Nat.le_of_ble_eq_true rfl⟩ rfl H.1) rfl ⟨rfl, rfl⟩ (fun h9 H => ?_)
    refine z_iinc (pc := 33) hc dX5_settle_33 (by decide) rfl (ρ' := [some (.inr a0), some (.inl (x1 + 1)), some (.inr r5)]) rfl ?_
    refine z_goto (tgt := 2) (pc := 36) hc dX5_settle_36 rfl ?_
    refine z_mask [true, true, false] (ρ' := [some (.inr a0), some (.inl (x1 + 1)), none]) rfl ?_
    exact hX2 _ _ H
  · exact z_return (pc := 39) hc dX5_settle_39 H
theorem rX5_settle_H2 (hc : zOk p s m args meth c D cX5_settle 3 RX5 none)  {a0 : Nat} {x1 : Int} {h : Zm} {Q : Zm → Prop}  (H : mX5_settle_H2  a0 x1 h Q) : zW p l e zrX5_settle s m args below meth c D base 3 (MQ below (zQv D base Q) args s 0 0 (zFree base)) 0 0 2 [some (.inr a0), some (.inl x1), none] [] h :=
  H (fun x1 h => zW p l e zrX5_settle s m args below meth c D base 3 (MQ below (zQv D base Q) args s 0 0 (zFree base)) 0 0 2 [some (.inr a0), some (.inl x1), none] [] h) (fun x1 h H => rX5_settle_B2 hc (fun _ _ q => q) H)
set_option maxRecDepth 100000 in
set_option maxHeartbeats 4000000 in
theorem rX5_settle (hc : zOk p s m args meth c D cX5_settle 3 RX5 none) {a0 : Nat} {h : Zm} {Q : Zm → Prop} (H : mX5_settle a0 h Q) : zW p l e zrX5_settle s m args below meth c D base 3 (MQ below (zQv D base Q) args s 0 0 (zFree base)) 0 0 0 [some (.inr a0), none, none] [] h := by
  unfold mX5_settle at H
  refine z_iconst (pc := 0) hc dX5_settle_0 ?_
  refine z_istore_n (pc := 1) hc dX5_settle_1 (by decide) (ρ' := [some (.inr a0), some (.inl 1), none]) rfl ?_
  exact rX5_settle_H2 hc H
end
theorem metX5_settle (l : Launch) (D : Zd) (base : Nat) {a0 : Nat} {h : Zm} {Q : Zm → Prop} (H : mX5_settle a0 h Q) : zMet l D base yX5_settle cX5_settle 3 none zrX5_settle [.inr a0] h (zQv D base Q) :=
  z_met (by decide +kernel) (Nat.le_of_ble_eq_true rfl) (fun p e s m args below meth c hc hn => rX5_settle hc H)
def zrX5_putIn : Room := { frames := 3, cells := 0, slots := 0, locals := 66 }
def mX5_putIn_B62 (X62 : Int → Zm → Prop) (a0 : Nat) (x1 : Int) (x2 : Int) (x3 : Int) (x4 : Int) (h : Zm) (Q : Zm → Prop) : Prop :=
  cLt x4 x1
  (cGr h 15 a0 1 fun r17 => cGr h 15 a0 2 fun r18 => cLd h 1 r18 x4 fun v19 => cSt h r17 (x3 + x4) v19 fun h20 => X62 (x4 + 1) h20)
  (cGi h 15 a0 3 fun v9 => cPi h 15 a0 3 (v9 + x1) fun h10 => cGr h10 15 a0 2 fun r11 => cLd h10 1 r11 0 fun v12 => cRc h10 15 a0 <| mX5_nodeAt a0 v12 h10 fun r14 h13 => cPi h13 12 r14 1 x2 fun h15 => cRc h15 15 a0 <| mX5_settle a0 h15 fun h16 => Q h16)
def mX5_putIn_H62  (a0 : Nat) (x1 : Int) (x2 : Int) (x3 : Int) (x4 : Int) (h : Zm) (Q : Zm → Prop) : Prop :=
  lfp1 (fun X62 x4 h => mX5_putIn_B62 X62 a0 x1 x2 x3 x4 h Q) x4 h
def mX5_putIn_B31 (X31 : Int → Zm → Prop) (a0 : Nat) (x1 : Int) (x2 : Int) (x3 : Int) (x4 : Int) (h : Zm) (Q : Zm → Prop) : Prop :=
  cLt x4 x3
  (mX5_putIn_H62  a0 x1 x2 x3 0 h Q)
  (cGr h 15 a0 1 fun r5 => cGr h 15 a0 1 fun r6 => cLd h 1 r6 x4 fun v7 => cSt h r5 (x4 + x1) v7 fun h8 => X31 (x4 + (-1)) h8)
def mX5_putIn_H31  (a0 : Nat) (x1 : Int) (x2 : Int) (x3 : Int) (x4 : Int) (h : Zm) (Q : Zm → Prop) : Prop :=
  lfp1 (fun X31 x4 h => mX5_putIn_B31 X31 a0 x1 x2 x3 x4 h Q) x4 h
def mX5_putIn (a0 : Nat) (x1 : Int) (x2 : Int) (h : Zm) (Q : Zm → Prop) : Prop :=
  cLt x1 1
  (Q h)
  (cGi h 15 a0 3 fun v1 => cLe (v1 + x1) 24
    (cRc h 15 a0 <| mX5_endOf a0 x2 h fun v3 h2 => cGi h2 15 a0 3 fun v4 => mX5_putIn_H31  a0 x1 x2 v3 (v4 - 1) h2 Q)
    (Q h))
section
variable {p : Program} {l : Launch} {e : Env} {s : State} {m : MethodId} {args : Array Value} {below : List Frame} {meth : Method} {c : Code} {D : Zd} {base : Nat}
set_option maxRecDepth 100000 in
set_option maxHeartbeats 4000000 in
theorem rX5_putIn_B62 (hc : zOk p s m args meth c D cX5_putIn 5 RX5 none) {X62 : Int → Zm → Prop} {a0 : Nat} {x1 : Int} {x2 : Int} {x3 : Int} {x4 : Int} {h : Zm} {Q : Zm → Prop} (hX62 : ∀ (x4 : Int) (h : Zm), X62 x4 h → zW p l e zrX5_putIn s m args below meth c D base 5 (MQ below (zQv D base Q) args s 0 0 (zFree base)) 0 0 62 [some (.inr a0), some (.inl x1), some (.inl x2), some (.inl x3), some (.inl x4)] [] h) (H : mX5_putIn_B62 X62 a0 x1 x2 x3 x4 h Q) : zW p l e zrX5_putIn s m args below meth c D base 5 (MQ below (zQv D base Q) args s 0 0 (zFree base)) 0 0 62 [some (.inr a0), some (.inl x1), some (.inl x2), some (.inl x3), some (.inl x4)] [] h := by
  unfold mX5_putIn_B62 at H
  refine z_iload (pc := 62) hc dX5_putIn_62 rfl ?_
  refine z_iload_n (pc := 64) hc dX5_putIn_64 rfl ?_
  refine z_icmp_ge (tgt := 90) (pc := 65) hc dX5_putIn_65 rfl H (fun H => ?_) (fun H => ?_)
  · refine z_aload_n (pc := 68) hc dX5_putIn_68 rfl ?_
    refine z_getR (pc := 69) hc dX5_putIn_69 zf_RX5_18 rfl rfl rfl H (fun r17 H => ?_)
    refine z_iload_n (pc := 72) hc dX5_putIn_72 rfl ?_
    refine z_iload (pc := 73) hc dX5_putIn_73 rfl ?_
    refine z_iadd (pc := 75) hc dX5_putIn_75 ?_
    refine z_aload_n (pc := 76) hc dX5_putIn_76 rfl ?_
    refine z_getR (pc := 77) hc dX5_putIn_77 zf_RX5_22 rfl rfl rfl H (fun r18 H => ?_)
    refine z_iload (pc := 80) hc dX5_putIn_80 rfl ?_
    refine z_iaload (pc := 82) hc dX5_putIn_82 H (fun v19 H => ?_)
    refine z_iastore (pc := 83) hc dX5_putIn_83 H (fun h20 H => ?_)
    refine z_iinc (pc := 84) hc dX5_putIn_84 (by decide) rfl (ρ' := [some (.inr a0), some (.inl x1), some (.inl x2), some (.inl x3), some (.inl (x4 + 1))]) rfl ?_
    refine z_goto (tgt := 62) (pc := 87) hc dX5_putIn_87 rfl ?_
    exact hX62 _ _ H
  · refine z_aload_n (pc := 90) hc dX5_putIn_90 rfl ?_
    refine z_dup (pc := 91) hc dX5_putIn_91 ?_
    refine z_getI (pc := 92) hc dX5_putIn_92 zf_RX5_25 rfl rfl rfl H (fun v9 H => ?_)
    refine z_iload_n (pc := 95) hc dX5_putIn_95 rfl ?_
    refine z_iadd (pc := 96) hc dX5_putIn_96 ?_
    refine z_putI (pc := 97) hc dX5_putIn_97 zf_RX5_25 rfl rfl rfl H (fun h10 H => ?_)
    refine z_aload_n (pc := 100) hc dX5_putIn_100 rfl ?_
    refine z_aload_n (pc := 101) hc dX5_putIn_101 rfl ?_
    refine z_getR (pc := 102) hc dX5_putIn_102 zf_RX5_22 rfl rfl rfl H (fun r11 H => ?_)
    refine z_iconst (pc := 105) hc dX5_putIn_105 ?_
    refine z_iaload (pc := 106) hc dX5_putIn_106 H (fun v12 H => ?_)
    refine z_calR (z_runV (pc := 107) (ci := 5) (T := TX5) (N := 4) hc dX5_putIn_107 zw_RX5_50 (metX5_nodeAt _ _ _ H.2) rfl (Nat.le_of_ble_eq_true rfl) ⟨Nat.le_of_ble_eq_true rfl, Nat.le_of_ble_eq_true rfl⟩ ⟨by exact Nat.le_of_ble_eq_true rfl, by exact Nat.le_of_ble_eq_true rfl⟩ rfl H.1) rfl ⟨rfl, rfl⟩ (fun r14 h13 H => ?_)
    refine z_iload_n (pc := 110) hc dX5_putIn_110 rfl ?_
    refine z_putI (pc := 111) hc dX5_putIn_111 zf_RX5_66 rfl rfl rfl H (fun h15 H => ?_)
    refine z_aload_n (pc := 114) hc dX5_putIn_114 rfl ?_
    refine z_calV0 (z_runV (pc := 115) (ci := 5) (T := TX5) (N := 4) hc dX5_putIn_115 zw_RX5_79 (metX5_settle _ _ _ H.2) rfl (Nat.le_of_ble_eq_true rfl) ⟨Nat.le_of_ble_eq_true rfl, Nat.le_of_ble_eq_true rfl⟩ ⟨by exact Nat.le_of_ble_eq_true rfl, by exact Nat.le_of_ble_eq_true rfl⟩ rfl H.1) rfl ⟨rfl, rfl⟩ (fun h16 H => ?_)
    exact z_return (pc := 118) hc dX5_putIn_118 H
theorem rX5_putIn_H62 (hc : zOk p s m args meth c D cX5_putIn 5 RX5 none)  {a0 : Nat} {x1 : Int} {x2 : Int} {x3 : Int} {x4 : Int} {h : Zm} {Q : Zm → Prop}  (H : mX5_putIn_H62  a0 x1 x2 x3 x4 h Q) : zW p l e zrX5_putIn s m args below meth c D base 5 (MQ below (zQv D base Q) args s 0 0 (zFree base)) 0 0 62 [some (.inr a0), some (.inl x1), some (.inl x2), some (.inl x3), some (.inl x4)] [] h :=
  H (fun x4 h => zW p l e zrX5_putIn s m args below meth c D base 5 (MQ below (zQv D base Q) args s 0 0 (zFree base)) 0 0 62 [some (.inr a0), some (.inl x1), some (.inl x2), some (.inl x3), some (.inl x4)] [] h) (fun x4 h H => rX5_putIn_B62 hc (fun _ _ q => q) H)
set_option maxRecDepth 100000 in
set_option maxHeartbeats 4000000 in
theorem rX5_putIn_B31 (hc : zOk p s m args meth c D cX5_putIn 5 RX5 none) {X31 : Int → Zm → Prop} {a0 : Nat} {x1 : Int} {x2 : Int} {x3 : Int} {x4 : Int} {h : Zm} {Q : Zm → Prop} (hX31 : ∀ (x4 : Int) (h : Zm), X31 x4 h → zW p l e zrX5_putIn s m args below meth c D base 5 (MQ below (zQv D base Q) args s 0 0 (zFree base)) 0 0 31 [some (.inr a0), some (.inl x1), some (.inl x2), some (.inl x3), some (.inl x4)] [] h) (H : mX5_putIn_B31 X31 a0 x1 x2 x3 x4 h Q) : zW p l e zrX5_putIn s m args below meth c D base 5 (MQ below (zQv D base Q) args s 0 0 (zFree base)) 0 0 31 [some (.inr a0), some (.inl x1), some (.inl x2), some (.inl x3), some (.inl x4)] [] h := by
  unfold mX5_putIn_B31 at H
  refine z_iload (pc := 31) hc dX5_putIn_31 rfl ?_
  refine z_iload_n (pc := 33) hc dX5_putIn_33 rfl ?_
  refine z_icmp_lt (tgt := 59) (pc := 34) hc dX5_putIn_34 rfl H (fun H => ?_) (fun H => ?_)
  · refine z_iconst (pc := 59) hc dX5_putIn_59 ?_
    refine z_istore (pc := 60) hc dX5_putIn_60 (by decide) (ρ' := [some (.inr a0), some (.inl x1), some (.inl x2), some (.inl x3), some (.inl 0)]) rfl ?_
    exact rX5_putIn_H62 hc H
  · refine z_aload_n (pc := 37) hc dX5_putIn_37 rfl ?_
    refine z_getR (pc := 38) hc dX5_putIn_38 zf_RX5_18 rfl rfl rfl H (fun r5 H => ?_)
    refine z_iload (pc := 41) hc dX5_putIn_41 rfl ?_
    refine z_iload_n (pc := 43) hc dX5_putIn_43 rfl ?_
    refine z_iadd (pc := 44) hc dX5_putIn_44 ?_
    refine z_aload_n (pc := 45) hc dX5_putIn_45 rfl ?_
    refine z_getR (pc := 46) hc dX5_putIn_46 zf_RX5_18 rfl rfl rfl H (fun r6 H => ?_)
    refine z_iload (pc := 49) hc dX5_putIn_49 rfl ?_
    refine z_iaload (pc := 51) hc dX5_putIn_51 H (fun v7 H => ?_)
    refine z_iastore (pc := 52) hc dX5_putIn_52 H (fun h8 H => ?_)
    refine z_iinc (pc := 53) hc dX5_putIn_53 (by decide) rfl (ρ' := [some (.inr a0), some (.inl x1), some (.inl x2), some (.inl x3), some (.inl (x4 + (-1)))]) rfl ?_
    refine z_goto (tgt := 31) (pc := 56) hc dX5_putIn_56 rfl ?_
    exact hX31 _ _ H
theorem rX5_putIn_H31 (hc : zOk p s m args meth c D cX5_putIn 5 RX5 none)  {a0 : Nat} {x1 : Int} {x2 : Int} {x3 : Int} {x4 : Int} {h : Zm} {Q : Zm → Prop}  (H : mX5_putIn_H31  a0 x1 x2 x3 x4 h Q) : zW p l e zrX5_putIn s m args below meth c D base 5 (MQ below (zQv D base Q) args s 0 0 (zFree base)) 0 0 31 [some (.inr a0), some (.inl x1), some (.inl x2), some (.inl x3), some (.inl x4)] [] h :=
  H (fun x4 h => zW p l e zrX5_putIn s m args below meth c D base 5 (MQ below (zQv D base Q) args s 0 0 (zFree base)) 0 0 31 [some (.inr a0), some (.inl x1), some (.inl x2), some (.inl x3), some (.inl x4)] [] h) (fun x4 h H => rX5_putIn_B31 hc (fun _ _ q => q) H)
set_option maxRecDepth 100000 in
set_option maxHeartbeats 4000000 in
theorem rX5_putIn (hc : zOk p s m args meth c D cX5_putIn 5 RX5 none) {a0 : Nat} {x1 : Int} {x2 : Int} {h : Zm} {Q : Zm → Prop} (H : mX5_putIn a0 x1 x2 h Q) : zW p l e zrX5_putIn s m args below meth c D base 5 (MQ below (zQv D base Q) args s 0 0 (zFree base)) 0 0 0 [some (.inr a0), some (.inl x1), some (.inl x2), none, none] [] h := by
  unfold mX5_putIn at H
  refine z_iload_n (pc := 0) hc dX5_putIn_0 rfl ?_
  refine z_iconst (pc := 1) hc dX5_putIn_1 ?_
  refine z_icmp_lt (tgt := 16) (pc := 2) hc dX5_putIn_2 rfl H (fun H => ?_) (fun H => ?_)
  · exact z_return (pc := 16) hc dX5_putIn_16 H
  · refine z_aload_n (pc := 5) hc dX5_putIn_5 rfl ?_
    refine z_getI (pc := 6) hc dX5_putIn_6 zf_RX5_25 rfl rfl rfl H (fun v1 H => ?_)
    refine z_iload_n (pc := 9) hc dX5_putIn_9 rfl ?_
    refine z_iadd (pc := 10) hc dX5_putIn_10 ?_
    refine z_bipush (pc := 11) hc dX5_putIn_11 (by decide) ?_
    refine z_icmp_le (tgt := 17) (pc := 13) hc dX5_putIn_13 rfl H (fun H => ?_) (fun H => ?_)
    · refine z_aload_n (pc := 17) hc dX5_putIn_17 rfl ?_
      refine z_iload_n (pc := 18) hc dX5_putIn_18 rfl ?_
      refine z_calI (z_runV (pc := 19) (ci := 5) (T := TX5) (N := 4) hc dX5_putIn_19 zw_RX5_63 (metX5_endOf _ _ _ H.2) rfl (Nat.le_of_ble_eq_true rfl) ⟨Nat.le_of_ble_eq_true rfl, Nat.le_of_ble_eq_true rfl⟩ ⟨by exact Nat.le_of_ble_eq_true rfl, by exact Nat.le_of_ble_eq_true rfl⟩ rfl H.1) rfl ⟨rfl, rfl⟩ (fun v3 h2 H => ?_)
      refine z_istore_n (pc := 22) hc dX5_putIn_22 (by decide) (ρ' := [some (.inr a0), some (.inl x1), some (.inl x2), some (.inl v3), none]) rfl ?_
      refine z_aload_n (pc := 23) hc dX5_putIn_23 rfl ?_
      refine z_getI (pc := 24) hc dX5_putIn_24 zf_RX5_25 rfl rfl rfl H (fun v4 H => ?_)
      refine z_iconst (pc := 27) hc dX5_putIn_27 ?_
      refine z_isub (pc := 28) hc dX5_putIn_28 ?_
      refine z_istore (pc := 29) hc dX5_putIn_29 (by decide) (ρ' := [some (.inr a0), some (.inl x1), some (.inl x2), some (.inl v3), some (.inl (v4 - 1))]) rfl ?_
      exact rX5_putIn_H31 hc H
    · exact z_return (pc := 16) hc dX5_putIn_16 H
end
theorem metX5_putIn (l : Launch) (D : Zd) (base : Nat) {a0 : Nat} {x1 : Int} {x2 : Int} {h : Zm} {Q : Zm → Prop} (H : mX5_putIn a0 x1 x2 h Q) : zMet l D base yX5_putIn cX5_putIn 5 none zrX5_putIn [.inr a0, .inl x1, .inl x2] h (zQv D base Q) :=
  z_met (by decide +kernel) (Nat.le_of_ble_eq_true rfl) (fun p e s m args below meth c hc hn => rX5_putIn hc H)
def zrX5_append : Room := { frames := 4, cells := 0, slots := 0, locals := 90 }
def mX5_append (a0 : Nat) (x1 : Int) (x2 : Int) (x3 : Int) (h : Zm) (Q : Zm → Prop) : Prop :=
  cRc h 15 a0 <| mX5_nodeAt a0 x1 h fun r2 h1 => cPi h1 12 r2 0 x2 fun h3 => cGr h3 15 a0 2 fun r4 => cSt h3 r4 0 x1 fun h5 => cRc h5 15 a0 <| mX5_putIn a0 1 x3 h5 fun h6 => Q h6
section
variable {p : Program} {l : Launch} {e : Env} {s : State} {m : MethodId} {args : Array Value} {below : List Frame} {meth : Method} {c : Code} {D : Zd} {base : Nat}
set_option maxRecDepth 100000 in
set_option maxHeartbeats 4000000 in
theorem rX5_append (hc : zOk p s m args meth c D cX5_append 4 RX5 none) {a0 : Nat} {x1 : Int} {x2 : Int} {x3 : Int} {h : Zm} {Q : Zm → Prop} (H : mX5_append a0 x1 x2 x3 h Q) : zW p l e zrX5_append s m args below meth c D base 4 (MQ below (zQv D base Q) args s 0 0 (zFree base)) 0 0 0 [some (.inr a0), some (.inl x1), some (.inl x2), some (.inl x3)] [] h := by
  unfold mX5_append at H
  refine z_aload_n (pc := 0) hc dX5_append_0 rfl ?_
  refine z_iload_n (pc := 1) hc dX5_append_1 rfl ?_
  refine z_calR (z_runV (pc := 2) (ci := 5) (T := TX5) (N := 4) hc dX5_append_2 zw_RX5_50 (metX5_nodeAt _ _ _ H.2) rfl (Nat.le_of_ble_eq_true rfl) ⟨Nat.le_of_ble_eq_true rfl, Nat.le_of_ble_eq_true rfl⟩ ⟨by exact Nat.le_of_ble_eq_true rfl, by exact Nat.le_of_ble_eq_true rfl⟩ rfl H.1) rfl ⟨rfl, rfl⟩ (fun r2 h1 H => ?_)
  refine z_iload_n (pc := 5) hc dX5_append_5 rfl ?_
  refine z_putI (pc := 6) hc dX5_append_6 zf_RX5_29 rfl rfl rfl H (fun h3 H => ?_)
  refine z_aload_n (pc := 9) hc dX5_append_9 rfl ?_
  refine z_getR (pc := 10) hc dX5_append_10 zf_RX5_22 rfl rfl rfl H (fun r4 H => ?_)
  refine z_iconst (pc := 13) hc dX5_append_13 ?_
  refine z_iload_n (pc := 14) hc dX5_append_14 rfl ?_
  refine z_iastore (pc := 15) hc dX5_append_15 H (fun h5 H => ?_)
  refine z_aload_n (pc := 16) hc dX5_append_16 rfl ?_
  refine z_iconst (pc := 17) hc dX5_append_17 ?_
  refine z_iload_n (pc := 18) hc dX5_append_18 rfl ?_
  refine z_calV0 (z_runV (pc := 19) (ci := 5) (T := TX5) (N := 4) hc dX5_append_19 zw_RX5_69 (metX5_putIn _ _ _ H.2) rfl (Nat.le_of_ble_eq_true rfl) ⟨Nat.le_of_ble_eq_true rfl, Nat.le_of_ble_eq_true rfl⟩ ⟨by exact Nat.le_of_ble_eq_true rfl, by exact Nat.le_of_ble_eq_true rfl⟩ rfl H.1) rfl ⟨rfl, rfl⟩ (fun h6 H => ?_)
  exact z_return (pc := 22) hc dX5_append_22 H
end
theorem metX5_append (l : Launch) (D : Zd) (base : Nat) {a0 : Nat} {x1 : Int} {x2 : Int} {x3 : Int} {h : Zm} {Q : Zm → Prop} (H : mX5_append a0 x1 x2 x3 h Q) : zMet l D base yX5_append cX5_append 4 none zrX5_append [.inr a0, .inl x1, .inl x2, .inl x3] h (zQv D base Q) :=
  z_met (by decide +kernel) (Nat.le_of_ble_eq_true rfl) (fun p e s m args below meth c hc hn => rX5_append hc H)
def zrX5_cutOut : Room := { frames := 3, cells := 0, slots := 0, locals := 66 }
def mX5_cutOut_B50 (X50 : Int → Zm → Prop) (a0 : Nat) (x3 : Int) (x4 : Int) (h : Zm) (Q : Int → Zm → Prop) : Prop :=
  cGi h 15 a0 3 fun v9 => cLt x4 v9
  (cGr h 15 a0 1 fun r12 => cGr h 15 a0 1 fun r13 => cLd h 1 r13 x4 fun v14 => cSt h r12 (x4 - x3) v14 fun h15 => X50 (x4 + 1) h15)
  (cGi h 15 a0 3 fun v10 => cPi h 15 a0 3 (v10 - x3) fun h11 => Q x3 h11)
def mX5_cutOut_H50  (a0 : Nat) (x3 : Int) (x4 : Int) (h : Zm) (Q : Int → Zm → Prop) : Prop :=
  lfp1 (fun X50 x4 h => mX5_cutOut_B50 X50 a0 x3 x4 h Q) x4 h
def mX5_cutOut_B17 (X17 : Int → Zm → Prop) (a0 : Nat) (x2 : Int) (x3 : Int) (x4 : Int) (h : Zm) (Q : Int → Zm → Prop) : Prop :=
  cLt x4 x3
  (cGr h 15 a0 2 fun r5 => cGr h 15 a0 1 fun r6 => cLd h 1 r6 (x2 + x4) fun v7 => cSt h r5 x4 v7 fun h8 => X17 (x4 + 1) h8)
  (mX5_cutOut_H50  a0 x3 (x2 + x3) h Q)
def mX5_cutOut_H17  (a0 : Nat) (x2 : Int) (x3 : Int) (x4 : Int) (h : Zm) (Q : Int → Zm → Prop) : Prop :=
  lfp1 (fun X17 x4 h => mX5_cutOut_B17 X17 a0 x2 x3 x4 h Q) x4 h
def mX5_cutOut (a0 : Nat) (x1 : Int) (h : Zm) (Q : Int → Zm → Prop) : Prop :=
  cRc h 15 a0 <| mX5_startOf a0 x1 h fun v2 h1 => cRc h1 15 a0 <| mX5_endOf a0 x1 h1 fun v4 h3 => mX5_cutOut_H17  a0 v2 (v4 - v2) 0 h3 Q
section
variable {p : Program} {l : Launch} {e : Env} {s : State} {m : MethodId} {args : Array Value} {below : List Frame} {meth : Method} {c : Code} {D : Zd} {base : Nat}
set_option maxRecDepth 100000 in
set_option maxHeartbeats 4000000 in
theorem rX5_cutOut_B50 (hc : zOk p s m args meth c D cX5_cutOut 5 RX5 (some .int)) {X50 : Int → Zm → Prop} {a0 : Nat} {x3 : Int} {x4 : Int} {h : Zm} {Q : Int → Zm → Prop} (hX50 : ∀ (x4 : Int) (h : Zm), X50 x4 h → zW p l e zrX5_cutOut s m args below meth c D base 5 (MQ below (zQi D base Q) args s 0 0 (zFree base)) 0 0 50 [some (.inr a0), none, none, some (.inl x3), some (.inl x4)] [] h) (H : mX5_cutOut_B50 X50 a0 x3 x4 h Q) : zW p l e zrX5_cutOut s m args below meth c D base 5 (MQ below (zQi D base Q) args s 0 0 (zFree base)) 0 0 50 [some (.inr a0), none, none, some (.inl x3), some (.inl x4)] [] h := by
  unfold mX5_cutOut_B50 at H
  refine z_iload (pc := 50) hc dX5_cutOut_50 rfl ?_
  refine z_aload_n (pc := 52) hc dX5_cutOut_52 rfl ?_
  refine z_getI (pc := 53) hc dX5_cutOut_53 zf_RX5_25 rfl rfl rfl H (fun v9 H => ?_)
  refine z_icmp_ge (tgt := 81) (pc := 56) hc dX5_cutOut_56 rfl H (fun H => ?_) (fun H => ?_)
  · refine z_aload_n (pc := 59) hc dX5_cutOut_59 rfl ?_
    refine z_getR (pc := 60) hc dX5_cutOut_60 zf_RX5_18 rfl rfl rfl H (fun r12 H => ?_)
    refine z_iload (pc := 63) hc dX5_cutOut_63 rfl ?_
    refine z_iload_n (pc := 65) hc dX5_cutOut_65 rfl ?_
    refine z_isub (pc := 66) hc dX5_cutOut_66 ?_
    refine z_aload_n (pc := 67) hc dX5_cutOut_67 rfl ?_
    refine z_getR (pc := 68) hc dX5_cutOut_68 zf_RX5_18 rfl rfl rfl H (fun r13 H => ?_)
    refine z_iload (pc := 71) hc dX5_cutOut_71 rfl ?_
    refine z_iaload (pc := 73) hc dX5_cutOut_73 H (fun v14 H => ?_)
    refine z_iastore (pc := 74) hc dX5_cutOut_74 H (fun h15 H => ?_)
    refine z_iinc (pc := 75) hc dX5_cutOut_75 (by decide) rfl (ρ' := [some (.inr a0), none, none, some (.inl x3), some (.inl (x4 + 1))]) rfl ?_
    refine z_goto (tgt := 50) (pc := 78) hc dX5_cutOut_78 rfl ?_
    exact hX50 _ _ H
  · refine z_aload_n (pc := 81) hc dX5_cutOut_81 rfl ?_
    refine z_dup (pc := 82) hc dX5_cutOut_82 ?_
    refine z_getI (pc := 83) hc dX5_cutOut_83 zf_RX5_25 rfl rfl rfl H (fun v10 H => ?_)
    refine z_iload_n (pc := 86) hc dX5_cutOut_86 rfl ?_
    refine z_isub (pc := 87) hc dX5_cutOut_87 ?_
    refine z_putI (pc := 88) hc dX5_cutOut_88 zf_RX5_25 rfl rfl rfl H (fun h11 H => ?_)
    refine z_iload_n (pc := 91) hc dX5_cutOut_91 rfl ?_
    exact z_ireturn (pc := 92) hc dX5_cutOut_92 H
theorem rX5_cutOut_H50 (hc : zOk p s m args meth c D cX5_cutOut 5 RX5 (some .int))  {a0 : Nat} {x3 : Int} {x4 : Int} {h : Zm} {Q : Int → Zm → Prop}  (H : mX5_cutOut_H50  a0 x3 x4 h Q) : zW p l e zrX5_cutOut s m args below meth c D base 5 (MQ below (zQi D base Q) args s 0 0 (zFree base)) 0 0 50 [some (.inr a0), none, none, some (.inl x3), some (.inl x4)] [] h :=
  H (fun x4 h => zW p l e zrX5_cutOut s m args below meth c D base 5 (MQ below (zQi D base Q) args s 0 0 (zFree base)) 0 0 50 [some (.inr a0), none, none, some (.inl x3), some (.inl x4)] [] h) (fun x4 h H => rX5_cutOut_B50 hc (fun _ _ q => q) H)
set_option maxRecDepth 100000 in
set_option maxHeartbeats 4000000 in
theorem rX5_cutOut_B17 (hc : zOk p s m args meth c D cX5_cutOut 5 RX5 (some .int)) {X17 : Int → Zm → Prop} {a0 : Nat} {x2 : Int} {x3 : Int} {x4 : Int} {h : Zm} {Q : Int → Zm → Prop} (hX17 : ∀ (x4 : Int) (h : Zm), X17 x4 h → zW p l e zrX5_cutOut s m args below meth c D base 5 (MQ below (zQi D base Q) args s 0 0 (zFree base)) 0 0 17 [some (.inr a0), none, some (.inl x2), some (.inl x3), some (.inl x4)] [] h) (H : mX5_cutOut_B17 X17 a0 x2 x3 x4 h Q) : zW p l e zrX5_cutOut s m args below meth c D base 5 (MQ below (zQi D base Q) args s 0 0 (zFree base)) 0 0 17 [some (.inr a0), none, some (.inl x2), some (.inl x3), some (.inl x4)] [] h := by
  unfold mX5_cutOut_B17 at H
  refine z_iload (pc := 17) hc dX5_cutOut_17 rfl ?_
  refine z_iload_n (pc := 19) hc dX5_cutOut_19 rfl ?_
  refine z_icmp_ge (tgt := 45) (pc := 20) hc dX5_cutOut_20 rfl H (fun H => ?_) (fun H => ?_)
  · refine z_aload_n (pc := 23) hc dX5_cutOut_23 rfl ?_
    refine z_getR (pc := 24) hc dX5_cutOut_24 zf_RX5_22 rfl rfl rfl H (fun r5 H => ?_)
    refine z_iload (pc := 27) hc dX5_cutOut_27 rfl ?_
    refine z_aload_n (pc := 29) hc dX5_cutOut_29 rfl ?_
    refine z_getR (pc := 30) hc dX5_cutOut_30 zf_RX5_18 rfl rfl rfl H (fun r6 H => ?_)
    refine z_iload_n (pc := 33) hc dX5_cutOut_33 rfl ?_
    refine z_iload (pc := 34) hc dX5_cutOut_34 rfl ?_
    refine z_iadd (pc := 36) hc dX5_cutOut_36 ?_
    refine z_iaload (pc := 37) hc dX5_cutOut_37 H (fun v7 H => ?_)
    refine z_iastore (pc := 38) hc dX5_cutOut_38 H (fun h8 H => ?_)
    refine z_iinc (pc := 39) hc dX5_cutOut_39 (by decide) rfl (ρ' := [some (.inr a0), none, some (.inl x2), some (.inl x3), some (.inl (x4 + 1))]) rfl ?_
    refine z_goto (tgt := 17) (pc := 42) hc dX5_cutOut_42 rfl ?_
    exact hX17 _ _ H
  · refine z_iload_n (pc := 45) hc dX5_cutOut_45 rfl ?_
    refine z_iload_n (pc := 46) hc dX5_cutOut_46 rfl ?_
    refine z_iadd (pc := 47) hc dX5_cutOut_47 ?_
    refine z_istore (pc := 48) hc dX5_cutOut_48 (by decide) (ρ' := [some (.inr a0), none, some (.inl x2), some (.inl x3), some (.inl (x2 + x3))]) rfl ?_
    refine z_mask [true, false, false, true, true] (ρ' := [some (.inr a0), none, none, some (.inl x3), some (.inl (x2 + x3))]) rfl ?_
    exact rX5_cutOut_H50 hc H
theorem rX5_cutOut_H17 (hc : zOk p s m args meth c D cX5_cutOut 5 RX5 (some .int))  {a0 : Nat} {x2 : Int} {x3 : Int} {x4 : Int} {h : Zm} {Q : Int → Zm → Prop}  (H : mX5_cutOut_H17  a0 x2 x3 x4 h Q) : zW p l e zrX5_cutOut s m args below meth c D base 5 (MQ below (zQi D base Q) args s 0 0 (zFree base)) 0 0 17 [some (.inr a0), none, some (.inl x2), some (.inl x3), some (.inl x4)] [] h :=
  H (fun x4 h => zW p l e zrX5_cutOut s m args below meth c D base 5 (MQ below (zQi D base Q) args s 0 0 (zFree base)) 0 0 17 [some (.inr a0), none, some (.inl x2), some (.inl x3), some (.inl x4)] [] h) (fun x4 h H => rX5_cutOut_B17 hc (fun _ _ q => q) H)
set_option maxRecDepth 100000 in
set_option maxHeartbeats 4000000 in
theorem rX5_cutOut (hc : zOk p s m args meth c D cX5_cutOut 5 RX5 (some .int)) {a0 : Nat} {x1 : Int} {h : Zm} {Q : Int → Zm → Prop} (H : mX5_cutOut a0 x1 h Q) : zW p l e zrX5_cutOut s m args below meth c D base 5 (MQ below (zQi D base Q) args s 0 0 (zFree base)) 0 0 0 [some (.inr a0), some (.inl x1), none, none, none] [] h := by
  unfold mX5_cutOut at H
  refine z_aload_n (pc := 0) hc dX5_cutOut_0 rfl ?_
  refine z_iload_n (pc := 1) hc dX5_cutOut_1 rfl ?_
  refine z_calI (z_runV (pc := 2) (ci := 5) (T := TX5) (N := 4) hc dX5_cutOut_2 zw_RX5_46 (metX5_startOf _ _ _ H.2) rfl (Nat.le_of_ble_eq_true rfl) ⟨Nat.le_of_ble_eq_true rfl, Nat.le_of_ble_eq_true rfl⟩ ⟨by exact Nat.le_of_ble_eq_true rfl, by exact Nat.le_of_ble_eq_true rfl⟩ rfl H.1) rfl ⟨rfl, rfl⟩ (fun v2 h1 H => ?_)
  refine z_istore_n (pc := 5) hc dX5_cutOut_5 (by decide) (ρ' := [some (.inr a0), some (.inl x1), some (.inl v2), none, none]) rfl ?_
  refine z_aload_n (pc := 6) hc dX5_cutOut_6 rfl ?_
  refine z_iload_n (pc := 7) hc dX5_cutOut_7 rfl ?_
  refine z_calI (z_runV (pc := 8) (ci := 5) (T := TX5) (N := 4) hc dX5_cutOut_8 zw_RX5_63 (metX5_endOf _ _ _ H.2) rfl (Nat.le_of_ble_eq_true rfl) ⟨Nat.le_of_ble_eq_true rfl, Nat.le_of_ble_eq_true rfl⟩ ⟨by exact Nat.le_of_ble_eq_true rfl, by exact Nat.le_of_ble_eq_true rfl⟩ rfl H.1) rfl ⟨rfl, rfl⟩ (fun v4 h3 H => ?_)
  refine z_iload_n (pc := 11) hc dX5_cutOut_11 rfl ?_
  refine z_isub (pc := 12) hc dX5_cutOut_12 ?_
  refine z_istore_n (pc := 13) hc dX5_cutOut_13 (by decide) (ρ' := [some (.inr a0), some (.inl x1), some (.inl v2), some (.inl (v4 - v2)), none]) rfl ?_
  refine z_iconst (pc := 14) hc dX5_cutOut_14 ?_
  refine z_istore (pc := 15) hc dX5_cutOut_15 (by decide) (ρ' := [some (.inr a0), some (.inl x1), some (.inl v2), some (.inl (v4 - v2)), some (.inl 0)]) rfl ?_
  refine z_mask [true, false, true, true, true] (ρ' := [some (.inr a0), none, some (.inl v2), some (.inl (v4 - v2)), some (.inl 0)]) rfl ?_
  exact rX5_cutOut_H17 hc H
end
theorem metX5_cutOut (l : Launch) (D : Zd) (base : Nat) {a0 : Nat} {x1 : Int} {h : Zm} {Q : Int → Zm → Prop} (H : mX5_cutOut a0 x1 h Q) : zMet l D base yX5_cutOut cX5_cutOut 5 (some .int) zrX5_cutOut [.inr a0, .inl x1] h (zQi D base Q) :=
  z_met (by decide +kernel) (Nat.le_of_ble_eq_true rfl) (fun p e s m args below meth c hc hn => rX5_cutOut hc H)
def zrX5_cutAndFree : Room := { frames := 4, cells := 0, slots := 0, locals := 90 }
def mX5_cutAndFree_B8 (X8 : Int → Zm → Prop) (a0 : Nat) (x2 : Int) (x3 : Int) (h : Zm) (Q : Int → Zm → Prop) : Prop :=
  cLt x3 x2
  (cGr h 15 a0 2 fun r3 => cLd h 1 r3 x3 fun v4 => cRc h 15 a0 <| mX5_nodeAt a0 v4 h fun r6 h5 => cPi h5 12 r6 0 (-1) fun h7 => cPi h7 12 r6 1 (-1) fun h8 => X8 (x3 + 1) h8)
  (Q x2 h)
def mX5_cutAndFree_H8  (a0 : Nat) (x2 : Int) (x3 : Int) (h : Zm) (Q : Int → Zm → Prop) : Prop :=
  lfp1 (fun X8 x3 h => mX5_cutAndFree_B8 X8 a0 x2 x3 h Q) x3 h
def mX5_cutAndFree (a0 : Nat) (x1 : Int) (h : Zm) (Q : Int → Zm → Prop) : Prop :=
  cRc h 15 a0 <| mX5_cutOut a0 x1 h fun v2 h1 => mX5_cutAndFree_H8  a0 v2 0 h1 Q
section
variable {p : Program} {l : Launch} {e : Env} {s : State} {m : MethodId} {args : Array Value} {below : List Frame} {meth : Method} {c : Code} {D : Zd} {base : Nat}
set_option maxRecDepth 100000 in
set_option maxHeartbeats 4000000 in
theorem rX5_cutAndFree_B8 (hc : zOk p s m args meth c D cX5_cutAndFree 5 RX5 (some .int)) {X8 : Int → Zm → Prop} {a0 : Nat} {x2 : Int} {x3 : Int} {h : Zm} {Q : Int → Zm → Prop} (hX8 : ∀ (x3 : Int) (h : Zm), X8 x3 h → zW p l e zrX5_cutAndFree s m args below meth c D base 5 (MQ below (zQi D base Q) args s 0 0 (zFree base)) 0 0 8 [some (.inr a0), none, some (.inl x2), some (.inl x3), none] [] h) (H : mX5_cutAndFree_B8 X8 a0 x2 x3 h Q) : zW p l e zrX5_cutAndFree s m args below meth c D base 5 (MQ below (zQi D base Q) args s 0 0 (zFree base)) 0 0 8 [some (.inr a0), none, some (.inl x2), some (.inl x3), none] [] h := by
  unfold mX5_cutAndFree_B8 at H
  refine z_iload_n (pc := 8) hc dX5_cutAndFree_8 rfl ?_
  refine z_iload_n (pc := 9) hc dX5_cutAndFree_9 rfl ?_
  refine z_icmp_ge (tgt := 43) (pc := 10) hc dX5_cutAndFree_10 rfl H (fun H => ?_) (fun H => ?_)
  · refine z_aload_n (pc := 13) hc dX5_cutAndFree_13 rfl ?_
    refine z_aload_n (pc := 14) hc dX5_cutAndFree_14 rfl ?_
    refine z_getR (pc := 15) hc dX5_cutAndFree_15 zf_RX5_22 rfl rfl rfl H (fun r3 H => ?_)
    refine z_iload_n (pc := 18) hc dX5_cutAndFree_18 rfl ?_
    refine z_iaload (pc := 19) hc dX5_cutAndFree_19 H (fun v4 H => ?_)
    refine z_calR (z_runV (pc := 20) (ci := 5) (T := TX5) (N := 4) hc dX5_cutAndFree_20 zw_RX5_50 (metX5_nodeAt _ _ _ H.2) rfl (Nat.le_of_ble_eq_true rfl) ⟨Nat.le_of_ble_eq_true rfl, Nat.le_of_ble_eq_true rfl⟩ ⟨by exact Nat.le_of_ble_eq_true rfl, by exact Nat.le_of_ble_eq_true rfl⟩ rfl H.1) rfl ⟨rfl, rfl⟩ (fun r6 h5 H => ?_)
    refine z_astore (pc := 23) hc dX5_cutAndFree_23 (by decide) (ρ' := [some (.inr a0), none, some (.inl x2), some (.inl x3), some (.inr r6)]) rfl ?_
    refine z_aload (pc := 25) hc dX5_cutAndFree_25 rfl ?_
    refine z_iconst (pc := 27) hc dX5_cutAndFree_27 ?_
    refine z_putI (pc := 28) hc dX5_cutAndFree_28 zf_RX5_29 rfl rfl rfl H (fun h7 H => ?_)
    refine z_aload (pc := 31) hc dX5_cutAndFree_31 rfl ?_
    refine z_iconst (pc := 33) hc dX5_cutAndFree_33 ?_
    refine z_putI (pc := 34) hc dX5_cutAndFree_34 zf_RX5_66 rfl rfl rfl H (fun h8 H => ?_)
    refine z_iinc (pc := 37) hc dX5_cutAndFree_37 (by decide) rfl (ρ' := [some (.inr a0), none, some (.inl x2), some (.inl (x3 + 1)), some (.inr r6)]) rfl ?_
    refine z_goto (tgt := 8) (pc := 40) hc dX5_cutAndFree_40 rfl ?_
    refine z_mask [true, false, true, true, false] (ρ' := [some (.inr a0), none, some (.inl x2), some (.inl (x3 + 1)), none]) rfl ?_
    exact hX8 _ _ H
  · refine z_iload_n (pc := 43) hc dX5_cutAndFree_43 rfl ?_
    exact z_ireturn (pc := 44) hc dX5_cutAndFree_44 H
theorem rX5_cutAndFree_H8 (hc : zOk p s m args meth c D cX5_cutAndFree 5 RX5 (some .int))  {a0 : Nat} {x2 : Int} {x3 : Int} {h : Zm} {Q : Int → Zm → Prop}  (H : mX5_cutAndFree_H8  a0 x2 x3 h Q) : zW p l e zrX5_cutAndFree s m args below meth c D base 5 (MQ below (zQi D base Q) args s 0 0 (zFree base)) 0 0 8 [some (.inr a0), none, some (.inl x2), some (.inl x3), none] [] h :=
  H (fun x3 h => zW p l e zrX5_cutAndFree s m args below meth c D base 5 (MQ below (zQi D base Q) args s 0 0 (zFree base)) 0 0 8 [some (.inr a0), none, some (.inl x2), some (.inl x3), none] [] h) (fun x3 h H => rX5_cutAndFree_B8 hc (fun _ _ q => q) H)
set_option maxRecDepth 100000 in
set_option maxHeartbeats 4000000 in
theorem rX5_cutAndFree (hc : zOk p s m args meth c D cX5_cutAndFree 5 RX5 (some .int)) {a0 : Nat} {x1 : Int} {h : Zm} {Q : Int → Zm → Prop} (H : mX5_cutAndFree a0 x1 h Q) : zW p l e zrX5_cutAndFree s m args below meth c D base 5 (MQ below (zQi D base Q) args s 0 0 (zFree base)) 0 0 0 [some (.inr a0), some (.inl x1), none, none, none] [] h := by
  unfold mX5_cutAndFree at H
  refine z_aload_n (pc := 0) hc dX5_cutAndFree_0 rfl ?_
  refine z_iload_n (pc := 1) hc dX5_cutAndFree_1 rfl ?_
  refine z_calI (z_runV (pc := 2) (ci := 5) (T := TX5) (N := 4) hc dX5_cutAndFree_2 zw_RX5_73 (metX5_cutOut _ _ _ H.2) rfl (Nat.le_of_ble_eq_true rfl) ⟨Nat.le_of_ble_eq_true rfl, Nat.le_of_ble_eq_true rfl⟩ ⟨by exact Nat.le_of_ble_eq_true rfl, by exact Nat.le_of_ble_eq_true rfl⟩ rfl H.1) rfl ⟨rfl, rfl⟩ (fun v2 h1 H => ?_)
  refine z_istore_n (pc := 5) hc dX5_cutAndFree_5 (by decide) (ρ' := [some (.inr a0), some (.inl x1), some (.inl v2), none, none]) rfl ?_
  refine z_iconst (pc := 6) hc dX5_cutAndFree_6 ?_
  refine z_istore_n (pc := 7) hc dX5_cutAndFree_7 (by decide) (ρ' := [some (.inr a0), some (.inl x1), some (.inl v2), some (.inl 0), none]) rfl ?_
  refine z_mask [true, false, true, true, false] (ρ' := [some (.inr a0), none, some (.inl v2), some (.inl 0), none]) rfl ?_
  exact rX5_cutAndFree_H8 hc H
end
theorem metX5_cutAndFree (l : Launch) (D : Zd) (base : Nat) {a0 : Nat} {x1 : Int} {h : Zm} {Q : Int → Zm → Prop} (H : mX5_cutAndFree a0 x1 h Q) : zMet l D base yX5_cutAndFree cX5_cutAndFree 5 (some .int) zrX5_cutAndFree [.inr a0, .inl x1] h (zQi D base Q) :=
  z_met (by decide +kernel) (Nat.le_of_ble_eq_true rfl) (fun p e s m args below meth c hc hn => rX5_cutAndFree hc H)
def zrX5_canHang : Room := { frames := 3, cells := 0, slots := 0, locals := 66 }
def mX5_canHang_B26 (X26 : Int → Int → Zm → Prop) (a0 : Nat) (x1 : Int) (x2 : Int) (x4 : Int) (x5 : Int) (x6 : Int) (h : Zm) (Q : Int → Zm → Prop) : Prop :=
  cLt x6 x4
  (cGr h 15 a0 1 fun r17 => cLd h 1 r17 x6 fun v18 => cEq v18 x2
    (Q 0 h)
    (cGr h 15 a0 1 fun r19 => cLd h 1 r19 x6 fun v20 => cRc h 15 a0 <| mX5_nodeAt a0 v20 h fun r22 h21 => cGi h21 12 r22 2 fun v23 => mJ9_max_7cf53 x5 v23 h21 fun v25 h24 => X26 v25 (x6 + 1) h24))
  (cRc h 15 a0 <| mX5_nodeAt a0 x2 h fun r9 h8 => cGi h8 12 r9 2 fun v10 => cRc h8 15 a0 <| mX5_nodeAt a0 x1 h8 fun r12 h11 => cGi h11 12 r12 2 fun v13 => cRc h11 15 a0 <| mX5_nodeAt a0 x2 h11 fun r15 h14 => cGi h14 12 r15 0 fun v16 => cEq v16 0
    (cLe (x5 + ((v10 + 1) - v13)) 4
      (Q 1 h14)
      (Q 0 h14))
    (Q 0 h14))
def mX5_canHang_H26  (a0 : Nat) (x1 : Int) (x2 : Int) (x4 : Int) (x5 : Int) (x6 : Int) (h : Zm) (Q : Int → Zm → Prop) : Prop :=
  lfp2 (fun X26 x5 x6 h => mX5_canHang_B26 X26 a0 x1 x2 x4 x5 x6 h Q) x5 x6 h
def mX5_canHang (a0 : Nat) (x1 : Int) (x2 : Int) (h : Zm) (Q : Int → Zm → Prop) : Prop :=
  cRc h 15 a0 <| mX5_startOf a0 x1 h fun v2 h1 => cRc h1 15 a0 <| mX5_endOf a0 x1 h1 fun v4 h3 => cRc h3 15 a0 <| mX5_nodeAt a0 x1 h3 fun r6 h5 => cGi h5 12 r6 2 fun v7 => mX5_canHang_H26  a0 x1 x2 v4 v7 v2 h5 Q
section
variable {p : Program} {l : Launch} {e : Env} {s : State} {m : MethodId} {args : Array Value} {below : List Frame} {meth : Method} {c : Code} {D : Zd} {base : Nat}
set_option maxRecDepth 100000 in
set_option maxHeartbeats 4000000 in
theorem rX5_canHang_B26 (hc : zOk p s m args meth c D cX5_canHang 7 RX5 (some .boolean)) {X26 : Int → Int → Zm → Prop} {a0 : Nat} {x1 : Int} {x2 : Int} {x4 : Int} {x5 : Int} {x6 : Int} {h : Zm} {Q : Int → Zm → Prop} (hX26 : ∀ (x5 : Int) (x6 : Int) (h : Zm), X26 x5 x6 h → zW p l e zrX5_canHang s m args below meth c D base 7 (MQ below (zQi D base Q) args s 0 0 (zFree base)) 0 0 26 [some (.inr a0), some (.inl x1), some (.inl x2), none, some (.inl x4), some (.inl x5), some (.inl x6)] [] h) (H : mX5_canHang_B26 X26 a0 x1 x2 x4 x5 x6 h Q) : zW p l e zrX5_canHang s m args below meth c D base 7 (MQ below (zQi D base Q) args s 0 0 (zFree base)) 0 0 26 [some (.inr a0), some (.inl x1), some (.inl x2), none, some (.inl x4), some (.inl x5), some (.inl x6)] [] h := by
  unfold mX5_canHang_B26 at H
  refine z_iload (pc := 26) hc dX5_canHang_26 rfl ?_
  refine z_iload (pc := 28) hc dX5_canHang_28 rfl ?_
  refine z_icmp_ge (tgt := 73) (pc := 30) hc dX5_canHang_30 rfl H (fun H => ?_) (fun H => ?_)
  · refine z_aload_n (pc := 33) hc dX5_canHang_33 rfl ?_
    refine z_getR (pc := 34) hc dX5_canHang_34 zf_RX5_18 rfl rfl rfl H (fun r17 H => ?_)
    refine z_iload (pc := 37) hc dX5_canHang_37 rfl ?_
    refine z_iaload (pc := 39) hc dX5_canHang_39 H (fun v18 H => ?_)
    refine z_iload_n (pc := 40) hc dX5_canHang_40 rfl ?_
    refine z_icmp_ne (tgt := 46) (pc := 41) hc dX5_canHang_41 rfl H (fun H => ?_) (fun H => ?_)
    · refine z_iconst (pc := 44) hc dX5_canHang_44 ?_
      exact z_zreturn (pc := 45) hc dX5_canHang_45 ⟨Or.inl rfl, H⟩
    · refine z_iload (pc := 46) hc dX5_canHang_46 rfl ?_
      refine z_aload_n (pc := 48) hc dX5_canHang_48 rfl ?_
      refine z_aload_n (pc := 49) hc dX5_canHang_49 rfl ?_
      refine z_getR (pc := 50) hc dX5_canHang_50 zf_RX5_18 rfl rfl rfl H (fun r19 H => ?_)
      refine z_iload (pc := 53) hc dX5_canHang_53 rfl ?_
      refine z_iaload (pc := 55) hc dX5_canHang_55 H (fun v20 H => ?_)
      refine z_calR (z_runV (pc := 56) (ci := 5) (T := TX5) (N := 4) hc dX5_canHang_56 zw_RX5_50 (metX5_nodeAt _ _ _ H.2) rfl (Nat.le_of_ble_eq_true rfl) ⟨Nat.le_of_ble_eq_true rfl, Nat.le_of_ble_eq_true rfl⟩ ⟨by exact Nat.le_of_ble_eq_true rfl, by exact Nat.le_of_ble_eq_true rfl⟩ rfl H.1) rfl ⟨rfl, rfl⟩ (fun r22 h21 H => ?_)
      refine z_getI (pc := 59) hc dX5_canHang_59 zf_RX5_54 rfl rfl rfl H (fun v23 H => ?_)
      refine z_calI (z_runS (pc := 62) hc dX5_canHang_62 zw_RX5_76 (metJ9_max_7cf53 _ _ _ H) rfl (Nat.le_of_ble_eq_true rfl) ⟨Nat.le_of_ble_eq_true rfl, Nat.le_of_ble_eq_true rfl⟩ ⟨by exact Nat.le_of_ble_eq_true rfl, by exact Nat.le_of_ble_eq_true rfl⟩) rfl ⟨rfl, rfl⟩ (fun v25 h24 H => ?_)
      refine z_istore (pc := 65) hc dX5_canHang_65 (by decide) (ρ' := [some (.inr a0), some (.inl x1), some (.inl x2), none, some (.inl x4), some (.inl v25), some (.inl x6)]) rfl ?_
      refine z_iinc (pc := 67) hc dX5_canHang_67 (by decide) rfl (ρ' := [some (.inr a0), some (.inl x1), some (.inl x2), none, some (.inl x4), some (.inl v25), some (.inl (x6 + 1))]) rfl ?_
      refine z_goto (tgt := 26) (pc := 70) hc dX5_canHang_70 rfl ?_
      exact hX26 _ _ _ H
  · refine z_aload_n (pc := 73) hc dX5_canHang_73 rfl ?_
    refine z_iload_n (pc := 74) hc dX5_canHang_74 rfl ?_
    refine z_calR (z_runV (pc := 75) (ci := 5) (T := TX5) (N := 4) hc dX5_canHang_75 zw_RX5_50 (metX5_nodeAt _ _ _ H.2) rfl (Nat.le_of_ble_eq_true rfl) ⟨Nat.le_of_ble_eq_true rfl, Nat.le_of_ble_eq_true rfl⟩ ⟨by exact Nat.le_of_ble_eq_true rfl, by exact Nat.le_of_ble_eq_true rfl⟩ rfl H.1) rfl ⟨rfl, rfl⟩ (fun r9 h8 H => ?_)
    refine z_getI (pc := 78) hc dX5_canHang_78 zf_RX5_54 rfl rfl rfl H (fun v10 H => ?_)
    refine z_iconst (pc := 81) hc dX5_canHang_81 ?_
    refine z_iadd (pc := 82) hc dX5_canHang_82 ?_
    refine z_aload_n (pc := 83) hc dX5_canHang_83 rfl ?_
    refine z_iload_n (pc := 84) hc dX5_canHang_84 rfl ?_
    refine z_calR (z_runV (pc := 85) (ci := 5) (T := TX5) (N := 4) hc dX5_canHang_85 zw_RX5_50 (metX5_nodeAt _ _ _ H.2) rfl (Nat.le_of_ble_eq_true rfl) ⟨Nat.le_of_ble_eq_true rfl, Nat.le_of_ble_eq_true rfl⟩ ⟨by exact Nat.le_of_ble_eq_true rfl, by exact Nat.le_of_ble_eq_true rfl⟩ rfl H.1) rfl ⟨rfl, rfl⟩ (fun r12 h11 H => ?_)
    refine z_getI (pc := 88) hc dX5_canHang_88 zf_RX5_54 rfl rfl rfl H (fun v13 H => ?_)
    refine z_isub (pc := 91) hc dX5_canHang_91 ?_
    refine z_istore (pc := 92) hc dX5_canHang_92 (by decide) (ρ' := [some (.inr a0), some (.inl x1), some (.inl x2), none, some (.inl x4), some (.inl x5), some (.inl ((v10 + 1) - v13))]) rfl ?_
    refine z_aload_n (pc := 94) hc dX5_canHang_94 rfl ?_
    refine z_iload_n (pc := 95) hc dX5_canHang_95 rfl ?_
    refine z_calR (z_runV (pc := 96) (ci := 5) (T := TX5) (N := 4) hc dX5_canHang_96 zw_RX5_50 (metX5_nodeAt _ _ _ H.2) rfl (Nat.le_of_ble_eq_true rfl) ⟨Nat.le_of_ble_eq_true rfl, Nat.le_of_ble_eq_true rfl⟩ ⟨by exact Nat.le_of_ble_eq_true rfl, by exact Nat.le_of_ble_eq_true rfl⟩ rfl H.1) rfl ⟨rfl, rfl⟩ (fun r15 h14 H => ?_)
    refine z_getI (pc := 99) hc dX5_canHang_99 zf_RX5_29 rfl rfl rfl H (fun v16 H => ?_)
    refine z_if_ne (tgt := 118) (pc := 102) hc dX5_canHang_102 rfl H (fun H => ?_) (fun H => ?_)
    · refine z_iload (pc := 105) hc dX5_canHang_105 rfl ?_
      refine z_iload (pc := 107) hc dX5_canHang_107 rfl ?_
      refine z_iadd (pc := 109) hc dX5_canHang_109 ?_
      refine z_iconst (pc := 110) hc dX5_canHang_110 ?_
      refine z_icmp_gt (tgt := 118) (pc := 111) hc dX5_canHang_111 rfl H (fun H => ?_) (fun H => ?_)
      · refine z_iconst (pc := 114) hc dX5_canHang_114 ?_
        refine z_goto (tgt := 119) (pc := 115) hc dX5_canHang_115 rfl ?_
        exact z_zreturn (pc := 119) hc dX5_canHang_119 ⟨Or.inr rfl, H⟩
      · refine z_iconst (pc := 118) hc dX5_canHang_118 ?_
        exact z_zreturn (pc := 119) hc dX5_canHang_119 ⟨Or.inl rfl, H⟩
    · refine z_iconst (pc := 118) hc dX5_canHang_118 ?_
      exact z_zreturn (pc := 119) hc dX5_canHang_119 ⟨Or.inl rfl, H⟩
theorem rX5_canHang_H26 (hc : zOk p s m args meth c D cX5_canHang 7 RX5 (some .boolean))  {a0 : Nat} {x1 : Int} {x2 : Int} {x4 : Int} {x5 : Int} {x6 : Int} {h : Zm} {Q : Int → Zm → Prop}  (H : mX5_canHang_H26  a0 x1 x2 x4 x5 x6 h Q) : zW p l e zrX5_canHang s m args below meth c D base 7 (MQ below (zQi D base Q) args s 0 0 (zFree base)) 0 0 26 [some (.inr a0), some (.inl x1), some (.inl x2), none, some (.inl x4), some (.inl x5), some (.inl x6)] [] h :=
  H (fun x5 x6 h => zW p l e zrX5_canHang s m args below meth c D base 7 (MQ below (zQi D base Q) args s 0 0 (zFree base)) 0 0 26 [some (.inr a0), some (.inl x1), some (.inl x2), none, some (.inl x4), some (.inl x5), some (.inl x6)] [] h) (fun x5 x6 h H => rX5_canHang_B26 hc (fun _ _ _ q => q) H)
set_option maxRecDepth 100000 in
set_option maxHeartbeats 4000000 in
theorem rX5_canHang (hc : zOk p s m args meth c D cX5_canHang 7 RX5 (some .boolean)) {a0 : Nat} {x1 : Int} {x2 : Int} {h : Zm} {Q : Int → Zm → Prop} (H : mX5_canHang a0 x1 x2 h Q) : zW p l e zrX5_canHang s m args below meth c D base 7 (MQ below (zQi D base Q) args s 0 0 (zFree base)) 0 0 0 [some (.inr a0), some (.inl x1), some (.inl x2), none, none, none, none] [] h := by
  unfold mX5_canHang at H
  refine z_aload_n (pc := 0) hc dX5_canHang_0 rfl ?_
  refine z_iload_n (pc := 1) hc dX5_canHang_1 rfl ?_
  refine z_calI (z_runV (pc := 2) (ci := 5) (T := TX5) (N := 4) hc dX5_canHang_2 zw_RX5_46 (metX5_startOf _ _ _ H.2) rfl (Nat.le_of_ble_eq_true rfl) ⟨Nat.le_of_ble_eq_true rfl, Nat.le_of_ble_eq_true rfl⟩ ⟨by exact Nat.le_of_ble_eq_true rfl, by exact Nat.le_of_ble_eq_true rfl⟩ rfl H.1) rfl ⟨rfl, rfl⟩ (fun v2 h1 H => ?_)
  refine z_istore_n (pc := 5) hc dX5_canHang_5 (by decide) (ρ' := [some (.inr a0), some (.inl x1), some (.inl x2), some (.inl v2), none, none, none]) rfl ?_
  refine z_aload_n (pc := 6) hc dX5_canHang_6 rfl ?_
  refine z_iload_n (pc := 7) hc dX5_canHang_7 rfl ?_
  refine z_calI (z_runV (pc := 8) (ci := 5) (T := TX5) (N := 4) hc dX5_canHang_8 zw_RX5_63 (metX5_endOf _ _ _ H.2) rfl (Nat.le_of_ble_eq_true rfl) ⟨Nat.le_of_ble_eq_true rfl, Nat.le_of_ble_eq_true rfl⟩ ⟨by exact Nat.le_of_ble_eq_true rfl, by exact Nat.le_of_ble_eq_true rfl⟩ rfl H.1) rfl ⟨rfl, rfl⟩ (fun v4 h3 H => ?_)
  refine z_istore (pc := 11) hc dX5_canHang_11 (by decide) (ρ' := [some (.inr a0), some (.inl x1), some (.inl x2), some (.inl v2), some (.inl v4), none, none]) rfl ?_
  refine z_aload_n (pc := 13) hc dX5_canHang_13 rfl ?_
  refine z_iload_n (pc := 14) hc dX5_canHang_14 rfl ?_
  refine z_calR (z_runV (pc := 15) (ci := 5) (T := TX5) (N := 4) hc dX5_canHang_15 zw_RX5_50 (metX5_nodeAt _ _ _ H.2) rfl (Nat.le_of_ble_eq_true rfl) ⟨Nat.le_of_ble_eq_true rfl, Nat.le_of_ble_eq_true rfl⟩ ⟨by exact Nat.le_of_ble_eq_true rfl, by exact Nat.le_of_ble_eq_true rfl⟩ rfl H.1) rfl ⟨rfl, rfl⟩ (fun r6 h5 H => ?_)
  refine z_getI (pc := 18) hc dX5_canHang_18 zf_RX5_54 rfl rfl rfl H (fun v7 H => ?_)
  refine z_istore (pc := 21) hc dX5_canHang_21 (by decide) (ρ' := [some (.inr a0), some (.inl x1), some (.inl x2), some (.inl v2), some (.inl v4), some (.inl v7), none]) rfl ?_
  refine z_iload_n (pc := 23) hc dX5_canHang_23 rfl ?_
  refine z_istore (pc := 24) hc dX5_canHang_24 (by decide) (ρ' := [some (.inr a0), some (.inl x1), some (.inl x2), some (.inl v2), some (.inl v4), some (.inl v7), some (.inl v2)]) rfl ?_
  refine z_mask [true, true, true, false, true, true, true] (ρ' := [some (.inr a0), some (.inl x1), some (.inl x2), none, some (.inl v4), some (.inl v7), some (.inl v2)]) rfl ?_
  exact rX5_canHang_H26 hc H
end
theorem metX5_canHang (l : Launch) (D : Zd) (base : Nat) {a0 : Nat} {x1 : Int} {x2 : Int} {h : Zm} {Q : Int → Zm → Prop} (H : mX5_canHang a0 x1 x2 h Q) : zMet l D base yX5_canHang cX5_canHang 7 (some .boolean) zrX5_canHang [.inr a0, .inl x1, .inl x2] h (zQi D base Q) :=
  z_met (by decide +kernel) (Nat.le_of_ble_eq_true rfl) (fun p e s m args below meth c hc hn => rX5_canHang hc H)
def zrX5_hang : Room := { frames := 4, cells := 0, slots := 0, locals := 90 }
def mX5_hang (a0 : Nat) (x1 : Int) (x2 : Int) (h : Zm) (Q : Zm → Prop) : Prop :=
  cRc h 15 a0 <| mX5_cutOut a0 x1 h fun v2 h1 => cRc h1 15 a0 <| mX5_putIn a0 v2 x2 h1 fun h3 => Q h3
section
variable {p : Program} {l : Launch} {e : Env} {s : State} {m : MethodId} {args : Array Value} {below : List Frame} {meth : Method} {c : Code} {D : Zd} {base : Nat}
set_option maxRecDepth 100000 in
set_option maxHeartbeats 4000000 in
theorem rX5_hang (hc : zOk p s m args meth c D cX5_hang 3 RX5 none) {a0 : Nat} {x1 : Int} {x2 : Int} {h : Zm} {Q : Zm → Prop} (H : mX5_hang a0 x1 x2 h Q) : zW p l e zrX5_hang s m args below meth c D base 3 (MQ below (zQv D base Q) args s 0 0 (zFree base)) 0 0 0 [some (.inr a0), some (.inl x1), some (.inl x2)] [] h := by
  unfold mX5_hang at H
  refine z_aload_n (pc := 0) hc dX5_hang_0 rfl ?_
  refine z_aload_n (pc := 1) hc dX5_hang_1 rfl ?_
  refine z_iload_n (pc := 2) hc dX5_hang_2 rfl ?_
  refine z_calI (z_runV (pc := 3) (ci := 5) (T := TX5) (N := 4) hc dX5_hang_3 zw_RX5_73 (metX5_cutOut _ _ _ H.2) rfl (Nat.le_of_ble_eq_true rfl) ⟨Nat.le_of_ble_eq_true rfl, Nat.le_of_ble_eq_true rfl⟩ ⟨by exact Nat.le_of_ble_eq_true rfl, by exact Nat.le_of_ble_eq_true rfl⟩ rfl H.1) rfl ⟨rfl, rfl⟩ (fun v2 h1 H => ?_)
  refine z_iload_n (pc := 6) hc dX5_hang_6 rfl ?_
  refine z_calV0 (z_runV (pc := 7) (ci := 5) (T := TX5) (N := 4) hc dX5_hang_7 zw_RX5_69 (metX5_putIn _ _ _ H.2) rfl (Nat.le_of_ble_eq_true rfl) ⟨Nat.le_of_ble_eq_true rfl, Nat.le_of_ble_eq_true rfl⟩ ⟨by exact Nat.le_of_ble_eq_true rfl, by exact Nat.le_of_ble_eq_true rfl⟩ rfl H.1) rfl ⟨rfl, rfl⟩ (fun h3 H => ?_)
  exact z_return (pc := 10) hc dX5_hang_10 H
end
theorem metX5_hang (l : Launch) (D : Zd) (base : Nat) {a0 : Nat} {x1 : Int} {x2 : Int} {h : Zm} {Q : Zm → Prop} (H : mX5_hang a0 x1 x2 h Q) : zMet l D base yX5_hang cX5_hang 3 none zrX5_hang [.inr a0, .inl x1, .inl x2] h (zQv D base Q) :=
  z_met (by decide +kernel) (Nat.le_of_ble_eq_true rfl) (fun p e s m args below meth c hc hn => rX5_hang hc H)
