/-! printed by gen.py: X6_setPoint X6_removePoint X6_curve X6_inverse J9_abs_0f7a4 X6_greatestDifference X6_simplify X6_isPixel X6_rendered X6_separateAt X6_ink X6_inkOf X6_touchedBy X6_addUpPlates X6_coverage X6_platesBefore X6_plateAt X6_greatestSum X6_limitedPixels X6_countInks X6_inkCount -/
def zrX6_setPoint : Room := { frames := 5, cells := 0, slots := 0, locals := 108 }
def mX6_setPoint (a0 : Nat) (x1 : Int) (x2 : Int) (x3 : Int) (h : Zm) (Q : Int → Zm → Prop) : Prop :=
  mX6_isPlate x1 h fun v2 h1 => cEq v2 0
  (Q (-1) h1)
  (mX6_isPart x2 h1 fun v4 h3 => cEq v4 0
    (Q (-1) h3)
    (mX6_isPart x3 h3 fun v6 h5 => cEq v6 0
      (Q (-1) h5)
      (cGr h5 16 a0 0 fun r7 => cGr h5 14 r7 7 fun r8 => cLdR h5 r8 x1 fun r9 => cRc h5 10 r9 <| mX0_keepsRising r9 x2 x3 h5 fun v11 h10 => cEq v11 0
        (Q (-2) h10)
        (cRc h10 10 r9 <| mX0_indexOf r9 x2 h10 fun v13 h12 => cEq v13 (-1)
          (cGi h12 10 r9 2 fun v17 => cLt v17 8
            (cRc h12 16 a0 <| mX6_remember a0 h12 fun h18 => cRc h18 10 r9 <| mX0_put r9 x2 x3 h18 fun h19 => cGi h19 10 r9 2 fun v20 => Q v20 h19)
            (Q (-3) h12))
          (cRc h12 16 a0 <| mX6_remember a0 h12 fun h14 => cRc h14 10 r9 <| mX0_put r9 x2 x3 h14 fun h15 => cGi h15 10 r9 2 fun v16 => Q v16 h15)))))
section
variable {p : Program} {l : Launch} {e : Env} {s : State} {m : MethodId} {args : Array Value} {below : List Frame} {meth : Method} {c : Code} {D : Zd} {base : Nat}
set_option maxRecDepth 100000 in
set_option maxHeartbeats 4000000 in
theorem rX6_setPoint (hc : zOk p s m args meth c D cX6_setPoint 5 RX6 (some .int)) {a0 : Nat} {x1 : Int} {x2 : Int} {x3 : Int} {h : Zm} {Q : Int → Zm → Prop} (H : mX6_setPoint a0 x1 x2 x3 h Q) : zW p l e zrX6_setPoint s m args below meth c D base 5 (MQ below (zQi D base Q) args s 0 0 (zFree base)) 0 0 0 [some (.inr a0), some (.inl x1), some (.inl x2), some (.inl x3), none] [] h := by
  unfold mX6_setPoint at H
  refine z_iload_n (pc := 0) hc dX6_setPoint_0 rfl ?_
  refine z_calI (z_runS (pc := 1) hc dX6_setPoint_1 zw_RX6_183 (metX6_isPlate _ _ _ H) rfl (Nat.le_of_ble_eq_true rfl) ⟨Nat.le_of_ble_eq_true rfl, Nat.le_of_ble_eq_true rfl⟩ ⟨by exact Nat.le_of_ble_eq_true rfl, by exact Nat.le_of_ble_eq_true rfl⟩) rfl ⟨rfl, rfl⟩ (fun v2 h1 H => ?_)
  refine z_if_eq (tgt := 21) (pc := 4) hc dX6_setPoint_4 rfl H (fun H => ?_) (fun H => ?_)
  · refine z_iconst (pc := 21) hc dX6_setPoint_21 ?_
    exact z_ireturn (pc := 22) hc dX6_setPoint_22 H
  · refine z_iload_n (pc := 7) hc dX6_setPoint_7 rfl ?_
    refine z_calI (z_runS (pc := 8) hc dX6_setPoint_8 zw_RX6_103 (metX6_isPart _ _ _ H) rfl (Nat.le_of_ble_eq_true rfl) ⟨Nat.le_of_ble_eq_true rfl, Nat.le_of_ble_eq_true rfl⟩ ⟨by exact Nat.le_of_ble_eq_true rfl, by exact Nat.le_of_ble_eq_true rfl⟩) rfl ⟨rfl, rfl⟩ (fun v4 h3 H => ?_)
    refine z_if_eq (tgt := 21) (pc := 11) hc dX6_setPoint_11 rfl H (fun H => ?_) (fun H => ?_)
    · refine z_iconst (pc := 21) hc dX6_setPoint_21 ?_
      exact z_ireturn (pc := 22) hc dX6_setPoint_22 H
    · refine z_iload_n (pc := 14) hc dX6_setPoint_14 rfl ?_
      refine z_calI (z_runS (pc := 15) hc dX6_setPoint_15 zw_RX6_103 (metX6_isPart _ _ _ H) rfl (Nat.le_of_ble_eq_true rfl) ⟨Nat.le_of_ble_eq_true rfl, Nat.le_of_ble_eq_true rfl⟩ ⟨by exact Nat.le_of_ble_eq_true rfl, by exact Nat.le_of_ble_eq_true rfl⟩) rfl ⟨rfl, rfl⟩ (fun v6 h5 H => ?_)
      refine z_if_ne (tgt := 23) (pc := 18) hc dX6_setPoint_18 rfl H (fun H => ?_) (fun H => ?_)
      · refine z_iconst (pc := 21) hc dX6_setPoint_21 ?_
        exact z_ireturn (pc := 22) hc dX6_setPoint_22 H
      · refine z_aload_n (pc := 23) hc dX6_setPoint_23 rfl ?_
        refine z_getR (pc := 24) hc dX6_setPoint_24 zf_RX6_12 rfl rfl rfl H (fun r7 H => ?_)
        refine z_getR (pc := 27) hc dX6_setPoint_27 zf_RX6_186 rfl rfl rfl H (fun r8 H => ?_)
        refine z_iload_n (pc := 30) hc dX6_setPoint_30 rfl ?_
        refine z_aaload (pc := 31) hc dX6_setPoint_31 H (fun r9 H => ?_)
        refine z_astore (pc := 32) hc dX6_setPoint_32 (by decide) (ρ' := [some (.inr a0), some (.inl x1), some (.inl x2), some (.inl x3), some (.inr r9)]) rfl ?_
        refine z_aload (pc := 34) hc dX6_setPoint_34 rfl ?_
        refine z_iload_n (pc := 36) hc dX6_setPoint_36 rfl ?_
        refine z_iload_n (pc := 37) hc dX6_setPoint_37 rfl ?_
        refine z_calI (z_runV (pc := 38) (ci := 0) (T := TX0) (N := 3) hc dX6_setPoint_38 zw_RX6_190 (metX0_keepsRising _ _ _ H.2) rfl (Nat.le_of_ble_eq_true rfl) ⟨Nat.le_of_ble_eq_true rfl, Nat.le_of_ble_eq_true rfl⟩ ⟨by exact Nat.le_of_ble_eq_true rfl, by exact Nat.le_of_ble_eq_true rfl⟩ rfl H.1) rfl ⟨rfl, rfl⟩ (fun v11 h10 H => ?_)
        refine z_if_ne (tgt := 47) (pc := 41) hc dX6_setPoint_41 rfl H (fun H => ?_) (fun H => ?_)
        · refine z_bipush (pc := 44) hc dX6_setPoint_44 (by decide) ?_
          exact z_ireturn (pc := 46) hc dX6_setPoint_46 H
        · refine z_aload (pc := 47) hc dX6_setPoint_47 rfl ?_
          refine z_iload_n (pc := 49) hc dX6_setPoint_49 rfl ?_
          refine z_calI (z_runV (pc := 50) (ci := 0) (T := TX0) (N := 3) hc dX6_setPoint_50 zw_RX6_195 (metX0_indexOf _ _ _ H.2) rfl (Nat.le_of_ble_eq_true rfl) ⟨Nat.le_of_ble_eq_true rfl, Nat.le_of_ble_eq_true rfl⟩ ⟨by exact Nat.le_of_ble_eq_true rfl, by exact Nat.le_of_ble_eq_true rfl⟩ rfl H.1) rfl ⟨rfl, rfl⟩ (fun v13 h12 H => ?_)
          refine z_iconst (pc := 53) hc dX6_setPoint_53 ?_
          refine z_icmp_ne (tgt := 70) (pc := 54) hc dX6_setPoint_54 rfl H (fun H => ?_) (fun H => ?_)
          · refine z_aload (pc := 57) hc dX6_setPoint_57 rfl ?_
            refine z_getI (pc := 59) hc dX6_setPoint_59 zf_RX6_198 rfl rfl rfl H (fun v17 H => ?_)
            refine z_bipush (pc := 62) hc dX6_setPoint_62 (by decide) ?_
            refine z_icmp_lt (tgt := 70) (pc := 64) hc dX6_setPoint_64 rfl H (fun H => ?_) (fun H => ?_)
            · refine z_aload_n (pc := 70) hc dX6_setPoint_70 rfl ?_
              refine z_calV0 (z_runV (pc := 71) (ci := 6) (T := TX6) (N := 8) hc dX6_setPoint_71 zw_RX6_62 (metX6_remember _ _ _ H.2) rfl (Nat.le_of_ble_eq_true rfl) ⟨Nat.le_of_ble_eq_true rfl, Nat.le_of_ble_eq_true rfl⟩ ⟨by exact Nat.le_of_ble_eq_true rfl, by exact Nat.le_of_ble_eq_true rfl⟩ rfl H.1) rfl ⟨rfl, rfl⟩ (fun h18 H => ?_)
              refine z_aload (pc := 74) hc dX6_setPoint_74 rfl ?_
              refine z_iload_n (pc := 76) hc dX6_setPoint_76 rfl ?_
              refine z_iload_n (pc := 77) hc dX6_setPoint_77 rfl ?_
              refine z_calV0 (z_runV (pc := 78) (ci := 0) (T := TX0) (N := 3) hc dX6_setPoint_78 zw_RX6_199 (metX0_put _ _ _ H.2) rfl (Nat.le_of_ble_eq_true rfl) ⟨Nat.le_of_ble_eq_true rfl, Nat.le_of_ble_eq_true rfl⟩ ⟨by exact Nat.le_of_ble_eq_true rfl, by exact Nat.le_of_ble_eq_true rfl⟩ rfl H.1) rfl ⟨rfl, rfl⟩ (fun h19 H => ?_)
              refine z_aload (pc := 81) hc dX6_setPoint_81 rfl ?_
              refine z_getI (pc := 83) hc dX6_setPoint_83 zf_RX6_198 rfl rfl rfl H (fun v20 H => ?_)
              exact z_ireturn (pc := 86) hc dX6_setPoint_86 H
            · refine z_bipush (pc := 67) hc dX6_setPoint_67 (by decide) ?_
              exact z_ireturn (pc := 69) hc dX6_setPoint_69 H
          · refine z_aload_n (pc := 70) hc dX6_setPoint_70 rfl ?_
            refine z_calV0 (z_runV (pc := 71) (ci := 6) (T := TX6) (N := 8) hc dX6_setPoint_71 zw_RX6_62 (metX6_remember _ _ _ H.2) rfl (Nat.le_of_ble_eq_true rfl) ⟨Nat.le_of_ble_eq_true rfl, Nat.le_of_ble_eq_true rfl⟩ ⟨by exact Nat.le_of_ble_eq_true rfl, by exact Nat.le_of_ble_eq_true rfl⟩ rfl H.1) rfl ⟨rfl, rfl⟩ (fun h14 H => ?_)
            refine z_aload (pc := 74) hc dX6_setPoint_74 rfl ?_
            refine z_iload_n (pc := 76) hc dX6_setPoint_76 rfl ?_
            refine z_iload_n (pc := 77) hc dX6_setPoint_77 rfl ?_
            refine z_calV0 (z_runV (pc := 78) (ci := 0) (T := TX0) (N := 3) hc dX6_setPoint_78 zw_RX6_199 (metX0_put _ _ _ H.2) rfl (Nat.le_of_ble_eq_true rfl) ⟨Nat.le_of_ble_eq_true rfl, Nat.le_of_ble_eq_true rfl⟩ ⟨by exact Nat.le_of_ble_eq_true rfl, by exact Nat.le_of_ble_eq_true rfl⟩ rfl H.1) rfl ⟨rfl, rfl⟩ (fun h15 H => ?_)
            refine z_aload (pc := 81) hc dX6_setPoint_81 rfl ?_
            refine z_getI (pc := 83) hc dX6_setPoint_83 zf_RX6_198 rfl rfl rfl H (fun v16 H => ?_)
            exact z_ireturn (pc := 86) hc dX6_setPoint_86 H
end
theorem metX6_setPoint (l : Launch) (D : Zd) (base : Nat) {a0 : Nat} {x1 : Int} {x2 : Int} {x3 : Int} {h : Zm} {Q : Int → Zm → Prop} (H : mX6_setPoint a0 x1 x2 x3 h Q) : zMet l D base yX6_setPoint cX6_setPoint 5 (some .int) zrX6_setPoint [.inr a0, .inl x1, .inl x2, .inl x3] h (zQi D base Q) :=
  z_met (by decide +kernel) (Nat.le_of_ble_eq_true rfl) (fun p e s m args below meth c hc hn => rX6_setPoint hc H)
def zrX6_removePoint : Room := { frames := 5, cells := 0, slots := 0, locals := 108 }
def mX6_removePoint (a0 : Nat) (x1 : Int) (x2 : Int) (h : Zm) (Q : Int → Zm → Prop) : Prop :=
  mX6_isPlate x1 h fun v2 h1 => cEq v2 0
  (Q (-1) h1)
  (mX6_within x2 1 254 h1 fun v4 h3 => cEq v4 0
    (Q (-1) h3)
    (cGr h3 16 a0 0 fun r5 => cGr h3 14 r5 7 fun r6 => cLdR h3 r6 x1 fun r7 => cRc h3 10 r7 <| mX0_indexOf r7 x2 h3 fun v9 h8 => cEq v9 (-1)
      (Q (-4) h8)
      (cRc h8 16 a0 <| mX6_remember a0 h8 fun h10 => cRc h10 10 r7 <| mX0_drop r7 v9 h10 fun v12 h11 => Q v12 h11)))
section
variable {p : Program} {l : Launch} {e : Env} {s : State} {m : MethodId} {args : Array Value} {below : List Frame} {meth : Method} {c : Code} {D : Zd} {base : Nat}
set_option maxRecDepth 100000 in
set_option maxHeartbeats 4000000 in
theorem rX6_removePoint (hc : zOk p s m args meth c D cX6_removePoint 5 RX6 (some .int)) {a0 : Nat} {x1 : Int} {x2 : Int} {h : Zm} {Q : Int → Zm → Prop} (H : mX6_removePoint a0 x1 x2 h Q) : zW p l e zrX6_removePoint s m args below meth c D base 5 (MQ below (zQi D base Q) args s 0 0 (zFree base)) 0 0 0 [some (.inr a0), some (.inl x1), some (.inl x2), none, none] [] h := by
  unfold mX6_removePoint at H
  refine z_iload_n (pc := 0) hc dX6_removePoint_0 rfl ?_
  refine z_calI (z_runS (pc := 1) hc dX6_removePoint_1 zw_RX6_183 (metX6_isPlate _ _ _ H) rfl (Nat.le_of_ble_eq_true rfl) ⟨Nat.le_of_ble_eq_true rfl, Nat.le_of_ble_eq_true rfl⟩ ⟨by exact Nat.le_of_ble_eq_true rfl, by exact Nat.le_of_ble_eq_true rfl⟩) rfl ⟨rfl, rfl⟩ (fun v2 h1 H => ?_)
  refine z_if_eq (tgt := 18) (pc := 4) hc dX6_removePoint_4 rfl H (fun H => ?_) (fun H => ?_)
  · refine z_iconst (pc := 18) hc dX6_removePoint_18 ?_
    exact z_ireturn (pc := 19) hc dX6_removePoint_19 H
  · refine z_iload_n (pc := 7) hc dX6_removePoint_7 rfl ?_
    refine z_iconst (pc := 8) hc dX6_removePoint_8 ?_
    refine z_sipush (pc := 9) hc dX6_removePoint_9 (by decide) ?_
    refine z_calI (z_runS (pc := 12) hc dX6_removePoint_12 zw_RX6_52 (metX6_within _ _ _ H) rfl (Nat.le_of_ble_eq_true rfl) ⟨Nat.le_of_ble_eq_true rfl, Nat.le_of_ble_eq_true rfl⟩ ⟨by exact Nat.le_of_ble_eq_true rfl, by exact Nat.le_of_ble_eq_true rfl⟩) rfl ⟨rfl, rfl⟩ (fun v4 h3 H => ?_)
    refine z_if_ne (tgt := 20) (pc := 15) hc dX6_removePoint_15 rfl H (fun H => ?_) (fun H => ?_)
    · refine z_iconst (pc := 18) hc dX6_removePoint_18 ?_
      exact z_ireturn (pc := 19) hc dX6_removePoint_19 H
    · refine z_aload_n (pc := 20) hc dX6_removePoint_20 rfl ?_
      refine z_getR (pc := 21) hc dX6_removePoint_21 zf_RX6_12 rfl rfl rfl H (fun r5 H => ?_)
      refine z_getR (pc := 24) hc dX6_removePoint_24 zf_RX6_186 rfl rfl rfl H (fun r6 H => ?_)
      refine z_iload_n (pc := 27) hc dX6_removePoint_27 rfl ?_
      refine z_aaload (pc := 28) hc dX6_removePoint_28 H (fun r7 H => ?_)
      refine z_astore_n (pc := 29) hc dX6_removePoint_29 (by decide) (ρ' := [some (.inr a0), some (.inl x1), some (.inl x2), some (.inr r7), none]) rfl ?_
      refine z_aload_n (pc := 30) hc dX6_removePoint_30 rfl ?_
      refine z_iload_n (pc := 31) hc dX6_removePoint_31 rfl ?_
      refine z_calI (z_runV (pc := 32) (ci := 0) (T := TX0) (N := 3) hc dX6_removePoint_32 zw_RX6_195 (metX0_indexOf _ _ _ H.2) rfl (Nat.le_of_ble_eq_true rfl) ⟨Nat.le_of_ble_eq_true rfl, Nat.le_of_ble_eq_true rfl⟩ ⟨by exact Nat.le_of_ble_eq_true rfl, by exact Nat.le_of_ble_eq_true rfl⟩ rfl H.1) rfl ⟨rfl, rfl⟩ (fun v9 h8 H => ?_)
      refine z_istore (pc := 35) hc dX6_removePoint_35 (by decide) (ρ' := [some (.inr a0), some (.inl x1), some (.inl x2), some (.inr r7), some (.inl v9)]) rfl ?_
      refine z_iload (pc := 37) hc dX6_removePoint_37 rfl ?_
      refine z_iconst (pc := 39) hc dX6_removePoint_39 ?_
      refine z_icmp_ne (tgt := 46) (pc := 40) hc dX6_removePoint_40 rfl H (fun H => ?_) (fun H => ?_)
      · refine z_bipush (pc := 43) hc dX6_removePoint_43 (by decide) ?_
        exact z_ireturn (pc := 45) hc dX6_removePoint_45 H
      · refine z_aload_n (pc := 46) hc dX6_removePoint_46 rfl ?_
        refine z_calV0 (z_runV (pc := 47) (ci := 6) (T := TX6) (N := 8) hc dX6_removePoint_47 zw_RX6_62 (metX6_remember _ _ _ H.2) rfl (Nat.le_of_ble_eq_true rfl) ⟨Nat.le_of_ble_eq_true rfl, Nat.le_of_ble_eq_true rfl⟩ ⟨by exact Nat.le_of_ble_eq_true rfl, by exact Nat.le_of_ble_eq_true rfl⟩ rfl H.1) rfl ⟨rfl, rfl⟩ (fun h10 H => ?_)
        refine z_aload_n (pc := 50) hc dX6_removePoint_50 rfl ?_
        refine z_iload (pc := 51) hc dX6_removePoint_51 rfl ?_
        refine z_calI (z_runV (pc := 53) (ci := 0) (T := TX0) (N := 3) hc dX6_removePoint_53 zw_RX6_202 (metX0_drop _ _ _ H.2) rfl (Nat.le_of_ble_eq_true rfl) ⟨Nat.le_of_ble_eq_true rfl, Nat.le_of_ble_eq_true rfl⟩ ⟨by exact Nat.le_of_ble_eq_true rfl, by exact Nat.le_of_ble_eq_true rfl⟩ rfl H.1) rfl ⟨rfl, rfl⟩ (fun v12 h11 H => ?_)
        exact z_ireturn (pc := 56) hc dX6_removePoint_56 H
end
theorem metX6_removePoint (l : Launch) (D : Zd) (base : Nat) {a0 : Nat} {x1 : Int} {x2 : Int} {h : Zm} {Q : Int → Zm → Prop} (H : mX6_removePoint a0 x1 x2 h Q) : zMet l D base yX6_removePoint cX6_removePoint 5 (some .int) zrX6_removePoint [.inr a0, .inl x1, .inl x2] h (zQi D base Q) :=
  z_met (by decide +kernel) (Nat.le_of_ble_eq_true rfl) (fun p e s m args below meth c hc hn => rX6_removePoint hc H)
def zrX6_curve : Room := { frames := 2, cells := 0, slots := 0, locals := 46 }
def mX6_curve (a0 : Nat) (x1 : Int) (x2 : Int) (h : Zm) (Q : Int → Zm → Prop) : Prop :=
  mX6_isPlate x1 h fun v2 h1 => cEq v2 0
  (Q (-1) h1)
  (mX6_isPart x2 h1 fun v4 h3 => cEq v4 0
    (Q (-1) h3)
    (cGr h3 16 a0 0 fun r5 => cGr h3 14 r5 7 fun r6 => cLdR h3 r6 x1 fun r7 => cRc h3 10 r7 <| mX0_valueAt r7 x2 h3 fun v9 h8 => Q v9 h8))
section
variable {p : Program} {l : Launch} {e : Env} {s : State} {m : MethodId} {args : Array Value} {below : List Frame} {meth : Method} {c : Code} {D : Zd} {base : Nat}
set_option maxRecDepth 100000 in
set_option maxHeartbeats 4000000 in
theorem rX6_curve (hc : zOk p s m args meth c D cX6_curve 3 RX6 (some .int)) {a0 : Nat} {x1 : Int} {x2 : Int} {h : Zm} {Q : Int → Zm → Prop} (H : mX6_curve a0 x1 x2 h Q) : zW p l e zrX6_curve s m args below meth c D base 3 (MQ below (zQi D base Q) args s 0 0 (zFree base)) 0 0 0 [some (.inr a0), some (.inl x1), some (.inl x2)] [] h := by
  unfold mX6_curve at H
  refine z_iload_n (pc := 0) hc dX6_curve_0 rfl ?_
  refine z_calI (z_runS (pc := 1) hc dX6_curve_1 zw_RX6_183 (metX6_isPlate _ _ _ H) rfl (Nat.le_of_ble_eq_true rfl) ⟨Nat.le_of_ble_eq_true rfl, Nat.le_of_ble_eq_true rfl⟩ ⟨by exact Nat.le_of_ble_eq_true rfl, by exact Nat.le_of_ble_eq_true rfl⟩) rfl ⟨rfl, rfl⟩ (fun v2 h1 H => ?_)
  refine z_if_eq (tgt := 14) (pc := 4) hc dX6_curve_4 rfl H (fun H => ?_) (fun H => ?_)
  · refine z_iconst (pc := 14) hc dX6_curve_14 ?_
    exact z_ireturn (pc := 15) hc dX6_curve_15 H
  · refine z_iload_n (pc := 7) hc dX6_curve_7 rfl ?_
    refine z_calI (z_runS (pc := 8) hc dX6_curve_8 zw_RX6_103 (metX6_isPart _ _ _ H) rfl (Nat.le_of_ble_eq_true rfl) ⟨Nat.le_of_ble_eq_true rfl, Nat.le_of_ble_eq_true rfl⟩ ⟨by exact Nat.le_of_ble_eq_true rfl, by exact Nat.le_of_ble_eq_true rfl⟩) rfl ⟨rfl, rfl⟩ (fun v4 h3 H => ?_)
    refine z_if_ne (tgt := 16) (pc := 11) hc dX6_curve_11 rfl H (fun H => ?_) (fun H => ?_)
    · refine z_iconst (pc := 14) hc dX6_curve_14 ?_
      exact z_ireturn (pc := 15) hc dX6_curve_15 H
    · refine z_aload_n (pc := 16) hc dX6_curve_16 rfl ?_
      refine z_getR (pc := 17) hc dX6_curve_17 zf_RX6_12 rfl rfl rfl H (fun r5 H => ?_)
      refine z_getR (pc := 20) hc dX6_curve_20 zf_RX6_186 rfl rfl rfl H (fun r6 H => ?_)
      refine z_iload_n (pc := 23) hc dX6_curve_23 rfl ?_
      refine z_aaload (pc := 24) hc dX6_curve_24 H (fun r7 H => ?_)
      refine z_iload_n (pc := 25) hc dX6_curve_25 rfl ?_
      refine z_calI (z_runV (pc := 26) (ci := 0) (T := TX0) (N := 3) hc dX6_curve_26 zw_RX6_205 (metX0_valueAt _ _ _ H.2) rfl (Nat.le_of_ble_eq_true rfl) ⟨Nat.le_of_ble_eq_true rfl, Nat.le_of_ble_eq_true rfl⟩ ⟨by exact Nat.le_of_ble_eq_true rfl, by exact Nat.le_of_ble_eq_true rfl⟩ rfl H.1) rfl ⟨rfl, rfl⟩ (fun v9 h8 H => ?_)
      exact z_ireturn (pc := 29) hc dX6_curve_29 H
end
theorem metX6_curve (l : Launch) (D : Zd) (base : Nat) {a0 : Nat} {x1 : Int} {x2 : Int} {h : Zm} {Q : Int → Zm → Prop} (H : mX6_curve a0 x1 x2 h Q) : zMet l D base yX6_curve cX6_curve 3 (some .int) zrX6_curve [.inr a0, .inl x1, .inl x2] h (zQi D base Q) :=
  z_met (by decide +kernel) (Nat.le_of_ble_eq_true rfl) (fun p e s m args below meth c hc hn => rX6_curve hc H)
def zrX6_inverse : Room := { frames := 2, cells := 0, slots := 0, locals := 46 }
def mX6_inverse_B29 (X29 : Int → Zm → Prop) (x2 : Int) (a3 : Nat) (x4 : Int) (h : Zm) (Q : Int → Zm → Prop) : Prop :=
  cLe x4 255
  (cRc h 10 a3 <| mX0_valueAt a3 x4 h fun v9 h8 => cLt v9 x2
    (X29 (x4 + 1) h8)
    (Q x4 h8))
  (Q (-4) h)
def mX6_inverse_H29  (x2 : Int) (a3 : Nat) (x4 : Int) (h : Zm) (Q : Int → Zm → Prop) : Prop :=
  lfp1 (fun X29 x4 h => mX6_inverse_B29 X29 x2 a3 x4 h Q) x4 h
def mX6_inverse (a0 : Nat) (x1 : Int) (x2 : Int) (h : Zm) (Q : Int → Zm → Prop) : Prop :=
  mX6_isPlate x1 h fun v2 h1 => cEq v2 0
  (Q (-1) h1)
  (mX6_isPart x2 h1 fun v4 h3 => cEq v4 0
    (Q (-1) h3)
    (cGr h3 16 a0 0 fun r5 => cGr h3 14 r5 7 fun r6 => cLdR h3 r6 x1 fun r7 => mX6_inverse_H29  x2 r7 0 h3 Q))
section
variable {p : Program} {l : Launch} {e : Env} {s : State} {m : MethodId} {args : Array Value} {below : List Frame} {meth : Method} {c : Code} {D : Zd} {base : Nat}
set_option maxRecDepth 100000 in
set_option maxHeartbeats 4000000 in
theorem rX6_inverse_B29 (hc : zOk p s m args meth c D cX6_inverse 5 RX6 (some .int)) {X29 : Int → Zm → Prop} {x2 : Int} {a3 : Nat} {x4 : Int} {h : Zm} {Q : Int → Zm → Prop} (hX29 : ∀ (x4 : Int) (h : Zm), X29 x4 h → zW p l e zrX6_inverse s m args below meth c D base 5 (MQ below (zQi D base Q) args s 0 0 (zFree base)) 0 0 29 [none, none, some (.inl x2), some (.inr a3), some (.inl x4)] [] h) (H : mX6_inverse_B29 X29 x2 a3 x4 h Q) : zW p l e zrX6_inverse s m args below meth c D base 5 (MQ below (zQi D base Q) args s 0 0 (zFree base)) 0 0 29 [none, none, some (.inl x2), some (.inr a3), some (.inl x4)] [] h := by
  unfold mX6_inverse_B29 at H
  refine z_iload (pc := 29) hc dX6_inverse_29 rfl ?_
  refine z_sipush (pc := 31) hc dX6_inverse_31 (by decide) ?_
  refine z_icmp_gt (tgt := 56) (pc := 34) hc dX6_inverse_34 rfl H (fun H => ?_) (fun H => ?_)
  · refine z_aload_n (pc := 37) hc dX6_inverse_37 rfl ?_
    refine z_iload (pc := 38) hc dX6_inverse_38 rfl ?_
    refine z_calI (z_runV (pc := 40) (ci := 0) (T := TX0) (N := 3) hc dX6_inverse_40 zw_RX6_205 (metX0_valueAt _ _ _ H.2) rfl (Nat.le_of_ble_eq_true rfl) ⟨Nat.le_of_ble_eq_true rfl, Nat.le_of_ble_eq_true rfl⟩ ⟨by exact Nat.le_of_ble_eq_true rfl, by exact Nat.le_of_ble_eq_true rfl⟩ rfl H.1) rfl ⟨rfl, rfl⟩ (fun v9 h8 H => ?_)
    refine z_iload_n (pc := 43) hc dX6_inverse_43 rfl ?_
    refine z_icmp_lt (tgt := 50) (pc := 44) hc dX6_inverse_44 rfl H (fun H => ?_) (fun H => ?_)
    · refine z_iinc (pc := 50) hc dX6_inverse_50 (by decide) rfl (ρ' := [none, none, some (.inl x2), some (.inr a3), some (.inl (x4 + 1))]) rfl ?_
      refine z_goto (tgt := 29) (pc := 53) hc dX6_inverse_53 rfl ?_
      exact hX29 _ _ H
    · refine z_iload (pc := 47) hc dX6_inverse_47 rfl ?_
      exact z_ireturn (pc := 49) hc dX6_inverse_49 H
  · refine z_bipush (pc := 56) hc dX6_inverse_56 (by decide) ?_
    exact z_ireturn (pc := 58) hc dX6_inverse_58 H
theorem rX6_inverse_H29 (hc : zOk p s m args meth c D cX6_inverse 5 RX6 (some .int))  {x2 : Int} {a3 : Nat} {x4 : Int} {h : Zm} {Q : Int → Zm → Prop}  (H : mX6_inverse_H29  x2 a3 x4 h Q) : zW p l e zrX6_inverse s m args below meth c D base 5 (MQ below (zQi D base Q) args s 0 0 (zFree base)) 0 0 29 [none, none, some (.inl x2), some (.inr a3), some (.inl x4)] [] h :=
  H (fun x4 h => zW p l e zrX6_inverse s m args below meth c D base 5 (MQ below (zQi D base Q) args s 0 0 (zFree base)) 0 0 29 [none, none, some (.inl x2), some (.inr a3), some (.inl x4)] [] h) (fun x4 h H => rX6_inverse_B29 hc (fun _ _ q => q) H)
set_option maxRecDepth 100000 in
set_option maxHeartbeats 4000000 in
theorem rX6_inverse (hc : zOk p s m args meth c D cX6_inverse 5 RX6 (some .int)) {a0 : Nat} {x1 : Int} {x2 : Int} {h : Zm} {Q : Int → Zm → Prop} (H : mX6_inverse a0 x1 x2 h Q) : zW p l e zrX6_inverse s m args below meth c D base 5 (MQ below (zQi D base Q) args s 0 0 (zFree base)) 0 0 0 [some (.inr a0), some (.inl x1), some (.inl x2), none, none] [] h := by
  unfold mX6_inverse at H
  refine z_iload_n (pc := 0) hc dX6_inverse_0 rfl ?_
  refine z_calI (z_runS (pc := 1) hc dX6_inverse_1 zw_RX6_183 (metX6_isPlate _ _ _ H) rfl (Nat.le_of_ble_eq_true rfl) ⟨Nat.le_of_ble_eq_true rfl, Nat.le_of_ble_eq_true rfl⟩ ⟨by exact Nat.le_of_ble_eq_true rfl, by exact Nat.le_of_ble_eq_true rfl⟩) rfl ⟨rfl, rfl⟩ (fun v2 h1 H => ?_)
  refine z_if_eq (tgt := 14) (pc := 4) hc dX6_inverse_4 rfl H (fun H => ?_) (fun H => ?_)
  · refine z_iconst (pc := 14) hc dX6_inverse_14 ?_
    exact z_ireturn (pc := 15) hc dX6_inverse_15 H
  · refine z_iload_n (pc := 7) hc dX6_inverse_7 rfl ?_
    refine z_calI (z_runS (pc := 8) hc dX6_inverse_8 zw_RX6_103 (metX6_isPart _ _ _ H) rfl (Nat.le_of_ble_eq_true rfl) ⟨Nat.le_of_ble_eq_true rfl, Nat.le_of_ble_eq_true rfl⟩ ⟨by exact Nat.le_of_ble_eq_true rfl, by exact Nat.le_of_ble_eq_true rfl⟩) rfl ⟨rfl, rfl⟩ (fun v4 h3 H => ?_)
    refine z_if_ne (tgt := 16) (pc := 11) hc dX6_inverse_11 rfl H (fun H => ?_) (fun H => ?_)
    · refine z_iconst (pc := 14) hc dX6_inverse_14 ?_
      exact z_ireturn (pc := 15) hc dX6_inverse_15 H
    · refine z_aload_n (pc := 16) hc dX6_inverse_16 rfl ?_
      refine z_getR (pc := 17) hc dX6_inverse_17 zf_RX6_12 rfl rfl rfl H (fun r5 H => ?_)
      refine z_getR (pc := 20) hc dX6_inverse_20 zf_RX6_186 rfl rfl rfl H (fun r6 H => ?_)
      refine z_iload_n (pc := 23) hc dX6_inverse_23 rfl ?_
      refine z_aaload (pc := 24) hc dX6_inverse_24 H (fun r7 H => ?_)
      refine z_astore_n (pc := 25) hc dX6_inverse_25 (by decide) (ρ' := [some (.inr a0), some (.inl x1), some (.inl x2), some (.inr r7), none]) rfl ?_
      refine z_iconst (pc := 26) hc dX6_inverse_26 ?_
      refine z_istore (pc := 27) hc dX6_inverse_27 (by decide) (ρ' := [some (.inr a0), some (.inl x1), some (.inl x2), some (.inr r7), some (.inl 0)]) rfl ?_
      refine z_mask [false, false, true, true, true] (ρ' := [none, none, some (.inl x2), some (.inr r7), some (.inl 0)]) rfl ?_
      exact rX6_inverse_H29 hc H
end
theorem metX6_inverse (l : Launch) (D : Zd) (base : Nat) {a0 : Nat} {x1 : Int} {x2 : Int} {h : Zm} {Q : Int → Zm → Prop} (H : mX6_inverse a0 x1 x2 h Q) : zMet l D base yX6_inverse cX6_inverse 5 (some .int) zrX6_inverse [.inr a0, .inl x1, .inl x2] h (zQi D base Q) :=
  z_met (by decide +kernel) (Nat.le_of_ble_eq_true rfl) (fun p e s m args below meth c hc hn => rX6_inverse hc H)
def zrJ9_abs_0f7a4 : Room := { frames := 0, cells := 0, slots := 0, locals := 0 }
def mJ9_abs_0f7a4 (x0 : Int) (h : Zm) (Q : Int → Zm → Prop) : Prop :=
  cLt x0 0
  (Q (-x0) h)
  (Q x0 h)
section
variable {p : Program} {l : Launch} {e : Env} {s : State} {m : MethodId} {args : Array Value} {below : List Frame} {meth : Method} {c : Code} {D : Zd} {base : Nat}
set_option maxRecDepth 100000 in
set_option maxHeartbeats 4000000 in
theorem rJ9_abs_0f7a4 (hc : zOk p s m args meth c D cJ9_abs_0f7a4 1 RJ9 (some .int)) {x0 : Int} {h : Zm} {Q : Int → Zm → Prop} (H : mJ9_abs_0f7a4 x0 h Q) : zW p l e zrJ9_abs_0f7a4 s m args below meth c D base 1 (MQ below (zQi D base Q) args s 0 0 (zFree base)) 0 0 0 [some (.inl x0)] [] h := by
  unfold mJ9_abs_0f7a4 at H
  refine z_iload_n (pc := 0) hc dJ9_abs_0f7a4_0 rfl ?_
  refine z_if_ge (tgt := 9) (pc := 1) hc dJ9_abs_0f7a4_1 rfl H (fun H => ?_) (fun H => ?_)
  · refine z_iload_n (pc := 4) hc dJ9_abs_0f7a4_4 rfl ?_
    refine z_ineg (pc := 5) hc dJ9_abs_0f7a4_5 ?_
    refine z_goto (tgt := 10) (pc := 6) hc dJ9_abs_0f7a4_6 rfl ?_
    exact z_ireturn (pc := 10) hc dJ9_abs_0f7a4_10 H
  · refine z_iload_n (pc := 9) hc dJ9_abs_0f7a4_9 rfl ?_
    exact z_ireturn (pc := 10) hc dJ9_abs_0f7a4_10 H
end
theorem metJ9_abs_0f7a4 (l : Launch) (D : Zd) (base : Nat) {x0 : Int} {h : Zm} {Q : Int → Zm → Prop} (H : mJ9_abs_0f7a4 x0 h Q) : zMet l D base yJ9_abs_0f7a4 cJ9_abs_0f7a4 1 (some .int) zrJ9_abs_0f7a4 [.inl x0] h (zQi D base Q) :=
  z_met (by decide +kernel) (Nat.le_of_ble_eq_true rfl) (fun p e s m args below meth c hc hn => rJ9_abs_0f7a4 hc H)
def zrX6_greatestDifference : Room := { frames := 2, cells := 0, slots := 0, locals := 46 }
def mX6_greatestDifference_B4 (X4 : Int → Int → Zm → Prop) (a0 : Nat) (a1 : Nat) (x2 : Int) (x3 : Int) (h : Zm) (Q : Int → Zm → Prop) : Prop :=
  cLe x3 255
  (cRc h 10 a0 <| mX0_valueAt a0 x3 h fun v2 h1 => cRc h1 10 a1 <| mX0_valueAt a1 x3 h1 fun v4 h3 => mJ9_abs_0f7a4 (v2 - v4) h3 fun v6 h5 => mJ9_max_7cf53 x2 v6 h5 fun v8 h7 => X4 v8 (x3 + 1) h7)
  (Q x2 h)
def mX6_greatestDifference_H4  (a0 : Nat) (a1 : Nat) (x2 : Int) (x3 : Int) (h : Zm) (Q : Int → Zm → Prop) : Prop :=
  lfp2 (fun X4 x2 x3 h => mX6_greatestDifference_B4 X4 a0 a1 x2 x3 h Q) x2 x3 h
def mX6_greatestDifference (a0 : Nat) (a1 : Nat) (h : Zm) (Q : Int → Zm → Prop) : Prop :=
  mX6_greatestDifference_H4  a0 a1 0 0 h Q
section
variable {p : Program} {l : Launch} {e : Env} {s : State} {m : MethodId} {args : Array Value} {below : List Frame} {meth : Method} {c : Code} {D : Zd} {base : Nat}
set_option maxRecDepth 100000 in
set_option maxHeartbeats 4000000 in
theorem rX6_greatestDifference_B4 (hc : zOk p s m args meth c D cX6_greatestDifference 5 RX6 (some .int)) {X4 : Int → Int → Zm → Prop} {a0 : Nat} {a1 : Nat} {x2 : Int} {x3 : Int} {h : Zm} {Q : Int → Zm → Prop} (hX4 : ∀ (x2 : Int) (x3 : Int) (h : Zm), X4 x2 x3 h → zW p l e zrX6_greatestDifference s m args below meth c D base 5 (MQ below (zQi D base Q) args s 0 0 (zFree base)) 0 0 4 [some (.inr a0), some (.inr a1), some (.inl x2), some (.inl x3), none] [] h) (H : mX6_greatestDifference_B4 X4 a0 a1 x2 x3 h Q) : zW p l e zrX6_greatestDifference s m args below meth c D base 5 (MQ below (zQi D base Q) args s 0 0 (zFree base)) 0 0 4 [some (.inr a0), some (.inr a1), some (.inl x2), some (.inl x3), none] [] h := by
  unfold mX6_greatestDifference_B4 at H
  refine z_iload_n (pc := 4) hc dX6_greatestDifference_4 rfl ?_
  refine z_sipush (pc := 5) hc dX6_greatestDifference_5 (by decide) ?_
  refine z_icmp_gt (tgt := 40) (pc := 8) hc dX6_greatestDifference_8 rfl H (fun H => ?_) (fun H => ?_)
  · refine z_aload_n (pc := 11) hc dX6_greatestDifference_11 rfl ?_
    refine z_iload_n (pc := 12) hc dX6_greatestDifference_12 rfl ?_
    refine z_calI (z_runV (pc := 13) (ci := 0) (T := TX0) (N := 3) hc dX6_greatestDifference_13 zw_RX6_205 (metX0_valueAt _ _ _ H.2) rfl (Nat.le_of_ble_eq_true rfl) ⟨Nat.le_of_ble_eq_true rfl, Nat.le_of_ble_eq_true rfl⟩ ⟨by exact Nat.le_of_ble_eq_true rfl, by exact Nat.le_of_ble_eq_true rfl⟩ rfl H.1) rfl ⟨rfl, rfl⟩ (fun v2 h1 H => ?_)
    refine z_aload_n (pc := 16) hc dX6_greatestDifference_16 rfl ?_
    refine z_iload_n (pc := 17) hc dX6_greatestDifference_17 rfl ?_
    refine z_calI (z_runV (pc := 18) (ci := 0) (T := TX0) (N := 3) hc dX6_greatestDifference_18 zw_RX6_205 (metX0_valueAt _ _ _ H.2) rfl (Nat.le_of_ble_eq_true rfl) ⟨Nat.le_of_ble_eq_true rfl, Nat.le_of_ble_eq_true rfl⟩ ⟨by exact Nat.le_of_ble_eq_true rfl, by exact Nat.le_of_ble_eq_true rfl⟩ rfl H.1) rfl ⟨rfl, rfl⟩ (fun v4 h3 H => ?_)
    refine z_isub (pc := 21) hc dX6_greatestDifference_21 ?_
    refine z_calI (z_runS (pc := 22) hc dX6_greatestDifference_22 zw_RX6_310 (metJ9_abs_0f7a4 _ _ _ H) rfl (Nat.le_of_ble_eq_true rfl) ⟨Nat.le_of_ble_eq_true rfl, Nat.le_of_ble_eq_true rfl⟩ ⟨by exact Nat.le_of_ble_eq_true rfl, by exact Nat.le_of_ble_eq_true rfl⟩) rfl ⟨rfl, rfl⟩ (fun v6 h5 H => ?_)
    refine z_istore (pc := 25) hc dX6_greatestDifference_25 (by decide) (ρ' := [some (.inr a0), some (.inr a1), some (.inl x2), some (.inl x3), some (.inl v6)]) rfl ?_
    refine z_iload_n (pc := 27) hc dX6_greatestDifference_27 rfl ?_
    refine z_iload (pc := 28) hc dX6_greatestDifference_28 rfl ?_
    refine z_calI (z_runS (pc := 30) hc dX6_greatestDifference_30 zw_RX6_267 (metJ9_max_7cf53 _ _ _ H) rfl (Nat.le_of_ble_eq_true rfl) ⟨Nat.le_of_ble_eq_true rfl, Nat.le_of_ble_eq_true rfl⟩ ⟨by exact Nat.le_of_ble_eq_true rfl, by exact Nat.le_of_ble_eq_true rfl⟩) rfl ⟨rfl, rfl⟩ (fun v8 h7 H => ?_)
    refine z_istore_n (pc := 33) hc dX6_greatestDifference_33 (by decide) (ρ' := [some (.inr a0), some (.inr a1), some (.inl v8), some (.inl x3), some (.inl v6)]) rfl ?_
    refine z_iinc (pc := 34) hc dX6_greatestDifference_34 (by decide) rfl (ρ' := [some (.inr a0), some (.inr a1), some (.inl v8), some (.inl (x3 + 1)), some (.inl v6)]) rfl ?_
    refine z_goto (tgt := 4) (pc := 37) hc dX6_greatestDifference_37 rfl ?_
    refine z_mask [true, true, true, true, false] (ρ' := [some (.inr a0), some (.inr a1), some (.inl v8), some (.inl (x3 + 1)), none]) rfl ?_
    exact hX4 _ _ _ H
  · refine z_iload_n (pc := 40) hc dX6_greatestDifference_40 rfl ?_
    exact z_ireturn (pc := 41) hc dX6_greatestDifference_41 H
theorem rX6_greatestDifference_H4 (hc : zOk p s m args meth c D cX6_greatestDifference 5 RX6 (some .int))  {a0 : Nat} {a1 : Nat} {x2 : Int} {x3 : Int} {h : Zm} {Q : Int → Zm → Prop}  (H : mX6_greatestDifference_H4  a0 a1 x2 x3 h Q) : zW p l e zrX6_greatestDifference s m args below meth c D base 5 (MQ below (zQi D base Q) args s 0 0 (zFree base)) 0 0 4 [some (.inr a0), some (.inr a1), some (.inl x2), some (.inl x3), none] [] h :=
  H (fun x2 x3 h => zW p l e zrX6_greatestDifference s m args below meth c D base 5 (MQ below (zQi D base Q) args s 0 0 (zFree base)) 0 0 4 [some (.inr a0), some (.inr a1), some (.inl x2), some (.inl x3), none] [] h) (fun x2 x3 h H => rX6_greatestDifference_B4 hc (fun _ _ _ q => q) H)
set_option maxRecDepth 100000 in
set_option maxHeartbeats 4000000 in
theorem rX6_greatestDifference (hc : zOk p s m args meth c D cX6_greatestDifference 5 RX6 (some .int)) {a0 : Nat} {a1 : Nat} {h : Zm} {Q : Int → Zm → Prop} (H : mX6_greatestDifference a0 a1 h Q) : zW p l e zrX6_greatestDifference s m args below meth c D base 5 (MQ below (zQi D base Q) args s 0 0 (zFree base)) 0 0 0 [some (.inr a0), some (.inr a1), none, none, none] [] h := by
  unfold mX6_greatestDifference at H
  refine z_iconst (pc := 0) hc dX6_greatestDifference_0 ?_
  refine z_istore_n (pc := 1) hc dX6_greatestDifference_1 (by decide) (ρ' := [some (.inr a0), some (.inr a1), some (.inl 0), none, none]) rfl ?_
  refine z_iconst (pc := 2) hc dX6_greatestDifference_2 ?_
  refine z_istore_n (pc := 3) hc dX6_greatestDifference_3 (by decide) (ρ' := [some (.inr a0), some (.inr a1), some (.inl 0), some (.inl 0), none]) rfl ?_
  exact rX6_greatestDifference_H4 hc H
end
theorem metX6_greatestDifference (l : Launch) (D : Zd) (base : Nat) {a0 : Nat} {a1 : Nat} {h : Zm} {Q : Int → Zm → Prop} (H : mX6_greatestDifference a0 a1 h Q) : zMet l D base yX6_greatestDifference cX6_greatestDifference 5 (some .int) zrX6_greatestDifference [.inr a0, .inr a1] h (zQi D base Q) :=
  z_met (by decide +kernel) (Nat.le_of_ble_eq_true rfl) (fun p e s m args below meth c hc hn => rX6_greatestDifference hc H)
def zrX6_simplify : Room := { frames := 5, cells := 0, slots := 0, locals := 108 }
def mX6_simplify (a0 : Nat) (x1 : Int) (h : Zm) (Q : Int → Zm → Prop) : Prop :=
  mX6_isPlate x1 h fun v2 h1 => cEq v2 0
  (Q (-1) h1)
  (cRc h1 16 a0 <| mX6_remember a0 h1 fun h3 => cGr h3 16 a0 0 fun r4 => cGr h3 14 r4 7 fun r5 => cLdR h3 r5 x1 fun r6 => cRc h3 10 r6 <| mX0_straighten r6 h3 fun h7 => cGr h7 16 a0 1 fun r8 => cGi h7 16 a0 2 fun v9 => cLdR h7 r8 (v9 - 1) fun r10 => cGr h7 14 r10 7 fun r11 => cLdR h7 r11 x1 fun r12 => mX6_greatestDifference r12 r6 h7 fun v14 h13 => Q v14 h13)
section
variable {p : Program} {l : Launch} {e : Env} {s : State} {m : MethodId} {args : Array Value} {below : List Frame} {meth : Method} {c : Code} {D : Zd} {base : Nat}
set_option maxRecDepth 100000 in
set_option maxHeartbeats 4000000 in
theorem rX6_simplify (hc : zOk p s m args meth c D cX6_simplify 3 RX6 (some .int)) {a0 : Nat} {x1 : Int} {h : Zm} {Q : Int → Zm → Prop} (H : mX6_simplify a0 x1 h Q) : zW p l e zrX6_simplify s m args below meth c D base 3 (MQ below (zQi D base Q) args s 0 0 (zFree base)) 0 0 0 [some (.inr a0), some (.inl x1), none] [] h := by
  unfold mX6_simplify at H
  refine z_iload_n (pc := 0) hc dX6_simplify_0 rfl ?_
  refine z_calI (z_runS (pc := 1) hc dX6_simplify_1 zw_RX6_183 (metX6_isPlate _ _ _ H) rfl (Nat.le_of_ble_eq_true rfl) ⟨Nat.le_of_ble_eq_true rfl, Nat.le_of_ble_eq_true rfl⟩ ⟨by exact Nat.le_of_ble_eq_true rfl, by exact Nat.le_of_ble_eq_true rfl⟩) rfl ⟨rfl, rfl⟩ (fun v2 h1 H => ?_)
  refine z_if_ne (tgt := 9) (pc := 4) hc dX6_simplify_4 rfl H (fun H => ?_) (fun H => ?_)
  · refine z_iconst (pc := 7) hc dX6_simplify_7 ?_
    exact z_ireturn (pc := 8) hc dX6_simplify_8 H
  · refine z_aload_n (pc := 9) hc dX6_simplify_9 rfl ?_
    refine z_calV0 (z_runV (pc := 10) (ci := 6) (T := TX6) (N := 8) hc dX6_simplify_10 zw_RX6_62 (metX6_remember _ _ _ H.2) rfl (Nat.le_of_ble_eq_true rfl) ⟨Nat.le_of_ble_eq_true rfl, Nat.le_of_ble_eq_true rfl⟩ ⟨by exact Nat.le_of_ble_eq_true rfl, by exact Nat.le_of_ble_eq_true rfl⟩ rfl H.1) rfl ⟨rfl, rfl⟩ (fun h3 H => ?_)
    refine z_aload_n (pc := 13) hc dX6_simplify_13 rfl ?_
    refine z_getR (pc := 14) hc dX6_simplify_14 zf_RX6_12 rfl rfl rfl H (fun r4 H => ?_)
    refine z_getR (pc := 17) hc dX6_simplify_17 zf_RX6_186 rfl rfl rfl H (fun r5 H => ?_)
    refine z_iload_n (pc := 20) hc dX6_simplify_20 rfl ?_
    refine z_aaload (pc := 21) hc dX6_simplify_21 H (fun r6 H => ?_)
    refine z_astore_n (pc := 22) hc dX6_simplify_22 (by decide) (ρ' := [some (.inr a0), some (.inl x1), some (.inr r6)]) rfl ?_
    refine z_aload_n (pc := 23) hc dX6_simplify_23 rfl ?_
    refine z_calV0 (z_runV (pc := 24) (ci := 0) (T := TX0) (N := 3) hc dX6_simplify_24 zw_RX6_208 (metX0_straighten _ _ _ H.2) rfl (Nat.le_of_ble_eq_true rfl) ⟨Nat.le_of_ble_eq_true rfl, Nat.le_of_ble_eq_true rfl⟩ ⟨by exact Nat.le_of_ble_eq_true rfl, by exact Nat.le_of_ble_eq_true rfl⟩ rfl H.1) rfl ⟨rfl, rfl⟩ (fun h7 H => ?_)
    refine z_aload_n (pc := 27) hc dX6_simplify_27 rfl ?_
    refine z_getR (pc := 28) hc dX6_simplify_28 zf_RX6_16 rfl rfl rfl H (fun r8 H => ?_)
    refine z_aload_n (pc := 31) hc dX6_simplify_31 rfl ?_
    refine z_getI (pc := 32) hc dX6_simplify_32 zf_RX6_20 rfl rfl rfl H (fun v9 H => ?_)
    refine z_iconst (pc := 35) hc dX6_simplify_35 ?_
    refine z_isub (pc := 36) hc dX6_simplify_36 ?_
    refine z_aaload (pc := 37) hc dX6_simplify_37 H (fun r10 H => ?_)
    refine z_getR (pc := 38) hc dX6_simplify_38 zf_RX6_186 rfl rfl rfl H (fun r11 H => ?_)
    refine z_iload_n (pc := 41) hc dX6_simplify_41 rfl ?_
    refine z_aaload (pc := 42) hc dX6_simplify_42 H (fun r12 H => ?_)
    refine z_aload_n (pc := 43) hc dX6_simplify_43 rfl ?_
    refine z_calI (z_runS (pc := 44) hc dX6_simplify_44 zw_RX6_211 (metX6_greatestDifference _ _ _ H) rfl (Nat.le_of_ble_eq_true rfl) ⟨Nat.le_of_ble_eq_true rfl, Nat.le_of_ble_eq_true rfl⟩ ⟨by exact Nat.le_of_ble_eq_true rfl, by exact Nat.le_of_ble_eq_true rfl⟩) rfl ⟨rfl, rfl⟩ (fun v14 h13 H => ?_)
    exact z_ireturn (pc := 47) hc dX6_simplify_47 H
end
theorem metX6_simplify (l : Launch) (D : Zd) (base : Nat) {a0 : Nat} {x1 : Int} {h : Zm} {Q : Int → Zm → Prop} (H : mX6_simplify a0 x1 h Q) : zMet l D base yX6_simplify cX6_simplify 3 (some .int) zrX6_simplify [.inr a0, .inl x1] h (zQi D base Q) :=
  z_met (by decide +kernel) (Nat.le_of_ble_eq_true rfl) (fun p e s m args below meth c hc hn => rX6_simplify hc H)
def zrX6_isPixel : Room := { frames := 1, cells := 0, slots := 0, locals := 22 }
def mX6_isPixel (a0 : Nat) (x1 : Int) (x2 : Int) (h : Zm) (Q : Int → Zm → Prop) : Prop :=
  cGr h 16 a0 0 fun r1 => cGi h 14 r1 0 fun v2 => mX6_within x1 0 (v2 - 1) h fun v4 h3 => cEq v4 0
  (Q 0 h3)
  (cGr h3 16 a0 0 fun r5 => cGi h3 14 r5 1 fun v6 => mX6_within x2 0 (v6 - 1) h3 fun v8 h7 => cEq v8 0
    (Q 0 h7)
    (Q 1 h7))
section
variable {p : Program} {l : Launch} {e : Env} {s : State} {m : MethodId} {args : Array Value} {below : List Frame} {meth : Method} {c : Code} {D : Zd} {base : Nat}
set_option maxRecDepth 100000 in
set_option maxHeartbeats 4000000 in
theorem rX6_isPixel (hc : zOk p s m args meth c D cX6_isPixel 3 RX6 (some .boolean)) {a0 : Nat} {x1 : Int} {x2 : Int} {h : Zm} {Q : Int → Zm → Prop} (H : mX6_isPixel a0 x1 x2 h Q) : zW p l e zrX6_isPixel s m args below meth c D base 3 (MQ below (zQi D base Q) args s 0 0 (zFree base)) 0 0 0 [some (.inr a0), some (.inl x1), some (.inl x2)] [] h := by
  unfold mX6_isPixel at H
  refine z_iload_n (pc := 0) hc dX6_isPixel_0 rfl ?_
  refine z_iconst (pc := 1) hc dX6_isPixel_1 ?_
  refine z_aload_n (pc := 2) hc dX6_isPixel_2 rfl ?_
  refine z_getR (pc := 3) hc dX6_isPixel_3 zf_RX6_12 rfl rfl rfl H (fun r1 H => ?_)
  refine z_getI (pc := 6) hc dX6_isPixel_6 zf_RX6_56 rfl rfl rfl H (fun v2 H => ?_)
  refine z_iconst (pc := 9) hc dX6_isPixel_9 ?_
  refine z_isub (pc := 10) hc dX6_isPixel_10 ?_
  refine z_calI (z_runS (pc := 11) hc dX6_isPixel_11 zw_RX6_52 (metX6_within _ _ _ H) rfl (Nat.le_of_ble_eq_true rfl) ⟨Nat.le_of_ble_eq_true rfl, Nat.le_of_ble_eq_true rfl⟩ ⟨by exact Nat.le_of_ble_eq_true rfl, by exact Nat.le_of_ble_eq_true rfl⟩) rfl ⟨rfl, rfl⟩ (fun v4 h3 H => ?_)
  refine z_if_eq (tgt := 38) (pc := 14) hc dX6_isPixel_14 rfl H (fun H => ?_) (fun H => ?_)
  · refine z_iconst (pc := 38) hc dX6_isPixel_38 ?_
    exact z_zreturn (pc := 39) hc dX6_isPixel_39 ⟨Or.inl rfl, H⟩
  · refine z_iload_n (pc := 17) hc dX6_isPixel_17 rfl ?_
    refine z_iconst (pc := 18) hc dX6_isPixel_18 ?_
    refine z_aload_n (pc := 19) hc dX6_isPixel_19 rfl ?_
    refine z_getR (pc := 20) hc dX6_isPixel_20 zf_RX6_12 rfl rfl rfl H (fun r5 H => ?_)
    refine z_getI (pc := 23) hc dX6_isPixel_23 zf_RX6_59 rfl rfl rfl H (fun v6 H => ?_)
    refine z_iconst (pc := 26) hc dX6_isPixel_26 ?_
    refine z_isub (pc := 27) hc dX6_isPixel_27 ?_
    refine z_calI (z_runS (pc := 28) hc dX6_isPixel_28 zw_RX6_52 (metX6_within _ _ _ H) rfl (Nat.le_of_ble_eq_true rfl) ⟨Nat.le_of_ble_eq_true rfl, Nat.le_of_ble_eq_true rfl⟩ ⟨by exact Nat.le_of_ble_eq_true rfl, by exact Nat.le_of_ble_eq_true rfl⟩) rfl ⟨rfl, rfl⟩ (fun v8 h7 H => ?_)
    refine z_if_eq (tgt := 38) (pc := 31) hc dX6_isPixel_31 rfl H (fun H => ?_) (fun H => ?_)
    · refine z_iconst (pc := 38) hc dX6_isPixel_38 ?_
      exact z_zreturn (pc := 39) hc dX6_isPixel_39 ⟨Or.inl rfl, H⟩
    · refine z_iconst (pc := 34) hc dX6_isPixel_34 ?_
      refine z_goto (tgt := 39) (pc := 35) hc dX6_isPixel_35 rfl ?_
      exact z_zreturn (pc := 39) hc dX6_isPixel_39 ⟨Or.inr rfl, H⟩
end
theorem metX6_isPixel (l : Launch) (D : Zd) (base : Nat) {a0 : Nat} {x1 : Int} {x2 : Int} {h : Zm} {Q : Int → Zm → Prop} (H : mX6_isPixel a0 x1 x2 h Q) : zMet l D base yX6_isPixel cX6_isPixel 3 (some .boolean) zrX6_isPixel [.inr a0, .inl x1, .inl x2] h (zQi D base Q) :=
  z_met (by decide +kernel) (Nat.le_of_ble_eq_true rfl) (fun p e s m args below meth c hc hn => rX6_isPixel hc H)
def zrX6_rendered : Room := { frames := 5, cells := 0, slots := 0, locals := 119 }
def mX6_rendered (a0 : Nat) (x1 : Int) (x2 : Int) (x3 : Int) (h : Zm) (Q : Int → Zm → Prop) : Prop :=
  cRc h 16 a0 <| mX6_isPixel a0 x1 x2 h fun v2 h1 => cEq v2 0
  (Q (-1) h1)
  (mX6_within x3 0 5 h1 fun v4 h3 => cEq v4 0
    (Q (-1) h3)
    (cGr h3 16 a0 4 fun r5 => cGr h3 16 a0 0 fun r6 => cRc h3 13 r5 <| mX3_render r5 r6 x1 x2 h3 fun h7 => cGr h7 16 a0 4 fun r8 => cGr h7 13 r8 0 fun r9 => cLd h7 1 r9 x3 fun v10 => Q v10 h7))
section
variable {p : Program} {l : Launch} {e : Env} {s : State} {m : MethodId} {args : Array Value} {below : List Frame} {meth : Method} {c : Code} {D : Zd} {base : Nat}
set_option maxRecDepth 100000 in
set_option maxHeartbeats 4000000 in
theorem rX6_rendered (hc : zOk p s m args meth c D cX6_rendered 4 RX6 (some .int)) {a0 : Nat} {x1 : Int} {x2 : Int} {x3 : Int} {h : Zm} {Q : Int → Zm → Prop} (H : mX6_rendered a0 x1 x2 x3 h Q) : zW p l e zrX6_rendered s m args below meth c D base 4 (MQ below (zQi D base Q) args s 0 0 (zFree base)) 0 0 0 [some (.inr a0), some (.inl x1), some (.inl x2), some (.inl x3)] [] h := by
  unfold mX6_rendered at H
  refine z_aload_n (pc := 0) hc dX6_rendered_0 rfl ?_
  refine z_iload_n (pc := 1) hc dX6_rendered_1 rfl ?_
  refine z_iload_n (pc := 2) hc dX6_rendered_2 rfl ?_
  refine z_calI (z_runV (pc := 3) (ci := 6) (T := TX6) (N := 8) hc dX6_rendered_3 zw_RX6_215 (metX6_isPixel _ _ _ H.2) rfl (Nat.le_of_ble_eq_true rfl) ⟨Nat.le_of_ble_eq_true rfl, Nat.le_of_ble_eq_true rfl⟩ ⟨by exact Nat.le_of_ble_eq_true rfl, by exact Nat.le_of_ble_eq_true rfl⟩ rfl H.1) rfl ⟨rfl, rfl⟩ (fun v2 h1 H => ?_)
  refine z_if_eq (tgt := 18) (pc := 6) hc dX6_rendered_6 rfl H (fun H => ?_) (fun H => ?_)
  · refine z_iconst (pc := 18) hc dX6_rendered_18 ?_
    exact z_ireturn (pc := 19) hc dX6_rendered_19 H
  · refine z_iload_n (pc := 9) hc dX6_rendered_9 rfl ?_
    refine z_iconst (pc := 10) hc dX6_rendered_10 ?_
    refine z_iconst (pc := 11) hc dX6_rendered_11 ?_
    refine z_calI (z_runS (pc := 12) hc dX6_rendered_12 zw_RX6_52 (metX6_within _ _ _ H) rfl (Nat.le_of_ble_eq_true rfl) ⟨Nat.le_of_ble_eq_true rfl, Nat.le_of_ble_eq_true rfl⟩ ⟨by exact Nat.le_of_ble_eq_true rfl, by exact Nat.le_of_ble_eq_true rfl⟩) rfl ⟨rfl, rfl⟩ (fun v4 h3 H => ?_)
    refine z_if_ne (tgt := 20) (pc := 15) hc dX6_rendered_15 rfl H (fun H => ?_) (fun H => ?_)
    · refine z_iconst (pc := 18) hc dX6_rendered_18 ?_
      exact z_ireturn (pc := 19) hc dX6_rendered_19 H
    · refine z_aload_n (pc := 20) hc dX6_rendered_20 rfl ?_
      refine z_getR (pc := 21) hc dX6_rendered_21 zf_RX6_34 rfl rfl rfl H (fun r5 H => ?_)
      refine z_aload_n (pc := 24) hc dX6_rendered_24 rfl ?_
      refine z_getR (pc := 25) hc dX6_rendered_25 zf_RX6_12 rfl rfl rfl H (fun r6 H => ?_)
      refine z_iload_n (pc := 28) hc dX6_rendered_28 rfl ?_
      refine z_iload_n (pc := 29) hc dX6_rendered_29 rfl ?_
      refine z_calV0 (z_runV (pc := 30) (ci := 3) (T := TX3) (N := 3) hc dX6_rendered_30 zw_RX6_218 (metX3_render _ _ _ H.2) rfl (Nat.le_of_ble_eq_true rfl) ⟨Nat.le_of_ble_eq_true rfl, Nat.le_of_ble_eq_true rfl⟩ ⟨by exact Nat.le_of_ble_eq_true rfl, by exact Nat.le_of_ble_eq_true rfl⟩ rfl H.1) rfl ⟨rfl, rfl⟩ (fun h7 H => ?_)
      refine z_aload_n (pc := 33) hc dX6_rendered_33 rfl ?_
      refine z_getR (pc := 34) hc dX6_rendered_34 zf_RX6_34 rfl rfl rfl H (fun r8 H => ?_)
      refine z_getR (pc := 37) hc dX6_rendered_37 zf_RX6_222 rfl rfl rfl H (fun r9 H => ?_)
      refine z_iload_n (pc := 40) hc dX6_rendered_40 rfl ?_
      refine z_iaload (pc := 41) hc dX6_rendered_41 H (fun v10 H => ?_)
      exact z_ireturn (pc := 42) hc dX6_rendered_42 H
end
theorem metX6_rendered (l : Launch) (D : Zd) (base : Nat) {a0 : Nat} {x1 : Int} {x2 : Int} {x3 : Int} {h : Zm} {Q : Int → Zm → Prop} (H : mX6_rendered a0 x1 x2 x3 h Q) : zMet l D base yX6_rendered cX6_rendered 4 (some .int) zrX6_rendered [.inr a0, .inl x1, .inl x2, .inl x3] h (zQi D base Q) :=
  z_met (by decide +kernel) (Nat.le_of_ble_eq_true rfl) (fun p e s m args below meth c hc hn => rX6_rendered hc H)
def zrX6_separateAt : Room := { frames := 5, cells := 0, slots := 0, locals := 119 }
def mX6_separateAt (a0 : Nat) (x1 : Int) (x2 : Int) (h : Zm) (Q : Zm → Prop) : Prop :=
  cGr h 16 a0 4 fun r1 => cGr h 16 a0 0 fun r2 => cRc h 13 r1 <| mX3_render r1 r2 x1 x2 h fun h3 => cGr h3 16 a0 4 fun r4 => cGr h3 16 a0 0 fun r5 => cGr h3 16 a0 0 fun r6 => cGi h3 14 r6 2 fun v7 => cRc h3 13 r4 <| mX3_separate r4 r5 v7 h3 fun h8 => Q h8
section
variable {p : Program} {l : Launch} {e : Env} {s : State} {m : MethodId} {args : Array Value} {below : List Frame} {meth : Method} {c : Code} {D : Zd} {base : Nat}
set_option maxRecDepth 100000 in
set_option maxHeartbeats 4000000 in
theorem rX6_separateAt (hc : zOk p s m args meth c D cX6_separateAt 3 RX6 none) {a0 : Nat} {x1 : Int} {x2 : Int} {h : Zm} {Q : Zm → Prop} (H : mX6_separateAt a0 x1 x2 h Q) : zW p l e zrX6_separateAt s m args below meth c D base 3 (MQ below (zQv D base Q) args s 0 0 (zFree base)) 0 0 0 [some (.inr a0), some (.inl x1), some (.inl x2)] [] h := by
  unfold mX6_separateAt at H
  refine z_aload_n (pc := 0) hc dX6_separateAt_0 rfl ?_
  refine z_getR (pc := 1) hc dX6_separateAt_1 zf_RX6_34 rfl rfl rfl H (fun r1 H => ?_)
  refine z_aload_n (pc := 4) hc dX6_separateAt_4 rfl ?_
  refine z_getR (pc := 5) hc dX6_separateAt_5 zf_RX6_12 rfl rfl rfl H (fun r2 H => ?_)
  refine z_iload_n (pc := 8) hc dX6_separateAt_8 rfl ?_
  refine z_iload_n (pc := 9) hc dX6_separateAt_9 rfl ?_
  refine z_calV0 (z_runV (pc := 10) (ci := 3) (T := TX3) (N := 3) hc dX6_separateAt_10 zw_RX6_218 (metX3_render _ _ _ H.2) rfl (Nat.le_of_ble_eq_true rfl) ⟨Nat.le_of_ble_eq_true rfl, Nat.le_of_ble_eq_true rfl⟩ ⟨by exact Nat.le_of_ble_eq_true rfl, by exact Nat.le_of_ble_eq_true rfl⟩ rfl H.1) rfl ⟨rfl, rfl⟩ (fun h3 H => ?_)
  refine z_aload_n (pc := 13) hc dX6_separateAt_13 rfl ?_
  refine z_getR (pc := 14) hc dX6_separateAt_14 zf_RX6_34 rfl rfl rfl H (fun r4 H => ?_)
  refine z_aload_n (pc := 17) hc dX6_separateAt_17 rfl ?_
  refine z_getR (pc := 18) hc dX6_separateAt_18 zf_RX6_12 rfl rfl rfl H (fun r5 H => ?_)
  refine z_aload_n (pc := 21) hc dX6_separateAt_21 rfl ?_
  refine z_getR (pc := 22) hc dX6_separateAt_22 zf_RX6_12 rfl rfl rfl H (fun r6 H => ?_)
  refine z_getI (pc := 25) hc dX6_separateAt_25 zf_RX6_171 rfl rfl rfl H (fun v7 H => ?_)
  refine z_calV0 (z_runV (pc := 28) (ci := 3) (T := TX3) (N := 3) hc dX6_separateAt_28 zw_RX6_235 (metX3_separate _ _ _ H.2) rfl (Nat.le_of_ble_eq_true rfl) ⟨Nat.le_of_ble_eq_true rfl, Nat.le_of_ble_eq_true rfl⟩ ⟨by exact Nat.le_of_ble_eq_true rfl, by exact Nat.le_of_ble_eq_true rfl⟩ rfl H.1) rfl ⟨rfl, rfl⟩ (fun h8 H => ?_)
  exact z_return (pc := 31) hc dX6_separateAt_31 H
end
theorem metX6_separateAt (l : Launch) (D : Zd) (base : Nat) {a0 : Nat} {x1 : Int} {x2 : Int} {h : Zm} {Q : Zm → Prop} (H : mX6_separateAt a0 x1 x2 h Q) : zMet l D base yX6_separateAt cX6_separateAt 3 none zrX6_separateAt [.inr a0, .inl x1, .inl x2] h (zQv D base Q) :=
  z_met (by decide +kernel) (Nat.le_of_ble_eq_true rfl) (fun p e s m args below meth c hc hn => rX6_separateAt hc H)
def zrX6_ink : Room := { frames := 6, cells := 0, slots := 0, locals := 141 }
def mX6_ink (a0 : Nat) (x1 : Int) (x2 : Int) (x3 : Int) (h : Zm) (Q : Int → Zm → Prop) : Prop :=
  cRc h 16 a0 <| mX6_isPixel a0 x1 x2 h fun v2 h1 => cEq v2 0
  (Q (-1) h1)
  (mX6_within x3 0 7 h1 fun v4 h3 => cEq v4 0
    (Q (-1) h3)
    (cRc h3 16 a0 <| mX6_separateAt a0 x1 x2 h3 fun h5 => cGr h5 16 a0 4 fun r6 => cRc h5 13 r6 <| mX3_valueOf r6 x3 h5 fun v8 h7 => Q v8 h7))
section
variable {p : Program} {l : Launch} {e : Env} {s : State} {m : MethodId} {args : Array Value} {below : List Frame} {meth : Method} {c : Code} {D : Zd} {base : Nat}
set_option maxRecDepth 100000 in
set_option maxHeartbeats 4000000 in
theorem rX6_ink (hc : zOk p s m args meth c D cX6_ink 4 RX6 (some .int)) {a0 : Nat} {x1 : Int} {x2 : Int} {x3 : Int} {h : Zm} {Q : Int → Zm → Prop} (H : mX6_ink a0 x1 x2 x3 h Q) : zW p l e zrX6_ink s m args below meth c D base 4 (MQ below (zQi D base Q) args s 0 0 (zFree base)) 0 0 0 [some (.inr a0), some (.inl x1), some (.inl x2), some (.inl x3)] [] h := by
  unfold mX6_ink at H
  refine z_aload_n (pc := 0) hc dX6_ink_0 rfl ?_
  refine z_iload_n (pc := 1) hc dX6_ink_1 rfl ?_
  refine z_iload_n (pc := 2) hc dX6_ink_2 rfl ?_
  refine z_calI (z_runV (pc := 3) (ci := 6) (T := TX6) (N := 8) hc dX6_ink_3 zw_RX6_215 (metX6_isPixel _ _ _ H.2) rfl (Nat.le_of_ble_eq_true rfl) ⟨Nat.le_of_ble_eq_true rfl, Nat.le_of_ble_eq_true rfl⟩ ⟨by exact Nat.le_of_ble_eq_true rfl, by exact Nat.le_of_ble_eq_true rfl⟩ rfl H.1) rfl ⟨rfl, rfl⟩ (fun v2 h1 H => ?_)
  refine z_if_eq (tgt := 19) (pc := 6) hc dX6_ink_6 rfl H (fun H => ?_) (fun H => ?_)
  · refine z_iconst (pc := 19) hc dX6_ink_19 ?_
    exact z_ireturn (pc := 20) hc dX6_ink_20 H
  · refine z_iload_n (pc := 9) hc dX6_ink_9 rfl ?_
    refine z_iconst (pc := 10) hc dX6_ink_10 ?_
    refine z_bipush (pc := 11) hc dX6_ink_11 (by decide) ?_
    refine z_calI (z_runS (pc := 13) hc dX6_ink_13 zw_RX6_52 (metX6_within _ _ _ H) rfl (Nat.le_of_ble_eq_true rfl) ⟨Nat.le_of_ble_eq_true rfl, Nat.le_of_ble_eq_true rfl⟩ ⟨by exact Nat.le_of_ble_eq_true rfl, by exact Nat.le_of_ble_eq_true rfl⟩) rfl ⟨rfl, rfl⟩ (fun v4 h3 H => ?_)
    refine z_if_ne (tgt := 21) (pc := 16) hc dX6_ink_16 rfl H (fun H => ?_) (fun H => ?_)
    · refine z_iconst (pc := 19) hc dX6_ink_19 ?_
      exact z_ireturn (pc := 20) hc dX6_ink_20 H
    · refine z_aload_n (pc := 21) hc dX6_ink_21 rfl ?_
      refine z_iload_n (pc := 22) hc dX6_ink_22 rfl ?_
      refine z_iload_n (pc := 23) hc dX6_ink_23 rfl ?_
      refine z_calV0 (z_runV (pc := 24) (ci := 6) (T := TX6) (N := 8) hc dX6_ink_24 zw_RX6_225 (metX6_separateAt _ _ _ H.2) rfl (Nat.le_of_ble_eq_true rfl) ⟨Nat.le_of_ble_eq_true rfl, Nat.le_of_ble_eq_true rfl⟩ ⟨by exact Nat.le_of_ble_eq_true rfl, by exact Nat.le_of_ble_eq_true rfl⟩ rfl H.1) rfl ⟨rfl, rfl⟩ (fun h5 H => ?_)
      refine z_aload_n (pc := 27) hc dX6_ink_27 rfl ?_
      refine z_getR (pc := 28) hc dX6_ink_28 zf_RX6_34 rfl rfl rfl H (fun r6 H => ?_)
      refine z_iload_n (pc := 31) hc dX6_ink_31 rfl ?_
      refine z_calI (z_runV (pc := 32) (ci := 3) (T := TX3) (N := 3) hc dX6_ink_32 zw_RX6_228 (metX3_valueOf _ _ _ H.2) rfl (Nat.le_of_ble_eq_true rfl) ⟨Nat.le_of_ble_eq_true rfl, Nat.le_of_ble_eq_true rfl⟩ ⟨by exact Nat.le_of_ble_eq_true rfl, by exact Nat.le_of_ble_eq_true rfl⟩ rfl H.1) rfl ⟨rfl, rfl⟩ (fun v8 h7 H => ?_)
      exact z_ireturn (pc := 35) hc dX6_ink_35 H
end
theorem metX6_ink (l : Launch) (D : Zd) (base : Nat) {a0 : Nat} {x1 : Int} {x2 : Int} {x3 : Int} {h : Zm} {Q : Int → Zm → Prop} (H : mX6_ink a0 x1 x2 x3 h Q) : zMet l D base yX6_ink cX6_ink 4 (some .int) zrX6_ink [.inr a0, .inl x1, .inl x2, .inl x3] h (zQi D base Q) :=
  z_met (by decide +kernel) (Nat.le_of_ble_eq_true rfl) (fun p e s m args below meth c hc hn => rX6_ink hc H)
def zrX6_inkOf : Room := { frames := 3, cells := 0, slots := 0, locals := 74 }
def mX6_inkOf (a0 : Nat) (x1 : Int) (x2 : Int) (h : Zm) (Q : Int → Zm → Prop) : Prop :=
  mX6_within x1 0 16777215 h fun v2 h1 => cEq v2 0
  (Q (-1) h1)
  (mX6_within x2 0 7 h1 fun v4 h3 => cEq v4 0
    (Q (-1) h3)
    (cGr h3 16 a0 4 fun r5 => cRc h3 13 r5 <| mX3_clear r5 h3 fun h6 => cGr h6 16 a0 4 fun r7 => cGr h6 13 r7 0 fun r8 => cShr x1 65536 fun v9 => cSt h6 r8 0 v9 fun h10 => cGr h10 16 a0 4 fun r11 => cGr h10 13 r11 0 fun r12 => cShr x1 256 fun v13 => cAnd v13 256 fun v14 => cSt h10 r12 1 v14 fun h15 => cGr h15 16 a0 4 fun r16 => cGr h15 13 r16 0 fun r17 => cAnd x1 256 fun v18 => cSt h15 r17 2 v18 fun h19 => cGr h19 16 a0 4 fun r20 => cGr h19 16 a0 0 fun r21 => cGr h19 16 a0 0 fun r22 => cGi h19 14 r22 2 fun v23 => cRc h19 13 r20 <| mX3_separate r20 r21 v23 h19 fun h24 => cGr h24 16 a0 4 fun r25 => cRc h24 13 r25 <| mX3_valueOf r25 x2 h24 fun v27 h26 => Q v27 h26))
section
variable {p : Program} {l : Launch} {e : Env} {s : State} {m : MethodId} {args : Array Value} {below : List Frame} {meth : Method} {c : Code} {D : Zd} {base : Nat}
set_option maxRecDepth 100000 in
set_option maxHeartbeats 4000000 in
theorem rX6_inkOf (hc : zOk p s m args meth c D cX6_inkOf 3 RX6 (some .int)) {a0 : Nat} {x1 : Int} {x2 : Int} {h : Zm} {Q : Int → Zm → Prop} (H : mX6_inkOf a0 x1 x2 h Q) : zW p l e zrX6_inkOf s m args below meth c D base 3 (MQ below (zQi D base Q) args s 0 0 (zFree base)) 0 0 0 [some (.inr a0), some (.inl x1), some (.inl x2)] [] h := by
  unfold mX6_inkOf at H
  refine z_iload_n (pc := 0) hc dX6_inkOf_0 rfl ?_
  refine z_iconst (pc := 1) hc dX6_inkOf_1 ?_
  refine z_ldc (n := 16777215) (pc := 2) hc dX6_inkOf_2 (zT_mem 607 (by decide +kernel) rfl) ?_
  refine z_calI (z_runS (pc := 4) hc dX6_inkOf_4 zw_RX6_52 (metX6_within _ _ _ H) rfl (Nat.le_of_ble_eq_true rfl) ⟨Nat.le_of_ble_eq_true rfl, Nat.le_of_ble_eq_true rfl⟩ ⟨by exact Nat.le_of_ble_eq_true rfl, by exact Nat.le_of_ble_eq_true rfl⟩) rfl ⟨rfl, rfl⟩ (fun v2 h1 H => ?_)
  refine z_if_eq (tgt := 20) (pc := 7) hc dX6_inkOf_7 rfl H (fun H => ?_) (fun H => ?_)
  · refine z_iconst (pc := 20) hc dX6_inkOf_20 ?_
    exact z_ireturn (pc := 21) hc dX6_inkOf_21 H
  · refine z_iload_n (pc := 10) hc dX6_inkOf_10 rfl ?_
    refine z_iconst (pc := 11) hc dX6_inkOf_11 ?_
    refine z_bipush (pc := 12) hc dX6_inkOf_12 (by decide) ?_
    refine z_calI (z_runS (pc := 14) hc dX6_inkOf_14 zw_RX6_52 (metX6_within _ _ _ H) rfl (Nat.le_of_ble_eq_true rfl) ⟨Nat.le_of_ble_eq_true rfl, Nat.le_of_ble_eq_true rfl⟩ ⟨by exact Nat.le_of_ble_eq_true rfl, by exact Nat.le_of_ble_eq_true rfl⟩) rfl ⟨rfl, rfl⟩ (fun v4 h3 H => ?_)
    refine z_if_ne (tgt := 22) (pc := 17) hc dX6_inkOf_17 rfl H (fun H => ?_) (fun H => ?_)
    · refine z_iconst (pc := 20) hc dX6_inkOf_20 ?_
      exact z_ireturn (pc := 21) hc dX6_inkOf_21 H
    · refine z_aload_n (pc := 22) hc dX6_inkOf_22 rfl ?_
      refine z_getR (pc := 23) hc dX6_inkOf_23 zf_RX6_34 rfl rfl rfl H (fun r5 H => ?_)
      refine z_calV0 (z_runV (pc := 26) (ci := 3) (T := TX3) (N := 3) hc dX6_inkOf_26 zw_RX6_232 (metX3_clear _ _ _ H.2) rfl (Nat.le_of_ble_eq_true rfl) ⟨Nat.le_of_ble_eq_true rfl, Nat.le_of_ble_eq_true rfl⟩ ⟨by exact Nat.le_of_ble_eq_true rfl, by exact Nat.le_of_ble_eq_true rfl⟩ rfl H.1) rfl ⟨rfl, rfl⟩ (fun h6 H => ?_)
      refine z_aload_n (pc := 29) hc dX6_inkOf_29 rfl ?_
      refine z_getR (pc := 30) hc dX6_inkOf_30 zf_RX6_34 rfl rfl rfl H (fun r7 H => ?_)
      refine z_getR (pc := 33) hc dX6_inkOf_33 zf_RX6_222 rfl rfl rfl H (fun r8 H => ?_)
      refine z_iconst (pc := 36) hc dX6_inkOf_36 ?_
      refine z_iload_n (pc := 37) hc dX6_inkOf_37 rfl ?_
      refine z_bipush (pc := 38) hc dX6_inkOf_38 (by decide) ?_
      refine z_ishr (n := 65536) (pc := 40) hc 16 rfl (by decide) dX6_inkOf_40 H (fun v9 H => ?_)
      refine z_iastore (pc := 41) hc dX6_inkOf_41 H (fun h10 H => ?_)
      refine z_aload_n (pc := 42) hc dX6_inkOf_42 rfl ?_
      refine z_getR (pc := 43) hc dX6_inkOf_43 zf_RX6_34 rfl rfl rfl H (fun r11 H => ?_)
      refine z_getR (pc := 46) hc dX6_inkOf_46 zf_RX6_222 rfl rfl rfl H (fun r12 H => ?_)
      refine z_iconst (pc := 49) hc dX6_inkOf_49 ?_
      refine z_iload_n (pc := 50) hc dX6_inkOf_50 rfl ?_
      refine z_bipush (pc := 51) hc dX6_inkOf_51 (by decide) ?_
      refine z_ishr (n := 256) (pc := 53) hc 8 rfl (by decide) dX6_inkOf_53 H (fun v13 H => ?_)
      refine z_sipush (pc := 54) hc dX6_inkOf_54 (by decide) ?_
      refine z_iand (n := 256) (pc := 57) hc 8 (by decide) rfl (by decide) dX6_inkOf_57 H (fun v14 H => ?_)
      refine z_iastore (pc := 58) hc dX6_inkOf_58 H (fun h15 H => ?_)
      refine z_aload_n (pc := 59) hc dX6_inkOf_59 rfl ?_
      refine z_getR (pc := 60) hc dX6_inkOf_60 zf_RX6_34 rfl rfl rfl H (fun r16 H => ?_)
      refine z_getR (pc := 63) hc dX6_inkOf_63 zf_RX6_222 rfl rfl rfl H (fun r17 H => ?_)
      refine z_iconst (pc := 66) hc dX6_inkOf_66 ?_
      refine z_iload_n (pc := 67) hc dX6_inkOf_67 rfl ?_
      refine z_sipush (pc := 68) hc dX6_inkOf_68 (by decide) ?_
      refine z_iand (n := 256) (pc := 71) hc 8 (by decide) rfl (by decide) dX6_inkOf_71 H (fun v18 H => ?_)
      refine z_iastore (pc := 72) hc dX6_inkOf_72 H (fun h19 H => ?_)
      refine z_aload_n (pc := 73) hc dX6_inkOf_73 rfl ?_
      refine z_getR (pc := 74) hc dX6_inkOf_74 zf_RX6_34 rfl rfl rfl H (fun r20 H => ?_)
      refine z_aload_n (pc := 77) hc dX6_inkOf_77 rfl ?_
      refine z_getR (pc := 78) hc dX6_inkOf_78 zf_RX6_12 rfl rfl rfl H (fun r21 H => ?_)
      refine z_aload_n (pc := 81) hc dX6_inkOf_81 rfl ?_
      refine z_getR (pc := 82) hc dX6_inkOf_82 zf_RX6_12 rfl rfl rfl H (fun r22 H => ?_)
      refine z_getI (pc := 85) hc dX6_inkOf_85 zf_RX6_171 rfl rfl rfl H (fun v23 H => ?_)
      refine z_calV0 (z_runV (pc := 88) (ci := 3) (T := TX3) (N := 3) hc dX6_inkOf_88 zw_RX6_235 (metX3_separate _ _ _ H.2) rfl (Nat.le_of_ble_eq_true rfl) ⟨Nat.le_of_ble_eq_true rfl, Nat.le_of_ble_eq_true rfl⟩ ⟨by exact Nat.le_of_ble_eq_true rfl, by exact Nat.le_of_ble_eq_true rfl⟩ rfl H.1) rfl ⟨rfl, rfl⟩ (fun h24 H => ?_)
      refine z_aload_n (pc := 91) hc dX6_inkOf_91 rfl ?_
      refine z_getR (pc := 92) hc dX6_inkOf_92 zf_RX6_34 rfl rfl rfl H (fun r25 H => ?_)
      refine z_iload_n (pc := 95) hc dX6_inkOf_95 rfl ?_
      refine z_calI (z_runV (pc := 96) (ci := 3) (T := TX3) (N := 3) hc dX6_inkOf_96 zw_RX6_228 (metX3_valueOf _ _ _ H.2) rfl (Nat.le_of_ble_eq_true rfl) ⟨Nat.le_of_ble_eq_true rfl, Nat.le_of_ble_eq_true rfl⟩ ⟨by exact Nat.le_of_ble_eq_true rfl, by exact Nat.le_of_ble_eq_true rfl⟩ rfl H.1) rfl ⟨rfl, rfl⟩ (fun v27 h26 H => ?_)
      exact z_ireturn (pc := 99) hc dX6_inkOf_99 H
end
theorem metX6_inkOf (l : Launch) (D : Zd) (base : Nat) {a0 : Nat} {x1 : Int} {x2 : Int} {h : Zm} {Q : Int → Zm → Prop} (H : mX6_inkOf a0 x1 x2 h Q) : zMet l D base yX6_inkOf cX6_inkOf 3 (some .int) zrX6_inkOf [.inr a0, .inl x1, .inl x2] h (zQi D base Q) :=
  z_met (by decide +kernel) (Nat.le_of_ble_eq_true rfl) (fun p e s m args below meth c hc hn => rX6_inkOf hc H)
def zrX6_touchedBy : Room := { frames := 2, cells := 0, slots := 0, locals := 44 }
def mX6_touchedBy_B27 (X27 : Int → Zm → Prop) (x1 : Int) (x2 : Int) (a3 : Nat) (x4 : Int) (h : Zm) (Q : Int → Zm → Prop) : Prop :=
  cLe x4 0
  (Q (-4) h)
  (cGr h 15 a3 1 fun r6 => cLd h 1 r6 x4 fun v7 => cRc h 15 a3 <| mX5_nodeAt a3 v7 h fun r9 h8 => cGi h8 12 r9 1 fun v10 => cRc h8 15 a3 <| mX5_nodeAt a3 v10 h8 fun r12 h11 => cGi h11 12 r12 6 fun v13 => cLe v13 0
    (X27 (x4 + (-1)) h11)
    (cGi h11 12 r12 7 fun v14 => cGi h11 12 r12 8 fun v15 => cRc h11 12 r9 <| mX2_contains r9 (x1 - v14) (x2 - v15) h11 fun v17 h16 => cEq v17 0
      (X27 (x4 + (-1)) h16)
      (Q v7 h16)))
def mX6_touchedBy_H27  (x1 : Int) (x2 : Int) (a3 : Nat) (x4 : Int) (h : Zm) (Q : Int → Zm → Prop) : Prop :=
  lfp1 (fun X27 x4 h => mX6_touchedBy_B27 X27 x1 x2 a3 x4 h Q) x4 h
def mX6_touchedBy (a0 : Nat) (x1 : Int) (x2 : Int) (h : Zm) (Q : Int → Zm → Prop) : Prop :=
  cRc h 16 a0 <| mX6_isPixel a0 x1 x2 h fun v2 h1 => cEq v2 0
  (Q (-1) h1)
  (cGr h1 16 a0 0 fun r3 => cGr h1 14 r3 6 fun r4 => cGi h1 15 r4 3 fun v5 => mX6_touchedBy_H27  x1 x2 r4 (v5 - 1) h1 Q)
section
variable {p : Program} {l : Launch} {e : Env} {s : State} {m : MethodId} {args : Array Value} {below : List Frame} {meth : Method} {c : Code} {D : Zd} {base : Nat}
set_option maxRecDepth 100000 in
set_option maxHeartbeats 4000000 in
theorem rX6_touchedBy_B27 (hc : zOk p s m args meth c D cX6_touchedBy 8 RX6 (some .int)) {X27 : Int → Zm → Prop} {x1 : Int} {x2 : Int} {a3 : Nat} {x4 : Int} {h : Zm} {Q : Int → Zm → Prop} (hX27 : ∀ (x4 : Int) (h : Zm), X27 x4 h → zW p l e zrX6_touchedBy s m args below meth c D base 8 (MQ below (zQi D base Q) args s 0 0 (zFree base)) 0 0 27 [none, some (.inl x1), some (.inl x2), some (.inr a3), some (.inl x4), none, none, none] [] h) (H : mX6_touchedBy_B27 X27 x1 x2 a3 x4 h Q) : zW p l e zrX6_touchedBy s m args below meth c D base 8 (MQ below (zQi D base Q) args s 0 0 (zFree base)) 0 0 27 [none, some (.inl x1), some (.inl x2), some (.inr a3), some (.inl x4), none, none, none] [] h := by
  unfold mX6_touchedBy_B27 at H
  refine z_iload (pc := 27) hc dX6_touchedBy_27 rfl ?_
  refine z_if_le (tgt := 99) (pc := 29) hc dX6_touchedBy_29 rfl H (fun H => ?_) (fun H => ?_)
  · refine z_bipush (pc := 99) hc dX6_touchedBy_99 (by decide) ?_
    exact z_ireturn (pc := 101) hc dX6_touchedBy_101 H
  · refine z_aload_n (pc := 32) hc dX6_touchedBy_32 rfl ?_
    refine z_getR (pc := 33) hc dX6_touchedBy_33 zf_RX6_239 rfl rfl rfl H (fun r6 H => ?_)
    refine z_iload (pc := 36) hc dX6_touchedBy_36 rfl ?_
    refine z_iaload (pc := 38) hc dX6_touchedBy_38 H (fun v7 H => ?_)
    refine z_istore (pc := 39) hc dX6_touchedBy_39 (by decide) (ρ' := [none, some (.inl x1), some (.inl x2), some (.inr a3), some (.inl x4), some (.inl v7), none, none]) rfl ?_
    refine z_aload_n (pc := 41) hc dX6_touchedBy_41 rfl ?_
    refine z_iload (pc := 42) hc dX6_touchedBy_42 rfl ?_
    refine z_calR (z_runV (pc := 44) (ci := 5) (T := TX5) (N := 4) hc dX6_touchedBy_44 zw_RX6_77 (metX5_nodeAt _ _ _ H.2) rfl (Nat.le_of_ble_eq_true rfl) ⟨Nat.le_of_ble_eq_true rfl, Nat.le_of_ble_eq_true rfl⟩ ⟨by exact Nat.le_of_ble_eq_true rfl, by exact Nat.le_of_ble_eq_true rfl⟩ rfl H.1) rfl ⟨rfl, rfl⟩ (fun r9 h8 H => ?_)
    refine z_astore (pc := 47) hc dX6_touchedBy_47 (by decide) (ρ' := [none, some (.inl x1), some (.inl x2), some (.inr a3), some (.inl x4), some (.inl v7), some (.inr r9), none]) rfl ?_
    refine z_aload_n (pc := 49) hc dX6_touchedBy_49 rfl ?_
    refine z_aload (pc := 50) hc dX6_touchedBy_50 rfl ?_
    refine z_getI (pc := 52) hc dX6_touchedBy_52 zf_RX6_153 rfl rfl rfl H (fun v10 H => ?_)
    refine z_calR (z_runV (pc := 55) (ci := 5) (T := TX5) (N := 4) hc dX6_touchedBy_55 zw_RX6_77 (metX5_nodeAt _ _ _ H.2) rfl (Nat.le_of_ble_eq_true rfl) ⟨Nat.le_of_ble_eq_true rfl, Nat.le_of_ble_eq_true rfl⟩ ⟨by exact Nat.le_of_ble_eq_true rfl, by exact Nat.le_of_ble_eq_true rfl⟩ rfl H.1) rfl ⟨rfl, rfl⟩ (fun r12 h11 H => ?_)
    refine z_astore (pc := 58) hc dX6_touchedBy_58 (by decide) (ρ' := [none, some (.inl x1), some (.inl x2), some (.inr a3), some (.inl x4), some (.inl v7), some (.inr r9), some (.inr r12)]) rfl ?_
    refine z_aload (pc := 60) hc dX6_touchedBy_60 rfl ?_
    refine z_getI (pc := 62) hc dX6_touchedBy_62 zf_RX6_242 rfl rfl rfl H (fun v13 H => ?_)
    refine z_if_le (tgt := 93) (pc := 65) hc dX6_touchedBy_65 rfl H (fun H => ?_) (fun H => ?_)
    · refine z_iinc (pc := 93) hc dX6_touchedBy_93 (by decide) rfl (ρ' := [none, some (.inl x1), some (.inl x2), some (.inr a3), some (.inl (x4 + (-1))), some (.inl v7), some (.inr r9), some (.inr r12)]) rfl ?_
      refine z_goto (tgt := 27) (pc := 96) hc dX6_touchedBy_96 rfl ?_
      refine z_mask [false, true, true, true, true, false, false, false] (ρ' := [none, some (.inl x1), some (.inl x2), some (.inr a3), some (.inl (x4 + (-1))), none, none, none]) rfl ?_
      exact hX27 _ _ H
    · refine z_aload (pc := 68) hc dX6_touchedBy_68 rfl ?_
      refine z_iload_n (pc := 70) hc dX6_touchedBy_70 rfl ?_
      refine z_aload (pc := 71) hc dX6_touchedBy_71 rfl ?_
      refine z_getI (pc := 73) hc dX6_touchedBy_73 zf_RX6_245 rfl rfl rfl H (fun v14 H => ?_)
      refine z_isub (pc := 76) hc dX6_touchedBy_76 ?_
      refine z_iload_n (pc := 77) hc dX6_touchedBy_77 rfl ?_
      refine z_aload (pc := 78) hc dX6_touchedBy_78 rfl ?_
      refine z_getI (pc := 80) hc dX6_touchedBy_80 zf_RX6_248 rfl rfl rfl H (fun v15 H => ?_)
      refine z_isub (pc := 83) hc dX6_touchedBy_83 ?_
      refine z_calI (z_runV (pc := 84) (ci := 2) (T := TX2) (N := 18) hc dX6_touchedBy_84 zw_RX6_251 (metX2_contains _ _ _ H.2) rfl (Nat.le_of_ble_eq_true rfl) ⟨Nat.le_of_ble_eq_true rfl, Nat.le_of_ble_eq_true rfl⟩ ⟨by exact Nat.le_of_ble_eq_true rfl, by exact Nat.le_of_ble_eq_true rfl⟩ rfl H.1) rfl ⟨rfl, rfl⟩ (fun v17 h16 H => ?_)
      refine z_if_eq (tgt := 93) (pc := 87) hc dX6_touchedBy_87 rfl H (fun H => ?_) (fun H => ?_)
      · refine z_iinc (pc := 93) hc dX6_touchedBy_93 (by decide) rfl (ρ' := [none, some (.inl x1), some (.inl x2), some (.inr a3), some (.inl (x4 + (-1))), some (.inl v7), some (.inr r9), some (.inr r12)]) rfl ?_
        refine z_goto (tgt := 27) (pc := 96) hc dX6_touchedBy_96 rfl ?_
        refine z_mask [false, true, true, true, true, false, false, false] (ρ' := [none, some (.inl x1), some (.inl x2), some (.inr a3), some (.inl (x4 + (-1))), none, none, none]) rfl ?_
        exact hX27 _ _ H
      · refine z_iload (pc := 90) hc dX6_touchedBy_90 rfl ?_
        exact z_ireturn (pc := 92) hc dX6_touchedBy_92 H
theorem rX6_touchedBy_H27 (hc : zOk p s m args meth c D cX6_touchedBy 8 RX6 (some .int))  {x1 : Int} {x2 : Int} {a3 : Nat} {x4 : Int} {h : Zm} {Q : Int → Zm → Prop}  (H : mX6_touchedBy_H27  x1 x2 a3 x4 h Q) : zW p l e zrX6_touchedBy s m args below meth c D base 8 (MQ below (zQi D base Q) args s 0 0 (zFree base)) 0 0 27 [none, some (.inl x1), some (.inl x2), some (.inr a3), some (.inl x4), none, none, none] [] h :=
  H (fun x4 h => zW p l e zrX6_touchedBy s m args below meth c D base 8 (MQ below (zQi D base Q) args s 0 0 (zFree base)) 0 0 27 [none, some (.inl x1), some (.inl x2), some (.inr a3), some (.inl x4), none, none, none] [] h) (fun x4 h H => rX6_touchedBy_B27 hc (fun _ _ q => q) H)
set_option maxRecDepth 100000 in
set_option maxHeartbeats 4000000 in
theorem rX6_touchedBy (hc : zOk p s m args meth c D cX6_touchedBy 8 RX6 (some .int)) {a0 : Nat} {x1 : Int} {x2 : Int} {h : Zm} {Q : Int → Zm → Prop} (H : mX6_touchedBy a0 x1 x2 h Q) : zW p l e zrX6_touchedBy s m args below meth c D base 8 (MQ below (zQi D base Q) args s 0 0 (zFree base)) 0 0 0 [some (.inr a0), some (.inl x1), some (.inl x2), none, none, none, none, none] [] h := by
  unfold mX6_touchedBy at H
  refine z_aload_n (pc := 0) hc dX6_touchedBy_0 rfl ?_
  refine z_iload_n (pc := 1) hc dX6_touchedBy_1 rfl ?_
  refine z_iload_n (pc := 2) hc dX6_touchedBy_2 rfl ?_
  refine z_calI (z_runV (pc := 3) (ci := 6) (T := TX6) (N := 8) hc dX6_touchedBy_3 zw_RX6_215 (metX6_isPixel _ _ _ H.2) rfl (Nat.le_of_ble_eq_true rfl) ⟨Nat.le_of_ble_eq_true rfl, Nat.le_of_ble_eq_true rfl⟩ ⟨by exact Nat.le_of_ble_eq_true rfl, by exact Nat.le_of_ble_eq_true rfl⟩ rfl H.1) rfl ⟨rfl, rfl⟩ (fun v2 h1 H => ?_)
  refine z_if_ne (tgt := 11) (pc := 6) hc dX6_touchedBy_6 rfl H (fun H => ?_) (fun H => ?_)
  · refine z_iconst (pc := 9) hc dX6_touchedBy_9 ?_
    exact z_ireturn (pc := 10) hc dX6_touchedBy_10 H
  · refine z_aload_n (pc := 11) hc dX6_touchedBy_11 rfl ?_
    refine z_getR (pc := 12) hc dX6_touchedBy_12 zf_RX6_12 rfl rfl rfl H (fun r3 H => ?_)
    refine z_getR (pc := 15) hc dX6_touchedBy_15 zf_RX6_73 rfl rfl rfl H (fun r4 H => ?_)
    refine z_astore_n (pc := 18) hc dX6_touchedBy_18 (by decide) (ρ' := [some (.inr a0), some (.inl x1), some (.inl x2), some (.inr r4), none, none, none, none]) rfl ?_
    refine z_aload_n (pc := 19) hc dX6_touchedBy_19 rfl ?_
    refine z_getI (pc := 20) hc dX6_touchedBy_20 zf_RX6_165 rfl rfl rfl H (fun v5 H => ?_)
    refine z_iconst (pc := 23) hc dX6_touchedBy_23 ?_
    refine z_isub (pc := 24) hc dX6_touchedBy_24 ?_
    refine z_istore (pc := 25) hc dX6_touchedBy_25 (by decide) (ρ' := [some (.inr a0), some (.inl x1), some (.inl x2), some (.inr r4), some (.inl (v5 - 1)), none, none, none]) rfl ?_
    refine z_mask [false, true, true, true, true, false, false, false] (ρ' := [none, some (.inl x1), some (.inl x2), some (.inr r4), some (.inl (v5 - 1)), none, none, none]) rfl ?_
    exact rX6_touchedBy_H27 hc H
end
theorem metX6_touchedBy (l : Launch) (D : Zd) (base : Nat) {a0 : Nat} {x1 : Int} {x2 : Int} {h : Zm} {Q : Int → Zm → Prop} (H : mX6_touchedBy a0 x1 x2 h Q) : zMet l D base yX6_touchedBy cX6_touchedBy 8 (some .int) zrX6_touchedBy [.inr a0, .inl x1, .inl x2] h (zQi D base Q) :=
  z_met (by decide +kernel) (Nat.le_of_ble_eq_true rfl) (fun p e s m args below meth c hc hn => rX6_touchedBy hc H)
def zrX6_addUpPlates : Room := { frames := 6, cells := 0, slots := 0, locals := 141 }
def mX6_addUpPlates_B55 (X23 : Int → Zm → Prop) (X36 : Int → Zm → Prop) (X55 : Int → Zm → Prop) (a0 : Nat) (x1 : Int) (x2 : Int) (x3 : Int) (h : Zm) (Q : Zm → Prop) : Prop :=
  cLt x3 7
  (cGr h 16 a0 6 fun r8 => cLd h 1 r8 x3 fun v9 => cGr h 16 a0 4 fun r10 => cGr h 13 r10 2 fun r11 => cLd h 1 r11 x3 fun v12 => cSt h r8 x3 (v9 + v12) fun h13 => X55 (x3 + 1) h13)
  (X36 (x2 + 1) h)
def mX6_addUpPlates_H55 (X23 : Int → Zm → Prop) (X36 : Int → Zm → Prop) (a0 : Nat) (x1 : Int) (x2 : Int) (x3 : Int) (h : Zm) (Q : Zm → Prop) : Prop :=
  lfp1 (fun X55 x3 h => mX6_addUpPlates_B55 X23 X36 X55 a0 x1 x2 x3 h Q) x3 h
def mX6_addUpPlates_B36 (X23 : Int → Zm → Prop) (X36 : Int → Zm → Prop) (a0 : Nat) (x1 : Int) (x2 : Int) (h : Zm) (Q : Zm → Prop) : Prop :=
  cGr h 16 a0 0 fun r5 => cGi h 14 r5 0 fun v6 => cLt x2 v6
  (cRc h 16 a0 <| mX6_separateAt a0 x2 x1 h fun h7 => mX6_addUpPlates_H55 X23 X36 a0 x1 x2 0 h7 Q)
  (X23 (x1 + 1) h)
def mX6_addUpPlates_H36 (X23 : Int → Zm → Prop) (a0 : Nat) (x1 : Int) (x2 : Int) (h : Zm) (Q : Zm → Prop) : Prop :=
  lfp1 (fun X36 x2 h => mX6_addUpPlates_B36 X23 X36 a0 x1 x2 h Q) x2 h
def mX6_addUpPlates_B23 (X23 : Int → Zm → Prop) (a0 : Nat) (x1 : Int) (h : Zm) (Q : Zm → Prop) : Prop :=
  cGr h 16 a0 0 fun r3 => cGi h 14 r3 1 fun v4 => cLt x1 v4
  (mX6_addUpPlates_H36 X23 a0 x1 0 h Q)
  (Q h)
def mX6_addUpPlates_H23  (a0 : Nat) (x1 : Int) (h : Zm) (Q : Zm → Prop) : Prop :=
  lfp1 (fun X23 x1 h => mX6_addUpPlates_B23 X23 a0 x1 h Q) x1 h
def mX6_addUpPlates_B2 (X2 : Int → Zm → Prop) (a0 : Nat) (x1 : Int) (h : Zm) (Q : Zm → Prop) : Prop :=
  cLt x1 7
  (cGr h 16 a0 6 fun r1 => cSt h r1 x1 0 fun h2 => X2 (x1 + 1) h2)
  (mX6_addUpPlates_H23  a0 0 h Q)
def mX6_addUpPlates_H2  (a0 : Nat) (x1 : Int) (h : Zm) (Q : Zm → Prop) : Prop :=
  lfp1 (fun X2 x1 h => mX6_addUpPlates_B2 X2 a0 x1 h Q) x1 h
def mX6_addUpPlates (a0 : Nat) (h : Zm) (Q : Zm → Prop) : Prop :=
  mX6_addUpPlates_H2  a0 0 h Q
section
variable {p : Program} {l : Launch} {e : Env} {s : State} {m : MethodId} {args : Array Value} {below : List Frame} {meth : Method} {c : Code} {D : Zd} {base : Nat}
set_option maxRecDepth 100000 in
set_option maxHeartbeats 4000000 in
theorem rX6_addUpPlates_B55 (hc : zOk p s m args meth c D cX6_addUpPlates 4 RX6 none) {X23 : Int → Zm → Prop} {X36 : Int → Zm → Prop} {X55 : Int → Zm → Prop} {a0 : Nat} {x1 : Int} {x2 : Int} {x3 : Int} {h : Zm} {Q : Zm → Prop} (hX23 : ∀ (x1 : Int) (h : Zm), X23 x1 h → zW p l e zrX6_addUpPlates s m args below meth c D base 4 (MQ below (zQv D base Q) args s 0 0 (zFree base)) 0 0 23 [some (.inr a0), some (.inl x1), none, none] [] h) (hX36 : ∀ (x2 : Int) (h : Zm), X36 x2 h → zW p l e zrX6_addUpPlates s m args below meth c D base 4 (MQ below (zQv D base Q) args s 0 0 (zFree base)) 0 0 36 [some (.inr a0), some (.inl x1), some (.inl x2), none] [] h) (hX55 : ∀ (x3 : Int) (h : Zm), X55 x3 h → zW p l e zrX6_addUpPlates s m args below meth c D base 4 (MQ below (zQv D base Q) args s 0 0 (zFree base)) 0 0 55 [some (.inr a0), some (.inl x1), some (.inl x2), some (.inl x3)] [] h) (H : mX6_addUpPlates_B55 X23 X36 X55 a0 x1 x2 x3 h Q) : zW p l e zrX6_addUpPlates s m args below meth c D base 4 (MQ below (zQv D base Q) args s 0 0 (zFree base)) 0 0 55 [some (.inr a0), some (.inl x1), some (.inl x2), some (.inl x3)] [] h := by
  unfold mX6_addUpPlates_B55 at H
  refine z_iload_n (pc := 55) hc dX6_addUpPlates_55 rfl ?_
  refine z_bipush (pc := 56) hc dX6_addUpPlates_56 (by decide) ?_
  refine z_icmp_ge (tgt := 85) (pc := 58) hc dX6_addUpPlates_58 rfl H (fun H => ?_) (fun H => ?_)
  · refine z_aload_n (pc := 61) hc dX6_addUpPlates_61 rfl ?_
    refine z_getR (pc := 62) hc dX6_addUpPlates_62 zf_RX6_45 rfl rfl rfl H (fun r8 H => ?_)
    refine z_iload_n (pc := 65) hc dX6_addUpPlates_65 rfl ?_
    refine z_dup2 (pc := 66) hc dX6_addUpPlates_66 ?_
    refine z_iaload (pc := 67) hc dX6_addUpPlates_67 H (fun v9 H => ?_)
    refine z_aload_n (pc := 68) hc dX6_addUpPlates_68 rfl ?_
    refine z_getR (pc := 69) hc dX6_addUpPlates_69 zf_RX6_34 rfl rfl rfl H (fun r10 H => ?_)
    refine z_getR (pc := 72) hc dX6_addUpPlates_72 zf_RX6_264 rfl rfl rfl H (fun r11 H => ?_)
    refine z_iload_n (pc := 75) hc dX6_addUpPlates_75 rfl ?_
    refine z_iaload (pc := 76) hc dX6_addUpPlates_76 H (fun v12 H => ?_)
    refine z_iadd (pc := 77) hc dX6_addUpPlates_77 ?_
    refine z_iastore (pc := 78) hc dX6_addUpPlates_78 H (fun h13 H => ?_)
    refine z_iinc (pc := 79) hc dX6_addUpPlates_79 (by decide) rfl (ρ' := [some (.inr a0), some (.inl x1), some (.inl x2), some (.inl (x3 + 1))]) rfl ?_
    refine z_goto (tgt := 55) (pc := 82) hc dX6_addUpPlates_82 rfl ?_
    exact hX55 _ _ H
  · refine z_iinc (pc := 85) hc dX6_addUpPlates_85 (by decide) rfl (ρ' := [some (.inr a0), some (.inl x1), some (.inl (x2 + 1)), some (.inl x3)]) rfl ?_
    refine z_goto (tgt := 36) (pc := 88) hc dX6_addUpPlates_88 rfl ?_
    refine z_mask [true, true, true, false] (ρ' := [some (.inr a0), some (.inl x1), some (.inl (x2 + 1)), none]) rfl ?_
    exact hX36 _ _ H
theorem rX6_addUpPlates_H55 (hc : zOk p s m args meth c D cX6_addUpPlates 4 RX6 none) {X23 : Int → Zm → Prop} {X36 : Int → Zm → Prop} {a0 : Nat} {x1 : Int} {x2 : Int} {x3 : Int} {h : Zm} {Q : Zm → Prop} (hX23 : ∀ (x1 : Int) (h : Zm), X23 x1 h → zW p l e zrX6_addUpPlates s m args below meth c D base 4 (MQ below (zQv D base Q) args s 0 0 (zFree base)) 0 0 23 [some (.inr a0), some (.inl x1), none, none] [] h) (hX36 : ∀ (x2 : Int) (h : Zm), X36 x2 h → zW p l e zrX6_addUpPlates s m args below meth c D base 4 (MQ below (zQv D base Q) args s 0 0 (zFree base)) 0 0 36 [some (.inr a0), some (.inl x1), some (.inl x2), none] [] h) (H : mX6_addUpPlates_H55 X23 X36 a0 x1 x2 x3 h Q) : zW p l e zrX6_addUpPlates s m args below meth c D base 4 (MQ below (zQv D base Q) args s 0 0 (zFree base)) 0 0 55 [some (.inr a0), some (.inl x1), some (.inl x2), some (.inl x3)] [] h :=
  H (fun x3 h => zW p l e zrX6_addUpPlates s m args below meth c D base 4 (MQ below (zQv D base Q) args s 0 0 (zFree base)) 0 0 55 [some (.inr a0), some (.inl x1), some (.inl x2), some (.inl x3)] [] h) (fun x3 h H => rX6_addUpPlates_B55 hc hX23 hX36 (fun _ _ q => q) H)
set_option maxRecDepth 100000 in
set_option maxHeartbeats 4000000 in
theorem rX6_addUpPlates_B36 (hc : zOk p s m args meth c D cX6_addUpPlates 4 RX6 none) {X23 : Int → Zm → Prop} {X36 : Int → Zm → Prop} {a0 : Nat} {x1 : Int} {x2 : Int} {h : Zm} {Q : Zm → Prop} (hX23 : ∀ (x1 : Int) (h : Zm), X23 x1 h → zW p l e zrX6_addUpPlates s m args below meth c D base 4 (MQ below (zQv D base Q) args s 0 0 (zFree base)) 0 0 23 [some (.inr a0), some (.inl x1), none, none] [] h) (hX36 : ∀ (x2 : Int) (h : Zm), X36 x2 h → zW p l e zrX6_addUpPlates s m args below meth c D base 4 (MQ below (zQv D base Q) args s 0 0 (zFree base)) 0 0 36 [some (.inr a0), some (.inl x1), some (.inl x2), none] [] h) (H : mX6_addUpPlates_B36 X23 X36 a0 x1 x2 h Q) : zW p l e zrX6_addUpPlates s m args below meth c D base 4 (MQ below (zQv D base Q) args s 0 0 (zFree base)) 0 0 36 [some (.inr a0), some (.inl x1), some (.inl x2), none] [] h := by
  unfold mX6_addUpPlates_B36 at H
  refine z_iload_n (pc := 36) hc dX6_addUpPlates_36 rfl ?_
  refine z_aload_n (pc := 37) hc dX6_addUpPlates_37 rfl ?_
  refine z_getR (pc := 38) hc dX6_addUpPlates_38 zf_RX6_12 rfl rfl rfl H (fun r5 H => ?_)
  refine z_getI (pc := 41) hc dX6_addUpPlates_41 zf_RX6_56 rfl rfl rfl H (fun v6 H => ?_)
  refine z_icmp_ge (tgt := 91) (pc := 44) hc dX6_addUpPlates_44 rfl H (fun H => ?_) (fun H => ?_)
  · refine z_aload_n (pc := 47) hc dX6_addUpPlates_47 rfl ?_
    refine z_iload_n (pc := 48) hc dX6_addUpPlates_48 rfl ?_
    refine z_iload_n (pc := 49) hc dX6_addUpPlates_49 rfl ?_
    refine z_calV0 (z_runV (pc := 50) (ci := 6) (T := TX6) (N := 8) hc dX6_addUpPlates_50 zw_RX6_225 (metX6_separateAt _ _ _ H.2) rfl (Nat.le_of_ble_eq_true rfl) ⟨Nat.le_of_ble_eq_true rfl, Nat.le_of_ble_eq_true rfl⟩ ⟨by exact Nat.le_of_ble_eq_true rfl, by exact Nat.le_of_ble_eq_true rfl⟩ rfl H.1) rfl ⟨rfl, rfl⟩ (fun h7 H => ?_)
    refine z_iconst (pc := 53) hc dX6_addUpPlates_53 ?_
    refine z_istore_n (pc := 54) hc dX6_addUpPlates_54 (by decide) (ρ' := [some (.inr a0), some (.inl x1), some (.inl x2), some (.inl 0)]) rfl ?_
    exact rX6_addUpPlates_H55 hc hX23 hX36 H
  · refine z_iinc (pc := 91) hc dX6_addUpPlates_91 (by decide) rfl (ρ' := [some (.inr a0), some (.inl (x1 + 1)), some (.inl x2), none]) rfl ?_
    refine z_goto (tgt := 23) (pc := 94) hc dX6_addUpPlates_94 rfl ?_
    refine z_mask [true, true, false, false] (ρ' := [some (.inr a0), some (.inl (x1 + 1)), none, none]) rfl ?_
    exact hX23 _ _ H
theorem rX6_addUpPlates_H36 (hc : zOk p s m args meth c D cX6_addUpPlates 4 RX6 none) {X23 : Int → Zm → Prop} {a0 : Nat} {x1 : Int} {x2 : Int} {h : Zm} {Q : Zm → Prop} (hX23 : ∀ (x1 : Int) (h : Zm), X23 x1 h → zW p l e zrX6_addUpPlates s m args below meth c D base 4 (MQ below (zQv D base Q) args s 0 0 (zFree base)) 0 0 23 [some (.inr a0), some (.inl x1), none, none] [] h) (H : mX6_addUpPlates_H36 X23 a0 x1 x2 h Q) : zW p l e zrX6_addUpPlates s m args below meth c D base 4 (MQ below (zQv D base Q) args s 0 0 (zFree base)) 0 0 36 [some (.inr a0), some (.inl x1), some (.inl x2), none] [] h :=
  H (fun x2 h => zW p l e zrX6_addUpPlates s m args below meth c D base 4 (MQ below (zQv D base Q) args s 0 0 (zFree base)) 0 0 36 [some (.inr a0), some (.inl x1), some (.inl x2), none] [] h) (fun x2 h H => rX6_addUpPlates_B36 hc hX23 (fun _ _ q => q) H)
set_option maxRecDepth 100000 in
set_option maxHeartbeats 4000000 in
theorem rX6_addUpPlates_B23 (hc : zOk p s m args meth c D cX6_addUpPlates 4 RX6 none) {X23 : Int → Zm → Prop} {a0 : Nat} {x1 : Int} {h : Zm} {Q : Zm → Prop} (hX23 : ∀ (x1 : Int) (h : Zm), X23 x1 h → zW p l e zrX6_addUpPlates s m args below meth c D base 4 (MQ below (zQv D base Q) args s 0 0 (zFree base)) 0 0 23 [some (.inr a0), some (.inl x1), none, none] [] h) (H : mX6_addUpPlates_B23 X23 a0 x1 h Q) : zW p l e zrX6_addUpPlates s m args below meth c D base 4 (MQ below (zQv D base Q) args s 0 0 (zFree base)) 0 0 23 [some (.inr a0), some (.inl x1), none, none] [] h := by
  unfold mX6_addUpPlates_B23 at H
  refine z_iload_n (pc := 23) hc dX6_addUpPlates_23 rfl ?_
  refine z_aload_n (pc := 24) hc dX6_addUpPlates_24 rfl ?_
  refine z_getR (pc := 25) hc dX6_addUpPlates_25 zf_RX6_12 rfl rfl rfl H (fun r3 H => ?_)
  refine z_getI (pc := 28) hc dX6_addUpPlates_28 zf_RX6_59 rfl rfl rfl H (fun v4 H => ?_)
  refine z_icmp_ge (tgt := 97) (pc := 31) hc dX6_addUpPlates_31 rfl H (fun H => ?_) (fun H => ?_)
  · refine z_iconst (pc := 34) hc dX6_addUpPlates_34 ?_
    refine z_istore_n (pc := 35) hc dX6_addUpPlates_35 (by decide) (ρ' := [some (.inr a0), some (.inl x1), some (.inl 0), none]) rfl ?_
    exact rX6_addUpPlates_H36 hc hX23 H
  · exact z_return (pc := 97) hc dX6_addUpPlates_97 H
theorem rX6_addUpPlates_H23 (hc : zOk p s m args meth c D cX6_addUpPlates 4 RX6 none)  {a0 : Nat} {x1 : Int} {h : Zm} {Q : Zm → Prop}  (H : mX6_addUpPlates_H23  a0 x1 h Q) : zW p l e zrX6_addUpPlates s m args below meth c D base 4 (MQ below (zQv D base Q) args s 0 0 (zFree base)) 0 0 23 [some (.inr a0), some (.inl x1), none, none] [] h :=
  H (fun x1 h => zW p l e zrX6_addUpPlates s m args below meth c D base 4 (MQ below (zQv D base Q) args s 0 0 (zFree base)) 0 0 23 [some (.inr a0), some (.inl x1), none, none] [] h) (fun x1 h H => rX6_addUpPlates_B23 hc (fun _ _ q => q) H)
set_option maxRecDepth 100000 in
set_option maxHeartbeats 4000000 in
theorem rX6_addUpPlates_B2 (hc : zOk p s m args meth c D cX6_addUpPlates 4 RX6 none) {X2 : Int → Zm → Prop} {a0 : Nat} {x1 : Int} {h : Zm} {Q : Zm → Prop} (hX2 : ∀ (x1 : Int) (h : Zm), X2 x1 h → zW p l e zrX6_addUpPlates s m args below meth c D base 4 (MQ below (zQv D base Q) args s 0 0 (zFree base)) 0 0 2 [some (.inr a0), some (.inl x1), none, none] [] h) (H : mX6_addUpPlates_B2 X2 a0 x1 h Q) : zW p l e zrX6_addUpPlates s m args below meth c D base 4 (MQ below (zQv D base Q) args s 0 0 (zFree base)) 0 0 2 [some (.inr a0), some (.inl x1), none, none] [] h := by
  unfold mX6_addUpPlates_B2 at H
  refine z_iload_n (pc := 2) hc dX6_addUpPlates_2 rfl ?_
  refine z_bipush (pc := 3) hc dX6_addUpPlates_3 (by decide) ?_
  refine z_icmp_ge (tgt := 21) (pc := 5) hc dX6_addUpPlates_5 rfl H (fun H => ?_) (fun H => ?_)
  · refine z_aload_n (pc := 8) hc dX6_addUpPlates_8 rfl ?_
    refine z_getR (pc := 9) hc dX6_addUpPlates_9 zf_RX6_45 rfl rfl rfl H (fun r1 H => ?_)
    refine z_iload_n (pc := 12) hc dX6_addUpPlates_12 rfl ?_
    refine z_iconst (pc := 13) hc dX6_addUpPlates_13 ?_
    refine z_iastore (pc := 14) hc dX6_addUpPlates_14 H (fun h2 H => ?_)
    refine z_iinc (pc := 15) hc dX6_addUpPlates_15 (by decide) rfl (ρ' := [some (.inr a0), some (.inl (x1 + 1)), none, none]) rfl ?_
    refine z_goto (tgt := 2) (pc := 18) hc dX6_addUpPlates_18 rfl ?_
    exact hX2 _ _ H
  · refine z_iconst (pc := 21) hc dX6_addUpPlates_21 ?_
    refine z_istore_n (pc := 22) hc dX6_addUpPlates_22 (by decide) (ρ' := [some (.inr a0), some (.inl 0), none, none]) rfl ?_
    exact rX6_addUpPlates_H23 hc H
theorem rX6_addUpPlates_H2 (hc : zOk p s m args meth c D cX6_addUpPlates 4 RX6 none)  {a0 : Nat} {x1 : Int} {h : Zm} {Q : Zm → Prop}  (H : mX6_addUpPlates_H2  a0 x1 h Q) : zW p l e zrX6_addUpPlates s m args below meth c D base 4 (MQ below (zQv D base Q) args s 0 0 (zFree base)) 0 0 2 [some (.inr a0), some (.inl x1), none, none] [] h :=
  H (fun x1 h => zW p l e zrX6_addUpPlates s m args below meth c D base 4 (MQ below (zQv D base Q) args s 0 0 (zFree base)) 0 0 2 [some (.inr a0), some (.inl x1), none, none] [] h) (fun x1 h H => rX6_addUpPlates_B2 hc (fun _ _ q => q) H)
set_option maxRecDepth 100000 in
set_option maxHeartbeats 4000000 in
theorem rX6_addUpPlates (hc : zOk p s m args meth c D cX6_addUpPlates 4 RX6 none) {a0 : Nat} {h : Zm} {Q : Zm → Prop} (H : mX6_addUpPlates a0 h Q) : zW p l e zrX6_addUpPlates s m args below meth c D base 4 (MQ below (zQv D base Q) args s 0 0 (zFree base)) 0 0 0 [some (.inr a0), none, none, none] [] h := by
  unfold mX6_addUpPlates at H
  refine z_iconst (pc := 0) hc dX6_addUpPlates_0 ?_
  refine z_istore_n (pc := 1) hc dX6_addUpPlates_1 (by decide) (ρ' := [some (.inr a0), some (.inl 0), none, none]) rfl ?_
  exact rX6_addUpPlates_H2 hc H
end
theorem metX6_addUpPlates (l : Launch) (D : Zd) (base : Nat) {a0 : Nat} {h : Zm} {Q : Zm → Prop} (H : mX6_addUpPlates a0 h Q) : zMet l D base yX6_addUpPlates cX6_addUpPlates 4 none zrX6_addUpPlates [.inr a0] h (zQv D base Q) :=
  z_met (by decide +kernel) (Nat.le_of_ble_eq_true rfl) (fun p e s m args below meth c hc hn => rX6_addUpPlates hc H)
def zrX6_coverage : Room := { frames := 7, cells := 0, slots := 0, locals := 164 }
def mX6_coverage (a0 : Nat) (x1 : Int) (h : Zm) (Q : Int → Zm → Prop) : Prop :=
  mX6_within x1 0 7 h fun v2 h1 => cEq v2 0
  (Q (-1) h1)
  (cRc h1 16 a0 <| mX6_addUpPlates a0 h1 fun h3 => cEq x1 7
    (cGr h3 16 a0 6 fun r6 => mX6_sumOf r6 h3 fun v8 h7 => Q v8 h7)
    (cGr h3 16 a0 6 fun r4 => cLd h3 1 r4 x1 fun v5 => Q v5 h3))
section
variable {p : Program} {l : Launch} {e : Env} {s : State} {m : MethodId} {args : Array Value} {below : List Frame} {meth : Method} {c : Code} {D : Zd} {base : Nat}
set_option maxRecDepth 100000 in
set_option maxHeartbeats 4000000 in
theorem rX6_coverage (hc : zOk p s m args meth c D cX6_coverage 2 RX6 (some .int)) {a0 : Nat} {x1 : Int} {h : Zm} {Q : Int → Zm → Prop} (H : mX6_coverage a0 x1 h Q) : zW p l e zrX6_coverage s m args below meth c D base 2 (MQ below (zQi D base Q) args s 0 0 (zFree base)) 0 0 0 [some (.inr a0), some (.inl x1)] [] h := by
  unfold mX6_coverage at H
  refine z_iload_n (pc := 0) hc dX6_coverage_0 rfl ?_
  refine z_iconst (pc := 1) hc dX6_coverage_1 ?_
  refine z_bipush (pc := 2) hc dX6_coverage_2 (by decide) ?_
  refine z_calI (z_runS (pc := 4) hc dX6_coverage_4 zw_RX6_52 (metX6_within _ _ _ H) rfl (Nat.le_of_ble_eq_true rfl) ⟨Nat.le_of_ble_eq_true rfl, Nat.le_of_ble_eq_true rfl⟩ ⟨by exact Nat.le_of_ble_eq_true rfl, by exact Nat.le_of_ble_eq_true rfl⟩) rfl ⟨rfl, rfl⟩ (fun v2 h1 H => ?_)
  refine z_if_ne (tgt := 12) (pc := 7) hc dX6_coverage_7 rfl H (fun H => ?_) (fun H => ?_)
  · refine z_iconst (pc := 10) hc dX6_coverage_10 ?_
    exact z_ireturn (pc := 11) hc dX6_coverage_11 H
  · refine z_aload_n (pc := 12) hc dX6_coverage_12 rfl ?_
    refine z_calV0 (z_runV (pc := 13) (ci := 6) (T := TX6) (N := 8) hc dX6_coverage_13 zw_RX6_254 (metX6_addUpPlates _ _ _ H.2) rfl (Nat.le_of_ble_eq_true rfl) ⟨Nat.le_of_ble_eq_true rfl, Nat.le_of_ble_eq_true rfl⟩ ⟨by exact Nat.le_of_ble_eq_true rfl, by exact Nat.le_of_ble_eq_true rfl⟩ rfl H.1) rfl ⟨rfl, rfl⟩ (fun h3 H => ?_)
    refine z_iload_n (pc := 16) hc dX6_coverage_16 rfl ?_
    refine z_bipush (pc := 17) hc dX6_coverage_17 (by decide) ?_
    refine z_icmp_ne (tgt := 32) (pc := 19) hc dX6_coverage_19 rfl H (fun H => ?_) (fun H => ?_)
    · refine z_aload_n (pc := 22) hc dX6_coverage_22 rfl ?_
      refine z_getR (pc := 23) hc dX6_coverage_23 zf_RX6_45 rfl rfl rfl H (fun r6 H => ?_)
      refine z_calI (z_runS (pc := 26) hc dX6_coverage_26 zw_RX6_257 (metX6_sumOf _ _ _ H) rfl (Nat.le_of_ble_eq_true rfl) ⟨Nat.le_of_ble_eq_true rfl, Nat.le_of_ble_eq_true rfl⟩ ⟨by exact Nat.le_of_ble_eq_true rfl, by exact Nat.le_of_ble_eq_true rfl⟩) rfl ⟨rfl, rfl⟩ (fun v8 h7 H => ?_)
      refine z_goto (tgt := 38) (pc := 29) hc dX6_coverage_29 rfl ?_
      exact z_ireturn (pc := 38) hc dX6_coverage_38 H
    · refine z_aload_n (pc := 32) hc dX6_coverage_32 rfl ?_
      refine z_getR (pc := 33) hc dX6_coverage_33 zf_RX6_45 rfl rfl rfl H (fun r4 H => ?_)
      refine z_iload_n (pc := 36) hc dX6_coverage_36 rfl ?_
      refine z_iaload (pc := 37) hc dX6_coverage_37 H (fun v5 H => ?_)
      exact z_ireturn (pc := 38) hc dX6_coverage_38 H
end
theorem metX6_coverage (l : Launch) (D : Zd) (base : Nat) {a0 : Nat} {x1 : Int} {h : Zm} {Q : Int → Zm → Prop} (H : mX6_coverage a0 x1 h Q) : zMet l D base yX6_coverage cX6_coverage 2 (some .int) zrX6_coverage [.inr a0, .inl x1] h (zQi D base Q) :=
  z_met (by decide +kernel) (Nat.le_of_ble_eq_true rfl) (fun p e s m args below meth c hc hn => rX6_coverage hc H)
def zrX6_platesBefore : Room := { frames := 0, cells := 0, slots := 0, locals := 0 }
def mX6_platesBefore_J35 (X4 : Int → Int → Zm → Prop) (a0 : Nat) (x1 : Int) (x2 : Int) (x3 : Int) (s0 : Int) (h : Zm) (Q : Int → Zm → Prop) : Prop :=
  cGr h 16 a0 6 fun r5 => cLd h 1 r5 x3 fun v6 => cGr h 16 a0 6 fun r7 => cLd h 1 r7 x1 fun v8 => cLe v6 v8
  (cEq s0 0
    (X4 x2 (x3 + 1) h)
    (X4 (x2 + 1) (x3 + 1) h))
  (X4 (x2 + 1) (x3 + 1) h)
def mX6_platesBefore_B4 (X4 : Int → Int → Zm → Prop) (a0 : Nat) (x1 : Int) (x2 : Int) (x3 : Int) (h : Zm) (Q : Int → Zm → Prop) : Prop :=
  cLt x3 7
  (cGr h 16 a0 6 fun r1 => cLd h 1 r1 x3 fun v2 => cGr h 16 a0 6 fun r3 => cLd h 1 r3 x1 fun v4 => cEq v2 v4
    (cLt x3 x1
      (mX6_platesBefore_J35 X4 a0 x1 x2 x3 1 h Q)
      (mX6_platesBefore_J35 X4 a0 x1 x2 x3 0 h Q))
    (mX6_platesBefore_J35 X4 a0 x1 x2 x3 0 h Q))
  (Q x2 h)
def mX6_platesBefore_H4  (a0 : Nat) (x1 : Int) (x2 : Int) (x3 : Int) (h : Zm) (Q : Int → Zm → Prop) : Prop :=
  lfp2 (fun X4 x2 x3 h => mX6_platesBefore_B4 X4 a0 x1 x2 x3 h Q) x2 x3 h
def mX6_platesBefore (a0 : Nat) (x1 : Int) (h : Zm) (Q : Int → Zm → Prop) : Prop :=
  mX6_platesBefore_H4  a0 x1 0 0 h Q
section
variable {p : Program} {l : Launch} {e : Env} {s : State} {m : MethodId} {args : Array Value} {below : List Frame} {meth : Method} {c : Code} {D : Zd} {base : Nat}
set_option maxRecDepth 100000 in
set_option maxHeartbeats 4000000 in
theorem rX6_platesBefore_J35 (hc : zOk p s m args meth c D cX6_platesBefore 5 RX6 (some .int)) {X4 : Int → Int → Zm → Prop} {a0 : Nat} {x1 : Int} {x2 : Int} {x3 : Int} {s0 : Int} {h : Zm} {Q : Int → Zm → Prop} (hX4 : ∀ (x2 : Int) (x3 : Int) (h : Zm), X4 x2 x3 h → zW p l e zrX6_platesBefore s m args below meth c D base 5 (MQ below (zQi D base Q) args s 0 0 (zFree base)) 0 0 4 [some (.inr a0), some (.inl x1), some (.inl x2), some (.inl x3), none] [] h) (H : mX6_platesBefore_J35 X4 a0 x1 x2 x3 s0 h Q) : zW p l e zrX6_platesBefore s m args below meth c D base 5 (MQ below (zQi D base Q) args s 0 0 (zFree base)) 0 0 35 [some (.inr a0), some (.inl x1), some (.inl x2), some (.inl x3), none] [.inl s0] h := by
  unfold mX6_platesBefore_J35 at H
  refine z_istore (pc := 35) hc dX6_platesBefore_35 (by decide) (ρ' := [some (.inr a0), some (.inl x1), some (.inl x2), some (.inl x3), some (.inl s0)]) rfl ?_
  refine z_aload_n (pc := 37) hc dX6_platesBefore_37 rfl ?_
  refine z_getR (pc := 38) hc dX6_platesBefore_38 zf_RX6_45 rfl rfl rfl H (fun r5 H => ?_)
  refine z_iload_n (pc := 41) hc dX6_platesBefore_41 rfl ?_
  refine z_iaload (pc := 42) hc dX6_platesBefore_42 H (fun v6 H => ?_)
  refine z_aload_n (pc := 43) hc dX6_platesBefore_43 rfl ?_
  refine z_getR (pc := 44) hc dX6_platesBefore_44 zf_RX6_45 rfl rfl rfl H (fun r7 H => ?_)
  refine z_iload_n (pc := 47) hc dX6_platesBefore_47 rfl ?_
  refine z_iaload (pc := 48) hc dX6_platesBefore_48 H (fun v8 H => ?_)
  refine z_icmp_gt (tgt := 57) (pc := 49) hc dX6_platesBefore_49 rfl H (fun H => ?_) (fun H => ?_)
  · refine z_iload (pc := 52) hc dX6_platesBefore_52 rfl ?_
    refine z_if_eq (tgt := 60) (pc := 54) hc dX6_platesBefore_54 rfl H (fun H => ?_) (fun H => ?_)
    · refine z_iinc (pc := 60) hc dX6_platesBefore_60 (by decide) rfl (ρ' := [some (.inr a0), some (.inl x1), some (.inl x2), some (.inl (x3 + 1)), some (.inl s0)]) rfl ?_
      refine z_goto (tgt := 4) (pc := 63) hc dX6_platesBefore_63 rfl ?_
      refine z_mask [true, true, true, true, false] (ρ' := [some (.inr a0), some (.inl x1), some (.inl x2), some (.inl (x3 + 1)), none]) rfl ?_
      exact hX4 _ _ _ H
    · refine z_iinc (pc := 57) hc dX6_platesBefore_57 (by decide) rfl (ρ' := [some (.inr a0), some (.inl x1), some (.inl (x2 + 1)), some (.inl x3), some (.inl s0)]) rfl ?_
      refine z_iinc (pc := 60) hc dX6_platesBefore_60 (by decide) rfl (ρ' := [some (.inr a0), some (.inl x1), some (.inl (x2 + 1)), some (.inl (x3 + 1)), some (.inl s0)]) rfl ?_
      refine z_goto (tgt := 4) (pc := 63) hc dX6_platesBefore_63 rfl ?_
      refine z_mask [true, true, true, true, false] (ρ' := [some (.inr a0), some (.inl x1), some (.inl (x2 + 1)), some (.inl (x3 + 1)), none]) rfl ?_
      exact hX4 _ _ _ H
  · refine z_iinc (pc := 57) hc dX6_platesBefore_57 (by decide) rfl (ρ' := [some (.inr a0), some (.inl x1), some (.inl (x2 + 1)), some (.inl x3), some (.inl s0)]) rfl ?_
    refine z_iinc (pc := 60) hc dX6_platesBefore_60 (by decide) rfl (ρ' := [some (.inr a0), some (.inl x1), some (.inl (x2 + 1)), some (.inl (x3 + 1)), some (.inl s0)]) rfl ?_
    refine z_goto (tgt := 4) (pc := 63) hc dX6_platesBefore_63 rfl ?_
    refine z_mask [true, true, true, true, false] (ρ' := [some (.inr a0), some (.inl x1), some (.inl (x2 + 1)), some (.inl (x3 + 1)), none]) rfl ?_
    exact hX4 _ _ _ H
set_option maxRecDepth 100000 in
set_option maxHeartbeats 4000000 in
theorem rX6_platesBefore_B4 (hc : zOk p s m args meth c D cX6_platesBefore 5 RX6 (some .int)) {X4 : Int → Int → Zm → Prop} {a0 : Nat} {x1 : Int} {x2 : Int} {x3 : Int} {h : Zm} {Q : Int → Zm → Prop} (hX4 : ∀ (x2 : Int) (x3 : Int) (h : Zm), X4 x2 x3 h → zW p l e zrX6_platesBefore s m args below meth c D base 5 (MQ below (zQi D base Q) args s 0 0 (zFree base)) 0 0 4 [some (.inr a0), some (.inl x1), some (.inl x2), some (.inl x3), none] [] h) (H : mX6_platesBefore_B4 X4 a0 x1 x2 x3 h Q) : zW p l e zrX6_platesBefore s m args below meth c D base 5 (MQ below (zQi D base Q) args s 0 0 (zFree base)) 0 0 4 [some (.inr a0), some (.inl x1), some (.inl x2), some (.inl x3), none] [] h := by
  unfold mX6_platesBefore_B4 at H
  refine z_iload_n (pc := 4) hc dX6_platesBefore_4 rfl ?_
  refine z_bipush (pc := 5) hc dX6_platesBefore_5 (by decide) ?_
  refine z_icmp_ge (tgt := 66) (pc := 7) hc dX6_platesBefore_7 rfl H (fun H => ?_) (fun H => ?_)
  · refine z_aload_n (pc := 10) hc dX6_platesBefore_10 rfl ?_
    refine z_getR (pc := 11) hc dX6_platesBefore_11 zf_RX6_45 rfl rfl rfl H (fun r1 H => ?_)
    refine z_iload_n (pc := 14) hc dX6_platesBefore_14 rfl ?_
    refine z_iaload (pc := 15) hc dX6_platesBefore_15 H (fun v2 H => ?_)
    refine z_aload_n (pc := 16) hc dX6_platesBefore_16 rfl ?_
    refine z_getR (pc := 17) hc dX6_platesBefore_17 zf_RX6_45 rfl rfl rfl H (fun r3 H => ?_)
    refine z_iload_n (pc := 20) hc dX6_platesBefore_20 rfl ?_
    refine z_iaload (pc := 21) hc dX6_platesBefore_21 H (fun v4 H => ?_)
    refine z_icmp_ne (tgt := 34) (pc := 22) hc dX6_platesBefore_22 rfl H (fun H => ?_) (fun H => ?_)
    · refine z_iload_n (pc := 25) hc dX6_platesBefore_25 rfl ?_
      refine z_iload_n (pc := 26) hc dX6_platesBefore_26 rfl ?_
      refine z_icmp_ge (tgt := 34) (pc := 27) hc dX6_platesBefore_27 rfl H (fun H => ?_) (fun H => ?_)
      · refine z_iconst (pc := 30) hc dX6_platesBefore_30 ?_
        refine z_goto (tgt := 35) (pc := 31) hc dX6_platesBefore_31 rfl ?_
        exact rX6_platesBefore_J35 hc hX4 H
      · refine z_iconst (pc := 34) hc dX6_platesBefore_34 ?_
        exact rX6_platesBefore_J35 hc hX4 H
    · refine z_iconst (pc := 34) hc dX6_platesBefore_34 ?_
      exact rX6_platesBefore_J35 hc hX4 H
  · refine z_iload_n (pc := 66) hc dX6_platesBefore_66 rfl ?_
    exact z_ireturn (pc := 67) hc dX6_platesBefore_67 H
theorem rX6_platesBefore_H4 (hc : zOk p s m args meth c D cX6_platesBefore 5 RX6 (some .int))  {a0 : Nat} {x1 : Int} {x2 : Int} {x3 : Int} {h : Zm} {Q : Int → Zm → Prop}  (H : mX6_platesBefore_H4  a0 x1 x2 x3 h Q) : zW p l e zrX6_platesBefore s m args below meth c D base 5 (MQ below (zQi D base Q) args s 0 0 (zFree base)) 0 0 4 [some (.inr a0), some (.inl x1), some (.inl x2), some (.inl x3), none] [] h :=
  H (fun x2 x3 h => zW p l e zrX6_platesBefore s m args below meth c D base 5 (MQ below (zQi D base Q) args s 0 0 (zFree base)) 0 0 4 [some (.inr a0), some (.inl x1), some (.inl x2), some (.inl x3), none] [] h) (fun x2 x3 h H => rX6_platesBefore_B4 hc (fun _ _ _ q => q) H)
set_option maxRecDepth 100000 in
set_option maxHeartbeats 4000000 in
theorem rX6_platesBefore (hc : zOk p s m args meth c D cX6_platesBefore 5 RX6 (some .int)) {a0 : Nat} {x1 : Int} {h : Zm} {Q : Int → Zm → Prop} (H : mX6_platesBefore a0 x1 h Q) : zW p l e zrX6_platesBefore s m args below meth c D base 5 (MQ below (zQi D base Q) args s 0 0 (zFree base)) 0 0 0 [some (.inr a0), some (.inl x1), none, none, none] [] h := by
  unfold mX6_platesBefore at H
  refine z_iconst (pc := 0) hc dX6_platesBefore_0 ?_
  refine z_istore_n (pc := 1) hc dX6_platesBefore_1 (by decide) (ρ' := [some (.inr a0), some (.inl x1), some (.inl 0), none, none]) rfl ?_
  refine z_iconst (pc := 2) hc dX6_platesBefore_2 ?_
  refine z_istore_n (pc := 3) hc dX6_platesBefore_3 (by decide) (ρ' := [some (.inr a0), some (.inl x1), some (.inl 0), some (.inl 0), none]) rfl ?_
  exact rX6_platesBefore_H4 hc H
end
theorem metX6_platesBefore (l : Launch) (D : Zd) (base : Nat) {a0 : Nat} {x1 : Int} {h : Zm} {Q : Int → Zm → Prop} (H : mX6_platesBefore a0 x1 h Q) : zMet l D base yX6_platesBefore cX6_platesBefore 5 (some .int) zrX6_platesBefore [.inr a0, .inl x1] h (zQi D base Q) :=
  z_met (by decide +kernel) (Nat.le_of_ble_eq_true rfl) (fun p e s m args below meth c hc hn => rX6_platesBefore hc H)
def zrX6_plateAt : Room := { frames := 7, cells := 0, slots := 0, locals := 164 }
def mX6_plateAt_B15 (X15 : Int → Zm → Prop) (a0 : Nat) (x1 : Int) (x2 : Int) (h : Zm) (Q : Int → Zm → Prop) : Prop :=
  cLt x2 7
  (cRc h 16 a0 <| mX6_platesBefore a0 x2 h fun v5 h4 => cEq v5 x1
    (Q x2 h4)
    (X15 (x2 + 1) h4))
  (Q (-4) h)
def mX6_plateAt_H15  (a0 : Nat) (x1 : Int) (x2 : Int) (h : Zm) (Q : Int → Zm → Prop) : Prop :=
  lfp1 (fun X15 x2 h => mX6_plateAt_B15 X15 a0 x1 x2 h Q) x2 h
def mX6_plateAt (a0 : Nat) (x1 : Int) (h : Zm) (Q : Int → Zm → Prop) : Prop :=
  mX6_isPlate x1 h fun v2 h1 => cEq v2 0
  (Q (-1) h1)
  (cRc h1 16 a0 <| mX6_addUpPlates a0 h1 fun h3 => mX6_plateAt_H15  a0 x1 0 h3 Q)
section
variable {p : Program} {l : Launch} {e : Env} {s : State} {m : MethodId} {args : Array Value} {below : List Frame} {meth : Method} {c : Code} {D : Zd} {base : Nat}
set_option maxRecDepth 100000 in
set_option maxHeartbeats 4000000 in
theorem rX6_plateAt_B15 (hc : zOk p s m args meth c D cX6_plateAt 3 RX6 (some .int)) {X15 : Int → Zm → Prop} {a0 : Nat} {x1 : Int} {x2 : Int} {h : Zm} {Q : Int → Zm → Prop} (hX15 : ∀ (x2 : Int) (h : Zm), X15 x2 h → zW p l e zrX6_plateAt s m args below meth c D base 3 (MQ below (zQi D base Q) args s 0 0 (zFree base)) 0 0 15 [some (.inr a0), some (.inl x1), some (.inl x2)] [] h) (H : mX6_plateAt_B15 X15 a0 x1 x2 h Q) : zW p l e zrX6_plateAt s m args below meth c D base 3 (MQ below (zQi D base Q) args s 0 0 (zFree base)) 0 0 15 [some (.inr a0), some (.inl x1), some (.inl x2)] [] h := by
  unfold mX6_plateAt_B15 at H
  refine z_iload_n (pc := 15) hc dX6_plateAt_15 rfl ?_
  refine z_bipush (pc := 16) hc dX6_plateAt_16 (by decide) ?_
  refine z_icmp_ge (tgt := 38) (pc := 18) hc dX6_plateAt_18 rfl H (fun H => ?_) (fun H => ?_)
  · refine z_aload_n (pc := 21) hc dX6_plateAt_21 rfl ?_
    refine z_iload_n (pc := 22) hc dX6_plateAt_22 rfl ?_
    refine z_calI (z_runV (pc := 23) (ci := 6) (T := TX6) (N := 8) hc dX6_plateAt_23 zw_RX6_261 (metX6_platesBefore _ _ _ H.2) rfl (Nat.le_of_ble_eq_true rfl) ⟨Nat.le_of_ble_eq_true rfl, Nat.le_of_ble_eq_true rfl⟩ ⟨by exact Nat.le_of_ble_eq_true rfl, by exact Nat.le_of_ble_eq_true rfl⟩ rfl H.1) rfl ⟨rfl, rfl⟩ (fun v5 h4 H => ?_)
    refine z_iload_n (pc := 26) hc dX6_plateAt_26 rfl ?_
    refine z_icmp_ne (tgt := 32) (pc := 27) hc dX6_plateAt_27 rfl H (fun H => ?_) (fun H => ?_)
    · refine z_iload_n (pc := 30) hc dX6_plateAt_30 rfl ?_
      exact z_ireturn (pc := 31) hc dX6_plateAt_31 H
    · refine z_iinc (pc := 32) hc dX6_plateAt_32 (by decide) rfl (ρ' := [some (.inr a0), some (.inl x1), some (.inl (x2 + 1))]) rfl ?_
      refine z_goto (tgt := 15) (pc := 35) hc dX6_plateAt_35 rfl ?_
      exact hX15 _ _ H
  · refine z_bipush (pc := 38) hc dX6_plateAt_38 (by decide) ?_
    exact z_ireturn (pc := 40) hc dX6_plateAt_40 H
theorem rX6_plateAt_H15 (hc : zOk p s m args meth c D cX6_plateAt 3 RX6 (some .int))  {a0 : Nat} {x1 : Int} {x2 : Int} {h : Zm} {Q : Int → Zm → Prop}  (H : mX6_plateAt_H15  a0 x1 x2 h Q) : zW p l e zrX6_plateAt s m args below meth c D base 3 (MQ below (zQi D base Q) args s 0 0 (zFree base)) 0 0 15 [some (.inr a0), some (.inl x1), some (.inl x2)] [] h :=
  H (fun x2 h => zW p l e zrX6_plateAt s m args below meth c D base 3 (MQ below (zQi D base Q) args s 0 0 (zFree base)) 0 0 15 [some (.inr a0), some (.inl x1), some (.inl x2)] [] h) (fun x2 h H => rX6_plateAt_B15 hc (fun _ _ q => q) H)
set_option maxRecDepth 100000 in
set_option maxHeartbeats 4000000 in
theorem rX6_plateAt (hc : zOk p s m args meth c D cX6_plateAt 3 RX6 (some .int)) {a0 : Nat} {x1 : Int} {h : Zm} {Q : Int → Zm → Prop} (H : mX6_plateAt a0 x1 h Q) : zW p l e zrX6_plateAt s m args below meth c D base 3 (MQ below (zQi D base Q) args s 0 0 (zFree base)) 0 0 0 [some (.inr a0), some (.inl x1), none] [] h := by
  unfold mX6_plateAt at H
  refine z_iload_n (pc := 0) hc dX6_plateAt_0 rfl ?_
  refine z_calI (z_runS (pc := 1) hc dX6_plateAt_1 zw_RX6_183 (metX6_isPlate _ _ _ H) rfl (Nat.le_of_ble_eq_true rfl) ⟨Nat.le_of_ble_eq_true rfl, Nat.le_of_ble_eq_true rfl⟩ ⟨by exact Nat.le_of_ble_eq_true rfl, by exact Nat.le_of_ble_eq_true rfl⟩) rfl ⟨rfl, rfl⟩ (fun v2 h1 H => ?_)
  refine z_if_ne (tgt := 9) (pc := 4) hc dX6_plateAt_4 rfl H (fun H => ?_) (fun H => ?_)
  · refine z_iconst (pc := 7) hc dX6_plateAt_7 ?_
    exact z_ireturn (pc := 8) hc dX6_plateAt_8 H
  · refine z_aload_n (pc := 9) hc dX6_plateAt_9 rfl ?_
    refine z_calV0 (z_runV (pc := 10) (ci := 6) (T := TX6) (N := 8) hc dX6_plateAt_10 zw_RX6_254 (metX6_addUpPlates _ _ _ H.2) rfl (Nat.le_of_ble_eq_true rfl) ⟨Nat.le_of_ble_eq_true rfl, Nat.le_of_ble_eq_true rfl⟩ ⟨by exact Nat.le_of_ble_eq_true rfl, by exact Nat.le_of_ble_eq_true rfl⟩ rfl H.1) rfl ⟨rfl, rfl⟩ (fun h3 H => ?_)
    refine z_iconst (pc := 13) hc dX6_plateAt_13 ?_
    refine z_istore_n (pc := 14) hc dX6_plateAt_14 (by decide) (ρ' := [some (.inr a0), some (.inl x1), some (.inl 0)]) rfl ?_
    exact rX6_plateAt_H15 hc H
end
theorem metX6_plateAt (l : Launch) (D : Zd) (base : Nat) {a0 : Nat} {x1 : Int} {h : Zm} {Q : Int → Zm → Prop} (H : mX6_plateAt a0 x1 h Q) : zMet l D base yX6_plateAt cX6_plateAt 3 (some .int) zrX6_plateAt [.inr a0, .inl x1] h (zQi D base Q) :=
  z_met (by decide +kernel) (Nat.le_of_ble_eq_true rfl) (fun p e s m args below meth c hc hn => rX6_plateAt hc H)
def zrX6_greatestSum : Room := { frames := 6, cells := 0, slots := 0, locals := 141 }
def mX6_greatestSum_B17 (X4 : Int → Int → Zm → Prop) (X17 : Int → Int → Zm → Prop) (a0 : Nat) (x1 : Int) (x2 : Int) (x3 : Int) (h : Zm) (Q : Int → Zm → Prop) : Prop :=
  cGr h 16 a0 0 fun r3 => cGi h 14 r3 0 fun v4 => cLt x3 v4
  (cRc h 16 a0 <| mX6_separateAt a0 x3 x2 h fun h5 => cGr h5 16 a0 4 fun r6 => cGr h5 13 r6 2 fun r7 => mX6_sumOf r7 h5 fun v9 h8 => mJ9_max_7cf53 x1 v9 h8 fun v11 h10 => X17 v11 (x3 + 1) h10)
  (X4 x1 (x2 + 1) h)
def mX6_greatestSum_H17 (X4 : Int → Int → Zm → Prop) (a0 : Nat) (x1 : Int) (x2 : Int) (x3 : Int) (h : Zm) (Q : Int → Zm → Prop) : Prop :=
  lfp2 (fun X17 x1 x3 h => mX6_greatestSum_B17 X4 X17 a0 x1 x2 x3 h Q) x1 x3 h
def mX6_greatestSum_B4 (X4 : Int → Int → Zm → Prop) (a0 : Nat) (x1 : Int) (x2 : Int) (h : Zm) (Q : Int → Zm → Prop) : Prop :=
  cGr h 16 a0 0 fun r1 => cGi h 14 r1 1 fun v2 => cLt x2 v2
  (mX6_greatestSum_H17 X4 a0 x1 x2 0 h Q)
  (Q x1 h)
def mX6_greatestSum_H4  (a0 : Nat) (x1 : Int) (x2 : Int) (h : Zm) (Q : Int → Zm → Prop) : Prop :=
  lfp2 (fun X4 x1 x2 h => mX6_greatestSum_B4 X4 a0 x1 x2 h Q) x1 x2 h
def mX6_greatestSum (a0 : Nat) (h : Zm) (Q : Int → Zm → Prop) : Prop :=
  mX6_greatestSum_H4  a0 0 0 h Q
section
variable {p : Program} {l : Launch} {e : Env} {s : State} {m : MethodId} {args : Array Value} {below : List Frame} {meth : Method} {c : Code} {D : Zd} {base : Nat}
set_option maxRecDepth 100000 in
set_option maxHeartbeats 4000000 in
theorem rX6_greatestSum_B17 (hc : zOk p s m args meth c D cX6_greatestSum 4 RX6 (some .int)) {X4 : Int → Int → Zm → Prop} {X17 : Int → Int → Zm → Prop} {a0 : Nat} {x1 : Int} {x2 : Int} {x3 : Int} {h : Zm} {Q : Int → Zm → Prop} (hX4 : ∀ (x1 : Int) (x2 : Int) (h : Zm), X4 x1 x2 h → zW p l e zrX6_greatestSum s m args below meth c D base 4 (MQ below (zQi D base Q) args s 0 0 (zFree base)) 0 0 4 [some (.inr a0), some (.inl x1), some (.inl x2), none] [] h) (hX17 : ∀ (x1 : Int) (x3 : Int) (h : Zm), X17 x1 x3 h → zW p l e zrX6_greatestSum s m args below meth c D base 4 (MQ below (zQi D base Q) args s 0 0 (zFree base)) 0 0 17 [some (.inr a0), some (.inl x1), some (.inl x2), some (.inl x3)] [] h) (H : mX6_greatestSum_B17 X4 X17 a0 x1 x2 x3 h Q) : zW p l e zrX6_greatestSum s m args below meth c D base 4 (MQ below (zQi D base Q) args s 0 0 (zFree base)) 0 0 17 [some (.inr a0), some (.inl x1), some (.inl x2), some (.inl x3)] [] h := by
  unfold mX6_greatestSum_B17 at H
  refine z_iload_n (pc := 17) hc dX6_greatestSum_17 rfl ?_
  refine z_aload_n (pc := 18) hc dX6_greatestSum_18 rfl ?_
  refine z_getR (pc := 19) hc dX6_greatestSum_19 zf_RX6_12 rfl rfl rfl H (fun r3 H => ?_)
  refine z_getI (pc := 22) hc dX6_greatestSum_22 zf_RX6_56 rfl rfl rfl H (fun v4 H => ?_)
  refine z_icmp_ge (tgt := 55) (pc := 25) hc dX6_greatestSum_25 rfl H (fun H => ?_) (fun H => ?_)
  · refine z_aload_n (pc := 28) hc dX6_greatestSum_28 rfl ?_
    refine z_iload_n (pc := 29) hc dX6_greatestSum_29 rfl ?_
    refine z_iload_n (pc := 30) hc dX6_greatestSum_30 rfl ?_
    refine z_calV0 (z_runV (pc := 31) (ci := 6) (T := TX6) (N := 8) hc dX6_greatestSum_31 zw_RX6_225 (metX6_separateAt _ _ _ H.2) rfl (Nat.le_of_ble_eq_true rfl) ⟨Nat.le_of_ble_eq_true rfl, Nat.le_of_ble_eq_true rfl⟩ ⟨by exact Nat.le_of_ble_eq_true rfl, by exact Nat.le_of_ble_eq_true rfl⟩ rfl H.1) rfl ⟨rfl, rfl⟩ (fun h5 H => ?_)
    refine z_iload_n (pc := 34) hc dX6_greatestSum_34 rfl ?_
    refine z_aload_n (pc := 35) hc dX6_greatestSum_35 rfl ?_
    refine z_getR (pc := 36) hc dX6_greatestSum_36 zf_RX6_34 rfl rfl rfl H (fun r6 H => ?_)
    refine z_getR (pc := 39) hc dX6_greatestSum_39 zf_RX6_264 rfl rfl rfl H (fun r7 H => ?_)
    refine z_calI (z_runS (pc := 42) hc dX6_greatestSum_42 zw_RX6_257 (metX6_sumOf _ _ _ H) rfl (Nat.le_of_ble_eq_true rfl) ⟨Nat.le_of_ble_eq_true rfl, Nat.le_of_ble_eq_true rfl⟩ ⟨by exact Nat.le_of_ble_eq_true rfl, by exact Nat.le_of_ble_eq_true rfl⟩) rfl ⟨rfl, rfl⟩ (fun v9 h8 H => ?_)
    refine z_calI (z_runS (pc := 45) hc dX6_greatestSum_45 zw_RX6_267 (metJ9_max_7cf53 _ _ _ H) rfl (Nat.le_of_ble_eq_true rfl) ⟨Nat.le_of_ble_eq_true rfl, Nat.le_of_ble_eq_true rfl⟩ ⟨by exact Nat.le_of_ble_eq_true rfl, by exact Nat.le_of_ble_eq_true rfl⟩) rfl ⟨rfl, rfl⟩ (fun v11 h10 H => ?_)
    refine z_istore_n (pc := 48) hc dX6_greatestSum_48 (by decide) (ρ' := [some (.inr a0), some (.inl v11), some (.inl x2), some (.inl x3)]) rfl ?_
    refine z_iinc (pc := 49) hc dX6_greatestSum_49 (by decide) rfl (ρ' := [some (.inr a0), some (.inl v11), some (.inl x2), some (.inl (x3 + 1))]) rfl ?_
    refine z_goto (tgt := 17) (pc := 52) hc dX6_greatestSum_52 rfl ?_
    exact hX17 _ _ _ H
  · refine z_iinc (pc := 55) hc dX6_greatestSum_55 (by decide) rfl (ρ' := [some (.inr a0), some (.inl x1), some (.inl (x2 + 1)), some (.inl x3)]) rfl ?_
    refine z_goto (tgt := 4) (pc := 58) hc dX6_greatestSum_58 rfl ?_
    refine z_mask [true, true, true, false] (ρ' := [some (.inr a0), some (.inl x1), some (.inl (x2 + 1)), none]) rfl ?_
    exact hX4 _ _ _ H
theorem rX6_greatestSum_H17 (hc : zOk p s m args meth c D cX6_greatestSum 4 RX6 (some .int)) {X4 : Int → Int → Zm → Prop} {a0 : Nat} {x1 : Int} {x2 : Int} {x3 : Int} {h : Zm} {Q : Int → Zm → Prop} (hX4 : ∀ (x1 : Int) (x2 : Int) (h : Zm), X4 x1 x2 h → zW p l e zrX6_greatestSum s m args below meth c D base 4 (MQ below (zQi D base Q) args s 0 0 (zFree base)) 0 0 4 [some (.inr a0), some (.inl x1), some (.inl x2), none] [] h) (H : mX6_greatestSum_H17 X4 a0 x1 x2 x3 h Q) : zW p l e zrX6_greatestSum s m args below meth c D base 4 (MQ below (zQi D base Q) args s 0 0 (zFree base)) 0 0 17 [some (.inr a0), some (.inl x1), some (.inl x2), some (.inl x3)] [] h :=
  H (fun x1 x3 h => zW p l e zrX6_greatestSum s m args below meth c D base 4 (MQ below (zQi D base Q) args s 0 0 (zFree base)) 0 0 17 [some (.inr a0), some (.inl x1), some (.inl x2), some (.inl x3)] [] h) (fun x1 x3 h H => rX6_greatestSum_B17 hc hX4 (fun _ _ _ q => q) H)
set_option maxRecDepth 100000 in
set_option maxHeartbeats 4000000 in
theorem rX6_greatestSum_B4 (hc : zOk p s m args meth c D cX6_greatestSum 4 RX6 (some .int)) {X4 : Int → Int → Zm → Prop} {a0 : Nat} {x1 : Int} {x2 : Int} {h : Zm} {Q : Int → Zm → Prop} (hX4 : ∀ (x1 : Int) (x2 : Int) (h : Zm), X4 x1 x2 h → zW p l e zrX6_greatestSum s m args below meth c D base 4 (MQ below (zQi D base Q) args s 0 0 (zFree base)) 0 0 4 [some (.inr a0), some (.inl x1), some (.inl x2), none] [] h) (H : mX6_greatestSum_B4 X4 a0 x1 x2 h Q) : zW p l e zrX6_greatestSum s m args below meth c D base 4 (MQ below (zQi D base Q) args s 0 0 (zFree base)) 0 0 4 [some (.inr a0), some (.inl x1), some (.inl x2), none] [] h := by
  unfold mX6_greatestSum_B4 at H
  refine z_iload_n (pc := 4) hc dX6_greatestSum_4 rfl ?_
  refine z_aload_n (pc := 5) hc dX6_greatestSum_5 rfl ?_
  refine z_getR (pc := 6) hc dX6_greatestSum_6 zf_RX6_12 rfl rfl rfl H (fun r1 H => ?_)
  refine z_getI (pc := 9) hc dX6_greatestSum_9 zf_RX6_59 rfl rfl rfl H (fun v2 H => ?_)
  refine z_icmp_ge (tgt := 61) (pc := 12) hc dX6_greatestSum_12 rfl H (fun H => ?_) (fun H => ?_)
  · refine z_iconst (pc := 15) hc dX6_greatestSum_15 ?_
    refine z_istore_n (pc := 16) hc dX6_greatestSum_16 (by decide) (ρ' := [some (.inr a0), some (.inl x1), some (.inl x2), some (.inl 0)]) rfl ?_
    exact rX6_greatestSum_H17 hc hX4 H
  · refine z_iload_n (pc := 61) hc dX6_greatestSum_61 rfl ?_
    exact z_ireturn (pc := 62) hc dX6_greatestSum_62 H
theorem rX6_greatestSum_H4 (hc : zOk p s m args meth c D cX6_greatestSum 4 RX6 (some .int))  {a0 : Nat} {x1 : Int} {x2 : Int} {h : Zm} {Q : Int → Zm → Prop}  (H : mX6_greatestSum_H4  a0 x1 x2 h Q) : zW p l e zrX6_greatestSum s m args below meth c D base 4 (MQ below (zQi D base Q) args s 0 0 (zFree base)) 0 0 4 [some (.inr a0), some (.inl x1), some (.inl x2), none] [] h :=
  H (fun x1 x2 h => zW p l e zrX6_greatestSum s m args below meth c D base 4 (MQ below (zQi D base Q) args s 0 0 (zFree base)) 0 0 4 [some (.inr a0), some (.inl x1), some (.inl x2), none] [] h) (fun x1 x2 h H => rX6_greatestSum_B4 hc (fun _ _ _ q => q) H)
set_option maxRecDepth 100000 in
set_option maxHeartbeats 4000000 in
theorem rX6_greatestSum (hc : zOk p s m args meth c D cX6_greatestSum 4 RX6 (some .int)) {a0 : Nat} {h : Zm} {Q : Int → Zm → Prop} (H : mX6_greatestSum a0 h Q) : zW p l e zrX6_greatestSum s m args below meth c D base 4 (MQ below (zQi D base Q) args s 0 0 (zFree base)) 0 0 0 [some (.inr a0), none, none, none] [] h := by
  unfold mX6_greatestSum at H
  refine z_iconst (pc := 0) hc dX6_greatestSum_0 ?_
  refine z_istore_n (pc := 1) hc dX6_greatestSum_1 (by decide) (ρ' := [some (.inr a0), some (.inl 0), none, none]) rfl ?_
  refine z_iconst (pc := 2) hc dX6_greatestSum_2 ?_
  refine z_istore_n (pc := 3) hc dX6_greatestSum_3 (by decide) (ρ' := [some (.inr a0), some (.inl 0), some (.inl 0), none]) rfl ?_
  exact rX6_greatestSum_H4 hc H
end
theorem metX6_greatestSum (l : Launch) (D : Zd) (base : Nat) {a0 : Nat} {h : Zm} {Q : Int → Zm → Prop} (H : mX6_greatestSum a0 h Q) : zMet l D base yX6_greatestSum cX6_greatestSum 4 (some .int) zrX6_greatestSum [.inr a0] h (zQi D base Q) :=
  z_met (by decide +kernel) (Nat.le_of_ble_eq_true rfl) (fun p e s m args below meth c hc hn => rX6_greatestSum hc H)
def zrX6_limitedPixels : Room := { frames := 6, cells := 0, slots := 0, locals := 141 }
def mX6_limitedPixels_B17 (X4 : Int → Int → Zm → Prop) (X17 : Int → Int → Zm → Prop) (a0 : Nat) (x1 : Int) (x2 : Int) (x3 : Int) (h : Zm) (Q : Int → Zm → Prop) : Prop :=
  cGr h 16 a0 0 fun r3 => cGi h 14 r3 0 fun v4 => cLt x3 v4
  (cRc h 16 a0 <| mX6_separateAt a0 x3 x2 h fun h5 => cGr h5 16 a0 4 fun r6 => cGr h5 13 r6 1 fun r7 => cGr h5 16 a0 4 fun r8 => cGr h5 13 r8 2 fun r9 => mX6_sameValues r7 r9 h5 fun v11 h10 => cEq v11 0
    (X17 (x1 + 1) (x3 + 1) h10)
    (X17 x1 (x3 + 1) h10))
  (X4 x1 (x2 + 1) h)
def mX6_limitedPixels_H17 (X4 : Int → Int → Zm → Prop) (a0 : Nat) (x1 : Int) (x2 : Int) (x3 : Int) (h : Zm) (Q : Int → Zm → Prop) : Prop :=
  lfp2 (fun X17 x1 x3 h => mX6_limitedPixels_B17 X4 X17 a0 x1 x2 x3 h Q) x1 x3 h
def mX6_limitedPixels_B4 (X4 : Int → Int → Zm → Prop) (a0 : Nat) (x1 : Int) (x2 : Int) (h : Zm) (Q : Int → Zm → Prop) : Prop :=
  cGr h 16 a0 0 fun r1 => cGi h 14 r1 1 fun v2 => cLt x2 v2
  (mX6_limitedPixels_H17 X4 a0 x1 x2 0 h Q)
  (Q x1 h)
def mX6_limitedPixels_H4  (a0 : Nat) (x1 : Int) (x2 : Int) (h : Zm) (Q : Int → Zm → Prop) : Prop :=
  lfp2 (fun X4 x1 x2 h => mX6_limitedPixels_B4 X4 a0 x1 x2 h Q) x1 x2 h
def mX6_limitedPixels (a0 : Nat) (h : Zm) (Q : Int → Zm → Prop) : Prop :=
  mX6_limitedPixels_H4  a0 0 0 h Q
section
variable {p : Program} {l : Launch} {e : Env} {s : State} {m : MethodId} {args : Array Value} {below : List Frame} {meth : Method} {c : Code} {D : Zd} {base : Nat}
set_option maxRecDepth 100000 in
set_option maxHeartbeats 4000000 in
theorem rX6_limitedPixels_B17 (hc : zOk p s m args meth c D cX6_limitedPixels 4 RX6 (some .int)) {X4 : Int → Int → Zm → Prop} {X17 : Int → Int → Zm → Prop} {a0 : Nat} {x1 : Int} {x2 : Int} {x3 : Int} {h : Zm} {Q : Int → Zm → Prop} (hX4 : ∀ (x1 : Int) (x2 : Int) (h : Zm), X4 x1 x2 h → zW p l e zrX6_limitedPixels s m args below meth c D base 4 (MQ below (zQi D base Q) args s 0 0 (zFree base)) 0 0 4 [some (.inr a0), some (.inl x1), some (.inl x2), none] [] h) (hX17 : ∀ (x1 : Int) (x3 : Int) (h : Zm), X17 x1 x3 h → zW p l e zrX6_limitedPixels s m args below meth c D base 4 (MQ below (zQi D base Q) args s 0 0 (zFree base)) 0 0 17 [some (.inr a0), some (.inl x1), some (.inl x2), some (.inl x3)] [] h) (H : mX6_limitedPixels_B17 X4 X17 a0 x1 x2 x3 h Q) : zW p l e zrX6_limitedPixels s m args below meth c D base 4 (MQ below (zQi D base Q) args s 0 0 (zFree base)) 0 0 17 [some (.inr a0), some (.inl x1), some (.inl x2), some (.inl x3)] [] h := by
  unfold mX6_limitedPixels_B17 at H
  refine z_iload_n (pc := 17) hc dX6_limitedPixels_17 rfl ?_
  refine z_aload_n (pc := 18) hc dX6_limitedPixels_18 rfl ?_
  refine z_getR (pc := 19) hc dX6_limitedPixels_19 zf_RX6_12 rfl rfl rfl H (fun r3 H => ?_)
  refine z_getI (pc := 22) hc dX6_limitedPixels_22 zf_RX6_56 rfl rfl rfl H (fun v4 H => ?_)
  refine z_icmp_ge (tgt := 63) (pc := 25) hc dX6_limitedPixels_25 rfl H (fun H => ?_) (fun H => ?_)
  · refine z_aload_n (pc := 28) hc dX6_limitedPixels_28 rfl ?_
    refine z_iload_n (pc := 29) hc dX6_limitedPixels_29 rfl ?_
    refine z_iload_n (pc := 30) hc dX6_limitedPixels_30 rfl ?_
    refine z_calV0 (z_runV (pc := 31) (ci := 6) (T := TX6) (N := 8) hc dX6_limitedPixels_31 zw_RX6_225 (metX6_separateAt _ _ _ H.2) rfl (Nat.le_of_ble_eq_true rfl) ⟨Nat.le_of_ble_eq_true rfl, Nat.le_of_ble_eq_true rfl⟩ ⟨by exact Nat.le_of_ble_eq_true rfl, by exact Nat.le_of_ble_eq_true rfl⟩ rfl H.1) rfl ⟨rfl, rfl⟩ (fun h5 H => ?_)
    refine z_aload_n (pc := 34) hc dX6_limitedPixels_34 rfl ?_
    refine z_getR (pc := 35) hc dX6_limitedPixels_35 zf_RX6_34 rfl rfl rfl H (fun r6 H => ?_)
    refine z_getR (pc := 38) hc dX6_limitedPixels_38 zf_RX6_273 rfl rfl rfl H (fun r7 H => ?_)
    refine z_aload_n (pc := 41) hc dX6_limitedPixels_41 rfl ?_
    refine z_getR (pc := 42) hc dX6_limitedPixels_42 zf_RX6_34 rfl rfl rfl H (fun r8 H => ?_)
    refine z_getR (pc := 45) hc dX6_limitedPixels_45 zf_RX6_264 rfl rfl rfl H (fun r9 H => ?_)
    refine z_calI (z_runS (pc := 48) hc dX6_limitedPixels_48 zw_RX6_276 (metX6_sameValues _ _ _ H) rfl (Nat.le_of_ble_eq_true rfl) ⟨Nat.le_of_ble_eq_true rfl, Nat.le_of_ble_eq_true rfl⟩ ⟨by exact Nat.le_of_ble_eq_true rfl, by exact Nat.le_of_ble_eq_true rfl⟩) rfl ⟨rfl, rfl⟩ (fun v11 h10 H => ?_)
    refine z_if_ne (tgt := 57) (pc := 51) hc dX6_limitedPixels_51 rfl H (fun H => ?_) (fun H => ?_)
    · refine z_iinc (pc := 54) hc dX6_limitedPixels_54 (by decide) rfl (ρ' := [some (.inr a0), some (.inl (x1 + 1)), some (.inl x2), some (.inl x3)]) rfl ?_
      refine z_iinc (pc := 57) hc dX6_limitedPixels_57 (by decide) rfl (ρ' := [some (.inr a0), some (.inl (x1 + 1)), some (.inl x2), some (.inl (x3 + 1))]) rfl ?_
      refine z_goto (tgt := 17) (pc := 60) hc dX6_limitedPixels_60 rfl ?_
      exact hX17 _ _ _ H
    · refine z_iinc (pc := 57) hc dX6_limitedPixels_57 (by decide) rfl (ρ' := [some (.inr a0), some (.inl x1), some (.inl x2), some (.inl (x3 + 1))]) rfl ?_
      refine z_goto (tgt := 17) (pc := 60) hc dX6_limitedPixels_60 rfl ?_
      exact hX17 _ _ _ H
  · refine z_iinc (pc := 63) hc dX6_limitedPixels_63 (by decide) rfl (ρ' := [some (.inr a0), some (.inl x1), some (.inl (x2 + 1)), some (.inl x3)]) rfl ?_
    refine z_goto (tgt := 4) (pc := 66) hc dX6_limitedPixels_66 rfl ?_
    refine z_mask [true, true, true, false] (ρ' := [some (.inr a0), some (.inl x1), some (.inl (x2 + 1)), none]) rfl ?_
    exact hX4 _ _ _ H
theorem rX6_limitedPixels_H17 (hc : zOk p s m args meth c D cX6_limitedPixels 4 RX6 (some .int)) {X4 : Int → Int → Zm → Prop} {a0 : Nat} {x1 : Int} {x2 : Int} {x3 : Int} {h : Zm} {Q : Int → Zm → Prop} (hX4 : ∀ (x1 : Int) (x2 : Int) (h : Zm), X4 x1 x2 h → zW p l e zrX6_limitedPixels s m args below meth c D base 4 (MQ below (zQi D base Q) args s 0 0 (zFree base)) 0 0 4 [some (.inr a0), some (.inl x1), some (.inl x2), none] [] h) (H : mX6_limitedPixels_H17 X4 a0 x1 x2 x3 h Q) : zW p l e zrX6_limitedPixels s m args below meth c D base 4 (MQ below (zQi D base Q) args s 0 0 (zFree base)) 0 0 17 [some (.inr a0), some (.inl x1), some (.inl x2), some (.inl x3)] [] h :=
  H (fun x1 x3 h => zW p l e zrX6_limitedPixels s m args below meth c D base 4 (MQ below (zQi D base Q) args s 0 0 (zFree base)) 0 0 17 [some (.inr a0), some (.inl x1), some (.inl x2), some (.inl x3)] [] h) (fun x1 x3 h H => rX6_limitedPixels_B17 hc hX4 (fun _ _ _ q => q) H)
set_option maxRecDepth 100000 in
set_option maxHeartbeats 4000000 in
theorem rX6_limitedPixels_B4 (hc : zOk p s m args meth c D cX6_limitedPixels 4 RX6 (some .int)) {X4 : Int → Int → Zm → Prop} {a0 : Nat} {x1 : Int} {x2 : Int} {h : Zm} {Q : Int → Zm → Prop} (hX4 : ∀ (x1 : Int) (x2 : Int) (h : Zm), X4 x1 x2 h → zW p l e zrX6_limitedPixels s m args below meth c D base 4 (MQ below (zQi D base Q) args s 0 0 (zFree base)) 0 0 4 [some (.inr a0), some (.inl x1), some (.inl x2), none] [] h) (H : mX6_limitedPixels_B4 X4 a0 x1 x2 h Q) : zW p l e zrX6_limitedPixels s m args below meth c D base 4 (MQ below (zQi D base Q) args s 0 0 (zFree base)) 0 0 4 [some (.inr a0), some (.inl x1), some (.inl x2), none] [] h := by
  unfold mX6_limitedPixels_B4 at H
  refine z_iload_n (pc := 4) hc dX6_limitedPixels_4 rfl ?_
  refine z_aload_n (pc := 5) hc dX6_limitedPixels_5 rfl ?_
  refine z_getR (pc := 6) hc dX6_limitedPixels_6 zf_RX6_12 rfl rfl rfl H (fun r1 H => ?_)
  refine z_getI (pc := 9) hc dX6_limitedPixels_9 zf_RX6_59 rfl rfl rfl H (fun v2 H => ?_)
  refine z_icmp_ge (tgt := 69) (pc := 12) hc dX6_limitedPixels_12 rfl H (fun H => ?_) (fun H => ?_)
  · refine z_iconst (pc := 15) hc dX6_limitedPixels_15 ?_
    refine z_istore_n (pc := 16) hc dX6_limitedPixels_16 (by decide) (ρ' := [some (.inr a0), some (.inl x1), some (.inl x2), some (.inl 0)]) rfl ?_
    exact rX6_limitedPixels_H17 hc hX4 H
  · refine z_iload_n (pc := 69) hc dX6_limitedPixels_69 rfl ?_
    exact z_ireturn (pc := 70) hc dX6_limitedPixels_70 H
theorem rX6_limitedPixels_H4 (hc : zOk p s m args meth c D cX6_limitedPixels 4 RX6 (some .int))  {a0 : Nat} {x1 : Int} {x2 : Int} {h : Zm} {Q : Int → Zm → Prop}  (H : mX6_limitedPixels_H4  a0 x1 x2 h Q) : zW p l e zrX6_limitedPixels s m args below meth c D base 4 (MQ below (zQi D base Q) args s 0 0 (zFree base)) 0 0 4 [some (.inr a0), some (.inl x1), some (.inl x2), none] [] h :=
  H (fun x1 x2 h => zW p l e zrX6_limitedPixels s m args below meth c D base 4 (MQ below (zQi D base Q) args s 0 0 (zFree base)) 0 0 4 [some (.inr a0), some (.inl x1), some (.inl x2), none] [] h) (fun x1 x2 h H => rX6_limitedPixels_B4 hc (fun _ _ _ q => q) H)
set_option maxRecDepth 100000 in
set_option maxHeartbeats 4000000 in
theorem rX6_limitedPixels (hc : zOk p s m args meth c D cX6_limitedPixels 4 RX6 (some .int)) {a0 : Nat} {h : Zm} {Q : Int → Zm → Prop} (H : mX6_limitedPixels a0 h Q) : zW p l e zrX6_limitedPixels s m args below meth c D base 4 (MQ below (zQi D base Q) args s 0 0 (zFree base)) 0 0 0 [some (.inr a0), none, none, none] [] h := by
  unfold mX6_limitedPixels at H
  refine z_iconst (pc := 0) hc dX6_limitedPixels_0 ?_
  refine z_istore_n (pc := 1) hc dX6_limitedPixels_1 (by decide) (ρ' := [some (.inr a0), some (.inl 0), none, none]) rfl ?_
  refine z_iconst (pc := 2) hc dX6_limitedPixels_2 ?_
  refine z_istore_n (pc := 3) hc dX6_limitedPixels_3 (by decide) (ρ' := [some (.inr a0), some (.inl 0), some (.inl 0), none]) rfl ?_
  exact rX6_limitedPixels_H4 hc H
end
theorem metX6_limitedPixels (l : Launch) (D : Zd) (base : Nat) {a0 : Nat} {h : Zm} {Q : Int → Zm → Prop} (H : mX6_limitedPixels a0 h Q) : zMet l D base yX6_limitedPixels cX6_limitedPixels 4 (some .int) zrX6_limitedPixels [.inr a0] h (zQi D base Q) :=
  z_met (by decide +kernel) (Nat.le_of_ble_eq_true rfl) (fun p e s m args below meth c hc hn => rX6_limitedPixels hc H)
def zrX6_countInks : Room := { frames := 6, cells := 0, slots := 0, locals := 141 }
def mX6_countInks_B23 (X10 : Int → Zm → Prop) (X23 : Int → Zm → Prop) (a0 : Nat) (x1 : Int) (x2 : Int) (h : Zm) (Q : Zm → Prop) : Prop :=
  cGr h 16 a0 0 fun r5 => cGi h 14 r5 0 fun v6 => cLt x2 v6
  (cRc h 16 a0 <| mX6_separateAt a0 x2 x1 h fun h7 => cGr h7 16 a0 5 fun r8 => cGr h7 16 a0 4 fun r9 => cGr h7 13 r9 2 fun r10 => cRc h7 11 r8 <| mX1_add r8 r10 h7 fun h11 => X23 (x2 + 1) h11)
  (X10 (x1 + 1) h)
def mX6_countInks_H23 (X10 : Int → Zm → Prop) (a0 : Nat) (x1 : Int) (x2 : Int) (h : Zm) (Q : Zm → Prop) : Prop :=
  lfp1 (fun X23 x2 h => mX6_countInks_B23 X10 X23 a0 x1 x2 h Q) x2 h
def mX6_countInks_B10 (X10 : Int → Zm → Prop) (a0 : Nat) (x1 : Int) (h : Zm) (Q : Zm → Prop) : Prop :=
  cGr h 16 a0 0 fun r3 => cGi h 14 r3 1 fun v4 => cLt x1 v4
  (mX6_countInks_H23 X10 a0 x1 0 h Q)
  (Q h)
def mX6_countInks_H10  (a0 : Nat) (x1 : Int) (h : Zm) (Q : Zm → Prop) : Prop :=
  lfp1 (fun X10 x1 h => mX6_countInks_B10 X10 a0 x1 h Q) x1 h
def mX6_countInks (a0 : Nat) (h : Zm) (Q : Zm → Prop) : Prop :=
  cGr h 16 a0 5 fun r1 => cPi h 11 r1 1 0 fun h2 => mX6_countInks_H10  a0 0 h2 Q
section
variable {p : Program} {l : Launch} {e : Env} {s : State} {m : MethodId} {args : Array Value} {below : List Frame} {meth : Method} {c : Code} {D : Zd} {base : Nat}
set_option maxRecDepth 100000 in
set_option maxHeartbeats 4000000 in
theorem rX6_countInks_B23 (hc : zOk p s m args meth c D cX6_countInks 3 RX6 none) {X10 : Int → Zm → Prop} {X23 : Int → Zm → Prop} {a0 : Nat} {x1 : Int} {x2 : Int} {h : Zm} {Q : Zm → Prop} (hX10 : ∀ (x1 : Int) (h : Zm), X10 x1 h → zW p l e zrX6_countInks s m args below meth c D base 3 (MQ below (zQv D base Q) args s 0 0 (zFree base)) 0 0 10 [some (.inr a0), some (.inl x1), none] [] h) (hX23 : ∀ (x2 : Int) (h : Zm), X23 x2 h → zW p l e zrX6_countInks s m args below meth c D base 3 (MQ below (zQv D base Q) args s 0 0 (zFree base)) 0 0 23 [some (.inr a0), some (.inl x1), some (.inl x2)] [] h) (H : mX6_countInks_B23 X10 X23 a0 x1 x2 h Q) : zW p l e zrX6_countInks s m args below meth c D base 3 (MQ below (zQv D base Q) args s 0 0 (zFree base)) 0 0 23 [some (.inr a0), some (.inl x1), some (.inl x2)] [] h := by
  unfold mX6_countInks_B23 at H
  refine z_iload_n (pc := 23) hc dX6_countInks_23 rfl ?_
  refine z_aload_n (pc := 24) hc dX6_countInks_24 rfl ?_
  refine z_getR (pc := 25) hc dX6_countInks_25 zf_RX6_12 rfl rfl rfl H (fun r5 H => ?_)
  refine z_getI (pc := 28) hc dX6_countInks_28 zf_RX6_56 rfl rfl rfl H (fun v6 H => ?_)
  refine z_icmp_ge (tgt := 60) (pc := 31) hc dX6_countInks_31 rfl H (fun H => ?_) (fun H => ?_)
  · refine z_aload_n (pc := 34) hc dX6_countInks_34 rfl ?_
    refine z_iload_n (pc := 35) hc dX6_countInks_35 rfl ?_
    refine z_iload_n (pc := 36) hc dX6_countInks_36 rfl ?_
    refine z_calV0 (z_runV (pc := 37) (ci := 6) (T := TX6) (N := 8) hc dX6_countInks_37 zw_RX6_225 (metX6_separateAt _ _ _ H.2) rfl (Nat.le_of_ble_eq_true rfl) ⟨Nat.le_of_ble_eq_true rfl, Nat.le_of_ble_eq_true rfl⟩ ⟨by exact Nat.le_of_ble_eq_true rfl, by exact Nat.le_of_ble_eq_true rfl⟩ rfl H.1) rfl ⟨rfl, rfl⟩ (fun h7 H => ?_)
    refine z_aload_n (pc := 40) hc dX6_countInks_40 rfl ?_
    refine z_getR (pc := 41) hc dX6_countInks_41 zf_RX6_41 rfl rfl rfl H (fun r8 H => ?_)
    refine z_aload_n (pc := 44) hc dX6_countInks_44 rfl ?_
    refine z_getR (pc := 45) hc dX6_countInks_45 zf_RX6_34 rfl rfl rfl H (fun r9 H => ?_)
    refine z_getR (pc := 48) hc dX6_countInks_48 zf_RX6_264 rfl rfl rfl H (fun r10 H => ?_)
    refine z_calV0 (z_runV (pc := 51) (ci := 1) (T := TX1) (N := 2) hc dX6_countInks_51 zw_RX6_306 (metX1_add _ _ _ H.2) rfl (Nat.le_of_ble_eq_true rfl) ⟨Nat.le_of_ble_eq_true rfl, Nat.le_of_ble_eq_true rfl⟩ ⟨by exact Nat.le_of_ble_eq_true rfl, by exact Nat.le_of_ble_eq_true rfl⟩ rfl H.1) rfl ⟨rfl, rfl⟩ (fun h11 H => ?_)
    refine z_iinc (pc := 54) hc dX6_countInks_54 (by decide) rfl (ρ' := [some (.inr a0), some (.inl x1), some (.inl (x2 + 1))]) rfl ?_
    refine z_goto (tgt := 23) (pc := 57) hc dX6_countInks_57 rfl ?_
    exact hX23 _ _ H
  · refine z_iinc (pc := 60) hc dX6_countInks_60 (by decide) rfl (ρ' := [some (.inr a0), some (.inl (x1 + 1)), some (.inl x2)]) rfl ?_
    refine z_goto (tgt := 10) (pc := 63) hc dX6_countInks_63 rfl ?_
    refine z_mask [true, true, false] (ρ' := [some (.inr a0), some (.inl (x1 + 1)), none]) rfl ?_
    exact hX10 _ _ H
theorem rX6_countInks_H23 (hc : zOk p s m args meth c D cX6_countInks 3 RX6 none) {X10 : Int → Zm → Prop} {a0 : Nat} {x1 : Int} {x2 : Int} {h : Zm} {Q : Zm → Prop} (hX10 : ∀ (x1 : Int) (h : Zm), X10 x1 h → zW p l e zrX6_countInks s m args below meth c D base 3 (MQ below (zQv D base Q) args s 0 0 (zFree base)) 0 0 10 [some (.inr a0), some (.inl x1), none] [] h) (H : mX6_countInks_H23 X10 a0 x1 x2 h Q) : zW p l e zrX6_countInks s m args below meth c D base 3 (MQ below (zQv D base Q) args s 0 0 (zFree base)) 0 0 23 [some (.inr a0), some (.inl x1), some (.inl x2)] [] h :=
  H (fun x2 h => zW p l e zrX6_countInks s m args below meth c D base 3 (MQ below (zQv D base Q) args s 0 0 (zFree base)) 0 0 23 [some (.inr a0), some (.inl x1), some (.inl x2)] [] h) (fun x2 h H => rX6_countInks_B23 hc hX10 (fun _ _ q => q) H)
set_option maxRecDepth 100000 in
set_option maxHeartbeats 4000000 in
theorem rX6_countInks_B10 (hc : zOk p s m args meth c D cX6_countInks 3 RX6 none) {X10 : Int → Zm → Prop} {a0 : Nat} {x1 : Int} {h : Zm} {Q : Zm → Prop} (hX10 : ∀ (x1 : Int) (h : Zm), X10 x1 h → zW p l e zrX6_countInks s m args below meth c D base 3 (MQ below (zQv D base Q) args s 0 0 (zFree base)) 0 0 10 [some (.inr a0), some (.inl x1), none] [] h) (H : mX6_countInks_B10 X10 a0 x1 h Q) : zW p l e zrX6_countInks s m args below meth c D base 3 (MQ below (zQv D base Q) args s 0 0 (zFree base)) 0 0 10 [some (.inr a0), some (.inl x1), none] [] h := by
  unfold mX6_countInks_B10 at H
  refine z_iload_n (pc := 10) hc dX6_countInks_10 rfl ?_
  refine z_aload_n (pc := 11) hc dX6_countInks_11 rfl ?_
  refine z_getR (pc := 12) hc dX6_countInks_12 zf_RX6_12 rfl rfl rfl H (fun r3 H => ?_)
  refine z_getI (pc := 15) hc dX6_countInks_15 zf_RX6_59 rfl rfl rfl H (fun v4 H => ?_)
  refine z_icmp_ge (tgt := 66) (pc := 18) hc dX6_countInks_18 rfl H (fun H => ?_) (fun H => ?_)
  · refine z_iconst (pc := 21) hc dX6_countInks_21 ?_
    refine z_istore_n (pc := 22) hc dX6_countInks_22 (by decide) (ρ' := [some (.inr a0), some (.inl x1), some (.inl 0)]) rfl ?_
    exact rX6_countInks_H23 hc hX10 H
  · exact z_return (pc := 66) hc dX6_countInks_66 H
theorem rX6_countInks_H10 (hc : zOk p s m args meth c D cX6_countInks 3 RX6 none)  {a0 : Nat} {x1 : Int} {h : Zm} {Q : Zm → Prop}  (H : mX6_countInks_H10  a0 x1 h Q) : zW p l e zrX6_countInks s m args below meth c D base 3 (MQ below (zQv D base Q) args s 0 0 (zFree base)) 0 0 10 [some (.inr a0), some (.inl x1), none] [] h :=
  H (fun x1 h => zW p l e zrX6_countInks s m args below meth c D base 3 (MQ below (zQv D base Q) args s 0 0 (zFree base)) 0 0 10 [some (.inr a0), some (.inl x1), none] [] h) (fun x1 h H => rX6_countInks_B10 hc (fun _ _ q => q) H)
set_option maxRecDepth 100000 in
set_option maxHeartbeats 4000000 in
theorem rX6_countInks (hc : zOk p s m args meth c D cX6_countInks 3 RX6 none) {a0 : Nat} {h : Zm} {Q : Zm → Prop} (H : mX6_countInks a0 h Q) : zW p l e zrX6_countInks s m args below meth c D base 3 (MQ below (zQv D base Q) args s 0 0 (zFree base)) 0 0 0 [some (.inr a0), none, none] [] h := by
  unfold mX6_countInks at H
  refine z_aload_n (pc := 0) hc dX6_countInks_0 rfl ?_
  refine z_getR (pc := 1) hc dX6_countInks_1 zf_RX6_41 rfl rfl rfl H (fun r1 H => ?_)
  refine z_iconst (pc := 4) hc dX6_countInks_4 ?_
  refine z_putI (pc := 5) hc dX6_countInks_5 zf_RX6_283 rfl rfl rfl H (fun h2 H => ?_)
  refine z_iconst (pc := 8) hc dX6_countInks_8 ?_
  refine z_istore_n (pc := 9) hc dX6_countInks_9 (by decide) (ρ' := [some (.inr a0), some (.inl 0), none]) rfl ?_
  exact rX6_countInks_H10 hc H
end
theorem metX6_countInks (l : Launch) (D : Zd) (base : Nat) {a0 : Nat} {h : Zm} {Q : Zm → Prop} (H : mX6_countInks a0 h Q) : zMet l D base yX6_countInks cX6_countInks 3 none zrX6_countInks [.inr a0] h (zQv D base Q) :=
  z_met (by decide +kernel) (Nat.le_of_ble_eq_true rfl) (fun p e s m args below meth c hc hn => rX6_countInks hc H)
def zrX6_inkCount : Room := { frames := 7, cells := 0, slots := 0, locals := 163 }
def mX6_inkCount (a0 : Nat) (h : Zm) (Q : Int → Zm → Prop) : Prop :=
  cRc h 16 a0 <| mX6_countInks a0 h fun h1 => cGr h1 16 a0 5 fun r2 => cGi h1 11 r2 1 fun v3 => Q v3 h1
section
variable {p : Program} {l : Launch} {e : Env} {s : State} {m : MethodId} {args : Array Value} {below : List Frame} {meth : Method} {c : Code} {D : Zd} {base : Nat}
set_option maxRecDepth 100000 in
set_option maxHeartbeats 4000000 in
theorem rX6_inkCount (hc : zOk p s m args meth c D cX6_inkCount 1 RX6 (some .int)) {a0 : Nat} {h : Zm} {Q : Int → Zm → Prop} (H : mX6_inkCount a0 h Q) : zW p l e zrX6_inkCount s m args below meth c D base 1 (MQ below (zQi D base Q) args s 0 0 (zFree base)) 0 0 0 [some (.inr a0)] [] h := by
  unfold mX6_inkCount at H
  refine z_aload_n (pc := 0) hc dX6_inkCount_0 rfl ?_
  refine z_calV0 (z_runV (pc := 1) (ci := 6) (T := TX6) (N := 8) hc dX6_inkCount_1 zw_RX6_280 (metX6_countInks _ _ _ H.2) rfl (Nat.le_of_ble_eq_true rfl) ⟨Nat.le_of_ble_eq_true rfl, Nat.le_of_ble_eq_true rfl⟩ ⟨by exact Nat.le_of_ble_eq_true rfl, by exact Nat.le_of_ble_eq_true rfl⟩ rfl H.1) rfl ⟨rfl, rfl⟩ (fun h1 H => ?_)
  refine z_aload_n (pc := 4) hc dX6_inkCount_4 rfl ?_
  refine z_getR (pc := 5) hc dX6_inkCount_5 zf_RX6_41 rfl rfl rfl H (fun r2 H => ?_)
  refine z_getI (pc := 8) hc dX6_inkCount_8 zf_RX6_283 rfl rfl rfl H (fun v3 H => ?_)
  exact z_ireturn (pc := 11) hc dX6_inkCount_11 H
end
theorem metX6_inkCount (l : Launch) (D : Zd) (base : Nat) {a0 : Nat} {h : Zm} {Q : Int → Zm → Prop} (H : mX6_inkCount a0 h Q) : zMet l D base yX6_inkCount cX6_inkCount 1 (some .int) zrX6_inkCount [.inr a0] h (zQi D base Q) :=
  z_met (by decide +kernel) (Nat.le_of_ble_eq_true rfl) (fun p e s m args below meth c hc hn => rX6_inkCount hc H)
