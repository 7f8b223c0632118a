/-! printed by gen.py: X7_nodeInfo X7_nodeCount X7_set X7_setKnockout X7_isPlate X7_isValue X7_pointAt X7_valueOf X7_setPoint X7_removePoint X7_curve X7_inverse X7_simplify -/
def zrX7_nodeInfo : Room := { frames := 3, cells := 0, slots := 0, locals := 68 }
def mX7_nodeInfo (a0 : Nat) (x1 : Int) (x2 : Int) (h : Zm) (Q : Int → Zm → Prop) : Prop :=
  cRc h 17 a0 <| mX7_isNode a0 x1 h fun v2 h1 => cEq v2 0
  (Q (-1) h1)
  (mX7_in x2 0 5 h1 fun v4 h3 => cEq v4 0
    (Q (-1) h3)
    (InR x2 ∧ 
      (x2 = 0 → (cRc h3 17 a0 <| mX7_of a0 x1 0 h3 fun v6 h5 => Q v6 h5)) ∧ 
      (x2 = 1 → (cRc h3 17 a0 <| mX7_of a0 x1 1 h3 fun v8 h7 => Q v8 h7)) ∧ 
      (x2 = 2 → (cRc h3 17 a0 <| mX7_depth a0 x1 h3 fun v10 h9 => Q v10 h9)) ∧ 
      (x2 = 3 → (cGr h3 17 a0 0 fun r11 => cLd h3 1 r11 8 fun v12 => cRc h3 17 a0 <| mX7_children a0 x1 (v12 + 1) h3 fun v14 h13 => Q v14 h13)) ∧ 
      (x2 = 4 → (cRc h3 17 a0 <| mX7_countBelow a0 x1 h3 fun v16 h15 => Q v16 h15)) ∧
      ((x2 < 0 ∨ 4 < x2) → (cEq x1 0
          (Q 0 h3)
          (cRc h3 17 a0 <| mX7_of a0 x1 1 h3 fun v18 h17 => cRc h17 17 a0 <| mX7_of a0 x1 2 h17 fun v20 h19 => cRc h19 17 a0 <| mX7_children a0 v18 v20 h19 fun v22 h21 => Q v22 h21)))))
section
variable {p : Program} {l : Launch} {e : Env} {s : State} {m : MethodId} {args : Array Value} {below : List Frame} {meth : Method} {c : Code} {D : Zd} {base : Nat}
set_option maxRecDepth 100000 in
set_option maxHeartbeats 4000000 in
theorem rX7_nodeInfo (hc : zOk p s m args meth c D cX7_nodeInfo 3 RX7 (some .int)) {a0 : Nat} {x1 : Int} {x2 : Int} {h : Zm} {Q : Int → Zm → Prop} (H : mX7_nodeInfo a0 x1 x2 h Q) : zW p l e zrX7_nodeInfo s m args below meth c D base 3 (MQ below (zQi D base Q) args s 0 0 (zFree base)) 0 0 0 [some (.inr a0), some (.inl x1), some (.inl x2)] [] h := by
  unfold mX7_nodeInfo at H
  refine z_aload_n (pc := 0) hc dX7_nodeInfo_0 rfl ?_
  refine z_iload_n (pc := 1) hc dX7_nodeInfo_1 rfl ?_
  refine z_calI (z_runV (pc := 2) (ci := 7) (T := TX7) (N := 20) hc dX7_nodeInfo_2 zw_RX7_88 (metX7_isNode _ _ _ H.2) rfl (Nat.le_of_ble_eq_true rfl) ⟨Nat.le_of_ble_eq_true rfl, Nat.le_of_ble_eq_true rfl⟩ ⟨by exact Nat.le_of_ble_eq_true rfl, by exact Nat.le_of_ble_eq_true rfl⟩ rfl H.1) rfl ⟨rfl, rfl⟩ (fun v2 h1 H => ?_)
  refine z_if_eq (tgt := 17) (pc := 5) hc dX7_nodeInfo_5 rfl H (fun H => ?_) (fun H => ?_)
  · refine z_iconst (pc := 17) hc dX7_nodeInfo_17 ?_
    exact z_ireturn (pc := 18) hc dX7_nodeInfo_18 H
  · refine z_iload_n (pc := 8) hc dX7_nodeInfo_8 rfl ?_
    refine z_iconst (pc := 9) hc dX7_nodeInfo_9 ?_
    refine z_iconst (pc := 10) hc dX7_nodeInfo_10 ?_
    refine z_calI (z_runS (pc := 11) hc dX7_nodeInfo_11 zw_RX7_73 (metX7_in _ _ _ H) rfl (Nat.le_of_ble_eq_true rfl) ⟨Nat.le_of_ble_eq_true rfl, Nat.le_of_ble_eq_true rfl⟩ ⟨by exact Nat.le_of_ble_eq_true rfl, by exact Nat.le_of_ble_eq_true rfl⟩) rfl ⟨rfl, rfl⟩ (fun v4 h3 H => ?_)
    refine z_if_ne (tgt := 19) (pc := 14) hc dX7_nodeInfo_14 rfl H (fun H => ?_) (fun H => ?_)
    · refine z_iconst (pc := 17) hc dX7_nodeInfo_17 ?_
      exact z_ireturn (pc := 18) hc dX7_nodeInfo_18 H
    · refine z_iload_n (pc := 19) hc dX7_nodeInfo_19 rfl ?_
      obtain ⟨Hx, Hs0, Hs1, Hs2, Hs3, Hs4, Hd⟩ := H
      refine z_switch (td := 97) (tgts := [56, 63, 70, 76, 91]) (pc := 20) hc dX7_nodeInfo_20 Hx rfl rfl rfl (fun e => ?_) (And.intro (fun e => ?_) (And.intro (fun e => ?_) (And.intro (fun e => ?_) (And.intro (fun e => ?_) (And.intro (fun e => ?_) trivial)))))
      · have H := Hd e
        refine z_iload_n (pc := 97) hc dX7_nodeInfo_97 rfl ?_
        refine z_if_ne (tgt := 105) (pc := 98) hc dX7_nodeInfo_98 rfl H (fun H => ?_) (fun H => ?_)
        · refine z_iconst (pc := 101) hc dX7_nodeInfo_101 ?_
          refine z_goto (tgt := 121) (pc := 102) hc dX7_nodeInfo_102 rfl ?_
          exact z_ireturn (pc := 121) hc dX7_nodeInfo_121 H
        · refine z_aload_n (pc := 105) hc dX7_nodeInfo_105 rfl ?_
          refine z_aload_n (pc := 106) hc dX7_nodeInfo_106 rfl ?_
          refine z_iload_n (pc := 107) hc dX7_nodeInfo_107 rfl ?_
          refine z_iconst (pc := 108) hc dX7_nodeInfo_108 ?_
          refine z_calI (z_runV (pc := 109) (ci := 7) (T := TX7) (N := 20) hc dX7_nodeInfo_109 zw_RX7_77 (metX7_of _ _ _ H.2) rfl (Nat.le_of_ble_eq_true rfl) ⟨Nat.le_of_ble_eq_true rfl, Nat.le_of_ble_eq_true rfl⟩ ⟨by exact Nat.le_of_ble_eq_true rfl, by exact Nat.le_of_ble_eq_true rfl⟩ rfl H.1) rfl ⟨rfl, rfl⟩ (fun v18 h17 H => ?_)
          refine z_aload_n (pc := 112) hc dX7_nodeInfo_112 rfl ?_
          refine z_iload_n (pc := 113) hc dX7_nodeInfo_113 rfl ?_
          refine z_iconst (pc := 114) hc dX7_nodeInfo_114 ?_
          refine z_calI (z_runV (pc := 115) (ci := 7) (T := TX7) (N := 20) hc dX7_nodeInfo_115 zw_RX7_77 (metX7_of _ _ _ H.2) rfl (Nat.le_of_ble_eq_true rfl) ⟨Nat.le_of_ble_eq_true rfl, Nat.le_of_ble_eq_true rfl⟩ ⟨by exact Nat.le_of_ble_eq_true rfl, by exact Nat.le_of_ble_eq_true rfl⟩ rfl H.1) rfl ⟨rfl, rfl⟩ (fun v20 h19 H => ?_)
          refine z_calI (z_runV (pc := 118) (ci := 7) (T := TX7) (N := 20) hc dX7_nodeInfo_118 zw_RX7_105 (metX7_children _ _ _ H.2) rfl (Nat.le_of_ble_eq_true rfl) ⟨Nat.le_of_ble_eq_true rfl, Nat.le_of_ble_eq_true rfl⟩ ⟨by exact Nat.le_of_ble_eq_true rfl, by exact Nat.le_of_ble_eq_true rfl⟩ rfl H.1) rfl ⟨rfl, rfl⟩ (fun v22 h21 H => ?_)
          exact z_ireturn (pc := 121) hc dX7_nodeInfo_121 H
      · have H := Hs0 (by omega)
        refine z_aload_n (pc := 56) hc dX7_nodeInfo_56 rfl ?_
        refine z_iload_n (pc := 57) hc dX7_nodeInfo_57 rfl ?_
        refine z_iconst (pc := 58) hc dX7_nodeInfo_58 ?_
        refine z_calI (z_runV (pc := 59) (ci := 7) (T := TX7) (N := 20) hc dX7_nodeInfo_59 zw_RX7_77 (metX7_of _ _ _ H.2) rfl (Nat.le_of_ble_eq_true rfl) ⟨Nat.le_of_ble_eq_true rfl, Nat.le_of_ble_eq_true rfl⟩ ⟨by exact Nat.le_of_ble_eq_true rfl, by exact Nat.le_of_ble_eq_true rfl⟩ rfl H.1) rfl ⟨rfl, rfl⟩ (fun v6 h5 H => ?_)
        exact z_ireturn (pc := 62) hc dX7_nodeInfo_62 H
      · have H := Hs1 (by omega)
        refine z_aload_n (pc := 63) hc dX7_nodeInfo_63 rfl ?_
        refine z_iload_n (pc := 64) hc dX7_nodeInfo_64 rfl ?_
        refine z_iconst (pc := 65) hc dX7_nodeInfo_65 ?_
        refine z_calI (z_runV (pc := 66) (ci := 7) (T := TX7) (N := 20) hc dX7_nodeInfo_66 zw_RX7_77 (metX7_of _ _ _ H.2) rfl (Nat.le_of_ble_eq_true rfl) ⟨Nat.le_of_ble_eq_true rfl, Nat.le_of_ble_eq_true rfl⟩ ⟨by exact Nat.le_of_ble_eq_true rfl, by exact Nat.le_of_ble_eq_true rfl⟩ rfl H.1) rfl ⟨rfl, rfl⟩ (fun v8 h7 H => ?_)
        exact z_ireturn (pc := 69) hc dX7_nodeInfo_69 H
      · have H := Hs2 (by omega)
        refine z_aload_n (pc := 70) hc dX7_nodeInfo_70 rfl ?_
        refine z_iload_n (pc := 71) hc dX7_nodeInfo_71 rfl ?_
        refine z_calI (z_runV (pc := 72) (ci := 7) (T := TX7) (N := 20) hc dX7_nodeInfo_72 zw_RX7_81 (metX7_depth _ _ _ H.2) rfl (Nat.le_of_ble_eq_true rfl) ⟨Nat.le_of_ble_eq_true rfl, Nat.le_of_ble_eq_true rfl⟩ ⟨by exact Nat.le_of_ble_eq_true rfl, by exact Nat.le_of_ble_eq_true rfl⟩ rfl H.1) rfl ⟨rfl, rfl⟩ (fun v10 h9 H => ?_)
        exact z_ireturn (pc := 75) hc dX7_nodeInfo_75 H
      · have H := Hs3 (by omega)
        refine z_aload_n (pc := 76) hc dX7_nodeInfo_76 rfl ?_
        refine z_iload_n (pc := 77) hc dX7_nodeInfo_77 rfl ?_
        refine z_aload_n (pc := 78) hc dX7_nodeInfo_78 rfl ?_
        refine z_getR (pc := 79) hc dX7_nodeInfo_79 zf_RX7_7 rfl rfl rfl H (fun r11 H => ?_)
        refine z_bipush (pc := 82) hc dX7_nodeInfo_82 (by decide) ?_
        refine z_iaload (pc := 84) hc dX7_nodeInfo_84 H (fun v12 H => ?_)
        refine z_iconst (pc := 85) hc dX7_nodeInfo_85 ?_
        refine z_iadd (pc := 86) hc dX7_nodeInfo_86 ?_
        refine z_calI (z_runV (pc := 87) (ci := 7) (T := TX7) (N := 20) hc dX7_nodeInfo_87 zw_RX7_105 (metX7_children _ _ _ H.2) rfl (Nat.le_of_ble_eq_true rfl) ⟨Nat.le_of_ble_eq_true rfl, Nat.le_of_ble_eq_true rfl⟩ ⟨by exact Nat.le_of_ble_eq_true rfl, by exact Nat.le_of_ble_eq_true rfl⟩ rfl H.1) rfl ⟨rfl, rfl⟩ (fun v14 h13 H => ?_)
        exact z_ireturn (pc := 90) hc dX7_nodeInfo_90 H
      · have H := Hs4 (by omega)
        refine z_aload_n (pc := 91) hc dX7_nodeInfo_91 rfl ?_
        refine z_iload_n (pc := 92) hc dX7_nodeInfo_92 rfl ?_
        refine z_calI (z_runV (pc := 93) (ci := 7) (T := TX7) (N := 20) hc dX7_nodeInfo_93 zw_RX7_108 (metX7_countBelow _ _ _ H.2) rfl (Nat.le_of_ble_eq_true rfl) ⟨Nat.le_of_ble_eq_true rfl, Nat.le_of_ble_eq_true rfl⟩ ⟨by exact Nat.le_of_ble_eq_true rfl, by exact Nat.le_of_ble_eq_true rfl⟩ rfl H.1) rfl ⟨rfl, rfl⟩ (fun v16 h15 H => ?_)
        exact z_ireturn (pc := 96) hc dX7_nodeInfo_96 H
end
theorem metX7_nodeInfo (l : Launch) (D : Zd) (base : Nat) {a0 : Nat} {x1 : Int} {x2 : Int} {h : Zm} {Q : Int → Zm → Prop} (H : mX7_nodeInfo a0 x1 x2 h Q) : zMet l D base yX7_nodeInfo cX7_nodeInfo 3 (some .int) zrX7_nodeInfo [.inr a0, .inl x1, .inl x2] h (zQi D base Q) :=
  z_met (by decide +kernel) (Nat.le_of_ble_eq_true rfl) (fun p e s m args below meth c hc hn => rX7_nodeInfo hc H)
def zrX7_nodeCount : Room := { frames := 3, cells := 0, slots := 0, locals := 68 }
def mX7_nodeCount (a0 : Nat) (h : Zm) (Q : Int → Zm → Prop) : Prop :=
  cRc h 17 a0 <| mX7_countBelow a0 0 h fun v2 h1 => Q (v2 + 1) h1
section
variable {p : Program} {l : Launch} {e : Env} {s : State} {m : MethodId} {args : Array Value} {below : List Frame} {meth : Method} {c : Code} {D : Zd} {base : Nat}
set_option maxRecDepth 100000 in
set_option maxHeartbeats 4000000 in
theorem rX7_nodeCount (hc : zOk p s m args meth c D cX7_nodeCount 1 RX7 (some .int)) {a0 : Nat} {h : Zm} {Q : Int → Zm → Prop} (H : mX7_nodeCount a0 h Q) : zW p l e zrX7_nodeCount s m args below meth c D base 1 (MQ below (zQi D base Q) args s 0 0 (zFree base)) 0 0 0 [some (.inr a0)] [] h := by
  unfold mX7_nodeCount at H
  refine z_aload_n (pc := 0) hc dX7_nodeCount_0 rfl ?_
  refine z_iconst (pc := 1) hc dX7_nodeCount_1 ?_
  refine z_calI (z_runV (pc := 2) (ci := 7) (T := TX7) (N := 20) hc dX7_nodeCount_2 zw_RX7_108 (metX7_countBelow _ _ _ H.2) rfl (Nat.le_of_ble_eq_true rfl) ⟨Nat.le_of_ble_eq_true rfl, Nat.le_of_ble_eq_true rfl⟩ ⟨by exact Nat.le_of_ble_eq_true rfl, by exact Nat.le_of_ble_eq_true rfl⟩ rfl H.1) rfl ⟨rfl, rfl⟩ (fun v2 h1 H => ?_)
  refine z_iconst (pc := 5) hc dX7_nodeCount_5 ?_
  refine z_iadd (pc := 6) hc dX7_nodeCount_6 ?_
  exact z_ireturn (pc := 7) hc dX7_nodeCount_7 H
end
theorem metX7_nodeCount (l : Launch) (D : Zd) (base : Nat) {a0 : Nat} {h : Zm} {Q : Int → Zm → Prop} (H : mX7_nodeCount a0 h Q) : zMet l D base yX7_nodeCount cX7_nodeCount 1 (some .int) zrX7_nodeCount [.inr a0] h (zQi D base Q) :=
  z_met (by decide +kernel) (Nat.le_of_ble_eq_true rfl) (fun p e s m args below meth c hc hn => rX7_nodeCount hc H)
def zrX7_set : Room := { frames := 2, cells := 0, slots := 0, locals := 45 }
def mX7_set_J34  (a0 : Nat) (x1 : Int) (x2 : Int) (s0 : Int) (s1 : Int) (s2 : Int) (h : Zm) (Q : Int → Zm → Prop) : Prop :=
  mX7_in s0 s1 s2 h fun v4 h3 => cEq v4 0
  (Q (-1) h3)
  (cRc h3 17 a0 <| mX7_becomes a0 (2 + x1) x2 h3 fun v6 h5 => Q v6 h5)
def mX7_set (a0 : Nat) (x1 : Int) (x2 : Int) (h : Zm) (Q : Int → Zm → Prop) : Prop :=
  mX7_in x1 0 2 h fun v2 h1 => cEq v2 0
  (Q (-1) h1)
  (cEq x1 0
    (mX7_set_J34  a0 x1 x2 x2 0 100 h1 Q)
    (cEq x1 1
      (mX7_set_J34  a0 x1 x2 x2 0 255 h1 Q)
      (mX7_set_J34  a0 x1 x2 x2 0 1785 h1 Q)))
section
variable {p : Program} {l : Launch} {e : Env} {s : State} {m : MethodId} {args : Array Value} {below : List Frame} {meth : Method} {c : Code} {D : Zd} {base : Nat}
set_option maxRecDepth 100000 in
set_option maxHeartbeats 4000000 in
theorem rX7_set_J34 (hc : zOk p s m args meth c D cX7_set 3 RX7 (some .int))  {a0 : Nat} {x1 : Int} {x2 : Int} {s0 : Int} {s1 : Int} {s2 : Int} {h : Zm} {Q : Int → Zm → Prop}  (H : mX7_set_J34  a0 x1 x2 s0 s1 s2 h Q) : zW p l e zrX7_set s m args below meth c D base 3 (MQ below (zQi D base Q) args s 0 0 (zFree base)) 0 0 34 [some (.inr a0), some (.inl x1), some (.inl x2)] [.inl s2, .inl s1, .inl s0] h := by
  unfold mX7_set_J34 at H
  refine z_calI (z_runS (pc := 34) hc dX7_set_34 zw_RX7_73 (metX7_in _ _ _ H) rfl (Nat.le_of_ble_eq_true rfl) ⟨Nat.le_of_ble_eq_true rfl, Nat.le_of_ble_eq_true rfl⟩ ⟨by exact Nat.le_of_ble_eq_true rfl, by exact Nat.le_of_ble_eq_true rfl⟩) rfl ⟨rfl, rfl⟩ (fun v4 h3 H => ?_)
  refine z_if_ne (tgt := 42) (pc := 37) hc dX7_set_37 rfl H (fun H => ?_) (fun H => ?_)
  · refine z_iconst (pc := 40) hc dX7_set_40 ?_
    exact z_ireturn (pc := 41) hc dX7_set_41 H
  · refine z_aload_n (pc := 42) hc dX7_set_42 rfl ?_
    refine z_iconst (pc := 43) hc dX7_set_43 ?_
    refine z_iload_n (pc := 44) hc dX7_set_44 rfl ?_
    refine z_iadd (pc := 45) hc dX7_set_45 ?_
    refine z_iload_n (pc := 46) hc dX7_set_46 rfl ?_
    refine z_calI (z_runV (pc := 47) (ci := 7) (T := TX7) (N := 20) hc dX7_set_47 zw_RX7_111 (metX7_becomes _ _ _ H.2) rfl (Nat.le_of_ble_eq_true rfl) ⟨Nat.le_of_ble_eq_true rfl, Nat.le_of_ble_eq_true rfl⟩ ⟨by exact Nat.le_of_ble_eq_true rfl, by exact Nat.le_of_ble_eq_true rfl⟩ rfl H.1) rfl ⟨rfl, rfl⟩ (fun v6 h5 H => ?_)
    exact z_ireturn (pc := 50) hc dX7_set_50 H
set_option maxRecDepth 100000 in
set_option maxHeartbeats 4000000 in
theorem rX7_set (hc : zOk p s m args meth c D cX7_set 3 RX7 (some .int)) {a0 : Nat} {x1 : Int} {x2 : Int} {h : Zm} {Q : Int → Zm → Prop} (H : mX7_set a0 x1 x2 h Q) : zW p l e zrX7_set s m args below meth c D base 3 (MQ below (zQi D base Q) args s 0 0 (zFree base)) 0 0 0 [some (.inr a0), some (.inl x1), some (.inl x2)] [] h := by
  unfold mX7_set at H
  refine z_iload_n (pc := 0) hc dX7_set_0 rfl ?_
  refine z_iconst (pc := 1) hc dX7_set_1 ?_
  refine z_iconst (pc := 2) hc dX7_set_2 ?_
  refine z_calI (z_runS (pc := 3) hc dX7_set_3 zw_RX7_73 (metX7_in _ _ _ H) rfl (Nat.le_of_ble_eq_true rfl) ⟨Nat.le_of_ble_eq_true rfl, Nat.le_of_ble_eq_true rfl⟩ ⟨by exact Nat.le_of_ble_eq_true rfl, by exact Nat.le_of_ble_eq_true rfl⟩) rfl ⟨rfl, rfl⟩ (fun v2 h1 H => ?_)
  refine z_if_eq (tgt := 40) (pc := 6) hc dX7_set_6 rfl H (fun H => ?_) (fun H => ?_)
  · refine z_iconst (pc := 40) hc dX7_set_40 ?_
    exact z_ireturn (pc := 41) hc dX7_set_41 H
  · refine z_iload_n (pc := 9) hc dX7_set_9 rfl ?_
    refine z_iconst (pc := 10) hc dX7_set_10 ?_
    refine z_iload_n (pc := 11) hc dX7_set_11 rfl ?_
    refine z_if_ne (tgt := 20) (pc := 12) hc dX7_set_12 rfl H (fun H => ?_) (fun H => ?_)
    · refine z_bipush (pc := 15) hc dX7_set_15 (by decide) ?_
      refine z_goto (tgt := 34) (pc := 17) hc dX7_set_17 rfl ?_
      exact rX7_set_J34 hc H
    · refine z_iload_n (pc := 20) hc dX7_set_20 rfl ?_
      refine z_iconst (pc := 21) hc dX7_set_21 ?_
      refine z_icmp_ne (tgt := 31) (pc := 22) hc dX7_set_22 rfl H (fun H => ?_) (fun H => ?_)
      · refine z_sipush (pc := 25) hc dX7_set_25 (by decide) ?_
        refine z_goto (tgt := 34) (pc := 28) hc dX7_set_28 rfl ?_
        exact rX7_set_J34 hc H
      · refine z_sipush (pc := 31) hc dX7_set_31 (by decide) ?_
        exact rX7_set_J34 hc H
end
theorem metX7_set (l : Launch) (D : Zd) (base : Nat) {a0 : Nat} {x1 : Int} {x2 : Int} {h : Zm} {Q : Int → Zm → Prop} (H : mX7_set a0 x1 x2 h Q) : zMet l D base yX7_set cX7_set 3 (some .int) zrX7_set [.inr a0, .inl x1, .inl x2] h (zQi D base Q) :=
  z_met (by decide +kernel) (Nat.le_of_ble_eq_true rfl) (fun p e s m args below meth c hc hn => rX7_set hc H)
def zrX7_setKnockout : Room := { frames := 2, cells := 0, slots := 0, locals := 45 }
def mX7_setKnockout (a0 : Nat) (x1 : Int) (x2 : Int) (h : Zm) (Q : Int → Zm → Prop) : Prop :=
  mX7_in x1 0 2 h fun v2 h1 => cEq v2 0
  (Q (-1) h1)
  (mX7_in x2 0 1 h1 fun v4 h3 => cEq v4 0
    (Q (-1) h3)
    (cRc h3 17 a0 <| mX7_becomes a0 (5 + x1) x2 h3 fun v6 h5 => Q v6 h5))
section
variable {p : Program} {l : Launch} {e : Env} {s : State} {m : MethodId} {args : Array Value} {below : List Frame} {meth : Method} {c : Code} {D : Zd} {base : Nat}
set_option maxRecDepth 100000 in
set_option maxHeartbeats 4000000 in
theorem rX7_setKnockout (hc : zOk p s m args meth c D cX7_setKnockout 3 RX7 (some .int)) {a0 : Nat} {x1 : Int} {x2 : Int} {h : Zm} {Q : Int → Zm → Prop} (H : mX7_setKnockout a0 x1 x2 h Q) : zW p l e zrX7_setKnockout s m args below meth c D base 3 (MQ below (zQi D base Q) args s 0 0 (zFree base)) 0 0 0 [some (.inr a0), some (.inl x1), some (.inl x2)] [] h := by
  unfold mX7_setKnockout at H
  refine z_iload_n (pc := 0) hc dX7_setKnockout_0 rfl ?_
  refine z_iconst (pc := 1) hc dX7_setKnockout_1 ?_
  refine z_iconst (pc := 2) hc dX7_setKnockout_2 ?_
  refine z_calI (z_runS (pc := 3) hc dX7_setKnockout_3 zw_RX7_73 (metX7_in _ _ _ H) rfl (Nat.le_of_ble_eq_true rfl) ⟨Nat.le_of_ble_eq_true rfl, Nat.le_of_ble_eq_true rfl⟩ ⟨by exact Nat.le_of_ble_eq_true rfl, by exact Nat.le_of_ble_eq_true rfl⟩) rfl ⟨rfl, rfl⟩ (fun v2 h1 H => ?_)
  refine z_if_eq (tgt := 29) (pc := 6) hc dX7_setKnockout_6 rfl H (fun H => ?_) (fun H => ?_)
  · refine z_iconst (pc := 29) hc dX7_setKnockout_29 ?_
    exact z_ireturn (pc := 30) hc dX7_setKnockout_30 H
  · refine z_iload_n (pc := 9) hc dX7_setKnockout_9 rfl ?_
    refine z_iconst (pc := 10) hc dX7_setKnockout_10 ?_
    refine z_iconst (pc := 11) hc dX7_setKnockout_11 ?_
    refine z_calI (z_runS (pc := 12) hc dX7_setKnockout_12 zw_RX7_73 (metX7_in _ _ _ H) rfl (Nat.le_of_ble_eq_true rfl) ⟨Nat.le_of_ble_eq_true rfl, Nat.le_of_ble_eq_true rfl⟩ ⟨by exact Nat.le_of_ble_eq_true rfl, by exact Nat.le_of_ble_eq_true rfl⟩) rfl ⟨rfl, rfl⟩ (fun v4 h3 H => ?_)
    refine z_if_eq (tgt := 29) (pc := 15) hc dX7_setKnockout_15 rfl H (fun H => ?_) (fun H => ?_)
    · refine z_iconst (pc := 29) hc dX7_setKnockout_29 ?_
      exact z_ireturn (pc := 30) hc dX7_setKnockout_30 H
    · refine z_aload_n (pc := 18) hc dX7_setKnockout_18 rfl ?_
      refine z_iconst (pc := 19) hc dX7_setKnockout_19 ?_
      refine z_iload_n (pc := 20) hc dX7_setKnockout_20 rfl ?_
      refine z_iadd (pc := 21) hc dX7_setKnockout_21 ?_
      refine z_iload_n (pc := 22) hc dX7_setKnockout_22 rfl ?_
      refine z_calI (z_runV (pc := 23) (ci := 7) (T := TX7) (N := 20) hc dX7_setKnockout_23 zw_RX7_111 (metX7_becomes _ _ _ H.2) rfl (Nat.le_of_ble_eq_true rfl) ⟨Nat.le_of_ble_eq_true rfl, Nat.le_of_ble_eq_true rfl⟩ ⟨by exact Nat.le_of_ble_eq_true rfl, by exact Nat.le_of_ble_eq_true rfl⟩ rfl H.1) rfl ⟨rfl, rfl⟩ (fun v6 h5 H => ?_)
      refine z_goto (tgt := 30) (pc := 26) hc dX7_setKnockout_26 rfl ?_
      exact z_ireturn (pc := 30) hc dX7_setKnockout_30 H
end
theorem metX7_setKnockout (l : Launch) (D : Zd) (base : Nat) {a0 : Nat} {x1 : Int} {x2 : Int} {h : Zm} {Q : Int → Zm → Prop} (H : mX7_setKnockout a0 x1 x2 h Q) : zMet l D base yX7_setKnockout cX7_setKnockout 3 (some .int) zrX7_setKnockout [.inr a0, .inl x1, .inl x2] h (zQi D base Q) :=
  z_met (by decide +kernel) (Nat.le_of_ble_eq_true rfl) (fun p e s m args below meth c hc hn => rX7_setKnockout hc H)
def zrX7_isPlate : Room := { frames := 1, cells := 0, slots := 0, locals := 22 }
def mX7_isPlate (x0 : Int) (h : Zm) (Q : Int → Zm → Prop) : Prop :=
  mX7_in x0 0 6 h fun v2 h1 => cBr v2 (Q v2 h1)
section
variable {p : Program} {l : Launch} {e : Env} {s : State} {m : MethodId} {args : Array Value} {below : List Frame} {meth : Method} {c : Code} {D : Zd} {base : Nat}
set_option maxRecDepth 100000 in
set_option maxHeartbeats 4000000 in
theorem rX7_isPlate (hc : zOk p s m args meth c D cX7_isPlate 1 RX7 (some .boolean)) {x0 : Int} {h : Zm} {Q : Int → Zm → Prop} (H : mX7_isPlate x0 h Q) : zW p l e zrX7_isPlate s m args below meth c D base 1 (MQ below (zQi D base Q) args s 0 0 (zFree base)) 0 0 0 [some (.inl x0)] [] h := by
  unfold mX7_isPlate at H
  refine z_iload_n (pc := 0) hc dX7_isPlate_0 rfl ?_
  refine z_iconst (pc := 1) hc dX7_isPlate_1 ?_
  refine z_bipush (pc := 2) hc dX7_isPlate_2 (by decide) ?_
  refine z_calI (z_runS (pc := 4) hc dX7_isPlate_4 zw_RX7_73 (metX7_in _ _ _ H) rfl (Nat.le_of_ble_eq_true rfl) ⟨Nat.le_of_ble_eq_true rfl, Nat.le_of_ble_eq_true rfl⟩ ⟨by exact Nat.le_of_ble_eq_true rfl, by exact Nat.le_of_ble_eq_true rfl⟩) rfl ⟨rfl, rfl⟩ (fun v2 h1 H => ?_)
  exact z_zreturn (pc := 7) hc dX7_isPlate_7 H
end
theorem metX7_isPlate (l : Launch) (D : Zd) (base : Nat) {x0 : Int} {h : Zm} {Q : Int → Zm → Prop} (H : mX7_isPlate x0 h Q) : zMet l D base yX7_isPlate cX7_isPlate 1 (some .boolean) zrX7_isPlate [.inl x0] h (zQi D base Q) :=
  z_met (by decide +kernel) (Nat.le_of_ble_eq_true rfl) (fun p e s m args below meth c hc hn => rX7_isPlate hc H)
def zrX7_isValue : Room := { frames := 1, cells := 0, slots := 0, locals := 22 }
def mX7_isValue (x0 : Int) (h : Zm) (Q : Int → Zm → Prop) : Prop :=
  mX7_in x0 0 255 h fun v2 h1 => cBr v2 (Q v2 h1)
section
variable {p : Program} {l : Launch} {e : Env} {s : State} {m : MethodId} {args : Array Value} {below : List Frame} {meth : Method} {c : Code} {D : Zd} {base : Nat}
set_option maxRecDepth 100000 in
set_option maxHeartbeats 4000000 in
theorem rX7_isValue (hc : zOk p s m args meth c D cX7_isValue 1 RX7 (some .boolean)) {x0 : Int} {h : Zm} {Q : Int → Zm → Prop} (H : mX7_isValue x0 h Q) : zW p l e zrX7_isValue s m args below meth c D base 1 (MQ below (zQi D base Q) args s 0 0 (zFree base)) 0 0 0 [some (.inl x0)] [] h := by
  unfold mX7_isValue at H
  refine z_iload_n (pc := 0) hc dX7_isValue_0 rfl ?_
  refine z_iconst (pc := 1) hc dX7_isValue_1 ?_
  refine z_sipush (pc := 2) hc dX7_isValue_2 (by decide) ?_
  refine z_calI (z_runS (pc := 5) hc dX7_isValue_5 zw_RX7_73 (metX7_in _ _ _ H) rfl (Nat.le_of_ble_eq_true rfl) ⟨Nat.le_of_ble_eq_true rfl, Nat.le_of_ble_eq_true rfl⟩ ⟨by exact Nat.le_of_ble_eq_true rfl, by exact Nat.le_of_ble_eq_true rfl⟩) rfl ⟨rfl, rfl⟩ (fun v2 h1 H => ?_)
  exact z_zreturn (pc := 8) hc dX7_isValue_8 H
end
theorem metX7_isValue (l : Launch) (D : Zd) (base : Nat) {x0 : Int} {h : Zm} {Q : Int → Zm → Prop} (H : mX7_isValue x0 h Q) : zMet l D base yX7_isValue cX7_isValue 1 (some .boolean) zrX7_isValue [.inl x0] h (zQi D base Q) :=
  z_met (by decide +kernel) (Nat.le_of_ble_eq_true rfl) (fun p e s m args below meth c hc hn => rX7_isValue hc H)
def zrX7_pointAt : Room := { frames := 0, cells := 0, slots := 0, locals := 0 }
def mX7_pointAt_B11 (X11 : Int → Zm → Prop) (a0 : Nat) (x2 : Int) (x3 : Int) (x4 : Int) (h : Zm) (Q : Int → Zm → Prop) : Prop :=
  cGr h 17 a0 0 fun r1 => cLd h 1 r1 ((x3 + 1) + (2 * x4)) fun v2 => cLt v2 x2
  (X11 (x4 + 1) h)
  (Q x4 h)
def mX7_pointAt_H11  (a0 : Nat) (x2 : Int) (x3 : Int) (x4 : Int) (h : Zm) (Q : Int → Zm → Prop) : Prop :=
  lfp1 (fun X11 x4 h => mX7_pointAt_B11 X11 a0 x2 x3 x4 h Q) x4 h
def mX7_pointAt (a0 : Nat) (x1 : Int) (x2 : Int) (h : Zm) (Q : Int → Zm → Prop) : Prop :=
  mX7_pointAt_H11  a0 x2 (9 + (17 * x1)) 0 h Q
section
variable {p : Program} {l : Launch} {e : Env} {s : State} {m : MethodId} {args : Array Value} {below : List Frame} {meth : Method} {c : Code} {D : Zd} {base : Nat}
set_option maxRecDepth 100000 in
set_option maxHeartbeats 4000000 in
theorem rX7_pointAt_B11 (hc : zOk p s m args meth c D cX7_pointAt 5 RX7 (some .int)) {X11 : Int → Zm → Prop} {a0 : Nat} {x2 : Int} {x3 : Int} {x4 : Int} {h : Zm} {Q : Int → Zm → Prop} (hX11 : ∀ (x4 : Int) (h : Zm), X11 x4 h → zW p l e zrX7_pointAt s m args below meth c D base 5 (MQ below (zQi D base Q) args s 0 0 (zFree base)) 0 0 11 [some (.inr a0), none, some (.inl x2), some (.inl x3), some (.inl x4)] [] h) (H : mX7_pointAt_B11 X11 a0 x2 x3 x4 h Q) : zW p l e zrX7_pointAt s m args below meth c D base 5 (MQ below (zQi D base Q) args s 0 0 (zFree base)) 0 0 11 [some (.inr a0), none, some (.inl x2), some (.inl x3), some (.inl x4)] [] h := by
  unfold mX7_pointAt_B11 at H
  refine z_aload_n (pc := 11) hc dX7_pointAt_11 rfl ?_
  refine z_getR (pc := 12) hc dX7_pointAt_12 zf_RX7_7 rfl rfl rfl H (fun r1 H => ?_)
  refine z_iload_n (pc := 15) hc dX7_pointAt_15 rfl ?_
  refine z_iconst (pc := 16) hc dX7_pointAt_16 ?_
  refine z_iadd (pc := 17) hc dX7_pointAt_17 ?_
  refine z_iconst (pc := 18) hc dX7_pointAt_18 ?_
  refine z_iload (pc := 19) hc dX7_pointAt_19 rfl ?_
  refine z_imul (pc := 21) hc dX7_pointAt_21 ?_
  refine z_iadd (pc := 22) hc dX7_pointAt_22 ?_
  refine z_iaload (pc := 23) hc dX7_pointAt_23 H (fun v2 H => ?_)
  refine z_iload_n (pc := 24) hc dX7_pointAt_24 rfl ?_
  refine z_icmp_ge (tgt := 34) (pc := 25) hc dX7_pointAt_25 rfl H (fun H => ?_) (fun H => ?_)
  · refine z_iinc (pc := 28) hc dX7_pointAt_28 (by decide) rfl (ρ' := [some (.inr a0), none, some (.inl x2), some (.inl x3), some (.inl (x4 + 1))]) rfl ?_
    refine z_goto (tgt := 11) (pc := 31) hc dX7_pointAt_31 rfl ?_
    exact hX11 _ _ H
  · refine z_iload (pc := 34) hc dX7_pointAt_34 rfl ?_
    exact z_ireturn (pc := 36) hc dX7_pointAt_36 H
theorem rX7_pointAt_H11 (hc : zOk p s m args meth c D cX7_pointAt 5 RX7 (some .int))  {a0 : Nat} {x2 : Int} {x3 : Int} {x4 : Int} {h : Zm} {Q : Int → Zm → Prop}  (H : mX7_pointAt_H11  a0 x2 x3 x4 h Q) : zW p l e zrX7_pointAt s m args below meth c D base 5 (MQ below (zQi D base Q) args s 0 0 (zFree base)) 0 0 11 [some (.inr a0), none, some (.inl x2), some (.inl x3), some (.inl x4)] [] h :=
  H (fun x4 h => zW p l e zrX7_pointAt s m args below meth c D base 5 (MQ below (zQi D base Q) args s 0 0 (zFree base)) 0 0 11 [some (.inr a0), none, some (.inl x2), some (.inl x3), some (.inl x4)] [] h) (fun x4 h H => rX7_pointAt_B11 hc (fun _ _ q => q) H)
set_option maxRecDepth 100000 in
set_option maxHeartbeats 4000000 in
theorem rX7_pointAt (hc : zOk p s m args meth c D cX7_pointAt 5 RX7 (some .int)) {a0 : Nat} {x1 : Int} {x2 : Int} {h : Zm} {Q : Int → Zm → Prop} (H : mX7_pointAt a0 x1 x2 h Q) : zW p l e zrX7_pointAt s m args below meth c D base 5 (MQ below (zQi D base Q) args s 0 0 (zFree base)) 0 0 0 [some (.inr a0), some (.inl x1), some (.inl x2), none, none] [] h := by
  unfold mX7_pointAt at H
  refine z_bipush (pc := 0) hc dX7_pointAt_0 (by decide) ?_
  refine z_bipush (pc := 2) hc dX7_pointAt_2 (by decide) ?_
  refine z_iload_n (pc := 4) hc dX7_pointAt_4 rfl ?_
  refine z_imul (pc := 5) hc dX7_pointAt_5 ?_
  refine z_iadd (pc := 6) hc dX7_pointAt_6 ?_
  refine z_istore_n (pc := 7) hc dX7_pointAt_7 (by decide) (ρ' := [some (.inr a0), some (.inl x1), some (.inl x2), some (.inl (9 + (17 * x1))), none]) rfl ?_
  refine z_iconst (pc := 8) hc dX7_pointAt_8 ?_
  refine z_istore (pc := 9) hc dX7_pointAt_9 (by decide) (ρ' := [some (.inr a0), some (.inl x1), some (.inl x2), some (.inl (9 + (17 * x1))), some (.inl 0)]) rfl ?_
  refine z_mask [true, false, true, true, true] (ρ' := [some (.inr a0), none, some (.inl x2), some (.inl (9 + (17 * x1))), some (.inl 0)]) rfl ?_
  exact rX7_pointAt_H11 hc H
end
theorem metX7_pointAt (l : Launch) (D : Zd) (base : Nat) {a0 : Nat} {x1 : Int} {x2 : Int} {h : Zm} {Q : Int → Zm → Prop} (H : mX7_pointAt a0 x1 x2 h Q) : zMet l D base yX7_pointAt cX7_pointAt 5 (some .int) zrX7_pointAt [.inr a0, .inl x1, .inl x2] h (zQi D base Q) :=
  z_met (by decide +kernel) (Nat.le_of_ble_eq_true rfl) (fun p e s m args below meth c hc hn => rX7_pointAt hc H)
def zrX7_valueOf : Room := { frames := 1, cells := 0, slots := 0, locals := 24 }
def mX7_valueOf (a0 : Nat) (x1 : Int) (x2 : Int) (h : Zm) (Q : Int → Zm → Prop) : Prop :=
  cRc h 17 a0 <| mX7_pointAt a0 x1 x2 h fun v2 h1 => cGr h1 17 a0 0 fun r3 => cLd h1 1 r3 (((9 + (17 * x1)) + 1) + (2 * v2)) fun v4 => cGr h1 17 a0 0 fun r5 => cLd h1 1 r5 (((9 + (17 * x1)) + 2) + (2 * v2)) fun v6 => cEq v4 x2
  (Q v6 h1)
  (cGr h1 17 a0 0 fun r7 => cLd h1 1 r7 (((9 + (17 * x1)) + (2 * v2)) - 1) fun v8 => cGr h1 17 a0 0 fun r9 => cLd h1 1 r9 ((9 + (17 * x1)) + (2 * v2)) fun v10 => cDiv ((v6 - v10) * (x2 - v8)) (v4 - v8) fun v11 => Q (v10 + v11) h1)
section
variable {p : Program} {l : Launch} {e : Env} {s : State} {m : MethodId} {args : Array Value} {below : List Frame} {meth : Method} {c : Code} {D : Zd} {base : Nat}
set_option maxRecDepth 100000 in
set_option maxHeartbeats 4000000 in
theorem rX7_valueOf (hc : zOk p s m args meth c D cX7_valueOf 9 RX7 (some .int)) {a0 : Nat} {x1 : Int} {x2 : Int} {h : Zm} {Q : Int → Zm → Prop} (H : mX7_valueOf a0 x1 x2 h Q) : zW p l e zrX7_valueOf s m args below meth c D base 9 (MQ below (zQi D base Q) args s 0 0 (zFree base)) 0 0 0 [some (.inr a0), some (.inl x1), some (.inl x2), none, none, none, none, none, none] [] h := by
  unfold mX7_valueOf at H
  refine z_bipush (pc := 0) hc dX7_valueOf_0 (by decide) ?_
  refine z_bipush (pc := 2) hc dX7_valueOf_2 (by decide) ?_
  refine z_iload_n (pc := 4) hc dX7_valueOf_4 rfl ?_
  refine z_imul (pc := 5) hc dX7_valueOf_5 ?_
  refine z_iadd (pc := 6) hc dX7_valueOf_6 ?_
  refine z_istore_n (pc := 7) hc dX7_valueOf_7 (by decide) (ρ' := [some (.inr a0), some (.inl x1), some (.inl x2), some (.inl (9 + (17 * x1))), none, none, none, none, none]) rfl ?_
  refine z_aload_n (pc := 8) hc dX7_valueOf_8 rfl ?_
  refine z_iload_n (pc := 9) hc dX7_valueOf_9 rfl ?_
  refine z_iload_n (pc := 10) hc dX7_valueOf_10 rfl ?_
  refine z_calI (z_runV (pc := 11) (ci := 7) (T := TX7) (N := 20) hc dX7_valueOf_11 zw_RX7_114 (metX7_pointAt _ _ _ H.2) rfl (Nat.le_of_ble_eq_true rfl) ⟨Nat.le_of_ble_eq_true rfl, Nat.le_of_ble_eq_true rfl⟩ ⟨by exact Nat.le_of_ble_eq_true rfl, by exact Nat.le_of_ble_eq_true rfl⟩ rfl H.1) rfl ⟨rfl, rfl⟩ (fun v2 h1 H => ?_)
  refine z_istore (pc := 14) hc dX7_valueOf_14 (by decide) (ρ' := [some (.inr a0), some (.inl x1), some (.inl x2), some (.inl (9 + (17 * x1))), some (.inl v2), none, none, none, none]) rfl ?_
  refine z_aload_n (pc := 16) hc dX7_valueOf_16 rfl ?_
  refine z_getR (pc := 17) hc dX7_valueOf_17 zf_RX7_7 rfl rfl rfl H (fun r3 H => ?_)
  refine z_iload_n (pc := 20) hc dX7_valueOf_20 rfl ?_
  refine z_iconst (pc := 21) hc dX7_valueOf_21 ?_
  refine z_iadd (pc := 22) hc dX7_valueOf_22 ?_
  refine z_iconst (pc := 23) hc dX7_valueOf_23 ?_
  refine z_iload (pc := 24) hc dX7_valueOf_24 rfl ?_
  refine z_imul (pc := 26) hc dX7_valueOf_26 ?_
  refine z_iadd (pc := 27) hc dX7_valueOf_27 ?_
  refine z_iaload (pc := 28) hc dX7_valueOf_28 H (fun v4 H => ?_)
  refine z_istore (pc := 29) hc dX7_valueOf_29 (by decide) (ρ' := [some (.inr a0), some (.inl x1), some (.inl x2), some (.inl (9 + (17 * x1))), some (.inl v2), some (.inl v4), none, none, none]) rfl ?_
  refine z_aload_n (pc := 31) hc dX7_valueOf_31 rfl ?_
  refine z_getR (pc := 32) hc dX7_valueOf_32 zf_RX7_7 rfl rfl rfl H (fun r5 H => ?_)
  refine z_iload_n (pc := 35) hc dX7_valueOf_35 rfl ?_
  refine z_iconst (pc := 36) hc dX7_valueOf_36 ?_
  refine z_iadd (pc := 37) hc dX7_valueOf_37 ?_
  refine z_iconst (pc := 38) hc dX7_valueOf_38 ?_
  refine z_iload (pc := 39) hc dX7_valueOf_39 rfl ?_
  refine z_imul (pc := 41) hc dX7_valueOf_41 ?_
  refine z_iadd (pc := 42) hc dX7_valueOf_42 ?_
  refine z_iaload (pc := 43) hc dX7_valueOf_43 H (fun v6 H => ?_)
  refine z_istore (pc := 44) hc dX7_valueOf_44 (by decide) (ρ' := [some (.inr a0), some (.inl x1), some (.inl x2), some (.inl (9 + (17 * x1))), some (.inl v2), some (.inl v4), some (.inl v6), none, none]) rfl ?_
  refine z_iload (pc := 46) hc dX7_valueOf_46 rfl ?_
  refine z_iload_n (pc := 48) hc dX7_valueOf_48 rfl ?_
  refine z_icmp_ne (tgt := 55) (pc := 49) hc dX7_valueOf_49 rfl H (fun H => ?_) (fun H => ?_)
  · refine z_iload (pc := 52) hc dX7_valueOf_52 rfl ?_
    exact z_ireturn (pc := 54) hc dX7_valueOf_54 H
  · refine z_aload_n (pc := 55) hc dX7_valueOf_55 rfl ?_
    refine z_getR (pc := 56) hc dX7_valueOf_56 zf_RX7_7 rfl rfl rfl H (fun r7 H => ?_)
    refine z_iload_n (pc := 59) hc dX7_valueOf_59 rfl ?_
    refine z_iconst (pc := 60) hc dX7_valueOf_60 ?_
    refine z_iload (pc := 61) hc dX7_valueOf_61 rfl ?_
    refine z_imul (pc := 63) hc dX7_valueOf_63 ?_
    refine z_iadd (pc := 64) hc dX7_valueOf_64 ?_
    refine z_iconst (pc := 65) hc dX7_valueOf_65 ?_
    refine z_isub (pc := 66) hc dX7_valueOf_66 ?_
    refine z_iaload (pc := 67) hc dX7_valueOf_67 H (fun v8 H => ?_)
    refine z_istore (pc := 68) hc dX7_valueOf_68 (by decide) (ρ' := [some (.inr a0), some (.inl x1), some (.inl x2), some (.inl (9 + (17 * x1))), some (.inl v2), some (.inl v4), some (.inl v6), some (.inl v8), none]) rfl ?_
    refine z_aload_n (pc := 70) hc dX7_valueOf_70 rfl ?_
    refine z_getR (pc := 71) hc dX7_valueOf_71 zf_RX7_7 rfl rfl rfl H (fun r9 H => ?_)
    refine z_iload_n (pc := 74) hc dX7_valueOf_74 rfl ?_
    refine z_iconst (pc := 75) hc dX7_valueOf_75 ?_
    refine z_iload (pc := 76) hc dX7_valueOf_76 rfl ?_
    refine z_imul (pc := 78) hc dX7_valueOf_78 ?_
    refine z_iadd (pc := 79) hc dX7_valueOf_79 ?_
    refine z_iaload (pc := 80) hc dX7_valueOf_80 H (fun v10 H => ?_)
    refine z_istore (pc := 81) hc dX7_valueOf_81 (by decide) (ρ' := [some (.inr a0), some (.inl x1), some (.inl x2), some (.inl (9 + (17 * x1))), some (.inl v2), some (.inl v4), some (.inl v6), some (.inl v8), some (.inl v10)]) rfl ?_
    refine z_iload (pc := 83) hc dX7_valueOf_83 rfl ?_
    refine z_iload (pc := 85) hc dX7_valueOf_85 rfl ?_
    refine z_iload (pc := 87) hc dX7_valueOf_87 rfl ?_
    refine z_isub (pc := 89) hc dX7_valueOf_89 ?_
    refine z_iload_n (pc := 90) hc dX7_valueOf_90 rfl ?_
    refine z_iload (pc := 91) hc dX7_valueOf_91 rfl ?_
    refine z_isub (pc := 93) hc dX7_valueOf_93 ?_
    refine z_imul (pc := 94) hc dX7_valueOf_94 ?_
    refine z_iload (pc := 95) hc dX7_valueOf_95 rfl ?_
    refine z_iload (pc := 97) hc dX7_valueOf_97 rfl ?_
    refine z_isub (pc := 99) hc dX7_valueOf_99 ?_
    refine z_idiv (pc := 100) hc dX7_valueOf_100 H (fun v11 H => ?_)
    refine z_iadd (pc := 101) hc dX7_valueOf_101 ?_
    exact z_ireturn (pc := 102) hc dX7_valueOf_102 H
end
theorem metX7_valueOf (l : Launch) (D : Zd) (base : Nat) {a0 : Nat} {x1 : Int} {x2 : Int} {h : Zm} {Q : Int → Zm → Prop} (H : mX7_valueOf a0 x1 x2 h Q) : zMet l D base yX7_valueOf cX7_valueOf 9 (some .int) zrX7_valueOf [.inr a0, .inl x1, .inl x2] h (zQi D base Q) :=
  z_met (by decide +kernel) (Nat.le_of_ble_eq_true rfl) (fun p e s m args below meth c hc hn => rX7_valueOf hc H)
def zrX7_setPoint : Room := { frames := 2, cells := 0, slots := 0, locals := 42 }
def mX7_setPoint_J232  (a0 : Nat) (x3 : Int) (x4 : Int) (x6 : Int) (h : Zm) (Q : Int → Zm → Prop) : Prop :=
  cGr h 17 a0 0 fun r18 => cSt h r18 ((x4 + 2) + (2 * x6)) x3 fun h19 => cGr h19 17 a0 0 fun r20 => cLd h19 1 r20 x4 fun v21 => cRc h19 17 a0 <| mX7_ends a0 v21 h19 fun v23 h22 => Q v23 h22
def mX7_setPoint_B169 (X169 : Int → Zm → Prop) (a0 : Nat) (x2 : Int) (x3 : Int) (x4 : Int) (x6 : Int) (x9 : Int) (h : Zm) (Q : Int → Zm → Prop) : Prop :=
  cLe x9 (2 * x6)
  (cGr h 17 a0 0 fun r24 => cLd h 1 r24 x4 fun v25 => cSt h r24 x4 (v25 + 1) fun h26 => cGr h26 17 a0 0 fun r27 => cSt h26 r27 ((x4 + 1) + (2 * x6)) x2 fun h28 => mX7_setPoint_J232  a0 x3 x4 x6 h28 Q)
  (cGr h 17 a0 0 fun r29 => cGr h 17 a0 0 fun r30 => cLd h 1 r30 (x4 + x9) fun v31 => cSt h r29 ((x4 + 2) + x9) v31 fun h32 => X169 (x9 + (-1)) h32)
def mX7_setPoint_H169  (a0 : Nat) (x2 : Int) (x3 : Int) (x4 : Int) (x6 : Int) (x9 : Int) (h : Zm) (Q : Int → Zm → Prop) : Prop :=
  lfp1 (fun X169 x9 h => mX7_setPoint_B169 X169 a0 x2 x3 x4 x6 x9 h Q) x9 h
def mX7_setPoint_J154  (a0 : Nat) (x2 : Int) (x3 : Int) (x4 : Int) (x5 : Int) (x6 : Int) (x7 : Int) (h : Zm) (Q : Int → Zm → Prop) : Prop :=
  cRc h 17 a0 <| mX7_hold a0 h fun h17 => cEq x7 0
  (mX7_setPoint_H169  a0 x2 x3 x4 x6 (2 * x5) h17 Q)
  (mX7_setPoint_J232  a0 x3 x4 x6 h17 Q)
def mX7_setPoint_J111  (a0 : Nat) (x2 : Int) (x3 : Int) (x4 : Int) (x5 : Int) (x6 : Int) (x7 : Int) (x8 : Int) (h : Zm) (Q : Int → Zm → Prop) : Prop :=
  cLt x8 x5
  (cGr h 17 a0 0 fun r15 => cLd h 1 r15 ((x4 + 2) + (2 * x8)) fun v16 => cLt v16 x3
    (Q (-2) h)
    (cEq x7 0
      (cEq x5 8
        (Q (-3) h)
        (mX7_setPoint_J154  a0 x2 x3 x4 x5 x6 x7 h Q))
      (mX7_setPoint_J154  a0 x2 x3 x4 x5 x6 x7 h Q)))
  (cEq x7 0
    (cEq x5 8
      (Q (-3) h)
      (mX7_setPoint_J154  a0 x2 x3 x4 x5 x6 x7 h Q))
    (mX7_setPoint_J154  a0 x2 x3 x4 x5 x6 x7 h Q))
def mX7_setPoint_J88  (a0 : Nat) (x2 : Int) (x3 : Int) (x4 : Int) (x5 : Int) (x6 : Int) (x7 : Int) (s0 : Int) (h : Zm) (Q : Int → Zm → Prop) : Prop :=
  cLe x6 0
  (mX7_setPoint_J111  a0 x2 x3 x4 x5 x6 x7 s0 h Q)
  (cGr h 17 a0 0 fun r13 => cLd h 1 r13 (x4 + (2 * x6)) fun v14 => cLe v14 x3
    (mX7_setPoint_J111  a0 x2 x3 x4 x5 x6 x7 s0 h Q)
    (Q (-2) h))
def mX7_setPoint_J72  (a0 : Nat) (x2 : Int) (x3 : Int) (x4 : Int) (x5 : Int) (x6 : Int) (s0 : Int) (h : Zm) (Q : Int → Zm → Prop) : Prop :=
  cEq s0 0
  (mX7_setPoint_J88  a0 x2 x3 x4 x5 x6 s0 x6 h Q)
  (mX7_setPoint_J88  a0 x2 x3 x4 x5 x6 s0 (x6 + 1) h Q)
def mX7_setPoint (a0 : Nat) (x1 : Int) (x2 : Int) (x3 : Int) (h : Zm) (Q : Int → Zm → Prop) : Prop :=
  mX7_isPlate x1 h fun v2 h1 => cEq v2 0
  (Q (-1) h1)
  (mX7_isValue x2 h1 fun v4 h3 => cEq v4 0
    (Q (-1) h3)
    (mX7_isValue x3 h3 fun v6 h5 => cEq v6 0
      (Q (-1) h5)
      (cGr h5 17 a0 0 fun r7 => cLd h5 1 r7 (9 + (17 * x1)) fun v8 => cRc h5 17 a0 <| mX7_pointAt a0 x1 x2 h5 fun v10 h9 => cGr h9 17 a0 0 fun r11 => cLd h9 1 r11 (((9 + (17 * x1)) + 1) + (2 * v10)) fun v12 => cEq v12 x2
        (mX7_setPoint_J72  a0 x2 x3 (9 + (17 * x1)) v8 v10 1 h9 Q)
        (mX7_setPoint_J72  a0 x2 x3 (9 + (17 * x1)) v8 v10 0 h9 Q))))
section
variable {p : Program} {l : Launch} {e : Env} {s : State} {m : MethodId} {args : Array Value} {below : List Frame} {meth : Method} {c : Code} {D : Zd} {base : Nat}
set_option maxRecDepth 100000 in
set_option maxHeartbeats 4000000 in
theorem rX7_setPoint_J232 (hc : zOk p s m args meth c D cX7_setPoint 10 RX7 (some .int))  {a0 : Nat} {x3 : Int} {x4 : Int} {x6 : Int} {h : Zm} {Q : Int → Zm → Prop}  (H : mX7_setPoint_J232  a0 x3 x4 x6 h Q) : zW p l e zrX7_setPoint s m args below meth c D base 10 (MQ below (zQi D base Q) args s 0 0 (zFree base)) 0 0 232 [some (.inr a0), none, none, some (.inl x3), some (.inl x4), none, some (.inl x6), none, none, none] [] h := by
  unfold mX7_setPoint_J232 at H
  refine z_aload_n (pc := 232) hc dX7_setPoint_232 rfl ?_
  refine z_getR (pc := 233) hc dX7_setPoint_233 zf_RX7_7 rfl rfl rfl H (fun r18 H => ?_)
  refine z_iload (pc := 236) hc dX7_setPoint_236 rfl ?_
  refine z_iconst (pc := 238) hc dX7_setPoint_238 ?_
  refine z_iadd (pc := 239) hc dX7_setPoint_239 ?_
  refine z_iconst (pc := 240) hc dX7_setPoint_240 ?_
  refine z_iload (pc := 241) hc dX7_setPoint_241 rfl ?_
  refine z_imul (pc := 243) hc dX7_setPoint_243 ?_
  refine z_iadd (pc := 244) hc dX7_setPoint_244 ?_
  refine z_iload_n (pc := 245) hc dX7_setPoint_245 rfl ?_
  refine z_iastore (pc := 246) hc dX7_setPoint_246 H (fun h19 H => ?_)
  refine z_aload_n (pc := 247) hc dX7_setPoint_247 rfl ?_
  refine z_aload_n (pc := 248) hc dX7_setPoint_248 rfl ?_
  refine z_getR (pc := 249) hc dX7_setPoint_249 zf_RX7_7 rfl rfl rfl H (fun r20 H => ?_)
  refine z_iload (pc := 252) hc dX7_setPoint_252 rfl ?_
  refine z_iaload (pc := 254) hc dX7_setPoint_254 H (fun v21 H => ?_)
  refine z_calI (z_runV (pc := 255) (ci := 7) (T := TX7) (N := 20) hc dX7_setPoint_255 zw_RX7_69 (metX7_ends _ _ _ H.2) rfl (Nat.le_of_ble_eq_true rfl) ⟨Nat.le_of_ble_eq_true rfl, Nat.le_of_ble_eq_true rfl⟩ ⟨by exact Nat.le_of_ble_eq_true rfl, by exact Nat.le_of_ble_eq_true rfl⟩ rfl H.1) rfl ⟨rfl, rfl⟩ (fun v23 h22 H => ?_)
  exact z_ireturn (pc := 258) hc dX7_setPoint_258 H
set_option maxRecDepth 100000 in
set_option maxHeartbeats 4000000 in
theorem rX7_setPoint_B169 (hc : zOk p s m args meth c D cX7_setPoint 10 RX7 (some .int)) {X169 : Int → Zm → Prop} {a0 : Nat} {x2 : Int} {x3 : Int} {x4 : Int} {x6 : Int} {x9 : Int} {h : Zm} {Q : Int → Zm → Prop} (hX169 : ∀ (x9 : Int) (h : Zm), X169 x9 h → zW p l e zrX7_setPoint s m args below meth c D base 10 (MQ below (zQi D base Q) args s 0 0 (zFree base)) 0 0 169 [some (.inr a0), none, some (.inl x2), some (.inl x3), some (.inl x4), none, some (.inl x6), none, none, some (.inl x9)] [] h) (H : mX7_setPoint_B169 X169 a0 x2 x3 x4 x6 x9 h Q) : zW p l e zrX7_setPoint s m args below meth c D base 10 (MQ below (zQi D base Q) args s 0 0 (zFree base)) 0 0 169 [some (.inr a0), none, some (.inl x2), some (.inl x3), some (.inl x4), none, some (.inl x6), none, none, some (.inl x9)] [] h := by
  unfold mX7_setPoint_B169 at H
  refine z_iload (pc := 169) hc dX7_setPoint_169 rfl ?_
  refine z_iconst (pc := 171) hc dX7_setPoint_171 ?_
  refine z_iload (pc := 172) hc dX7_setPoint_172 rfl ?_
  refine z_imul (pc := 174) hc dX7_setPoint_174 ?_
  refine z_icmp_le (tgt := 206) (pc := 175) hc dX7_setPoint_175 rfl H (fun H => ?_) (fun H => ?_)
  · refine z_aload_n (pc := 206) hc dX7_setPoint_206 rfl ?_
    refine z_getR (pc := 207) hc dX7_setPoint_207 zf_RX7_7 rfl rfl rfl H (fun r24 H => ?_)
    refine z_iload (pc := 210) hc dX7_setPoint_210 rfl ?_
    refine z_dup2 (pc := 212) hc dX7_setPoint_212 ?_
    refine z_iaload (pc := 213) hc dX7_setPoint_213 H (fun v25 H => ?_)
    refine z_iconst (pc := 214) hc dX7_setPoint_214 ?_
    refine z_iadd (pc := 215) hc dX7_setPoint_215 ?_
    refine z_iastore (pc := 216) hc dX7_setPoint_216 H (fun h26 H => ?_)
    refine z_aload_n (pc := 217) hc dX7_setPoint_217 rfl ?_
    refine z_getR (pc := 218) hc dX7_setPoint_218 zf_RX7_7 rfl rfl rfl H (fun r27 H => ?_)
    refine z_iload (pc := 221) hc dX7_setPoint_221 rfl ?_
    refine z_iconst (pc := 223) hc dX7_setPoint_223 ?_
    refine z_iadd (pc := 224) hc dX7_setPoint_224 ?_
    refine z_iconst (pc := 225) hc dX7_setPoint_225 ?_
    refine z_iload (pc := 226) hc dX7_setPoint_226 rfl ?_
    refine z_imul (pc := 228) hc dX7_setPoint_228 ?_
    refine z_iadd (pc := 229) hc dX7_setPoint_229 ?_
    refine z_iload_n (pc := 230) hc dX7_setPoint_230 rfl ?_
    refine z_iastore (pc := 231) hc dX7_setPoint_231 H (fun h28 H => ?_)
    refine z_mask [true, false, false, true, true, false, true, false, false, false] (ρ' := [some (.inr a0), none, none, some (.inl x3), some (.inl x4), none, some (.inl x6), none, none, none]) rfl ?_
    exact rX7_setPoint_J232 hc H
  · refine z_aload_n (pc := 178) hc dX7_setPoint_178 rfl ?_
    refine z_getR (pc := 179) hc dX7_setPoint_179 zf_RX7_7 rfl rfl rfl H (fun r29 H => ?_)
    refine z_iload (pc := 182) hc dX7_setPoint_182 rfl ?_
    refine z_iconst (pc := 184) hc dX7_setPoint_184 ?_
    refine z_iadd (pc := 185) hc dX7_setPoint_185 ?_
    refine z_iload (pc := 186) hc dX7_setPoint_186 rfl ?_
    refine z_iadd (pc := 188) hc dX7_setPoint_188 ?_
    refine z_aload_n (pc := 189) hc dX7_setPoint_189 rfl ?_
    refine z_getR (pc := 190) hc dX7_setPoint_190 zf_RX7_7 rfl rfl rfl H (fun r30 H => ?_)
    refine z_iload (pc := 193) hc dX7_setPoint_193 rfl ?_
    refine z_iload (pc := 195) hc dX7_setPoint_195 rfl ?_
    refine z_iadd (pc := 197) hc dX7_setPoint_197 ?_
    refine z_iaload (pc := 198) hc dX7_setPoint_198 H (fun v31 H => ?_)
    refine z_iastore (pc := 199) hc dX7_setPoint_199 H (fun h32 H => ?_)
    refine z_iinc (pc := 200) hc dX7_setPoint_200 (by decide) rfl (ρ' := [some (.inr a0), none, some (.inl x2), some (.inl x3), some (.inl x4), none, some (.inl x6), none, none, some (.inl (x9 + (-1)))]) rfl ?_
    refine z_goto (tgt := 169) (pc := 203) hc dX7_setPoint_203 rfl ?_
    exact hX169 _ _ H
theorem rX7_setPoint_H169 (hc : zOk p s m args meth c D cX7_setPoint 10 RX7 (some .int))  {a0 : Nat} {x2 : Int} {x3 : Int} {x4 : Int} {x6 : Int} {x9 : Int} {h : Zm} {Q : Int → Zm → Prop}  (H : mX7_setPoint_H169  a0 x2 x3 x4 x6 x9 h Q) : zW p l e zrX7_setPoint s m args below meth c D base 10 (MQ below (zQi D base Q) args s 0 0 (zFree base)) 0 0 169 [some (.inr a0), none, some (.inl x2), some (.inl x3), some (.inl x4), none, some (.inl x6), none, none, some (.inl x9)] [] h :=
  H (fun x9 h => zW p l e zrX7_setPoint s m args below meth c D base 10 (MQ below (zQi D base Q) args s 0 0 (zFree base)) 0 0 169 [some (.inr a0), none, some (.inl x2), some (.inl x3), some (.inl x4), none, some (.inl x6), none, none, some (.inl x9)] [] h) (fun x9 h H => rX7_setPoint_B169 hc (fun _ _ q => q) H)
set_option maxRecDepth 100000 in
set_option maxHeartbeats 4000000 in
theorem rX7_setPoint_J154 (hc : zOk p s m args meth c D cX7_setPoint 10 RX7 (some .int))  {a0 : Nat} {x2 : Int} {x3 : Int} {x4 : Int} {x5 : Int} {x6 : Int} {x7 : Int} {h : Zm} {Q : Int → Zm → Prop}  (H : mX7_setPoint_J154  a0 x2 x3 x4 x5 x6 x7 h Q) : zW p l e zrX7_setPoint s m args below meth c D base 10 (MQ below (zQi D base Q) args s 0 0 (zFree base)) 0 0 154 [some (.inr a0), none, some (.inl x2), some (.inl x3), some (.inl x4), some (.inl x5), some (.inl x6), some (.inl x7), none, none] [] h := by
  unfold mX7_setPoint_J154 at H
  refine z_aload_n (pc := 154) hc dX7_setPoint_154 rfl ?_
  refine z_calV0 (z_runV (pc := 155) (ci := 7) (T := TX7) (N := 20) hc dX7_setPoint_155 zw_RX7_66 (metX7_hold _ _ _ H.2) rfl (Nat.le_of_ble_eq_true rfl) ⟨Nat.le_of_ble_eq_true rfl, Nat.le_of_ble_eq_true rfl⟩ ⟨by exact Nat.le_of_ble_eq_true rfl, by exact Nat.le_of_ble_eq_true rfl⟩ rfl H.1) rfl ⟨rfl, rfl⟩ (fun h17 H => ?_)
  refine z_iload (pc := 158) hc dX7_setPoint_158 rfl ?_
  refine z_if_ne (tgt := 232) (pc := 160) hc dX7_setPoint_160 rfl H (fun H => ?_) (fun H => ?_)
  · refine z_iconst (pc := 163) hc dX7_setPoint_163 ?_
    refine z_iload (pc := 164) hc dX7_setPoint_164 rfl ?_
    refine z_imul (pc := 166) hc dX7_setPoint_166 ?_
    refine z_istore (pc := 167) hc dX7_setPoint_167 (by decide) (ρ' := [some (.inr a0), none, some (.inl x2), some (.inl x3), some (.inl x4), some (.inl x5), some (.inl x6), some (.inl x7), none, some (.inl (2 * x5))]) rfl ?_
    refine z_mask [true, false, true, true, true, false, true, false, false, true] (ρ' := [some (.inr a0), none, some (.inl x2), some (.inl x3), some (.inl x4), none, some (.inl x6), none, none, some (.inl (2 * x5))]) rfl ?_
    exact rX7_setPoint_H169 hc H
  · refine z_mask [true, false, false, true, true, false, true, false, false, false] (ρ' := [some (.inr a0), none, none, some (.inl x3), some (.inl x4), none, some (.inl x6), none, none, none]) rfl ?_
    exact rX7_setPoint_J232 hc H
set_option maxRecDepth 100000 in
set_option maxHeartbeats 4000000 in
theorem rX7_setPoint_J111 (hc : zOk p s m args meth c D cX7_setPoint 10 RX7 (some .int))  {a0 : Nat} {x2 : Int} {x3 : Int} {x4 : Int} {x5 : Int} {x6 : Int} {x7 : Int} {x8 : Int} {h : Zm} {Q : Int → Zm → Prop}  (H : mX7_setPoint_J111  a0 x2 x3 x4 x5 x6 x7 x8 h Q) : zW p l e zrX7_setPoint s m args below meth c D base 10 (MQ below (zQi D base Q) args s 0 0 (zFree base)) 0 0 111 [some (.inr a0), none, some (.inl x2), some (.inl x3), some (.inl x4), some (.inl x5), some (.inl x6), some (.inl x7), some (.inl x8), none] [] h := by
  unfold mX7_setPoint_J111 at H
  refine z_iload (pc := 111) hc dX7_setPoint_111 rfl ?_
  refine z_iload (pc := 113) hc dX7_setPoint_113 rfl ?_
  refine z_icmp_ge (tgt := 139) (pc := 115) hc dX7_setPoint_115 rfl H (fun H => ?_) (fun H => ?_)
  · refine z_aload_n (pc := 118) hc dX7_setPoint_118 rfl ?_
    refine z_getR (pc := 119) hc dX7_setPoint_119 zf_RX7_7 rfl rfl rfl H (fun r15 H => ?_)
    refine z_iload (pc := 122) hc dX7_setPoint_122 rfl ?_
    refine z_iconst (pc := 124) hc dX7_setPoint_124 ?_
    refine z_iadd (pc := 125) hc dX7_setPoint_125 ?_
    refine z_iconst (pc := 126) hc dX7_setPoint_126 ?_
    refine z_iload (pc := 127) hc dX7_setPoint_127 rfl ?_
    refine z_imul (pc := 129) hc dX7_setPoint_129 ?_
    refine z_iadd (pc := 130) hc dX7_setPoint_130 ?_
    refine z_iaload (pc := 131) hc dX7_setPoint_131 H (fun v16 H => ?_)
    refine z_iload_n (pc := 132) hc dX7_setPoint_132 rfl ?_
    refine z_icmp_ge (tgt := 139) (pc := 133) hc dX7_setPoint_133 rfl H (fun H => ?_) (fun H => ?_)
    · refine z_bipush (pc := 136) hc dX7_setPoint_136 (by decide) ?_
      exact z_ireturn (pc := 138) hc dX7_setPoint_138 H
    · refine z_iload (pc := 139) hc dX7_setPoint_139 rfl ?_
      refine z_if_ne (tgt := 154) (pc := 141) hc dX7_setPoint_141 rfl H (fun H => ?_) (fun H => ?_)
      · refine z_iload (pc := 144) hc dX7_setPoint_144 rfl ?_
        refine z_bipush (pc := 146) hc dX7_setPoint_146 (by decide) ?_
        refine z_icmp_ne (tgt := 154) (pc := 148) hc dX7_setPoint_148 rfl H (fun H => ?_) (fun H => ?_)
        · refine z_bipush (pc := 151) hc dX7_setPoint_151 (by decide) ?_
          exact z_ireturn (pc := 153) hc dX7_setPoint_153 H
        · refine z_mask [true, false, true, true, true, true, true, true, false, false] (ρ' := [some (.inr a0), none, some (.inl x2), some (.inl x3), some (.inl x4), some (.inl x5), some (.inl x6), some (.inl x7), none, none]) rfl ?_
          exact rX7_setPoint_J154 hc H
      · refine z_mask [true, false, true, true, true, true, true, true, false, false] (ρ' := [some (.inr a0), none, some (.inl x2), some (.inl x3), some (.inl x4), some (.inl x5), some (.inl x6), some (.inl x7), none, none]) rfl ?_
        exact rX7_setPoint_J154 hc H
  · refine z_iload (pc := 139) hc dX7_setPoint_139 rfl ?_
    refine z_if_ne (tgt := 154) (pc := 141) hc dX7_setPoint_141 rfl H (fun H => ?_) (fun H => ?_)
    · refine z_iload (pc := 144) hc dX7_setPoint_144 rfl ?_
      refine z_bipush (pc := 146) hc dX7_setPoint_146 (by decide) ?_
      refine z_icmp_ne (tgt := 154) (pc := 148) hc dX7_setPoint_148 rfl H (fun H => ?_) (fun H => ?_)
      · refine z_bipush (pc := 151) hc dX7_setPoint_151 (by decide) ?_
        exact z_ireturn (pc := 153) hc dX7_setPoint_153 H
      · refine z_mask [true, false, true, true, true, true, true, true, false, false] (ρ' := [some (.inr a0), none, some (.inl x2), some (.inl x3), some (.inl x4), some (.inl x5), some (.inl x6), some (.inl x7), none, none]) rfl ?_
        exact rX7_setPoint_J154 hc H
    · refine z_mask [true, false, true, true, true, true, true, true, false, false] (ρ' := [some (.inr a0), none, some (.inl x2), some (.inl x3), some (.inl x4), some (.inl x5), some (.inl x6), some (.inl x7), none, none]) rfl ?_
      exact rX7_setPoint_J154 hc H
set_option maxRecDepth 100000 in
set_option maxHeartbeats 4000000 in
theorem rX7_setPoint_J88 (hc : zOk p s m args meth c D cX7_setPoint 10 RX7 (some .int))  {a0 : Nat} {x2 : Int} {x3 : Int} {x4 : Int} {x5 : Int} {x6 : Int} {x7 : Int} {s0 : Int} {h : Zm} {Q : Int → Zm → Prop}  (H : mX7_setPoint_J88  a0 x2 x3 x4 x5 x6 x7 s0 h Q) : zW p l e zrX7_setPoint s m args below meth c D base 10 (MQ below (zQi D base Q) args s 0 0 (zFree base)) 0 0 88 [some (.inr a0), none, some (.inl x2), some (.inl x3), some (.inl x4), some (.inl x5), some (.inl x6), some (.inl x7), none, none] [.inl s0] h := by
  unfold mX7_setPoint_J88 at H
  refine z_istore (pc := 88) hc dX7_setPoint_88 (by decide) (ρ' := [some (.inr a0), none, some (.inl x2), some (.inl x3), some (.inl x4), some (.inl x5), some (.inl x6), some (.inl x7), some (.inl s0), none]) rfl ?_
  refine z_iload (pc := 90) hc dX7_setPoint_90 rfl ?_
  refine z_if_le (tgt := 111) (pc := 92) hc dX7_setPoint_92 rfl H (fun H => ?_) (fun H => ?_)
  · exact rX7_setPoint_J111 hc H
  · refine z_aload_n (pc := 95) hc dX7_setPoint_95 rfl ?_
    refine z_getR (pc := 96) hc dX7_setPoint_96 zf_RX7_7 rfl rfl rfl H (fun r13 H => ?_)
    refine z_iload (pc := 99) hc dX7_setPoint_99 rfl ?_
    refine z_iconst (pc := 101) hc dX7_setPoint_101 ?_
    refine z_iload (pc := 102) hc dX7_setPoint_102 rfl ?_
    refine z_imul (pc := 104) hc dX7_setPoint_104 ?_
    refine z_iadd (pc := 105) hc dX7_setPoint_105 ?_
    refine z_iaload (pc := 106) hc dX7_setPoint_106 H (fun v14 H => ?_)
    refine z_iload_n (pc := 107) hc dX7_setPoint_107 rfl ?_
    refine z_icmp_gt (tgt := 136) (pc := 108) hc dX7_setPoint_108 rfl H (fun H => ?_) (fun H => ?_)
    · exact rX7_setPoint_J111 hc H
    · refine z_bipush (pc := 136) hc dX7_setPoint_136 (by decide) ?_
      exact z_ireturn (pc := 138) hc dX7_setPoint_138 H
set_option maxRecDepth 100000 in
set_option maxHeartbeats 4000000 in
theorem rX7_setPoint_J72 (hc : zOk p s m args meth c D cX7_setPoint 10 RX7 (some .int))  {a0 : Nat} {x2 : Int} {x3 : Int} {x4 : Int} {x5 : Int} {x6 : Int} {s0 : Int} {h : Zm} {Q : Int → Zm → Prop}  (H : mX7_setPoint_J72  a0 x2 x3 x4 x5 x6 s0 h Q) : zW p l e zrX7_setPoint s m args below meth c D base 10 (MQ below (zQi D base Q) args s 0 0 (zFree base)) 0 0 72 [some (.inr a0), none, some (.inl x2), some (.inl x3), some (.inl x4), some (.inl x5), some (.inl x6), none, none, none] [.inl s0] h := by
  unfold mX7_setPoint_J72 at H
  refine z_istore (pc := 72) hc dX7_setPoint_72 (by decide) (ρ' := [some (.inr a0), none, some (.inl x2), some (.inl x3), some (.inl x4), some (.inl x5), some (.inl x6), some (.inl s0), none, none]) rfl ?_
  refine z_iload (pc := 74) hc dX7_setPoint_74 rfl ?_
  refine z_if_eq (tgt := 86) (pc := 76) hc dX7_setPoint_76 rfl H (fun H => ?_) (fun H => ?_)
  · refine z_iload (pc := 86) hc dX7_setPoint_86 rfl ?_
    exact rX7_setPoint_J88 hc H
  · refine z_iload (pc := 79) hc dX7_setPoint_79 rfl ?_
    refine z_iconst (pc := 81) hc dX7_setPoint_81 ?_
    refine z_iadd (pc := 82) hc dX7_setPoint_82 ?_
    refine z_goto (tgt := 88) (pc := 83) hc dX7_setPoint_83 rfl ?_
    exact rX7_setPoint_J88 hc H
set_option maxRecDepth 100000 in
set_option maxHeartbeats 4000000 in
theorem rX7_setPoint (hc : zOk p s m args meth c D cX7_setPoint 10 RX7 (some .int)) {a0 : Nat} {x1 : Int} {x2 : Int} {x3 : Int} {h : Zm} {Q : Int → Zm → Prop} (H : mX7_setPoint a0 x1 x2 x3 h Q) : zW p l e zrX7_setPoint s m args below meth c D base 10 (MQ below (zQi D base Q) args s 0 0 (zFree base)) 0 0 0 [some (.inr a0), some (.inl x1), some (.inl x2), some (.inl x3), none, none, none, none, none, none] [] h := by
  unfold mX7_setPoint at H
  refine z_iload_n (pc := 0) hc dX7_setPoint_0 rfl ?_
  refine z_calI (z_runS (pc := 1) hc dX7_setPoint_1 zw_RX7_117 (metX7_isPlate _ _ _ H) rfl (Nat.le_of_ble_eq_true rfl) ⟨Nat.le_of_ble_eq_true rfl, Nat.le_of_ble_eq_true rfl⟩ ⟨by exact Nat.le_of_ble_eq_true rfl, by exact Nat.le_of_ble_eq_true rfl⟩) rfl ⟨rfl, rfl⟩ (fun v2 h1 H => ?_)
  refine z_if_eq (tgt := 21) (pc := 4) hc dX7_setPoint_4 rfl H (fun H => ?_) (fun H => ?_)
  · refine z_iconst (pc := 21) hc dX7_setPoint_21 ?_
    exact z_ireturn (pc := 22) hc dX7_setPoint_22 H
  · refine z_iload_n (pc := 7) hc dX7_setPoint_7 rfl ?_
    refine z_calI (z_runS (pc := 8) hc dX7_setPoint_8 zw_RX7_120 (metX7_isValue _ _ _ H) rfl (Nat.le_of_ble_eq_true rfl) ⟨Nat.le_of_ble_eq_true rfl, Nat.le_of_ble_eq_true rfl⟩ ⟨by exact Nat.le_of_ble_eq_true rfl, by exact Nat.le_of_ble_eq_true rfl⟩) rfl ⟨rfl, rfl⟩ (fun v4 h3 H => ?_)
    refine z_if_eq (tgt := 21) (pc := 11) hc dX7_setPoint_11 rfl H (fun H => ?_) (fun H => ?_)
    · refine z_iconst (pc := 21) hc dX7_setPoint_21 ?_
      exact z_ireturn (pc := 22) hc dX7_setPoint_22 H
    · refine z_iload_n (pc := 14) hc dX7_setPoint_14 rfl ?_
      refine z_calI (z_runS (pc := 15) hc dX7_setPoint_15 zw_RX7_120 (metX7_isValue _ _ _ H) rfl (Nat.le_of_ble_eq_true rfl) ⟨Nat.le_of_ble_eq_true rfl, Nat.le_of_ble_eq_true rfl⟩ ⟨by exact Nat.le_of_ble_eq_true rfl, by exact Nat.le_of_ble_eq_true rfl⟩) rfl ⟨rfl, rfl⟩ (fun v6 h5 H => ?_)
      refine z_if_ne (tgt := 23) (pc := 18) hc dX7_setPoint_18 rfl H (fun H => ?_) (fun H => ?_)
      · refine z_iconst (pc := 21) hc dX7_setPoint_21 ?_
        exact z_ireturn (pc := 22) hc dX7_setPoint_22 H
      · refine z_bipush (pc := 23) hc dX7_setPoint_23 (by decide) ?_
        refine z_bipush (pc := 25) hc dX7_setPoint_25 (by decide) ?_
        refine z_iload_n (pc := 27) hc dX7_setPoint_27 rfl ?_
        refine z_imul (pc := 28) hc dX7_setPoint_28 ?_
        refine z_iadd (pc := 29) hc dX7_setPoint_29 ?_
        refine z_istore (pc := 30) hc dX7_setPoint_30 (by decide) (ρ' := [some (.inr a0), some (.inl x1), some (.inl x2), some (.inl x3), some (.inl (9 + (17 * x1))), none, none, none, none, none]) rfl ?_
        refine z_aload_n (pc := 32) hc dX7_setPoint_32 rfl ?_
        refine z_getR (pc := 33) hc dX7_setPoint_33 zf_RX7_7 rfl rfl rfl H (fun r7 H => ?_)
        refine z_iload (pc := 36) hc dX7_setPoint_36 rfl ?_
        refine z_iaload (pc := 38) hc dX7_setPoint_38 H (fun v8 H => ?_)
        refine z_istore (pc := 39) hc dX7_setPoint_39 (by decide) (ρ' := [some (.inr a0), some (.inl x1), some (.inl x2), some (.inl x3), some (.inl (9 + (17 * x1))), some (.inl v8), none, none, none, none]) rfl ?_
        refine z_aload_n (pc := 41) hc dX7_setPoint_41 rfl ?_
        refine z_iload_n (pc := 42) hc dX7_setPoint_42 rfl ?_
        refine z_iload_n (pc := 43) hc dX7_setPoint_43 rfl ?_
        refine z_calI (z_runV (pc := 44) (ci := 7) (T := TX7) (N := 20) hc dX7_setPoint_44 zw_RX7_114 (metX7_pointAt _ _ _ H.2) rfl (Nat.le_of_ble_eq_true rfl) ⟨Nat.le_of_ble_eq_true rfl, Nat.le_of_ble_eq_true rfl⟩ ⟨by exact Nat.le_of_ble_eq_true rfl, by exact Nat.le_of_ble_eq_true rfl⟩ rfl H.1) rfl ⟨rfl, rfl⟩ (fun v10 h9 H => ?_)
        refine z_istore (pc := 47) hc dX7_setPoint_47 (by decide) (ρ' := [some (.inr a0), some (.inl x1), some (.inl x2), some (.inl x3), some (.inl (9 + (17 * x1))), some (.inl v8), some (.inl v10), none, none, none]) rfl ?_
        refine z_aload_n (pc := 49) hc dX7_setPoint_49 rfl ?_
        refine z_getR (pc := 50) hc dX7_setPoint_50 zf_RX7_7 rfl rfl rfl H (fun r11 H => ?_)
        refine z_iload (pc := 53) hc dX7_setPoint_53 rfl ?_
        refine z_iconst (pc := 55) hc dX7_setPoint_55 ?_
        refine z_iadd (pc := 56) hc dX7_setPoint_56 ?_
        refine z_iconst (pc := 57) hc dX7_setPoint_57 ?_
        refine z_iload (pc := 58) hc dX7_setPoint_58 rfl ?_
        refine z_imul (pc := 60) hc dX7_setPoint_60 ?_
        refine z_iadd (pc := 61) hc dX7_setPoint_61 ?_
        refine z_iaload (pc := 62) hc dX7_setPoint_62 H (fun v12 H => ?_)
        refine z_iload_n (pc := 63) hc dX7_setPoint_63 rfl ?_
        refine z_icmp_ne (tgt := 71) (pc := 64) hc dX7_setPoint_64 rfl H (fun H => ?_) (fun H => ?_)
        · refine z_iconst (pc := 67) hc dX7_setPoint_67 ?_
          refine z_goto (tgt := 72) (pc := 68) hc dX7_setPoint_68 rfl ?_
          refine z_mask [true, false, true, true, true, true, true, false, false, false] (ρ' := [some (.inr a0), none, some (.inl x2), some (.inl x3), some (.inl (9 + (17 * x1))), some (.inl v8), some (.inl v10), none, none, none]) rfl ?_
          exact rX7_setPoint_J72 hc H
        · refine z_iconst (pc := 71) hc dX7_setPoint_71 ?_
          refine z_mask [true, false, true, true, true, true, true, false, false, false] (ρ' := [some (.inr a0), none, some (.inl x2), some (.inl x3), some (.inl (9 + (17 * x1))), some (.inl v8), some (.inl v10), none, none, none]) rfl ?_
          exact rX7_setPoint_J72 hc H
end
theorem metX7_setPoint (l : Launch) (D : Zd) (base : Nat) {a0 : Nat} {x1 : Int} {x2 : Int} {x3 : Int} {h : Zm} {Q : Int → Zm → Prop} (H : mX7_setPoint a0 x1 x2 x3 h Q) : zMet l D base yX7_setPoint cX7_setPoint 10 (some .int) zrX7_setPoint [.inr a0, .inl x1, .inl x2, .inl x3] h (zQi D base Q) :=
  z_met (by decide +kernel) (Nat.le_of_ble_eq_true rfl) (fun p e s m args below meth c hc hn => rX7_setPoint hc H)
def zrX7_removePoint : Room := { frames := 2, cells := 0, slots := 0, locals := 42 }
def mX7_removePoint_B93 (X93 : Int → Zm → Prop) (a0 : Nat) (x3 : Int) (x5 : Int) (x6 : Int) (h : Zm) (Q : Int → Zm → Prop) : Prop :=
  cGr h 17 a0 0 fun r15 => cLd h 1 r15 x3 fun v16 => cLe x6 (2 * v16)
  (cGr h 17 a0 0 fun r19 => cGr h 17 a0 0 fun r20 => cLd h 1 r20 ((x3 + x6) + 2) fun v21 => cSt h r19 (x3 + x6) v21 fun h22 => X93 (x6 + 1) h22)
  (cRc h 17 a0 <| mX7_ends a0 x5 h fun v18 h17 => Q v18 h17)
def mX7_removePoint_H93  (a0 : Nat) (x3 : Int) (x5 : Int) (x6 : Int) (h : Zm) (Q : Int → Zm → Prop) : Prop :=
  lfp1 (fun X93 x6 h => mX7_removePoint_B93 X93 a0 x3 x5 x6 h Q) x6 h
def mX7_removePoint (a0 : Nat) (x1 : Int) (x2 : Int) (h : Zm) (Q : Int → Zm → Prop) : Prop :=
  mX7_isPlate x1 h fun v2 h1 => cEq v2 0
  (Q (-1) h1)
  (mX7_in x2 1 254 h1 fun v4 h3 => cEq v4 0
    (Q (-1) h3)
    (cRc h3 17 a0 <| mX7_pointAt a0 x1 x2 h3 fun v6 h5 => cGr h5 17 a0 0 fun r7 => cLd h5 1 r7 (((9 + (17 * x1)) + 1) + (2 * v6)) fun v8 => cEq v8 x2
      (cRc h5 17 a0 <| mX7_hold a0 h5 fun h9 => cGr h9 17 a0 0 fun r10 => cLd h9 1 r10 (((9 + (17 * x1)) + 2) + (2 * v6)) fun v11 => cGr h9 17 a0 0 fun r12 => cLd h9 1 r12 (9 + (17 * x1)) fun v13 => cSt h9 r12 (9 + (17 * x1)) (v13 - 1) fun h14 => mX7_removePoint_H93  a0 (9 + (17 * x1)) v11 ((2 * v6) + 1) h14 Q)
      (Q (-4) h5)))
section
variable {p : Program} {l : Launch} {e : Env} {s : State} {m : MethodId} {args : Array Value} {below : List Frame} {meth : Method} {c : Code} {D : Zd} {base : Nat}
set_option maxRecDepth 100000 in
set_option maxHeartbeats 4000000 in
theorem rX7_removePoint_B93 (hc : zOk p s m args meth c D cX7_removePoint 7 RX7 (some .int)) {X93 : Int → Zm → Prop} {a0 : Nat} {x3 : Int} {x5 : Int} {x6 : Int} {h : Zm} {Q : Int → Zm → Prop} (hX93 : ∀ (x6 : Int) (h : Zm), X93 x6 h → zW p l e zrX7_removePoint s m args below meth c D base 7 (MQ below (zQi D base Q) args s 0 0 (zFree base)) 0 0 93 [some (.inr a0), none, none, some (.inl x3), none, some (.inl x5), some (.inl x6)] [] h) (H : mX7_removePoint_B93 X93 a0 x3 x5 x6 h Q) : zW p l e zrX7_removePoint s m args below meth c D base 7 (MQ below (zQi D base Q) args s 0 0 (zFree base)) 0 0 93 [some (.inr a0), none, none, some (.inl x3), none, some (.inl x5), some (.inl x6)] [] h := by
  unfold mX7_removePoint_B93 at H
  refine z_iload (pc := 93) hc dX7_removePoint_93 rfl ?_
  refine z_iconst (pc := 95) hc dX7_removePoint_95 ?_
  refine z_aload_n (pc := 96) hc dX7_removePoint_96 rfl ?_
  refine z_getR (pc := 97) hc dX7_removePoint_97 zf_RX7_7 rfl rfl rfl H (fun r15 H => ?_)
  refine z_iload_n (pc := 100) hc dX7_removePoint_100 rfl ?_
  refine z_iaload (pc := 101) hc dX7_removePoint_101 H (fun v16 H => ?_)
  refine z_imul (pc := 102) hc dX7_removePoint_102 ?_
  refine z_icmp_gt (tgt := 132) (pc := 103) hc dX7_removePoint_103 rfl H (fun H => ?_) (fun H => ?_)
  · refine z_aload_n (pc := 106) hc dX7_removePoint_106 rfl ?_
    refine z_getR (pc := 107) hc dX7_removePoint_107 zf_RX7_7 rfl rfl rfl H (fun r19 H => ?_)
    refine z_iload_n (pc := 110) hc dX7_removePoint_110 rfl ?_
    refine z_iload (pc := 111) hc dX7_removePoint_111 rfl ?_
    refine z_iadd (pc := 113) hc dX7_removePoint_113 ?_
    refine z_aload_n (pc := 114) hc dX7_removePoint_114 rfl ?_
    refine z_getR (pc := 115) hc dX7_removePoint_115 zf_RX7_7 rfl rfl rfl H (fun r20 H => ?_)
    refine z_iload_n (pc := 118) hc dX7_removePoint_118 rfl ?_
    refine z_iload (pc := 119) hc dX7_removePoint_119 rfl ?_
    refine z_iadd (pc := 121) hc dX7_removePoint_121 ?_
    refine z_iconst (pc := 122) hc dX7_removePoint_122 ?_
    refine z_iadd (pc := 123) hc dX7_removePoint_123 ?_
    refine z_iaload (pc := 124) hc dX7_removePoint_124 H (fun v21 H => ?_)
    refine z_iastore (pc := 125) hc dX7_removePoint_125 H (fun h22 H => ?_)
    refine z_iinc (pc := 126) hc dX7_removePoint_126 (by decide) rfl (ρ' := [some (.inr a0), none, none, some (.inl x3), none, some (.inl x5), some (.inl (x6 + 1))]) rfl ?_
    refine z_goto (tgt := 93) (pc := 129) hc dX7_removePoint_129 rfl ?_
    exact hX93 _ _ H
  · refine z_aload_n (pc := 132) hc dX7_removePoint_132 rfl ?_
    refine z_iload (pc := 133) hc dX7_removePoint_133 rfl ?_
    refine z_calI (z_runV (pc := 135) (ci := 7) (T := TX7) (N := 20) hc dX7_removePoint_135 zw_RX7_69 (metX7_ends _ _ _ H.2) rfl (Nat.le_of_ble_eq_true rfl) ⟨Nat.le_of_ble_eq_true rfl, Nat.le_of_ble_eq_true rfl⟩ ⟨by exact Nat.le_of_ble_eq_true rfl, by exact Nat.le_of_ble_eq_true rfl⟩ rfl H.1) rfl ⟨rfl, rfl⟩ (fun v18 h17 H => ?_)
    exact z_ireturn (pc := 138) hc dX7_removePoint_138 H
theorem rX7_removePoint_H93 (hc : zOk p s m args meth c D cX7_removePoint 7 RX7 (some .int))  {a0 : Nat} {x3 : Int} {x5 : Int} {x6 : Int} {h : Zm} {Q : Int → Zm → Prop}  (H : mX7_removePoint_H93  a0 x3 x5 x6 h Q) : zW p l e zrX7_removePoint s m args below meth c D base 7 (MQ below (zQi D base Q) args s 0 0 (zFree base)) 0 0 93 [some (.inr a0), none, none, some (.inl x3), none, some (.inl x5), some (.inl x6)] [] h :=
  H (fun x6 h => zW p l e zrX7_removePoint s m args below meth c D base 7 (MQ below (zQi D base Q) args s 0 0 (zFree base)) 0 0 93 [some (.inr a0), none, none, some (.inl x3), none, some (.inl x5), some (.inl x6)] [] h) (fun x6 h H => rX7_removePoint_B93 hc (fun _ _ q => q) H)
set_option maxRecDepth 100000 in
set_option maxHeartbeats 4000000 in
theorem rX7_removePoint (hc : zOk p s m args meth c D cX7_removePoint 7 RX7 (some .int)) {a0 : Nat} {x1 : Int} {x2 : Int} {h : Zm} {Q : Int → Zm → Prop} (H : mX7_removePoint a0 x1 x2 h Q) : zW p l e zrX7_removePoint s m args below meth c D base 7 (MQ below (zQi D base Q) args s 0 0 (zFree base)) 0 0 0 [some (.inr a0), some (.inl x1), some (.inl x2), none, none, none, none] [] h := by
  unfold mX7_removePoint at H
  refine z_iload_n (pc := 0) hc dX7_removePoint_0 rfl ?_
  refine z_calI (z_runS (pc := 1) hc dX7_removePoint_1 zw_RX7_117 (metX7_isPlate _ _ _ H) rfl (Nat.le_of_ble_eq_true rfl) ⟨Nat.le_of_ble_eq_true rfl, Nat.le_of_ble_eq_true rfl⟩ ⟨by exact Nat.le_of_ble_eq_true rfl, by exact Nat.le_of_ble_eq_true rfl⟩) rfl ⟨rfl, rfl⟩ (fun v2 h1 H => ?_)
  refine z_if_eq (tgt := 18) (pc := 4) hc dX7_removePoint_4 rfl H (fun H => ?_) (fun H => ?_)
  · refine z_iconst (pc := 18) hc dX7_removePoint_18 ?_
    exact z_ireturn (pc := 19) hc dX7_removePoint_19 H
  · refine z_iload_n (pc := 7) hc dX7_removePoint_7 rfl ?_
    refine z_iconst (pc := 8) hc dX7_removePoint_8 ?_
    refine z_sipush (pc := 9) hc dX7_removePoint_9 (by decide) ?_
    refine z_calI (z_runS (pc := 12) hc dX7_removePoint_12 zw_RX7_73 (metX7_in _ _ _ H) rfl (Nat.le_of_ble_eq_true rfl) ⟨Nat.le_of_ble_eq_true rfl, Nat.le_of_ble_eq_true rfl⟩ ⟨by exact Nat.le_of_ble_eq_true rfl, by exact Nat.le_of_ble_eq_true rfl⟩) rfl ⟨rfl, rfl⟩ (fun v4 h3 H => ?_)
    refine z_if_ne (tgt := 20) (pc := 15) hc dX7_removePoint_15 rfl H (fun H => ?_) (fun H => ?_)
    · refine z_iconst (pc := 18) hc dX7_removePoint_18 ?_
      exact z_ireturn (pc := 19) hc dX7_removePoint_19 H
    · refine z_bipush (pc := 20) hc dX7_removePoint_20 (by decide) ?_
      refine z_bipush (pc := 22) hc dX7_removePoint_22 (by decide) ?_
      refine z_iload_n (pc := 24) hc dX7_removePoint_24 rfl ?_
      refine z_imul (pc := 25) hc dX7_removePoint_25 ?_
      refine z_iadd (pc := 26) hc dX7_removePoint_26 ?_
      refine z_istore_n (pc := 27) hc dX7_removePoint_27 (by decide) (ρ' := [some (.inr a0), some (.inl x1), some (.inl x2), some (.inl (9 + (17 * x1))), none, none, none]) rfl ?_
      refine z_aload_n (pc := 28) hc dX7_removePoint_28 rfl ?_
      refine z_iload_n (pc := 29) hc dX7_removePoint_29 rfl ?_
      refine z_iload_n (pc := 30) hc dX7_removePoint_30 rfl ?_
      refine z_calI (z_runV (pc := 31) (ci := 7) (T := TX7) (N := 20) hc dX7_removePoint_31 zw_RX7_114 (metX7_pointAt _ _ _ H.2) rfl (Nat.le_of_ble_eq_true rfl) ⟨Nat.le_of_ble_eq_true rfl, Nat.le_of_ble_eq_true rfl⟩ ⟨by exact Nat.le_of_ble_eq_true rfl, by exact Nat.le_of_ble_eq_true rfl⟩ rfl H.1) rfl ⟨rfl, rfl⟩ (fun v6 h5 H => ?_)
      refine z_istore (pc := 34) hc dX7_removePoint_34 (by decide) (ρ' := [some (.inr a0), some (.inl x1), some (.inl x2), some (.inl (9 + (17 * x1))), some (.inl v6), none, none]) rfl ?_
      refine z_aload_n (pc := 36) hc dX7_removePoint_36 rfl ?_
      refine z_getR (pc := 37) hc dX7_removePoint_37 zf_RX7_7 rfl rfl rfl H (fun r7 H => ?_)
      refine z_iload_n (pc := 40) hc dX7_removePoint_40 rfl ?_
      refine z_iconst (pc := 41) hc dX7_removePoint_41 ?_
      refine z_iadd (pc := 42) hc dX7_removePoint_42 ?_
      refine z_iconst (pc := 43) hc dX7_removePoint_43 ?_
      refine z_iload (pc := 44) hc dX7_removePoint_44 rfl ?_
      refine z_imul (pc := 46) hc dX7_removePoint_46 ?_
      refine z_iadd (pc := 47) hc dX7_removePoint_47 ?_
      refine z_iaload (pc := 48) hc dX7_removePoint_48 H (fun v8 H => ?_)
      refine z_iload_n (pc := 49) hc dX7_removePoint_49 rfl ?_
      refine z_icmp_eq (tgt := 56) (pc := 50) hc dX7_removePoint_50 rfl H (fun H => ?_) (fun H => ?_)
      · refine z_aload_n (pc := 56) hc dX7_removePoint_56 rfl ?_
        refine z_calV0 (z_runV (pc := 57) (ci := 7) (T := TX7) (N := 20) hc dX7_removePoint_57 zw_RX7_66 (metX7_hold _ _ _ H.2) rfl (Nat.le_of_ble_eq_true rfl) ⟨Nat.le_of_ble_eq_true rfl, Nat.le_of_ble_eq_true rfl⟩ ⟨by exact Nat.le_of_ble_eq_true rfl, by exact Nat.le_of_ble_eq_true rfl⟩ rfl H.1) rfl ⟨rfl, rfl⟩ (fun h9 H => ?_)
        refine z_aload_n (pc := 60) hc dX7_removePoint_60 rfl ?_
        refine z_getR (pc := 61) hc dX7_removePoint_61 zf_RX7_7 rfl rfl rfl H (fun r10 H => ?_)
        refine z_iload_n (pc := 64) hc dX7_removePoint_64 rfl ?_
        refine z_iconst (pc := 65) hc dX7_removePoint_65 ?_
        refine z_iadd (pc := 66) hc dX7_removePoint_66 ?_
        refine z_iconst (pc := 67) hc dX7_removePoint_67 ?_
        refine z_iload (pc := 68) hc dX7_removePoint_68 rfl ?_
        refine z_imul (pc := 70) hc dX7_removePoint_70 ?_
        refine z_iadd (pc := 71) hc dX7_removePoint_71 ?_
        refine z_iaload (pc := 72) hc dX7_removePoint_72 H (fun v11 H => ?_)
        refine z_istore (pc := 73) hc dX7_removePoint_73 (by decide) (ρ' := [some (.inr a0), some (.inl x1), some (.inl x2), some (.inl (9 + (17 * x1))), some (.inl v6), some (.inl v11), none]) rfl ?_
        refine z_aload_n (pc := 75) hc dX7_removePoint_75 rfl ?_
        refine z_getR (pc := 76) hc dX7_removePoint_76 zf_RX7_7 rfl rfl rfl H (fun r12 H => ?_)
        refine z_iload_n (pc := 79) hc dX7_removePoint_79 rfl ?_
        refine z_dup2 (pc := 80) hc dX7_removePoint_80 ?_
        refine z_iaload (pc := 81) hc dX7_removePoint_81 H (fun v13 H => ?_)
        refine z_iconst (pc := 82) hc dX7_removePoint_82 ?_
        refine z_isub (pc := 83) hc dX7_removePoint_83 ?_
        refine z_iastore (pc := 84) hc dX7_removePoint_84 H (fun h14 H => ?_)
        refine z_iconst (pc := 85) hc dX7_removePoint_85 ?_
        refine z_iload (pc := 86) hc dX7_removePoint_86 rfl ?_
        refine z_imul (pc := 88) hc dX7_removePoint_88 ?_
        refine z_iconst (pc := 89) hc dX7_removePoint_89 ?_
        refine z_iadd (pc := 90) hc dX7_removePoint_90 ?_
        refine z_istore (pc := 91) hc dX7_removePoint_91 (by decide) (ρ' := [some (.inr a0), some (.inl x1), some (.inl x2), some (.inl (9 + (17 * x1))), some (.inl v6), some (.inl v11), some (.inl ((2 * v6) + 1))]) rfl ?_
        refine z_mask [true, false, false, true, false, true, true] (ρ' := [some (.inr a0), none, none, some (.inl (9 + (17 * x1))), none, some (.inl v11), some (.inl ((2 * v6) + 1))]) rfl ?_
        exact rX7_removePoint_H93 hc H
      · refine z_bipush (pc := 53) hc dX7_removePoint_53 (by decide) ?_
        exact z_ireturn (pc := 55) hc dX7_removePoint_55 H
end
theorem metX7_removePoint (l : Launch) (D : Zd) (base : Nat) {a0 : Nat} {x1 : Int} {x2 : Int} {h : Zm} {Q : Int → Zm → Prop} (H : mX7_removePoint a0 x1 x2 h Q) : zMet l D base yX7_removePoint cX7_removePoint 7 (some .int) zrX7_removePoint [.inr a0, .inl x1, .inl x2] h (zQi D base Q) :=
  z_met (by decide +kernel) (Nat.le_of_ble_eq_true rfl) (fun p e s m args below meth c hc hn => rX7_removePoint hc H)
def zrX7_curve : Room := { frames := 2, cells := 0, slots := 0, locals := 52 }
def mX7_curve (a0 : Nat) (x1 : Int) (x2 : Int) (h : Zm) (Q : Int → Zm → Prop) : Prop :=
  mX7_isPlate x1 h fun v2 h1 => cEq v2 0
  (Q (-1) h1)
  (mX7_isValue x2 h1 fun v4 h3 => cEq v4 0
    (Q (-1) h3)
    (cRc h3 17 a0 <| mX7_valueOf a0 x1 x2 h3 fun v6 h5 => Q v6 h5))
section
variable {p : Program} {l : Launch} {e : Env} {s : State} {m : MethodId} {args : Array Value} {below : List Frame} {meth : Method} {c : Code} {D : Zd} {base : Nat}
set_option maxRecDepth 100000 in
set_option maxHeartbeats 4000000 in
theorem rX7_curve (hc : zOk p s m args meth c D cX7_curve 3 RX7 (some .int)) {a0 : Nat} {x1 : Int} {x2 : Int} {h : Zm} {Q : Int → Zm → Prop} (H : mX7_curve a0 x1 x2 h Q) : zW p l e zrX7_curve s m args below meth c D base 3 (MQ below (zQi D base Q) args s 0 0 (zFree base)) 0 0 0 [some (.inr a0), some (.inl x1), some (.inl x2)] [] h := by
  unfold mX7_curve at H
  refine z_iload_n (pc := 0) hc dX7_curve_0 rfl ?_
  refine z_calI (z_runS (pc := 1) hc dX7_curve_1 zw_RX7_117 (metX7_isPlate _ _ _ H) rfl (Nat.le_of_ble_eq_true rfl) ⟨Nat.le_of_ble_eq_true rfl, Nat.le_of_ble_eq_true rfl⟩ ⟨by exact Nat.le_of_ble_eq_true rfl, by exact Nat.le_of_ble_eq_true rfl⟩) rfl ⟨rfl, rfl⟩ (fun v2 h1 H => ?_)
  refine z_if_eq (tgt := 23) (pc := 4) hc dX7_curve_4 rfl H (fun H => ?_) (fun H => ?_)
  · refine z_iconst (pc := 23) hc dX7_curve_23 ?_
    exact z_ireturn (pc := 24) hc dX7_curve_24 H
  · refine z_iload_n (pc := 7) hc dX7_curve_7 rfl ?_
    refine z_calI (z_runS (pc := 8) hc dX7_curve_8 zw_RX7_120 (metX7_isValue _ _ _ H) rfl (Nat.le_of_ble_eq_true rfl) ⟨Nat.le_of_ble_eq_true rfl, Nat.le_of_ble_eq_true rfl⟩ ⟨by exact Nat.le_of_ble_eq_true rfl, by exact Nat.le_of_ble_eq_true rfl⟩) rfl ⟨rfl, rfl⟩ (fun v4 h3 H => ?_)
    refine z_if_eq (tgt := 23) (pc := 11) hc dX7_curve_11 rfl H (fun H => ?_) (fun H => ?_)
    · refine z_iconst (pc := 23) hc dX7_curve_23 ?_
      exact z_ireturn (pc := 24) hc dX7_curve_24 H
    · refine z_aload_n (pc := 14) hc dX7_curve_14 rfl ?_
      refine z_iload_n (pc := 15) hc dX7_curve_15 rfl ?_
      refine z_iload_n (pc := 16) hc dX7_curve_16 rfl ?_
      refine z_calI (z_runV (pc := 17) (ci := 7) (T := TX7) (N := 20) hc dX7_curve_17 zw_RX7_123 (metX7_valueOf _ _ _ H.2) rfl (Nat.le_of_ble_eq_true rfl) ⟨Nat.le_of_ble_eq_true rfl, Nat.le_of_ble_eq_true rfl⟩ ⟨by exact Nat.le_of_ble_eq_true rfl, by exact Nat.le_of_ble_eq_true rfl⟩ rfl H.1) rfl ⟨rfl, rfl⟩ (fun v6 h5 H => ?_)
      refine z_goto (tgt := 24) (pc := 20) hc dX7_curve_20 rfl ?_
      exact z_ireturn (pc := 24) hc dX7_curve_24 H
end
theorem metX7_curve (l : Launch) (D : Zd) (base : Nat) {a0 : Nat} {x1 : Int} {x2 : Int} {h : Zm} {Q : Int → Zm → Prop} (H : mX7_curve a0 x1 x2 h Q) : zMet l D base yX7_curve cX7_curve 3 (some .int) zrX7_curve [.inr a0, .inl x1, .inl x2] h (zQi D base Q) :=
  z_met (by decide +kernel) (Nat.le_of_ble_eq_true rfl) (fun p e s m args below meth c hc hn => rX7_curve hc H)
def zrX7_inverse : Room := { frames := 2, cells := 0, slots := 0, locals := 52 }
def mX7_inverse_B18 (X18 : Int → Zm → Prop) (a0 : Nat) (x1 : Int) (x2 : Int) (x3 : Int) (h : Zm) (Q : Int → Zm → Prop) : Prop :=
  cLt x3 256
  (cRc h 17 a0 <| mX7_valueOf a0 x1 x3 h fun v6 h5 => cLt v6 x2
    (X18 (x3 + 1) h5)
    (cLt x3 256
      (Q x3 h5)
      (Q (-4) h5)))
  (cLt x3 256
    (Q x3 h)
    (Q (-4) h))
def mX7_inverse_H18  (a0 : Nat) (x1 : Int) (x2 : Int) (x3 : Int) (h : Zm) (Q : Int → Zm → Prop) : Prop :=
  lfp1 (fun X18 x3 h => mX7_inverse_B18 X18 a0 x1 x2 x3 h Q) x3 h
def mX7_inverse (a0 : Nat) (x1 : Int) (x2 : Int) (h : Zm) (Q : Int → Zm → Prop) : Prop :=
  mX7_isPlate x1 h fun v2 h1 => cEq v2 0
  (Q (-1) h1)
  (mX7_isValue x2 h1 fun v4 h3 => cEq v4 0
    (Q (-1) h3)
    (mX7_inverse_H18  a0 x1 x2 0 h3 Q))
section
variable {p : Program} {l : Launch} {e : Env} {s : State} {m : MethodId} {args : Array Value} {below : List Frame} {meth : Method} {c : Code} {D : Zd} {base : Nat}
set_option maxRecDepth 100000 in
set_option maxHeartbeats 4000000 in
theorem rX7_inverse_B18 (hc : zOk p s m args meth c D cX7_inverse 4 RX7 (some .int)) {X18 : Int → Zm → Prop} {a0 : Nat} {x1 : Int} {x2 : Int} {x3 : Int} {h : Zm} {Q : Int → Zm → Prop} (hX18 : ∀ (x3 : Int) (h : Zm), X18 x3 h → zW p l e zrX7_inverse s m args below meth c D base 4 (MQ below (zQi D base Q) args s 0 0 (zFree base)) 0 0 18 [some (.inr a0), some (.inl x1), some (.inl x2), some (.inl x3)] [] h) (H : mX7_inverse_B18 X18 a0 x1 x2 x3 h Q) : zW p l e zrX7_inverse s m args below meth c D base 4 (MQ below (zQi D base Q) args s 0 0 (zFree base)) 0 0 18 [some (.inr a0), some (.inl x1), some (.inl x2), some (.inl x3)] [] h := by
  unfold mX7_inverse_B18 at H
  refine z_iload_n (pc := 18) hc dX7_inverse_18 rfl ?_
  refine z_sipush (pc := 19) hc dX7_inverse_19 (by decide) ?_
  refine z_icmp_ge (tgt := 41) (pc := 22) hc dX7_inverse_22 rfl H (fun H => ?_) (fun H => ?_)
  · refine z_aload_n (pc := 25) hc dX7_inverse_25 rfl ?_
    refine z_iload_n (pc := 26) hc dX7_inverse_26 rfl ?_
    refine z_iload_n (pc := 27) hc dX7_inverse_27 rfl ?_
    refine z_calI (z_runV (pc := 28) (ci := 7) (T := TX7) (N := 20) hc dX7_inverse_28 zw_RX7_123 (metX7_valueOf _ _ _ H.2) rfl (Nat.le_of_ble_eq_true rfl) ⟨Nat.le_of_ble_eq_true rfl, Nat.le_of_ble_eq_true rfl⟩ ⟨by exact Nat.le_of_ble_eq_true rfl, by exact Nat.le_of_ble_eq_true rfl⟩ rfl H.1) rfl ⟨rfl, rfl⟩ (fun v6 h5 H => ?_)
    refine z_iload_n (pc := 31) hc dX7_inverse_31 rfl ?_
    refine z_icmp_ge (tgt := 41) (pc := 32) hc dX7_inverse_32 rfl H (fun H => ?_) (fun H => ?_)
    · refine z_iinc (pc := 35) hc dX7_inverse_35 (by decide) rfl (ρ' := [some (.inr a0), some (.inl x1), some (.inl x2), some (.inl (x3 + 1))]) rfl ?_
      refine z_goto (tgt := 18) (pc := 38) hc dX7_inverse_38 rfl ?_
      exact hX18 _ _ H
    · refine z_iload_n (pc := 41) hc dX7_inverse_41 rfl ?_
      refine z_sipush (pc := 42) hc dX7_inverse_42 (by decide) ?_
      refine z_icmp_ge (tgt := 52) (pc := 45) hc dX7_inverse_45 rfl H (fun H => ?_) (fun H => ?_)
      · refine z_iload_n (pc := 48) hc dX7_inverse_48 rfl ?_
        refine z_goto (tgt := 54) (pc := 49) hc dX7_inverse_49 rfl ?_
        exact z_ireturn (pc := 54) hc dX7_inverse_54 H
      · refine z_bipush (pc := 52) hc dX7_inverse_52 (by decide) ?_
        exact z_ireturn (pc := 54) hc dX7_inverse_54 H
  · refine z_iload_n (pc := 41) hc dX7_inverse_41 rfl ?_
    refine z_sipush (pc := 42) hc dX7_inverse_42 (by decide) ?_
    refine z_icmp_ge (tgt := 52) (pc := 45) hc dX7_inverse_45 rfl H (fun H => ?_) (fun H => ?_)
    · refine z_iload_n (pc := 48) hc dX7_inverse_48 rfl ?_
      refine z_goto (tgt := 54) (pc := 49) hc dX7_inverse_49 rfl ?_
      exact z_ireturn (pc := 54) hc dX7_inverse_54 H
    · refine z_bipush (pc := 52) hc dX7_inverse_52 (by decide) ?_
      exact z_ireturn (pc := 54) hc dX7_inverse_54 H
theorem rX7_inverse_H18 (hc : zOk p s m args meth c D cX7_inverse 4 RX7 (some .int))  {a0 : Nat} {x1 : Int} {x2 : Int} {x3 : Int} {h : Zm} {Q : Int → Zm → Prop}  (H : mX7_inverse_H18  a0 x1 x2 x3 h Q) : zW p l e zrX7_inverse s m args below meth c D base 4 (MQ below (zQi D base Q) args s 0 0 (zFree base)) 0 0 18 [some (.inr a0), some (.inl x1), some (.inl x2), some (.inl x3)] [] h :=
  H (fun x3 h => zW p l e zrX7_inverse s m args below meth c D base 4 (MQ below (zQi D base Q) args s 0 0 (zFree base)) 0 0 18 [some (.inr a0), some (.inl x1), some (.inl x2), some (.inl x3)] [] h) (fun x3 h H => rX7_inverse_B18 hc (fun _ _ q => q) H)
set_option maxRecDepth 100000 in
set_option maxHeartbeats 4000000 in
theorem rX7_inverse (hc : zOk p s m args meth c D cX7_inverse 4 RX7 (some .int)) {a0 : Nat} {x1 : Int} {x2 : Int} {h : Zm} {Q : Int → Zm → Prop} (H : mX7_inverse a0 x1 x2 h Q) : zW p l e zrX7_inverse s m args below meth c D base 4 (MQ below (zQi D base Q) args s 0 0 (zFree base)) 0 0 0 [some (.inr a0), some (.inl x1), some (.inl x2), none] [] h := by
  unfold mX7_inverse at H
  refine z_iload_n (pc := 0) hc dX7_inverse_0 rfl ?_
  refine z_calI (z_runS (pc := 1) hc dX7_inverse_1 zw_RX7_117 (metX7_isPlate _ _ _ H) rfl (Nat.le_of_ble_eq_true rfl) ⟨Nat.le_of_ble_eq_true rfl, Nat.le_of_ble_eq_true rfl⟩ ⟨by exact Nat.le_of_ble_eq_true rfl, by exact Nat.le_of_ble_eq_true rfl⟩) rfl ⟨rfl, rfl⟩ (fun v2 h1 H => ?_)
  refine z_if_eq (tgt := 14) (pc := 4) hc dX7_inverse_4 rfl H (fun H => ?_) (fun H => ?_)
  · refine z_iconst (pc := 14) hc dX7_inverse_14 ?_
    exact z_ireturn (pc := 15) hc dX7_inverse_15 H
  · refine z_iload_n (pc := 7) hc dX7_inverse_7 rfl ?_
    refine z_calI (z_runS (pc := 8) hc dX7_inverse_8 zw_RX7_120 (metX7_isValue _ _ _ H) rfl (Nat.le_of_ble_eq_true rfl) ⟨Nat.le_of_ble_eq_true rfl, Nat.le_of_ble_eq_true rfl⟩ ⟨by exact Nat.le_of_ble_eq_true rfl, by exact Nat.le_of_ble_eq_true rfl⟩) rfl ⟨rfl, rfl⟩ (fun v4 h3 H => ?_)
    refine z_if_ne (tgt := 16) (pc := 11) hc dX7_inverse_11 rfl H (fun H => ?_) (fun H => ?_)
    · refine z_iconst (pc := 14) hc dX7_inverse_14 ?_
      exact z_ireturn (pc := 15) hc dX7_inverse_15 H
    · refine z_iconst (pc := 16) hc dX7_inverse_16 ?_
      refine z_istore_n (pc := 17) hc dX7_inverse_17 (by decide) (ρ' := [some (.inr a0), some (.inl x1), some (.inl x2), some (.inl 0)]) rfl ?_
      exact rX7_inverse_H18 hc H
end
theorem metX7_inverse (l : Launch) (D : Zd) (base : Nat) {a0 : Nat} {x1 : Int} {x2 : Int} {h : Zm} {Q : Int → Zm → Prop} (H : mX7_inverse a0 x1 x2 h Q) : zMet l D base yX7_inverse cX7_inverse 4 (some .int) zrX7_inverse [.inr a0, .inl x1, .inl x2] h (zQi D base Q) :=
  z_met (by decide +kernel) (Nat.le_of_ble_eq_true rfl) (fun p e s m args below meth c hc hn => rX7_inverse hc H)
def zrX7_simplify : Room := { frames := 2, cells := 0, slots := 0, locals := 52 }
def mX7_simplify_J148 (X110 : Int → Int → Zm → Prop) (a0 : Nat) (x1 : Int) (x3 : Int) (x4 : Int) (s0 : Int) (h : Zm) (Q : Int → Zm → Prop) : Prop :=
  cLe s0 x3
  (X110 x3 (x4 + 1) h)
  (X110 s0 (x4 + 1) h)
def mX7_simplify_B110 (X110 : Int → Int → Zm → Prop) (a0 : Nat) (x1 : Int) (x3 : Int) (x4 : Int) (h : Zm) (Q : Int → Zm → Prop) : Prop :=
  cLt x4 256
  (cRc h 17 a0 <| mX7_valueOf a0 x1 x4 h fun v19 h18 => cGr h18 17 a0 7 fun r20 => cLd h18 1 r20 x4 fun v21 => cLt (v19 - v21) 0
    (mX7_simplify_J148 X110 a0 x1 x3 x4 (-(v19 - v21)) h18 Q)
    (mX7_simplify_J148 X110 a0 x1 x3 x4 (v19 - v21) h18 Q))
  (cRc h 17 a0 <| mX7_ends a0 x3 h fun v17 h16 => Q v17 h16)
def mX7_simplify_H110  (a0 : Nat) (x1 : Int) (x3 : Int) (x4 : Int) (h : Zm) (Q : Int → Zm → Prop) : Prop :=
  lfp2 (fun X110 x3 x4 h => mX7_simplify_B110 X110 a0 x1 x3 x4 h Q) x3 x4 h
def mX7_simplify_B57 (X57 : Int → Zm → Prop) (a0 : Nat) (x1 : Int) (x2 : Int) (x3 : Int) (h : Zm) (Q : Int → Zm → Prop) : Prop :=
  cLt x3 4
  (cGr h 17 a0 0 fun r10 => cSt h r10 ((x2 + 1) + (2 * x3)) (85 * x3) fun h11 => cGr h11 17 a0 0 fun r12 => cGr h11 17 a0 7 fun r13 => cLd h11 1 r13 (85 * x3) fun v14 => cSt h11 r12 ((x2 + 2) + (2 * x3)) v14 fun h15 => X57 (x3 + 1) h15)
  (mX7_simplify_H110  a0 x1 0 0 h Q)
def mX7_simplify_H57  (a0 : Nat) (x1 : Int) (x2 : Int) (x3 : Int) (h : Zm) (Q : Int → Zm → Prop) : Prop :=
  lfp1 (fun X57 x3 h => mX7_simplify_B57 X57 a0 x1 x2 x3 h Q) x3 h
def mX7_simplify_B15 (X15 : Int → Zm → Prop) (a0 : Nat) (x1 : Int) (x2 : Int) (h : Zm) (Q : Int → Zm → Prop) : Prop :=
  cLt x2 256
  (cGr h 17 a0 7 fun r6 => cRc h 17 a0 <| mX7_valueOf a0 x1 x2 h fun v8 h7 => cSt h7 r6 x2 v8 fun h9 => X15 (x2 + 1) h9)
  (cGr h 17 a0 0 fun r4 => cSt h r4 (9 + (17 * x1)) 4 fun h5 => mX7_simplify_H57  a0 x1 (9 + (17 * x1)) 0 h5 Q)
def mX7_simplify_H15  (a0 : Nat) (x1 : Int) (x2 : Int) (h : Zm) (Q : Int → Zm → Prop) : Prop :=
  lfp1 (fun X15 x2 h => mX7_simplify_B15 X15 a0 x1 x2 h Q) x2 h
def mX7_simplify (a0 : Nat) (x1 : Int) (h : Zm) (Q : Int → Zm → Prop) : Prop :=
  mX7_isPlate x1 h fun v2 h1 => cEq v2 0
  (Q (-1) h1)
  (cRc h1 17 a0 <| mX7_hold a0 h1 fun h3 => mX7_simplify_H15  a0 x1 0 h3 Q)
section
variable {p : Program} {l : Launch} {e : Env} {s : State} {m : MethodId} {args : Array Value} {below : List Frame} {meth : Method} {c : Code} {D : Zd} {base : Nat}
set_option maxRecDepth 100000 in
set_option maxHeartbeats 4000000 in
theorem rX7_simplify_J148 (hc : zOk p s m args meth c D cX7_simplify 6 RX7 (some .int)) {X110 : Int → Int → Zm → Prop} {a0 : Nat} {x1 : Int} {x3 : Int} {x4 : Int} {s0 : Int} {h : Zm} {Q : Int → Zm → Prop} (hX110 : ∀ (x3 : Int) (x4 : Int) (h : Zm), X110 x3 x4 h → zW p l e zrX7_simplify s m args below meth c D base 6 (MQ below (zQi D base Q) args s 0 0 (zFree base)) 0 0 110 [some (.inr a0), some (.inl x1), none, some (.inl x3), some (.inl x4), none] [] h) (H : mX7_simplify_J148 X110 a0 x1 x3 x4 s0 h Q) : zW p l e zrX7_simplify s m args below meth c D base 6 (MQ below (zQi D base Q) args s 0 0 (zFree base)) 0 0 148 [some (.inr a0), some (.inl x1), none, some (.inl x3), some (.inl x4), none] [.inl s0] h := by
  unfold mX7_simplify_J148 at H
  refine z_istore (pc := 148) hc dX7_simplify_148 (by decide) (ρ' := [some (.inr a0), some (.inl x1), none, some (.inl x3), some (.inl x4), some (.inl s0)]) rfl ?_
  refine z_iload (pc := 150) hc dX7_simplify_150 rfl ?_
  refine z_iload_n (pc := 152) hc dX7_simplify_152 rfl ?_
  refine z_icmp_le (tgt := 161) (pc := 153) hc dX7_simplify_153 rfl H (fun H => ?_) (fun H => ?_)
  · refine z_iload_n (pc := 161) hc dX7_simplify_161 rfl ?_
    refine z_istore_n (pc := 162) hc dX7_simplify_162 (by decide) (ρ' := [some (.inr a0), some (.inl x1), none, some (.inl x3), some (.inl x4), some (.inl s0)]) rfl ?_
    refine z_iinc (pc := 163) hc dX7_simplify_163 (by decide) rfl (ρ' := [some (.inr a0), some (.inl x1), none, some (.inl x3), some (.inl (x4 + 1)), some (.inl s0)]) rfl ?_
    refine z_goto (tgt := 110) (pc := 166) hc dX7_simplify_166 rfl ?_
    refine z_mask [true, true, false, true, true, false] (ρ' := [some (.inr a0), some (.inl x1), none, some (.inl x3), some (.inl (x4 + 1)), none]) rfl ?_
    exact hX110 _ _ _ H
  · refine z_iload (pc := 156) hc dX7_simplify_156 rfl ?_
    refine z_goto (tgt := 162) (pc := 158) hc dX7_simplify_158 rfl ?_
    refine z_istore_n (pc := 162) hc dX7_simplify_162 (by decide) (ρ' := [some (.inr a0), some (.inl x1), none, some (.inl s0), some (.inl x4), some (.inl s0)]) rfl ?_
    refine z_iinc (pc := 163) hc dX7_simplify_163 (by decide) rfl (ρ' := [some (.inr a0), some (.inl x1), none, some (.inl s0), some (.inl (x4 + 1)), some (.inl s0)]) rfl ?_
    refine z_goto (tgt := 110) (pc := 166) hc dX7_simplify_166 rfl ?_
    refine z_mask [true, true, false, true, true, false] (ρ' := [some (.inr a0), some (.inl x1), none, some (.inl s0), some (.inl (x4 + 1)), none]) rfl ?_
    exact hX110 _ _ _ H
set_option maxRecDepth 100000 in
set_option maxHeartbeats 4000000 in
theorem rX7_simplify_B110 (hc : zOk p s m args meth c D cX7_simplify 6 RX7 (some .int)) {X110 : Int → Int → Zm → Prop} {a0 : Nat} {x1 : Int} {x3 : Int} {x4 : Int} {h : Zm} {Q : Int → Zm → Prop} (hX110 : ∀ (x3 : Int) (x4 : Int) (h : Zm), X110 x3 x4 h → zW p l e zrX7_simplify s m args below meth c D base 6 (MQ below (zQi D base Q) args s 0 0 (zFree base)) 0 0 110 [some (.inr a0), some (.inl x1), none, some (.inl x3), some (.inl x4), none] [] h) (H : mX7_simplify_B110 X110 a0 x1 x3 x4 h Q) : zW p l e zrX7_simplify s m args below meth c D base 6 (MQ below (zQi D base Q) args s 0 0 (zFree base)) 0 0 110 [some (.inr a0), some (.inl x1), none, some (.inl x3), some (.inl x4), none] [] h := by
  unfold mX7_simplify_B110 at H
  refine z_iload (pc := 110) hc dX7_simplify_110 rfl ?_
  refine z_sipush (pc := 112) hc dX7_simplify_112 (by decide) ?_
  refine z_icmp_ge (tgt := 169) (pc := 115) hc dX7_simplify_115 rfl H (fun H => ?_) (fun H => ?_)
  · refine z_aload_n (pc := 118) hc dX7_simplify_118 rfl ?_
    refine z_iload_n (pc := 119) hc dX7_simplify_119 rfl ?_
    refine z_iload (pc := 120) hc dX7_simplify_120 rfl ?_
    refine z_calI (z_runV (pc := 122) (ci := 7) (T := TX7) (N := 20) hc dX7_simplify_122 zw_RX7_123 (metX7_valueOf _ _ _ H.2) rfl (Nat.le_of_ble_eq_true rfl) ⟨Nat.le_of_ble_eq_true rfl, Nat.le_of_ble_eq_true rfl⟩ ⟨by exact Nat.le_of_ble_eq_true rfl, by exact Nat.le_of_ble_eq_true rfl⟩ rfl H.1) rfl ⟨rfl, rfl⟩ (fun v19 h18 H => ?_)
    refine z_aload_n (pc := 125) hc dX7_simplify_125 rfl ?_
    refine z_getR (pc := 126) hc dX7_simplify_126 zf_RX7_29 rfl rfl rfl H (fun r20 H => ?_)
    refine z_iload (pc := 129) hc dX7_simplify_129 rfl ?_
    refine z_iaload (pc := 131) hc dX7_simplify_131 H (fun v21 H => ?_)
    refine z_isub (pc := 132) hc dX7_simplify_132 ?_
    refine z_istore (pc := 133) hc dX7_simplify_133 (by decide) (ρ' := [some (.inr a0), some (.inl x1), none, some (.inl x3), some (.inl x4), some (.inl (v19 - v21))]) rfl ?_
    refine z_iload (pc := 135) hc dX7_simplify_135 rfl ?_
    refine z_if_ge (tgt := 146) (pc := 137) hc dX7_simplify_137 rfl H (fun H => ?_) (fun H => ?_)
    · refine z_iload (pc := 140) hc dX7_simplify_140 rfl ?_
      refine z_ineg (pc := 142) hc dX7_simplify_142 ?_
      refine z_goto (tgt := 148) (pc := 143) hc dX7_simplify_143 rfl ?_
      refine z_mask [true, true, false, true, true, false] (ρ' := [some (.inr a0), some (.inl x1), none, some (.inl x3), some (.inl x4), none]) rfl ?_
      exact rX7_simplify_J148 hc hX110 H
    · refine z_iload (pc := 146) hc dX7_simplify_146 rfl ?_
      refine z_mask [true, true, false, true, true, false] (ρ' := [some (.inr a0), some (.inl x1), none, some (.inl x3), some (.inl x4), none]) rfl ?_
      exact rX7_simplify_J148 hc hX110 H
  · refine z_aload_n (pc := 169) hc dX7_simplify_169 rfl ?_
    refine z_iload_n (pc := 170) hc dX7_simplify_170 rfl ?_
    refine z_calI (z_runV (pc := 171) (ci := 7) (T := TX7) (N := 20) hc dX7_simplify_171 zw_RX7_69 (metX7_ends _ _ _ H.2) rfl (Nat.le_of_ble_eq_true rfl) ⟨Nat.le_of_ble_eq_true rfl, Nat.le_of_ble_eq_true rfl⟩ ⟨by exact Nat.le_of_ble_eq_true rfl, by exact Nat.le_of_ble_eq_true rfl⟩ rfl H.1) rfl ⟨rfl, rfl⟩ (fun v17 h16 H => ?_)
    exact z_ireturn (pc := 174) hc dX7_simplify_174 H
theorem rX7_simplify_H110 (hc : zOk p s m args meth c D cX7_simplify 6 RX7 (some .int))  {a0 : Nat} {x1 : Int} {x3 : Int} {x4 : Int} {h : Zm} {Q : Int → Zm → Prop}  (H : mX7_simplify_H110  a0 x1 x3 x4 h Q) : zW p l e zrX7_simplify s m args below meth c D base 6 (MQ below (zQi D base Q) args s 0 0 (zFree base)) 0 0 110 [some (.inr a0), some (.inl x1), none, some (.inl x3), some (.inl x4), none] [] h :=
  H (fun x3 x4 h => zW p l e zrX7_simplify s m args below meth c D base 6 (MQ below (zQi D base Q) args s 0 0 (zFree base)) 0 0 110 [some (.inr a0), some (.inl x1), none, some (.inl x3), some (.inl x4), none] [] h) (fun x3 x4 h H => rX7_simplify_B110 hc (fun _ _ _ q => q) H)
set_option maxRecDepth 100000 in
set_option maxHeartbeats 4000000 in
theorem rX7_simplify_B57 (hc : zOk p s m args meth c D cX7_simplify 6 RX7 (some .int)) {X57 : Int → Zm → Prop} {a0 : Nat} {x1 : Int} {x2 : Int} {x3 : Int} {h : Zm} {Q : Int → Zm → Prop} (hX57 : ∀ (x3 : Int) (h : Zm), X57 x3 h → zW p l e zrX7_simplify s m args below meth c D base 6 (MQ below (zQi D base Q) args s 0 0 (zFree base)) 0 0 57 [some (.inr a0), some (.inl x1), some (.inl x2), some (.inl x3), none, none] [] h) (H : mX7_simplify_B57 X57 a0 x1 x2 x3 h Q) : zW p l e zrX7_simplify s m args below meth c D base 6 (MQ below (zQi D base Q) args s 0 0 (zFree base)) 0 0 57 [some (.inr a0), some (.inl x1), some (.inl x2), some (.inl x3), none, none] [] h := by
  unfold mX7_simplify_B57 at H
  refine z_iload_n (pc := 57) hc dX7_simplify_57 rfl ?_
  refine z_iconst (pc := 58) hc dX7_simplify_58 ?_
  refine z_icmp_ge (tgt := 105) (pc := 59) hc dX7_simplify_59 rfl H (fun H => ?_) (fun H => ?_)
  · refine z_aload_n (pc := 62) hc dX7_simplify_62 rfl ?_
    refine z_getR (pc := 63) hc dX7_simplify_63 zf_RX7_7 rfl rfl rfl H (fun r10 H => ?_)
    refine z_iload_n (pc := 66) hc dX7_simplify_66 rfl ?_
    refine z_iconst (pc := 67) hc dX7_simplify_67 ?_
    refine z_iadd (pc := 68) hc dX7_simplify_68 ?_
    refine z_iconst (pc := 69) hc dX7_simplify_69 ?_
    refine z_iload_n (pc := 70) hc dX7_simplify_70 rfl ?_
    refine z_imul (pc := 71) hc dX7_simplify_71 ?_
    refine z_iadd (pc := 72) hc dX7_simplify_72 ?_
    refine z_bipush (pc := 73) hc dX7_simplify_73 (by decide) ?_
    refine z_iload_n (pc := 75) hc dX7_simplify_75 rfl ?_
    refine z_imul (pc := 76) hc dX7_simplify_76 ?_
    refine z_iastore (pc := 77) hc dX7_simplify_77 H (fun h11 H => ?_)
    refine z_aload_n (pc := 78) hc dX7_simplify_78 rfl ?_
    refine z_getR (pc := 79) hc dX7_simplify_79 zf_RX7_7 rfl rfl rfl H (fun r12 H => ?_)
    refine z_iload_n (pc := 82) hc dX7_simplify_82 rfl ?_
    refine z_iconst (pc := 83) hc dX7_simplify_83 ?_
    refine z_iadd (pc := 84) hc dX7_simplify_84 ?_
    refine z_iconst (pc := 85) hc dX7_simplify_85 ?_
    refine z_iload_n (pc := 86) hc dX7_simplify_86 rfl ?_
    refine z_imul (pc := 87) hc dX7_simplify_87 ?_
    refine z_iadd (pc := 88) hc dX7_simplify_88 ?_
    refine z_aload_n (pc := 89) hc dX7_simplify_89 rfl ?_
    refine z_getR (pc := 90) hc dX7_simplify_90 zf_RX7_29 rfl rfl rfl H (fun r13 H => ?_)
    refine z_bipush (pc := 93) hc dX7_simplify_93 (by decide) ?_
    refine z_iload_n (pc := 95) hc dX7_simplify_95 rfl ?_
    refine z_imul (pc := 96) hc dX7_simplify_96 ?_
    refine z_iaload (pc := 97) hc dX7_simplify_97 H (fun v14 H => ?_)
    refine z_iastore (pc := 98) hc dX7_simplify_98 H (fun h15 H => ?_)
    refine z_iinc (pc := 99) hc dX7_simplify_99 (by decide) rfl (ρ' := [some (.inr a0), some (.inl x1), some (.inl x2), some (.inl (x3 + 1)), none, none]) rfl ?_
    refine z_goto (tgt := 57) (pc := 102) hc dX7_simplify_102 rfl ?_
    exact hX57 _ _ H
  · refine z_iconst (pc := 105) hc dX7_simplify_105 ?_
    refine z_istore_n (pc := 106) hc dX7_simplify_106 (by decide) (ρ' := [some (.inr a0), some (.inl x1), some (.inl x2), some (.inl 0), none, none]) rfl ?_
    refine z_iconst (pc := 107) hc dX7_simplify_107 ?_
    refine z_istore (pc := 108) hc dX7_simplify_108 (by decide) (ρ' := [some (.inr a0), some (.inl x1), some (.inl x2), some (.inl 0), some (.inl 0), none]) rfl ?_
    refine z_mask [true, true, false, true, true, false] (ρ' := [some (.inr a0), some (.inl x1), none, some (.inl 0), some (.inl 0), none]) rfl ?_
    exact rX7_simplify_H110 hc H
theorem rX7_simplify_H57 (hc : zOk p s m args meth c D cX7_simplify 6 RX7 (some .int))  {a0 : Nat} {x1 : Int} {x2 : Int} {x3 : Int} {h : Zm} {Q : Int → Zm → Prop}  (H : mX7_simplify_H57  a0 x1 x2 x3 h Q) : zW p l e zrX7_simplify s m args below meth c D base 6 (MQ below (zQi D base Q) args s 0 0 (zFree base)) 0 0 57 [some (.inr a0), some (.inl x1), some (.inl x2), some (.inl x3), none, none] [] h :=
  H (fun x3 h => zW p l e zrX7_simplify s m args below meth c D base 6 (MQ below (zQi D base Q) args s 0 0 (zFree base)) 0 0 57 [some (.inr a0), some (.inl x1), some (.inl x2), some (.inl x3), none, none] [] h) (fun x3 h H => rX7_simplify_B57 hc (fun _ _ q => q) H)
set_option maxRecDepth 100000 in
set_option maxHeartbeats 4000000 in
theorem rX7_simplify_B15 (hc : zOk p s m args meth c D cX7_simplify 6 RX7 (some .int)) {X15 : Int → Zm → Prop} {a0 : Nat} {x1 : Int} {x2 : Int} {h : Zm} {Q : Int → Zm → Prop} (hX15 : ∀ (x2 : Int) (h : Zm), X15 x2 h → zW p l e zrX7_simplify s m args below meth c D base 6 (MQ below (zQi D base Q) args s 0 0 (zFree base)) 0 0 15 [some (.inr a0), some (.inl x1), some (.inl x2), none, none, none] [] h) (H : mX7_simplify_B15 X15 a0 x1 x2 h Q) : zW p l e zrX7_simplify s m args below meth c D base 6 (MQ below (zQi D base Q) args s 0 0 (zFree base)) 0 0 15 [some (.inr a0), some (.inl x1), some (.inl x2), none, none, none] [] h := by
  unfold mX7_simplify_B15 at H
  refine z_iload_n (pc := 15) hc dX7_simplify_15 rfl ?_
  refine z_sipush (pc := 16) hc dX7_simplify_16 (by decide) ?_
  refine z_icmp_ge (tgt := 40) (pc := 19) hc dX7_simplify_19 rfl H (fun H => ?_) (fun H => ?_)
  · refine z_aload_n (pc := 22) hc dX7_simplify_22 rfl ?_
    refine z_getR (pc := 23) hc dX7_simplify_23 zf_RX7_29 rfl rfl rfl H (fun r6 H => ?_)
    refine z_iload_n (pc := 26) hc dX7_simplify_26 rfl ?_
    refine z_aload_n (pc := 27) hc dX7_simplify_27 rfl ?_
    refine z_iload_n (pc := 28) hc dX7_simplify_28 rfl ?_
    refine z_iload_n (pc := 29) hc dX7_simplify_29 rfl ?_
    refine z_calI (z_runV (pc := 30) (ci := 7) (T := TX7) (N := 20) hc dX7_simplify_30 zw_RX7_123 (metX7_valueOf _ _ _ H.2) rfl (Nat.le_of_ble_eq_true rfl) ⟨Nat.le_of_ble_eq_true rfl, Nat.le_of_ble_eq_true rfl⟩ ⟨by exact Nat.le_of_ble_eq_true rfl, by exact Nat.le_of_ble_eq_true rfl⟩ rfl H.1) rfl ⟨rfl, rfl⟩ (fun v8 h7 H => ?_)
    refine z_iastore (pc := 33) hc dX7_simplify_33 H (fun h9 H => ?_)
    refine z_iinc (pc := 34) hc dX7_simplify_34 (by decide) rfl (ρ' := [some (.inr a0), some (.inl x1), some (.inl (x2 + 1)), none, none, none]) rfl ?_
    refine z_goto (tgt := 15) (pc := 37) hc dX7_simplify_37 rfl ?_
    exact hX15 _ _ H
  · refine z_bipush (pc := 40) hc dX7_simplify_40 (by decide) ?_
    refine z_bipush (pc := 42) hc dX7_simplify_42 (by decide) ?_
    refine z_iload_n (pc := 44) hc dX7_simplify_44 rfl ?_
    refine z_imul (pc := 45) hc dX7_simplify_45 ?_
    refine z_iadd (pc := 46) hc dX7_simplify_46 ?_
    refine z_istore_n (pc := 47) hc dX7_simplify_47 (by decide) (ρ' := [some (.inr a0), some (.inl x1), some (.inl (9 + (17 * x1))), none, none, none]) rfl ?_
    refine z_aload_n (pc := 48) hc dX7_simplify_48 rfl ?_
    refine z_getR (pc := 49) hc dX7_simplify_49 zf_RX7_7 rfl rfl rfl H (fun r4 H => ?_)
    refine z_iload_n (pc := 52) hc dX7_simplify_52 rfl ?_
    refine z_iconst (pc := 53) hc dX7_simplify_53 ?_
    refine z_iastore (pc := 54) hc dX7_simplify_54 H (fun h5 H => ?_)
    refine z_iconst (pc := 55) hc dX7_simplify_55 ?_
    refine z_istore_n (pc := 56) hc dX7_simplify_56 (by decide) (ρ' := [some (.inr a0), some (.inl x1), some (.inl (9 + (17 * x1))), some (.inl 0), none, none]) rfl ?_
    exact rX7_simplify_H57 hc H
theorem rX7_simplify_H15 (hc : zOk p s m args meth c D cX7_simplify 6 RX7 (some .int))  {a0 : Nat} {x1 : Int} {x2 : Int} {h : Zm} {Q : Int → Zm → Prop}  (H : mX7_simplify_H15  a0 x1 x2 h Q) : zW p l e zrX7_simplify s m args below meth c D base 6 (MQ below (zQi D base Q) args s 0 0 (zFree base)) 0 0 15 [some (.inr a0), some (.inl x1), some (.inl x2), none, none, none] [] h :=
  H (fun x2 h => zW p l e zrX7_simplify s m args below meth c D base 6 (MQ below (zQi D base Q) args s 0 0 (zFree base)) 0 0 15 [some (.inr a0), some (.inl x1), some (.inl x2), none, none, none] [] h) (fun x2 h H => rX7_simplify_B15 hc (fun _ _ q => q) H)
set_option maxRecDepth 100000 in
set_option maxHeartbeats 4000000 in
theorem rX7_simplify (hc : zOk p s m args meth c D cX7_simplify 6 RX7 (some .int)) {a0 : Nat} {x1 : Int} {h : Zm} {Q : Int → Zm → Prop} (H : mX7_simplify a0 x1 h Q) : zW p l e zrX7_simplify s m args below meth c D base 6 (MQ below (zQi D base Q) args s 0 0 (zFree base)) 0 0 0 [some (.inr a0), some (.inl x1), none, none, none, none] [] h := by
  unfold mX7_simplify at H
  refine z_iload_n (pc := 0) hc dX7_simplify_0 rfl ?_
  refine z_calI (z_runS (pc := 1) hc dX7_simplify_1 zw_RX7_117 (metX7_isPlate _ _ _ H) rfl (Nat.le_of_ble_eq_true rfl) ⟨Nat.le_of_ble_eq_true rfl, Nat.le_of_ble_eq_true rfl⟩ ⟨by exact Nat.le_of_ble_eq_true rfl, by exact Nat.le_of_ble_eq_true rfl⟩) rfl ⟨rfl, rfl⟩ (fun v2 h1 H => ?_)
  refine z_if_ne (tgt := 9) (pc := 4) hc dX7_simplify_4 rfl H (fun H => ?_) (fun H => ?_)
  · refine z_iconst (pc := 7) hc dX7_simplify_7 ?_
    exact z_ireturn (pc := 8) hc dX7_simplify_8 H
  · refine z_aload_n (pc := 9) hc dX7_simplify_9 rfl ?_
    refine z_calV0 (z_runV (pc := 10) (ci := 7) (T := TX7) (N := 20) hc dX7_simplify_10 zw_RX7_66 (metX7_hold _ _ _ H.2) rfl (Nat.le_of_ble_eq_true rfl) ⟨Nat.le_of_ble_eq_true rfl, Nat.le_of_ble_eq_true rfl⟩ ⟨by exact Nat.le_of_ble_eq_true rfl, by exact Nat.le_of_ble_eq_true rfl⟩ rfl H.1) rfl ⟨rfl, rfl⟩ (fun h3 H => ?_)
    refine z_iconst (pc := 13) hc dX7_simplify_13 ?_
    refine z_istore_n (pc := 14) hc dX7_simplify_14 (by decide) (ρ' := [some (.inr a0), some (.inl x1), some (.inl 0), none, none, none]) rfl ?_
    exact rX7_simplify_H15 hc H
end
theorem metX7_simplify (l : Launch) (D : Zd) (base : Nat) {a0 : Nat} {x1 : Int} {h : Zm} {Q : Int → Zm → Prop} (H : mX7_simplify a0 x1 h Q) : zMet l D base yX7_simplify cX7_simplify 6 (some .int) zrX7_simplify [.inr a0, .inl x1] h (zQi D base Q) :=
  z_met (by decide +kernel) (Nat.le_of_ble_eq_true rfl) (fun p e s m args below meth c hc hn => rX7_simplify hc H)
