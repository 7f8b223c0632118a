/-! printed by gen.py: X7_lastChild X7_lays X7_isIn X7_moves X7_touches X7_renders X7_limits -/
def zrX7_lastChild : Room := { frames := 2, cells := 0, slots := 0, locals := 44 }
def mX7_lastChild_B6 (X6 : Int → Int → Zm → Prop) (a0 : Nat) (x1 : Int) (x2 : Int) (x3 : Int) (x4 : Int) (h : Zm) (Q : Int → Zm → Prop) : Prop :=
  cLt x4 24
  (cRc h 17 a0 <| mX7_isChild a0 x4 x1 h fun v2 h1 => cEq v2 0
    (X6 x3 (x4 + 1) h1)
    (cRc h1 17 a0 <| mX7_of a0 x4 2 h1 fun v4 h3 => cLt v4 x2
      (cLt x3 0
        (X6 x4 (x4 + 1) h3)
        (cRc h3 17 a0 <| mX7_of a0 x4 2 h3 fun v6 h5 => cRc h5 17 a0 <| mX7_of a0 x3 2 h5 fun v8 h7 => cLe v6 v8
          (X6 x3 (x4 + 1) h7)
          (X6 x4 (x4 + 1) h7)))
      (X6 x3 (x4 + 1) h3)))
  (Q x3 h)
def mX7_lastChild_H6  (a0 : Nat) (x1 : Int) (x2 : Int) (x3 : Int) (x4 : Int) (h : Zm) (Q : Int → Zm → Prop) : Prop :=
  lfp2 (fun X6 x3 x4 h => mX7_lastChild_B6 X6 a0 x1 x2 x3 x4 h Q) x3 x4 h
def mX7_lastChild (a0 : Nat) (x1 : Int) (x2 : Int) (h : Zm) (Q : Int → Zm → Prop) : Prop :=
  mX7_lastChild_H6  a0 x1 x2 (-4) 1 h Q
section
variable {p : Program} {l : Launch} {e : Env} {s : State} {m : MethodId} {args : Array Value} {below : List Frame} {meth : Method} {c : Code} {D : Zd} {base : Nat}
set_option maxRecDepth 100000 in
set_option maxHeartbeats 4000000 in
theorem rX7_lastChild_B6 (hc : zOk p s m args meth c D cX7_lastChild 5 RX7 (some .int)) {X6 : Int → Int → Zm → Prop} {a0 : Nat} {x1 : Int} {x2 : Int} {x3 : Int} {x4 : Int} {h : Zm} {Q : Int → Zm → Prop} (hX6 : ∀ (x3 : Int) (x4 : Int) (h : Zm), X6 x3 x4 h → zW p l e zrX7_lastChild s m args below meth c D base 5 (MQ below (zQi D base Q) args s 0 0 (zFree base)) 0 0 6 [some (.inr a0), some (.inl x1), some (.inl x2), some (.inl x3), some (.inl x4)] [] h) (H : mX7_lastChild_B6 X6 a0 x1 x2 x3 x4 h Q) : zW p l e zrX7_lastChild s m args below meth c D base 5 (MQ below (zQi D base Q) args s 0 0 (zFree base)) 0 0 6 [some (.inr a0), some (.inl x1), some (.inl x2), some (.inl x3), some (.inl x4)] [] h := by
  unfold mX7_lastChild_B6 at H
  refine z_iload (pc := 6) hc dX7_lastChild_6 rfl ?_
  refine z_bipush (pc := 8) hc dX7_lastChild_8 (by decide) ?_
  refine z_icmp_ge (tgt := 63) (pc := 10) hc dX7_lastChild_10 rfl H (fun H => ?_) (fun H => ?_)
  · refine z_aload_n (pc := 13) hc dX7_lastChild_13 rfl ?_
    refine z_iload (pc := 14) hc dX7_lastChild_14 rfl ?_
    refine z_iload_n (pc := 16) hc dX7_lastChild_16 rfl ?_
    refine z_calI (z_runV (pc := 17) (ci := 7) (T := TX7) (N := 20) hc dX7_lastChild_17 zw_RX7_102 (metX7_isChild _ _ _ H.2) rfl (Nat.le_of_ble_eq_true rfl) ⟨Nat.le_of_ble_eq_true rfl, Nat.le_of_ble_eq_true rfl⟩ ⟨by exact Nat.le_of_ble_eq_true rfl, by exact Nat.le_of_ble_eq_true rfl⟩ rfl H.1) rfl ⟨rfl, rfl⟩ (fun v2 h1 H => ?_)
    refine z_if_eq (tgt := 57) (pc := 20) hc dX7_lastChild_20 rfl H (fun H => ?_) (fun H => ?_)
    · refine z_iinc (pc := 57) hc dX7_lastChild_57 (by decide) rfl (ρ' := [some (.inr a0), some (.inl x1), some (.inl x2), some (.inl x3), some (.inl (x4 + 1))]) rfl ?_
      refine z_goto (tgt := 6) (pc := 60) hc dX7_lastChild_60 rfl ?_
      exact hX6 _ _ _ H
    · refine z_aload_n (pc := 23) hc dX7_lastChild_23 rfl ?_
      refine z_iload (pc := 24) hc dX7_lastChild_24 rfl ?_
      refine z_iconst (pc := 26) hc dX7_lastChild_26 ?_
      refine z_calI (z_runV (pc := 27) (ci := 7) (T := TX7) (N := 20) hc dX7_lastChild_27 zw_RX7_77 (metX7_of _ _ _ H.2) rfl (Nat.le_of_ble_eq_true rfl) ⟨Nat.le_of_ble_eq_true rfl, Nat.le_of_ble_eq_true rfl⟩ ⟨by exact Nat.le_of_ble_eq_true rfl, by exact Nat.le_of_ble_eq_true rfl⟩ rfl H.1) rfl ⟨rfl, rfl⟩ (fun v4 h3 H => ?_)
      refine z_iload_n (pc := 30) hc dX7_lastChild_30 rfl ?_
      refine z_icmp_ge (tgt := 57) (pc := 31) hc dX7_lastChild_31 rfl H (fun H => ?_) (fun H => ?_)
      · refine z_iload_n (pc := 34) hc dX7_lastChild_34 rfl ?_
        refine z_if_lt (tgt := 54) (pc := 35) hc dX7_lastChild_35 rfl H (fun H => ?_) (fun H => ?_)
        · refine z_iload (pc := 54) hc dX7_lastChild_54 rfl ?_
          refine z_istore_n (pc := 56) hc dX7_lastChild_56 (by decide) (ρ' := [some (.inr a0), some (.inl x1), some (.inl x2), some (.inl x4), some (.inl x4)]) rfl ?_
          refine z_iinc (pc := 57) hc dX7_lastChild_57 (by decide) rfl (ρ' := [some (.inr a0), some (.inl x1), some (.inl x2), some (.inl x4), some (.inl (x4 + 1))]) rfl ?_
          refine z_goto (tgt := 6) (pc := 60) hc dX7_lastChild_60 rfl ?_
          exact hX6 _ _ _ H
        · refine z_aload_n (pc := 38) hc dX7_lastChild_38 rfl ?_
          refine z_iload (pc := 39) hc dX7_lastChild_39 rfl ?_
          refine z_iconst (pc := 41) hc dX7_lastChild_41 ?_
          refine z_calI (z_runV (pc := 42) (ci := 7) (T := TX7) (N := 20) hc dX7_lastChild_42 zw_RX7_77 (metX7_of _ _ _ H.2) rfl (Nat.le_of_ble_eq_true rfl) ⟨Nat.le_of_ble_eq_true rfl, Nat.le_of_ble_eq_true rfl⟩ ⟨by exact Nat.le_of_ble_eq_true rfl, by exact Nat.le_of_ble_eq_true rfl⟩ rfl H.1) rfl ⟨rfl, rfl⟩ (fun v6 h5 H => ?_)
          refine z_aload_n (pc := 45) hc dX7_lastChild_45 rfl ?_
          refine z_iload_n (pc := 46) hc dX7_lastChild_46 rfl ?_
          refine z_iconst (pc := 47) hc dX7_lastChild_47 ?_
          refine z_calI (z_runV (pc := 48) (ci := 7) (T := TX7) (N := 20) hc dX7_lastChild_48 zw_RX7_77 (metX7_of _ _ _ H.2) rfl (Nat.le_of_ble_eq_true rfl) ⟨Nat.le_of_ble_eq_true rfl, Nat.le_of_ble_eq_true rfl⟩ ⟨by exact Nat.le_of_ble_eq_true rfl, by exact Nat.le_of_ble_eq_true rfl⟩ rfl H.1) rfl ⟨rfl, rfl⟩ (fun v8 h7 H => ?_)
          refine z_icmp_le (tgt := 57) (pc := 51) hc dX7_lastChild_51 rfl H (fun H => ?_) (fun H => ?_)
          · refine z_iinc (pc := 57) hc dX7_lastChild_57 (by decide) rfl (ρ' := [some (.inr a0), some (.inl x1), some (.inl x2), some (.inl x3), some (.inl (x4 + 1))]) rfl ?_
            refine z_goto (tgt := 6) (pc := 60) hc dX7_lastChild_60 rfl ?_
            exact hX6 _ _ _ H
          · refine z_iload (pc := 54) hc dX7_lastChild_54 rfl ?_
            refine z_istore_n (pc := 56) hc dX7_lastChild_56 (by decide) (ρ' := [some (.inr a0), some (.inl x1), some (.inl x2), some (.inl x4), some (.inl x4)]) rfl ?_
            refine z_iinc (pc := 57) hc dX7_lastChild_57 (by decide) rfl (ρ' := [some (.inr a0), some (.inl x1), some (.inl x2), some (.inl x4), some (.inl (x4 + 1))]) rfl ?_
            refine z_goto (tgt := 6) (pc := 60) hc dX7_lastChild_60 rfl ?_
            exact hX6 _ _ _ H
      · refine z_iinc (pc := 57) hc dX7_lastChild_57 (by decide) rfl (ρ' := [some (.inr a0), some (.inl x1), some (.inl x2), some (.inl x3), some (.inl (x4 + 1))]) rfl ?_
        refine z_goto (tgt := 6) (pc := 60) hc dX7_lastChild_60 rfl ?_
        exact hX6 _ _ _ H
  · refine z_iload_n (pc := 63) hc dX7_lastChild_63 rfl ?_
    exact z_ireturn (pc := 64) hc dX7_lastChild_64 H
theorem rX7_lastChild_H6 (hc : zOk p s m args meth c D cX7_lastChild 5 RX7 (some .int))  {a0 : Nat} {x1 : Int} {x2 : Int} {x3 : Int} {x4 : Int} {h : Zm} {Q : Int → Zm → Prop}  (H : mX7_lastChild_H6  a0 x1 x2 x3 x4 h Q) : zW p l e zrX7_lastChild s m args below meth c D base 5 (MQ below (zQi D base Q) args s 0 0 (zFree base)) 0 0 6 [some (.inr a0), some (.inl x1), some (.inl x2), some (.inl x3), some (.inl x4)] [] h :=
  H (fun x3 x4 h => zW p l e zrX7_lastChild s m args below meth c D base 5 (MQ below (zQi D base Q) args s 0 0 (zFree base)) 0 0 6 [some (.inr a0), some (.inl x1), some (.inl x2), some (.inl x3), some (.inl x4)] [] h) (fun x3 x4 h H => rX7_lastChild_B6 hc (fun _ _ _ q => q) H)
set_option maxRecDepth 100000 in
set_option maxHeartbeats 4000000 in
theorem rX7_lastChild (hc : zOk p s m args meth c D cX7_lastChild 5 RX7 (some .int)) {a0 : Nat} {x1 : Int} {x2 : Int} {h : Zm} {Q : Int → Zm → Prop} (H : mX7_lastChild a0 x1 x2 h Q) : zW p l e zrX7_lastChild s m args below meth c D base 5 (MQ below (zQi D base Q) args s 0 0 (zFree base)) 0 0 0 [some (.inr a0), some (.inl x1), some (.inl x2), none, none] [] h := by
  unfold mX7_lastChild at H
  refine z_bipush (pc := 0) hc dX7_lastChild_0 (by decide) ?_
  refine z_istore_n (pc := 2) hc dX7_lastChild_2 (by decide) (ρ' := [some (.inr a0), some (.inl x1), some (.inl x2), some (.inl (-4)), none]) rfl ?_
  refine z_iconst (pc := 3) hc dX7_lastChild_3 ?_
  refine z_istore (pc := 4) hc dX7_lastChild_4 (by decide) (ρ' := [some (.inr a0), some (.inl x1), some (.inl x2), some (.inl (-4)), some (.inl 1)]) rfl ?_
  exact rX7_lastChild_H6 hc H
end
theorem metX7_lastChild (l : Launch) (D : Zd) (base : Nat) {a0 : Nat} {x1 : Int} {x2 : Int} {h : Zm} {Q : Int → Zm → Prop} (H : mX7_lastChild a0 x1 x2 h Q) : zMet l D base yX7_lastChild cX7_lastChild 5 (some .int) zrX7_lastChild [.inr a0, .inl x1, .inl x2] h (zQi D base Q) :=
  z_met (by decide +kernel) (Nat.le_of_ble_eq_true rfl) (fun p e s m args below meth c hc hn => rX7_lastChild hc H)
def zrX7_lays : Room := { frames := 3, cells := 0, slots := 0, locals := 68 }
def mX7_lays_B199 (X14 : Int → Zm → Prop) (X199 : Int → Int → Zm → Prop) (a0 : Nat) (x1 : Int) (x2 : Int) (x5 : Int) (h : Zm) (Q : Zm → Prop) : Prop :=
  cLt x5 0
  (X14 x1 h)
  (cGr h 17 a0 10 fun r38 => cSt h r38 x1 x5 fun h39 => cRc h39 17 a0 <| mX7_of a0 x5 2 h39 fun v41 h40 => cRc h40 17 a0 <| mX7_lastChild a0 x2 v41 h40 fun v43 h42 => X199 (x1 + 1) v43 h42)
def mX7_lays_H199 (X14 : Int → Zm → Prop) (a0 : Nat) (x1 : Int) (x2 : Int) (x5 : Int) (h : Zm) (Q : Zm → Prop) : Prop :=
  lfp2 (fun X199 x1 x5 h => mX7_lays_B199 X14 X199 a0 x1 x2 x5 h Q) x1 x5 h
def mX7_lays_J182 (X14 : Int → Zm → Prop) (a0 : Nat) (x1 : Int) (x2 : Int) (q0 : Nat) (s1 : Int) (s2 : Int) (h : Zm) (Q : Zm → Prop) : Prop :=
  cSt h q0 s1 s2 fun h33 => cGr h33 17 a0 0 fun r34 => cLd h33 1 r34 8 fun v35 => cRc h33 17 a0 <| mX7_lastChild a0 x2 (v35 + 1) h33 fun v37 h36 => mX7_lays_H199 X14 a0 x1 x2 v37 h36 Q
def mX7_lays_J146 (X14 : Int → Zm → Prop) (a0 : Nat) (x1 : Int) (x2 : Int) (x3 : Int) (x4 : Int) (q0 : Nat) (s1 : Int) (s2 : Int) (h : Zm) (Q : Zm → Prop) : Prop :=
  cSt h q0 s1 s2 fun h27 => cGr h27 17 a0 13 fun r28 => cEq x2 0
  (mX7_lays_J182 X14 a0 x1 x2 r28 x2 0 h27 Q)
  (cEq x4 0
    (mX7_lays_J182 X14 a0 x1 x2 r28 x2 0 h27 Q)
    (cGr h27 17 a0 13 fun r29 => cLd h27 1 r29 x3 fun v30 => cRc h27 17 a0 <| mX7_of a0 x2 5 h27 fun v32 h31 => mX7_lays_J182 X14 a0 x1 x2 r28 x2 (v30 + v32) h31 Q))
def mX7_lays_J110 (X14 : Int → Zm → Prop) (a0 : Nat) (x1 : Int) (x2 : Int) (x3 : Int) (x4 : Int) (q0 : Nat) (s1 : Int) (s2 : Int) (h : Zm) (Q : Zm → Prop) : Prop :=
  cSt h q0 s1 s2 fun h21 => cGr h21 17 a0 12 fun r22 => cEq x2 0
  (mX7_lays_J146 X14 a0 x1 x2 x3 x4 r22 x2 0 h21 Q)
  (cEq x4 0
    (mX7_lays_J146 X14 a0 x1 x2 x3 x4 r22 x2 0 h21 Q)
    (cGr h21 17 a0 12 fun r23 => cLd h21 1 r23 x3 fun v24 => cRc h21 17 a0 <| mX7_of a0 x2 4 h21 fun v26 h25 => mX7_lays_J146 X14 a0 x1 x2 x3 x4 r22 x2 (v24 + v26) h25 Q))
def mX7_lays_J69 (X14 : Int → Zm → Prop) (a0 : Nat) (x1 : Int) (x2 : Int) (x3 : Int) (s0 : Int) (h : Zm) (Q : Zm → Prop) : Prop :=
  cGr h 17 a0 11 fun r15 => cEq x2 0
  (mX7_lays_J110 X14 a0 x1 x2 x3 s0 r15 x2 100 h Q)
  (cEq s0 0
    (mX7_lays_J110 X14 a0 x1 x2 x3 s0 r15 x2 0 h Q)
    (cGr h 17 a0 11 fun r16 => cLd h 1 r16 x3 fun v17 => cRc h 17 a0 <| mX7_of a0 x2 3 h fun v19 h18 => cDiv (v17 * v19) 100 fun v20 => mX7_lays_J110 X14 a0 x1 x2 x3 s0 r15 x2 v20 h18 Q))
def mX7_lays_B14 (X14 : Int → Zm → Prop) (a0 : Nat) (x1 : Int) (h : Zm) (Q : Zm → Prop) : Prop :=
  cLe x1 0
  (Q h)
  (cGr h 17 a0 10 fun r4 => cLd h 1 r4 (x1 + (-1)) fun v5 => cGr h 17 a0 8 fun r6 => cGi h 17 a0 9 fun v7 => cSt h r6 v7 v5 fun h8 => cGi h8 17 a0 9 fun v9 => cPi h8 17 a0 9 (v9 + 1) fun h10 => cRc h10 17 a0 <| mX7_of a0 v5 1 h10 fun v12 h11 => cRc h11 17 a0 <| mX7_of a0 v5 0 h11 fun v14 h13 => cEq v14 0
    (mX7_lays_J69 X14 a0 (x1 + (-1)) v5 v12 1 h13 Q)
    (mX7_lays_J69 X14 a0 (x1 + (-1)) v5 v12 0 h13 Q))
def mX7_lays_H14  (a0 : Nat) (x1 : Int) (h : Zm) (Q : Zm → Prop) : Prop :=
  lfp1 (fun X14 x1 h => mX7_lays_B14 X14 a0 x1 h Q) x1 h
def mX7_lays (a0 : Nat) (h : Zm) (Q : Zm → Prop) : Prop :=
  cPi h 17 a0 9 0 fun h1 => cGr h1 17 a0 10 fun r2 => cSt h1 r2 0 0 fun h3 => mX7_lays_H14  a0 1 h3 Q
section
variable {p : Program} {l : Launch} {e : Env} {s : State} {m : MethodId} {args : Array Value} {below : List Frame} {meth : Method} {c : Code} {D : Zd} {base : Nat}
set_option maxRecDepth 100000 in
set_option maxHeartbeats 4000000 in
theorem rX7_lays_B199 (hc : zOk p s m args meth c D cX7_lays 6 RX7 none) {X14 : Int → Zm → Prop} {X199 : Int → Int → Zm → Prop} {a0 : Nat} {x1 : Int} {x2 : Int} {x5 : Int} {h : Zm} {Q : Zm → Prop} (hX14 : ∀ (x1 : Int) (h : Zm), X14 x1 h → zW p l e zrX7_lays s m args below meth c D base 6 (MQ below (zQv D base Q) args s 0 0 (zFree base)) 0 0 14 [some (.inr a0), some (.inl x1), none, none, none, none] [] h) (hX199 : ∀ (x1 : Int) (x5 : Int) (h : Zm), X199 x1 x5 h → zW p l e zrX7_lays s m args below meth c D base 6 (MQ below (zQv D base Q) args s 0 0 (zFree base)) 0 0 199 [some (.inr a0), some (.inl x1), some (.inl x2), none, none, some (.inl x5)] [] h) (H : mX7_lays_B199 X14 X199 a0 x1 x2 x5 h Q) : zW p l e zrX7_lays s m args below meth c D base 6 (MQ below (zQv D base Q) args s 0 0 (zFree base)) 0 0 199 [some (.inr a0), some (.inl x1), some (.inl x2), none, none, some (.inl x5)] [] h := by
  unfold mX7_lays_B199 at H
  refine z_iload (pc := 199) hc dX7_lays_199 rfl ?_
  refine z_if_lt (tgt := 232) (pc := 201) hc dX7_lays_201 rfl H (fun H => ?_) (fun H => ?_)
  · refine z_goto (tgt := 14) (pc := 232) hc dX7_lays_232 rfl ?_
    refine z_mask [true, true, false, false, false, false] (ρ' := [some (.inr a0), some (.inl x1), none, none, none, none]) rfl ?_
    exact hX14 _ _ H
  · refine z_aload_n (pc := 204) hc dX7_lays_204 rfl ?_
    refine z_getR (pc := 205) hc dX7_lays_205 zf_RX7_35 rfl rfl rfl H (fun r38 H => ?_)
    refine z_iload_n (pc := 208) hc dX7_lays_208 rfl ?_
    refine z_iload (pc := 209) hc dX7_lays_209 rfl ?_
    refine z_iastore (pc := 211) hc dX7_lays_211 H (fun h39 H => ?_)
    refine z_iinc (pc := 212) hc dX7_lays_212 (by decide) rfl (ρ' := [some (.inr a0), some (.inl (x1 + 1)), some (.inl x2), none, none, some (.inl x5)]) rfl ?_
    refine z_aload_n (pc := 215) hc dX7_lays_215 rfl ?_
    refine z_iload_n (pc := 216) hc dX7_lays_216 rfl ?_
    refine z_aload_n (pc := 217) hc dX7_lays_217 rfl ?_
    refine z_iload (pc := 218) hc dX7_lays_218 rfl ?_
    refine z_iconst (pc := 220) hc dX7_lays_220 ?_
    refine z_calI (z_runV (pc := 221) (ci := 7) (T := TX7) (N := 20) hc dX7_lays_221 zw_RX7_77 (metX7_of _ _ _ H.2) rfl (Nat.le_of_ble_eq_true rfl) ⟨Nat.le_of_ble_eq_true rfl, Nat.le_of_ble_eq_true rfl⟩ ⟨by exact Nat.le_of_ble_eq_true rfl, by exact Nat.le_of_ble_eq_true rfl⟩ rfl H.1) rfl ⟨rfl, rfl⟩ (fun v41 h40 H => ?_)
    refine z_calI (z_runV (pc := 224) (ci := 7) (T := TX7) (N := 20) hc dX7_lays_224 zw_RX7_129 (metX7_lastChild _ _ _ H.2) rfl (Nat.le_of_ble_eq_true rfl) ⟨Nat.le_of_ble_eq_true rfl, Nat.le_of_ble_eq_true rfl⟩ ⟨by exact Nat.le_of_ble_eq_true rfl, by exact Nat.le_of_ble_eq_true rfl⟩ rfl H.1) rfl ⟨rfl, rfl⟩ (fun v43 h42 H => ?_)
    refine z_istore (pc := 227) hc dX7_lays_227 (by decide) (ρ' := [some (.inr a0), some (.inl (x1 + 1)), some (.inl x2), none, none, some (.inl v43)]) rfl ?_
    refine z_goto (tgt := 199) (pc := 229) hc dX7_lays_229 rfl ?_
    exact hX199 _ _ _ H
theorem rX7_lays_H199 (hc : zOk p s m args meth c D cX7_lays 6 RX7 none) {X14 : Int → Zm → Prop} {a0 : Nat} {x1 : Int} {x2 : Int} {x5 : Int} {h : Zm} {Q : Zm → Prop} (hX14 : ∀ (x1 : Int) (h : Zm), X14 x1 h → zW p l e zrX7_lays s m args below meth c D base 6 (MQ below (zQv D base Q) args s 0 0 (zFree base)) 0 0 14 [some (.inr a0), some (.inl x1), none, none, none, none] [] h) (H : mX7_lays_H199 X14 a0 x1 x2 x5 h Q) : zW p l e zrX7_lays s m args below meth c D base 6 (MQ below (zQv D base Q) args s 0 0 (zFree base)) 0 0 199 [some (.inr a0), some (.inl x1), some (.inl x2), none, none, some (.inl x5)] [] h :=
  H (fun x1 x5 h => zW p l e zrX7_lays s m args below meth c D base 6 (MQ below (zQv D base Q) args s 0 0 (zFree base)) 0 0 199 [some (.inr a0), some (.inl x1), some (.inl x2), none, none, some (.inl x5)] [] h) (fun x1 x5 h H => rX7_lays_B199 hc hX14 (fun _ _ _ q => q) H)
set_option maxRecDepth 100000 in
set_option maxHeartbeats 4000000 in
theorem rX7_lays_J182 (hc : zOk p s m args meth c D cX7_lays 6 RX7 none) {X14 : Int → Zm → Prop} {a0 : Nat} {x1 : Int} {x2 : Int} {q0 : Nat} {s1 : Int} {s2 : Int} {h : Zm} {Q : Zm → Prop} (hX14 : ∀ (x1 : Int) (h : Zm), X14 x1 h → zW p l e zrX7_lays s m args below meth c D base 6 (MQ below (zQv D base Q) args s 0 0 (zFree base)) 0 0 14 [some (.inr a0), some (.inl x1), none, none, none, none] [] h) (H : mX7_lays_J182 X14 a0 x1 x2 q0 s1 s2 h Q) : zW p l e zrX7_lays s m args below meth c D base 6 (MQ below (zQv D base Q) args s 0 0 (zFree base)) 0 0 182 [some (.inr a0), some (.inl x1), some (.inl x2), none, none, none] [.inl s2, .inl s1, .inr q0] h := by
  unfold mX7_lays_J182 at H
  refine z_iastore (pc := 182) hc dX7_lays_182 H (fun h33 H => ?_)
  refine z_aload_n (pc := 183) hc dX7_lays_183 rfl ?_
  refine z_iload_n (pc := 184) hc dX7_lays_184 rfl ?_
  refine z_aload_n (pc := 185) hc dX7_lays_185 rfl ?_
  refine z_getR (pc := 186) hc dX7_lays_186 zf_RX7_7 rfl rfl rfl H (fun r34 H => ?_)
  refine z_bipush (pc := 189) hc dX7_lays_189 (by decide) ?_
  refine z_iaload (pc := 191) hc dX7_lays_191 H (fun v35 H => ?_)
  refine z_iconst (pc := 192) hc dX7_lays_192 ?_
  refine z_iadd (pc := 193) hc dX7_lays_193 ?_
  refine z_calI (z_runV (pc := 194) (ci := 7) (T := TX7) (N := 20) hc dX7_lays_194 zw_RX7_129 (metX7_lastChild _ _ _ H.2) rfl (Nat.le_of_ble_eq_true rfl) ⟨Nat.le_of_ble_eq_true rfl, Nat.le_of_ble_eq_true rfl⟩ ⟨by exact Nat.le_of_ble_eq_true rfl, by exact Nat.le_of_ble_eq_true rfl⟩ rfl H.1) rfl ⟨rfl, rfl⟩ (fun v37 h36 H => ?_)
  refine z_istore (pc := 197) hc dX7_lays_197 (by decide) (ρ' := [some (.inr a0), some (.inl x1), some (.inl x2), none, none, some (.inl v37)]) rfl ?_
  exact rX7_lays_H199 hc hX14 H
set_option maxRecDepth 100000 in
set_option maxHeartbeats 4000000 in
theorem rX7_lays_J146 (hc : zOk p s m args meth c D cX7_lays 6 RX7 none) {X14 : Int → Zm → Prop} {a0 : Nat} {x1 : Int} {x2 : Int} {x3 : Int} {x4 : Int} {q0 : Nat} {s1 : Int} {s2 : Int} {h : Zm} {Q : Zm → Prop} (hX14 : ∀ (x1 : Int) (h : Zm), X14 x1 h → zW p l e zrX7_lays s m args below meth c D base 6 (MQ below (zQv D base Q) args s 0 0 (zFree base)) 0 0 14 [some (.inr a0), some (.inl x1), none, none, none, none] [] h) (H : mX7_lays_J146 X14 a0 x1 x2 x3 x4 q0 s1 s2 h Q) : zW p l e zrX7_lays s m args below meth c D base 6 (MQ below (zQv D base Q) args s 0 0 (zFree base)) 0 0 146 [some (.inr a0), some (.inl x1), some (.inl x2), some (.inl x3), some (.inl x4), none] [.inl s2, .inl s1, .inr q0] h := by
  unfold mX7_lays_J146 at H
  refine z_iastore (pc := 146) hc dX7_lays_146 H (fun h27 H => ?_)
  refine z_aload_n (pc := 147) hc dX7_lays_147 rfl ?_
  refine z_getR (pc := 148) hc dX7_lays_148 zf_RX7_44 rfl rfl rfl H (fun r28 H => ?_)
  refine z_iload_n (pc := 151) hc dX7_lays_151 rfl ?_
  refine z_iload_n (pc := 152) hc dX7_lays_152 rfl ?_
  refine z_if_ne (tgt := 160) (pc := 153) hc dX7_lays_153 rfl H (fun H => ?_) (fun H => ?_)
  · refine z_iconst (pc := 156) hc dX7_lays_156 ?_
    refine z_goto (tgt := 182) (pc := 157) hc dX7_lays_157 rfl ?_
    refine z_mask [true, true, true, false, false, false] (ρ' := [some (.inr a0), some (.inl x1), some (.inl x2), none, none, none]) rfl ?_
    exact rX7_lays_J182 hc hX14 H
  · refine z_iload (pc := 160) hc dX7_lays_160 rfl ?_
    refine z_if_eq (tgt := 181) (pc := 162) hc dX7_lays_162 rfl H (fun H => ?_) (fun H => ?_)
    · refine z_iconst (pc := 181) hc dX7_lays_181 ?_
      refine z_mask [true, true, true, false, false, false] (ρ' := [some (.inr a0), some (.inl x1), some (.inl x2), none, none, none]) rfl ?_
      exact rX7_lays_J182 hc hX14 H
    · refine z_aload_n (pc := 165) hc dX7_lays_165 rfl ?_
      refine z_getR (pc := 166) hc dX7_lays_166 zf_RX7_44 rfl rfl rfl H (fun r29 H => ?_)
      refine z_iload_n (pc := 169) hc dX7_lays_169 rfl ?_
      refine z_iaload (pc := 170) hc dX7_lays_170 H (fun v30 H => ?_)
      refine z_aload_n (pc := 171) hc dX7_lays_171 rfl ?_
      refine z_iload_n (pc := 172) hc dX7_lays_172 rfl ?_
      refine z_iconst (pc := 173) hc dX7_lays_173 ?_
      refine z_calI (z_runV (pc := 174) (ci := 7) (T := TX7) (N := 20) hc dX7_lays_174 zw_RX7_77 (metX7_of _ _ _ H.2) rfl (Nat.le_of_ble_eq_true rfl) ⟨Nat.le_of_ble_eq_true rfl, Nat.le_of_ble_eq_true rfl⟩ ⟨by exact Nat.le_of_ble_eq_true rfl, by exact Nat.le_of_ble_eq_true rfl⟩ rfl H.1) rfl ⟨rfl, rfl⟩ (fun v32 h31 H => ?_)
      refine z_iadd (pc := 177) hc dX7_lays_177 ?_
      refine z_goto (tgt := 182) (pc := 178) hc dX7_lays_178 rfl ?_
      refine z_mask [true, true, true, false, false, false] (ρ' := [some (.inr a0), some (.inl x1), some (.inl x2), none, none, none]) rfl ?_
      exact rX7_lays_J182 hc hX14 H
set_option maxRecDepth 100000 in
set_option maxHeartbeats 4000000 in
theorem rX7_lays_J110 (hc : zOk p s m args meth c D cX7_lays 6 RX7 none) {X14 : Int → Zm → Prop} {a0 : Nat} {x1 : Int} {x2 : Int} {x3 : Int} {x4 : Int} {q0 : Nat} {s1 : Int} {s2 : Int} {h : Zm} {Q : Zm → Prop} (hX14 : ∀ (x1 : Int) (h : Zm), X14 x1 h → zW p l e zrX7_lays s m args below meth c D base 6 (MQ below (zQv D base Q) args s 0 0 (zFree base)) 0 0 14 [some (.inr a0), some (.inl x1), none, none, none, none] [] h) (H : mX7_lays_J110 X14 a0 x1 x2 x3 x4 q0 s1 s2 h Q) : zW p l e zrX7_lays s m args below meth c D base 6 (MQ below (zQv D base Q) args s 0 0 (zFree base)) 0 0 110 [some (.inr a0), some (.inl x1), some (.inl x2), some (.inl x3), some (.inl x4), none] [.inl s2, .inl s1, .inr q0] h := by
  unfold mX7_lays_J110 at H
  refine z_iastore (pc := 110) hc dX7_lays_110 H (fun h21 H => ?_)
  refine z_aload_n (pc := 111) hc dX7_lays_111 rfl ?_
  refine z_getR (pc := 112) hc dX7_lays_112 zf_RX7_41 rfl rfl rfl H (fun r22 H => ?_)
  refine z_iload_n (pc := 115) hc dX7_lays_115 rfl ?_
  refine z_iload_n (pc := 116) hc dX7_lays_116 rfl ?_
  refine z_if_ne (tgt := 124) (pc := 117) hc dX7_lays_117 rfl H (fun H => ?_) (fun H => ?_)
  · refine z_iconst (pc := 120) hc dX7_lays_120 ?_
    refine z_goto (tgt := 146) (pc := 121) hc dX7_lays_121 rfl ?_
    exact rX7_lays_J146 hc hX14 H
  · refine z_iload (pc := 124) hc dX7_lays_124 rfl ?_
    refine z_if_eq (tgt := 145) (pc := 126) hc dX7_lays_126 rfl H (fun H => ?_) (fun H => ?_)
    · refine z_iconst (pc := 145) hc dX7_lays_145 ?_
      exact rX7_lays_J146 hc hX14 H
    · refine z_aload_n (pc := 129) hc dX7_lays_129 rfl ?_
      refine z_getR (pc := 130) hc dX7_lays_130 zf_RX7_41 rfl rfl rfl H (fun r23 H => ?_)
      refine z_iload_n (pc := 133) hc dX7_lays_133 rfl ?_
      refine z_iaload (pc := 134) hc dX7_lays_134 H (fun v24 H => ?_)
      refine z_aload_n (pc := 135) hc dX7_lays_135 rfl ?_
      refine z_iload_n (pc := 136) hc dX7_lays_136 rfl ?_
      refine z_iconst (pc := 137) hc dX7_lays_137 ?_
      refine z_calI (z_runV (pc := 138) (ci := 7) (T := TX7) (N := 20) hc dX7_lays_138 zw_RX7_77 (metX7_of _ _ _ H.2) rfl (Nat.le_of_ble_eq_true rfl) ⟨Nat.le_of_ble_eq_true rfl, Nat.le_of_ble_eq_true rfl⟩ ⟨by exact Nat.le_of_ble_eq_true rfl, by exact Nat.le_of_ble_eq_true rfl⟩ rfl H.1) rfl ⟨rfl, rfl⟩ (fun v26 h25 H => ?_)
      refine z_iadd (pc := 141) hc dX7_lays_141 ?_
      refine z_goto (tgt := 146) (pc := 142) hc dX7_lays_142 rfl ?_
      exact rX7_lays_J146 hc hX14 H
set_option maxRecDepth 100000 in
set_option maxHeartbeats 4000000 in
theorem rX7_lays_J69 (hc : zOk p s m args meth c D cX7_lays 6 RX7 none) {X14 : Int → Zm → Prop} {a0 : Nat} {x1 : Int} {x2 : Int} {x3 : Int} {s0 : Int} {h : Zm} {Q : Zm → Prop} (hX14 : ∀ (x1 : Int) (h : Zm), X14 x1 h → zW p l e zrX7_lays s m args below meth c D base 6 (MQ below (zQv D base Q) args s 0 0 (zFree base)) 0 0 14 [some (.inr a0), some (.inl x1), none, none, none, none] [] h) (H : mX7_lays_J69 X14 a0 x1 x2 x3 s0 h Q) : zW p l e zrX7_lays s m args below meth c D base 6 (MQ below (zQv D base Q) args s 0 0 (zFree base)) 0 0 69 [some (.inr a0), some (.inl x1), some (.inl x2), some (.inl x3), none, none] [.inl s0] h := by
  unfold mX7_lays_J69 at H
  refine z_istore (pc := 69) hc dX7_lays_69 (by decide) (ρ' := [some (.inr a0), some (.inl x1), some (.inl x2), some (.inl x3), some (.inl s0), none]) rfl ?_
  refine z_aload_n (pc := 71) hc dX7_lays_71 rfl ?_
  refine z_getR (pc := 72) hc dX7_lays_72 zf_RX7_38 rfl rfl rfl H (fun r15 H => ?_)
  refine z_iload_n (pc := 75) hc dX7_lays_75 rfl ?_
  refine z_iload_n (pc := 76) hc dX7_lays_76 rfl ?_
  refine z_if_ne (tgt := 85) (pc := 77) hc dX7_lays_77 rfl H (fun H => ?_) (fun H => ?_)
  · refine z_bipush (pc := 80) hc dX7_lays_80 (by decide) ?_
    refine z_goto (tgt := 110) (pc := 82) hc dX7_lays_82 rfl ?_
    exact rX7_lays_J110 hc hX14 H
  · refine z_iload (pc := 85) hc dX7_lays_85 rfl ?_
    refine z_if_eq (tgt := 109) (pc := 87) hc dX7_lays_87 rfl H (fun H => ?_) (fun H => ?_)
    · refine z_iconst (pc := 109) hc dX7_lays_109 ?_
      exact rX7_lays_J110 hc hX14 H
    · refine z_aload_n (pc := 90) hc dX7_lays_90 rfl ?_
      refine z_getR (pc := 91) hc dX7_lays_91 zf_RX7_38 rfl rfl rfl H (fun r16 H => ?_)
      refine z_iload_n (pc := 94) hc dX7_lays_94 rfl ?_
      refine z_iaload (pc := 95) hc dX7_lays_95 H (fun v17 H => ?_)
      refine z_aload_n (pc := 96) hc dX7_lays_96 rfl ?_
      refine z_iload_n (pc := 97) hc dX7_lays_97 rfl ?_
      refine z_iconst (pc := 98) hc dX7_lays_98 ?_
      refine z_calI (z_runV (pc := 99) (ci := 7) (T := TX7) (N := 20) hc dX7_lays_99 zw_RX7_77 (metX7_of _ _ _ H.2) rfl (Nat.le_of_ble_eq_true rfl) ⟨Nat.le_of_ble_eq_true rfl, Nat.le_of_ble_eq_true rfl⟩ ⟨by exact Nat.le_of_ble_eq_true rfl, by exact Nat.le_of_ble_eq_true rfl⟩ rfl H.1) rfl ⟨rfl, rfl⟩ (fun v19 h18 H => ?_)
      refine z_imul (pc := 102) hc dX7_lays_102 ?_
      refine z_bipush (pc := 103) hc dX7_lays_103 (by decide) ?_
      refine z_idiv (pc := 105) hc dX7_lays_105 H (fun v20 H => ?_)
      refine z_goto (tgt := 110) (pc := 106) hc dX7_lays_106 rfl ?_
      exact rX7_lays_J110 hc hX14 H
set_option maxRecDepth 100000 in
set_option maxHeartbeats 4000000 in
theorem rX7_lays_B14 (hc : zOk p s m args meth c D cX7_lays 6 RX7 none) {X14 : Int → Zm → Prop} {a0 : Nat} {x1 : Int} {h : Zm} {Q : Zm → Prop} (hX14 : ∀ (x1 : Int) (h : Zm), X14 x1 h → zW p l e zrX7_lays s m args below meth c D base 6 (MQ below (zQv D base Q) args s 0 0 (zFree base)) 0 0 14 [some (.inr a0), some (.inl x1), none, none, none, none] [] h) (H : mX7_lays_B14 X14 a0 x1 h Q) : zW p l e zrX7_lays s m args below meth c D base 6 (MQ below (zQv D base Q) args s 0 0 (zFree base)) 0 0 14 [some (.inr a0), some (.inl x1), none, none, none, none] [] h := by
  unfold mX7_lays_B14 at H
  refine z_iload_n (pc := 14) hc dX7_lays_14 rfl ?_
  refine z_if_le (tgt := 235) (pc := 15) hc dX7_lays_15 rfl H (fun H => ?_) (fun H => ?_)
  · exact z_return (pc := 235) hc dX7_lays_235 H
  · refine z_iinc (pc := 18) hc dX7_lays_18 (by decide) rfl (ρ' := [some (.inr a0), some (.inl (x1 + (-1))), none, none, none, none]) rfl ?_
    refine z_aload_n (pc := 21) hc dX7_lays_21 rfl ?_
    refine z_getR (pc := 22) hc dX7_lays_22 zf_RX7_35 rfl rfl rfl H (fun r4 H => ?_)
    refine z_iload_n (pc := 25) hc dX7_lays_25 rfl ?_
    refine z_iaload (pc := 26) hc dX7_lays_26 H (fun v5 H => ?_)
    refine z_istore_n (pc := 27) hc dX7_lays_27 (by decide) (ρ' := [some (.inr a0), some (.inl (x1 + (-1))), some (.inl v5), none, none, none]) rfl ?_
    refine z_aload_n (pc := 28) hc dX7_lays_28 rfl ?_
    refine z_getR (pc := 29) hc dX7_lays_29 zf_RX7_32 rfl rfl rfl H (fun r6 H => ?_)
    refine z_aload_n (pc := 32) hc dX7_lays_32 rfl ?_
    refine z_getI (pc := 33) hc dX7_lays_33 zf_RX7_126 rfl rfl rfl H (fun v7 H => ?_)
    refine z_iload_n (pc := 36) hc dX7_lays_36 rfl ?_
    refine z_iastore (pc := 37) hc dX7_lays_37 H (fun h8 H => ?_)
    refine z_aload_n (pc := 38) hc dX7_lays_38 rfl ?_
    refine z_dup (pc := 39) hc dX7_lays_39 ?_
    refine z_getI (pc := 40) hc dX7_lays_40 zf_RX7_126 rfl rfl rfl H (fun v9 H => ?_)
    refine z_iconst (pc := 43) hc dX7_lays_43 ?_
    refine z_iadd (pc := 44) hc dX7_lays_44 ?_
    refine z_putI (pc := 45) hc dX7_lays_45 zf_RX7_126 rfl rfl rfl H (fun h10 H => ?_)
    refine z_aload_n (pc := 48) hc dX7_lays_48 rfl ?_
    refine z_iload_n (pc := 49) hc dX7_lays_49 rfl ?_
    refine z_iconst (pc := 50) hc dX7_lays_50 ?_
    refine z_calI (z_runV (pc := 51) (ci := 7) (T := TX7) (N := 20) hc dX7_lays_51 zw_RX7_77 (metX7_of _ _ _ H.2) rfl (Nat.le_of_ble_eq_true rfl) ⟨Nat.le_of_ble_eq_true rfl, Nat.le_of_ble_eq_true rfl⟩ ⟨by exact Nat.le_of_ble_eq_true rfl, by exact Nat.le_of_ble_eq_true rfl⟩ rfl H.1) rfl ⟨rfl, rfl⟩ (fun v12 h11 H => ?_)
    refine z_istore_n (pc := 54) hc dX7_lays_54 (by decide) (ρ' := [some (.inr a0), some (.inl (x1 + (-1))), some (.inl v5), some (.inl v12), none, none]) rfl ?_
    refine z_aload_n (pc := 55) hc dX7_lays_55 rfl ?_
    refine z_iload_n (pc := 56) hc dX7_lays_56 rfl ?_
    refine z_iconst (pc := 57) hc dX7_lays_57 ?_
    refine z_calI (z_runV (pc := 58) (ci := 7) (T := TX7) (N := 20) hc dX7_lays_58 zw_RX7_77 (metX7_of _ _ _ H.2) rfl (Nat.le_of_ble_eq_true rfl) ⟨Nat.le_of_ble_eq_true rfl, Nat.le_of_ble_eq_true rfl⟩ ⟨by exact Nat.le_of_ble_eq_true rfl, by exact Nat.le_of_ble_eq_true rfl⟩ rfl H.1) rfl ⟨rfl, rfl⟩ (fun v14 h13 H => ?_)
    refine z_if_ne (tgt := 68) (pc := 61) hc dX7_lays_61 rfl H (fun H => ?_) (fun H => ?_)
    · refine z_iconst (pc := 64) hc dX7_lays_64 ?_
      refine z_goto (tgt := 69) (pc := 65) hc dX7_lays_65 rfl ?_
      exact rX7_lays_J69 hc hX14 H
    · refine z_iconst (pc := 68) hc dX7_lays_68 ?_
      exact rX7_lays_J69 hc hX14 H
theorem rX7_lays_H14 (hc : zOk p s m args meth c D cX7_lays 6 RX7 none)  {a0 : Nat} {x1 : Int} {h : Zm} {Q : Zm → Prop}  (H : mX7_lays_H14  a0 x1 h Q) : zW p l e zrX7_lays s m args below meth c D base 6 (MQ below (zQv D base Q) args s 0 0 (zFree base)) 0 0 14 [some (.inr a0), some (.inl x1), none, none, none, none] [] h :=
  H (fun x1 h => zW p l e zrX7_lays s m args below meth c D base 6 (MQ below (zQv D base Q) args s 0 0 (zFree base)) 0 0 14 [some (.inr a0), some (.inl x1), none, none, none, none] [] h) (fun x1 h H => rX7_lays_B14 hc (fun _ _ q => q) H)
set_option maxRecDepth 100000 in
set_option maxHeartbeats 4000000 in
theorem rX7_lays (hc : zOk p s m args meth c D cX7_lays 6 RX7 none) {a0 : Nat} {h : Zm} {Q : Zm → Prop} (H : mX7_lays a0 h Q) : zW p l e zrX7_lays s m args below meth c D base 6 (MQ below (zQv D base Q) args s 0 0 (zFree base)) 0 0 0 [some (.inr a0), none, none, none, none, none] [] h := by
  unfold mX7_lays at H
  refine z_aload_n (pc := 0) hc dX7_lays_0 rfl ?_
  refine z_iconst (pc := 1) hc dX7_lays_1 ?_
  refine z_putI (pc := 2) hc dX7_lays_2 zf_RX7_126 rfl rfl rfl H (fun h1 H => ?_)
  refine z_aload_n (pc := 5) hc dX7_lays_5 rfl ?_
  refine z_getR (pc := 6) hc dX7_lays_6 zf_RX7_35 rfl rfl rfl H (fun r2 H => ?_)
  refine z_iconst (pc := 9) hc dX7_lays_9 ?_
  refine z_iconst (pc := 10) hc dX7_lays_10 ?_
  refine z_iastore (pc := 11) hc dX7_lays_11 H (fun h3 H => ?_)
  refine z_iconst (pc := 12) hc dX7_lays_12 ?_
  refine z_istore_n (pc := 13) hc dX7_lays_13 (by decide) (ρ' := [some (.inr a0), some (.inl 1), none, none, none, none]) rfl ?_
  exact rX7_lays_H14 hc H
end
theorem metX7_lays (l : Launch) (D : Zd) (base : Nat) {a0 : Nat} {h : Zm} {Q : Zm → Prop} (H : mX7_lays a0 h Q) : zMet l D base yX7_lays cX7_lays 6 none zrX7_lays [.inr a0] h (zQv D base Q) :=
  z_met (by decide +kernel) (Nat.le_of_ble_eq_true rfl) (fun p e s m args below meth c hc hn => rX7_lays hc H)
def zrX7_isIn : Room := { frames := 1, cells := 0, slots := 0, locals := 22 }
def mX7_isIn_J43  (a0 : Nat) (x1 : Int) (x5 : Int) (s0 : Int) (s1 : Int) (h : Zm) (Q : Int → Zm → Prop) : Prop :=
  cRc h 17 a0 <| mX7_of a0 x1 0 h fun v8 h7 => cEq v8 0
  (Q 0 h7)
  (cRc h7 17 a0 <| mX7_of a0 x1 3 h7 fun v10 h9 => cRc h9 17 a0 <| mX7_of a0 x1 3 h9 fun v12 h11 => cRc h11 17 a0 <| mX7_of a0 x1 5 h11 fun v14 h13 => mX7_in x5 v10 ((v12 + v14) - 1) h13 fun v16 h15 => cEq v16 0
    (Q 0 h15)
    (cRc h15 17 a0 <| mX7_of a0 x1 4 h15 fun v18 h17 => cRc h17 17 a0 <| mX7_of a0 x1 4 h17 fun v20 h19 => cRc h19 17 a0 <| mX7_of a0 x1 6 h19 fun v22 h21 => mX7_in (s0 - s1) v18 ((v20 + v22) - 1) h21 fun v24 h23 => cEq v24 0
      (Q 0 h23)
      (Q 1 h23)))
def mX7_isIn_J24  (a0 : Nat) (x1 : Int) (x3 : Int) (x4 : Int) (s0 : Int) (s1 : Int) (h : Zm) (Q : Int → Zm → Prop) : Prop :=
  cEq x1 0
  (mX7_isIn_J43  a0 x1 (s0 - s1) x3 0 h Q)
  (cGr h 17 a0 13 fun r5 => cLd h 1 r5 x4 fun v6 => mX7_isIn_J43  a0 x1 (s0 - s1) x3 v6 h Q)
def mX7_isIn (a0 : Nat) (x1 : Int) (x2 : Int) (x3 : Int) (h : Zm) (Q : Int → Zm → Prop) : Prop :=
  cRc h 17 a0 <| mX7_of a0 x1 1 h fun v2 h1 => cEq x1 0
  (mX7_isIn_J24  a0 x1 x3 v2 x2 0 h1 Q)
  (cGr h1 17 a0 12 fun r3 => cLd h1 1 r3 v2 fun v4 => mX7_isIn_J24  a0 x1 x3 v2 x2 v4 h1 Q)
section
variable {p : Program} {l : Launch} {e : Env} {s : State} {m : MethodId} {args : Array Value} {below : List Frame} {meth : Method} {c : Code} {D : Zd} {base : Nat}
set_option maxRecDepth 100000 in
set_option maxHeartbeats 4000000 in
theorem rX7_isIn_J43 (hc : zOk p s m args meth c D cX7_isIn 7 RX7 (some .boolean))  {a0 : Nat} {x1 : Int} {x5 : Int} {s0 : Int} {s1 : Int} {h : Zm} {Q : Int → Zm → Prop}  (H : mX7_isIn_J43  a0 x1 x5 s0 s1 h Q) : zW p l e zrX7_isIn s m args below meth c D base 7 (MQ below (zQi D base Q) args s 0 0 (zFree base)) 0 0 43 [some (.inr a0), some (.inl x1), none, none, none, some (.inl x5), none] [.inl s1, .inl s0] h := by
  unfold mX7_isIn_J43 at H
  refine z_isub (pc := 43) hc dX7_isIn_43 ?_
  refine z_istore (pc := 44) hc dX7_isIn_44 (by decide) (ρ' := [some (.inr a0), some (.inl x1), none, none, none, some (.inl x5), some (.inl (s0 - s1))]) rfl ?_
  refine z_aload_n (pc := 46) hc dX7_isIn_46 rfl ?_
  refine z_iload_n (pc := 47) hc dX7_isIn_47 rfl ?_
  refine z_iconst (pc := 48) hc dX7_isIn_48 ?_
  refine z_calI (z_runV (pc := 49) (ci := 7) (T := TX7) (N := 20) hc dX7_isIn_49 zw_RX7_77 (metX7_of _ _ _ H.2) rfl (Nat.le_of_ble_eq_true rfl) ⟨Nat.le_of_ble_eq_true rfl, Nat.le_of_ble_eq_true rfl⟩ ⟨by exact Nat.le_of_ble_eq_true rfl, by exact Nat.le_of_ble_eq_true rfl⟩ rfl H.1) rfl ⟨rfl, rfl⟩ (fun v8 h7 H => ?_)
  refine z_if_eq (tgt := 118) (pc := 52) hc dX7_isIn_52 rfl H (fun H => ?_) (fun H => ?_)
  · refine z_iconst (pc := 118) hc dX7_isIn_118 ?_
    exact z_zreturn (pc := 119) hc dX7_isIn_119 ⟨Or.inl rfl, H⟩
  · refine z_iload (pc := 55) hc dX7_isIn_55 rfl ?_
    refine z_aload_n (pc := 57) hc dX7_isIn_57 rfl ?_
    refine z_iload_n (pc := 58) hc dX7_isIn_58 rfl ?_
    refine z_iconst (pc := 59) hc dX7_isIn_59 ?_
    refine z_calI (z_runV (pc := 60) (ci := 7) (T := TX7) (N := 20) hc dX7_isIn_60 zw_RX7_77 (metX7_of _ _ _ H.2) rfl (Nat.le_of_ble_eq_true rfl) ⟨Nat.le_of_ble_eq_true rfl, Nat.le_of_ble_eq_true rfl⟩ ⟨by exact Nat.le_of_ble_eq_true rfl, by exact Nat.le_of_ble_eq_true rfl⟩ rfl H.1) rfl ⟨rfl, rfl⟩ (fun v10 h9 H => ?_)
    refine z_aload_n (pc := 63) hc dX7_isIn_63 rfl ?_
    refine z_iload_n (pc := 64) hc dX7_isIn_64 rfl ?_
    refine z_iconst (pc := 65) hc dX7_isIn_65 ?_
    refine z_calI (z_runV (pc := 66) (ci := 7) (T := TX7) (N := 20) hc dX7_isIn_66 zw_RX7_77 (metX7_of _ _ _ H.2) rfl (Nat.le_of_ble_eq_true rfl) ⟨Nat.le_of_ble_eq_true rfl, Nat.le_of_ble_eq_true rfl⟩ ⟨by exact Nat.le_of_ble_eq_true rfl, by exact Nat.le_of_ble_eq_true rfl⟩ rfl H.1) rfl ⟨rfl, rfl⟩ (fun v12 h11 H => ?_)
    refine z_aload_n (pc := 69) hc dX7_isIn_69 rfl ?_
    refine z_iload_n (pc := 70) hc dX7_isIn_70 rfl ?_
    refine z_iconst (pc := 71) hc dX7_isIn_71 ?_
    refine z_calI (z_runV (pc := 72) (ci := 7) (T := TX7) (N := 20) hc dX7_isIn_72 zw_RX7_77 (metX7_of _ _ _ H.2) rfl (Nat.le_of_ble_eq_true rfl) ⟨Nat.le_of_ble_eq_true rfl, Nat.le_of_ble_eq_true rfl⟩ ⟨by exact Nat.le_of_ble_eq_true rfl, by exact Nat.le_of_ble_eq_true rfl⟩ rfl H.1) rfl ⟨rfl, rfl⟩ (fun v14 h13 H => ?_)
    refine z_iadd (pc := 75) hc dX7_isIn_75 ?_
    refine z_iconst (pc := 76) hc dX7_isIn_76 ?_
    refine z_isub (pc := 77) hc dX7_isIn_77 ?_
    refine z_calI (z_runS (pc := 78) hc dX7_isIn_78 zw_RX7_73 (metX7_in _ _ _ H) rfl (Nat.le_of_ble_eq_true rfl) ⟨Nat.le_of_ble_eq_true rfl, Nat.le_of_ble_eq_true rfl⟩ ⟨by exact Nat.le_of_ble_eq_true rfl, by exact Nat.le_of_ble_eq_true rfl⟩) rfl ⟨rfl, rfl⟩ (fun v16 h15 H => ?_)
    refine z_if_eq (tgt := 118) (pc := 81) hc dX7_isIn_81 rfl H (fun H => ?_) (fun H => ?_)
    · refine z_iconst (pc := 118) hc dX7_isIn_118 ?_
      exact z_zreturn (pc := 119) hc dX7_isIn_119 ⟨Or.inl rfl, H⟩
    · refine z_iload (pc := 84) hc dX7_isIn_84 rfl ?_
      refine z_aload_n (pc := 86) hc dX7_isIn_86 rfl ?_
      refine z_iload_n (pc := 87) hc dX7_isIn_87 rfl ?_
      refine z_iconst (pc := 88) hc dX7_isIn_88 ?_
      refine z_calI (z_runV (pc := 89) (ci := 7) (T := TX7) (N := 20) hc dX7_isIn_89 zw_RX7_77 (metX7_of _ _ _ H.2) rfl (Nat.le_of_ble_eq_true rfl) ⟨Nat.le_of_ble_eq_true rfl, Nat.le_of_ble_eq_true rfl⟩ ⟨by exact Nat.le_of_ble_eq_true rfl, by exact Nat.le_of_ble_eq_true rfl⟩ rfl H.1) rfl ⟨rfl, rfl⟩ (fun v18 h17 H => ?_)
      refine z_aload_n (pc := 92) hc dX7_isIn_92 rfl ?_
      refine z_iload_n (pc := 93) hc dX7_isIn_93 rfl ?_
      refine z_iconst (pc := 94) hc dX7_isIn_94 ?_
      refine z_calI (z_runV (pc := 95) (ci := 7) (T := TX7) (N := 20) hc dX7_isIn_95 zw_RX7_77 (metX7_of _ _ _ H.2) rfl (Nat.le_of_ble_eq_true rfl) ⟨Nat.le_of_ble_eq_true rfl, Nat.le_of_ble_eq_true rfl⟩ ⟨by exact Nat.le_of_ble_eq_true rfl, by exact Nat.le_of_ble_eq_true rfl⟩ rfl H.1) rfl ⟨rfl, rfl⟩ (fun v20 h19 H => ?_)
      refine z_aload_n (pc := 98) hc dX7_isIn_98 rfl ?_
      refine z_iload_n (pc := 99) hc dX7_isIn_99 rfl ?_
      refine z_bipush (pc := 100) hc dX7_isIn_100 (by decide) ?_
      refine z_calI (z_runV (pc := 102) (ci := 7) (T := TX7) (N := 20) hc dX7_isIn_102 zw_RX7_77 (metX7_of _ _ _ H.2) rfl (Nat.le_of_ble_eq_true rfl) ⟨Nat.le_of_ble_eq_true rfl, Nat.le_of_ble_eq_true rfl⟩ ⟨by exact Nat.le_of_ble_eq_true rfl, by exact Nat.le_of_ble_eq_true rfl⟩ rfl H.1) rfl ⟨rfl, rfl⟩ (fun v22 h21 H => ?_)
      refine z_iadd (pc := 105) hc dX7_isIn_105 ?_
      refine z_iconst (pc := 106) hc dX7_isIn_106 ?_
      refine z_isub (pc := 107) hc dX7_isIn_107 ?_
      refine z_calI (z_runS (pc := 108) hc dX7_isIn_108 zw_RX7_73 (metX7_in _ _ _ H) rfl (Nat.le_of_ble_eq_true rfl) ⟨Nat.le_of_ble_eq_true rfl, Nat.le_of_ble_eq_true rfl⟩ ⟨by exact Nat.le_of_ble_eq_true rfl, by exact Nat.le_of_ble_eq_true rfl⟩) rfl ⟨rfl, rfl⟩ (fun v24 h23 H => ?_)
      refine z_if_eq (tgt := 118) (pc := 111) hc dX7_isIn_111 rfl H (fun H => ?_) (fun H => ?_)
      · refine z_iconst (pc := 118) hc dX7_isIn_118 ?_
        exact z_zreturn (pc := 119) hc dX7_isIn_119 ⟨Or.inl rfl, H⟩
      · refine z_iconst (pc := 114) hc dX7_isIn_114 ?_
        refine z_goto (tgt := 119) (pc := 115) hc dX7_isIn_115 rfl ?_
        exact z_zreturn (pc := 119) hc dX7_isIn_119 ⟨Or.inr rfl, H⟩
set_option maxRecDepth 100000 in
set_option maxHeartbeats 4000000 in
theorem rX7_isIn_J24 (hc : zOk p s m args meth c D cX7_isIn 7 RX7 (some .boolean))  {a0 : Nat} {x1 : Int} {x3 : Int} {x4 : Int} {s0 : Int} {s1 : Int} {h : Zm} {Q : Int → Zm → Prop}  (H : mX7_isIn_J24  a0 x1 x3 x4 s0 s1 h Q) : zW p l e zrX7_isIn s m args below meth c D base 7 (MQ below (zQi D base Q) args s 0 0 (zFree base)) 0 0 24 [some (.inr a0), some (.inl x1), none, some (.inl x3), some (.inl x4), none, none] [.inl s1, .inl s0] h := by
  unfold mX7_isIn_J24 at H
  refine z_isub (pc := 24) hc dX7_isIn_24 ?_
  refine z_istore (pc := 25) hc dX7_isIn_25 (by decide) (ρ' := [some (.inr a0), some (.inl x1), none, some (.inl x3), some (.inl x4), some (.inl (s0 - s1)), none]) rfl ?_
  refine z_iload_n (pc := 27) hc dX7_isIn_27 rfl ?_
  refine z_iload_n (pc := 28) hc dX7_isIn_28 rfl ?_
  refine z_if_ne (tgt := 36) (pc := 29) hc dX7_isIn_29 rfl H (fun H => ?_) (fun H => ?_)
  · refine z_iconst (pc := 32) hc dX7_isIn_32 ?_
    refine z_goto (tgt := 43) (pc := 33) hc dX7_isIn_33 rfl ?_
    refine z_mask [true, true, false, false, false, true, false] (ρ' := [some (.inr a0), some (.inl x1), none, none, none, some (.inl (s0 - s1)), none]) rfl ?_
    exact rX7_isIn_J43 hc H
  · refine z_aload_n (pc := 36) hc dX7_isIn_36 rfl ?_
    refine z_getR (pc := 37) hc dX7_isIn_37 zf_RX7_44 rfl rfl rfl H (fun r5 H => ?_)
    refine z_iload (pc := 40) hc dX7_isIn_40 rfl ?_
    refine z_iaload (pc := 42) hc dX7_isIn_42 H (fun v6 H => ?_)
    refine z_mask [true, true, false, false, false, true, false] (ρ' := [some (.inr a0), some (.inl x1), none, none, none, some (.inl (s0 - s1)), none]) rfl ?_
    exact rX7_isIn_J43 hc H
set_option maxRecDepth 100000 in
set_option maxHeartbeats 4000000 in
theorem rX7_isIn (hc : zOk p s m args meth c D cX7_isIn 7 RX7 (some .boolean)) {a0 : Nat} {x1 : Int} {x2 : Int} {x3 : Int} {h : Zm} {Q : Int → Zm → Prop} (H : mX7_isIn a0 x1 x2 x3 h Q) : zW p l e zrX7_isIn s m args below meth c D base 7 (MQ below (zQi D base Q) args s 0 0 (zFree base)) 0 0 0 [some (.inr a0), some (.inl x1), some (.inl x2), some (.inl x3), none, none, none] [] h := by
  unfold mX7_isIn at H
  refine z_aload_n (pc := 0) hc dX7_isIn_0 rfl ?_
  refine z_iload_n (pc := 1) hc dX7_isIn_1 rfl ?_
  refine z_iconst (pc := 2) hc dX7_isIn_2 ?_
  refine z_calI (z_runV (pc := 3) (ci := 7) (T := TX7) (N := 20) hc dX7_isIn_3 zw_RX7_77 (metX7_of _ _ _ H.2) rfl (Nat.le_of_ble_eq_true rfl) ⟨Nat.le_of_ble_eq_true rfl, Nat.le_of_ble_eq_true rfl⟩ ⟨by exact Nat.le_of_ble_eq_true rfl, by exact Nat.le_of_ble_eq_true rfl⟩ rfl H.1) rfl ⟨rfl, rfl⟩ (fun v2 h1 H => ?_)
  refine z_istore (pc := 6) hc dX7_isIn_6 (by decide) (ρ' := [some (.inr a0), some (.inl x1), some (.inl x2), some (.inl x3), some (.inl v2), none, none]) rfl ?_
  refine z_iload_n (pc := 8) hc dX7_isIn_8 rfl ?_
  refine z_iload_n (pc := 9) hc dX7_isIn_9 rfl ?_
  refine z_if_ne (tgt := 17) (pc := 10) hc dX7_isIn_10 rfl H (fun H => ?_) (fun H => ?_)
  · refine z_iconst (pc := 13) hc dX7_isIn_13 ?_
    refine z_goto (tgt := 24) (pc := 14) hc dX7_isIn_14 rfl ?_
    refine z_mask [true, true, false, true, true, false, false] (ρ' := [some (.inr a0), some (.inl x1), none, some (.inl x3), some (.inl v2), none, none]) rfl ?_
    exact rX7_isIn_J24 hc H
  · refine z_aload_n (pc := 17) hc dX7_isIn_17 rfl ?_
    refine z_getR (pc := 18) hc dX7_isIn_18 zf_RX7_41 rfl rfl rfl H (fun r3 H => ?_)
    refine z_iload (pc := 21) hc dX7_isIn_21 rfl ?_
    refine z_iaload (pc := 23) hc dX7_isIn_23 H (fun v4 H => ?_)
    refine z_mask [true, true, false, true, true, false, false] (ρ' := [some (.inr a0), some (.inl x1), none, some (.inl x3), some (.inl v2), none, none]) rfl ?_
    exact rX7_isIn_J24 hc H
end
theorem metX7_isIn (l : Launch) (D : Zd) (base : Nat) {a0 : Nat} {x1 : Int} {x2 : Int} {x3 : Int} {h : Zm} {Q : Int → Zm → Prop} (H : mX7_isIn a0 x1 x2 x3 h Q) : zMet l D base yX7_isIn cX7_isIn 7 (some .boolean) zrX7_isIn [.inr a0, .inl x1, .inl x2, .inl x3] h (zQi D base Q) :=
  z_met (by decide +kernel) (Nat.le_of_ble_eq_true rfl) (fun p e s m args below meth c hc hn => rX7_isIn hc H)
def zrX7_moves : Room := { frames := 1, cells := 0, slots := 0, locals := 22 }
def mX7_moves (a0 : Nat) (x1 : Int) (x2 : Int) (x3 : Int) (h : Zm) (Q : Zm → Prop) : Prop :=
  cGr h 17 a0 14 fun r1 => cLd h 1 r1 x1 fun v2 => cGr h 17 a0 14 fun r3 => cLd h 1 r3 x1 fun v4 => mX7_floor ((x2 - v4) * x3) 100 h fun v6 h5 => cSt h5 r1 x1 (v2 + v6) fun h7 => Q h7
section
variable {p : Program} {l : Launch} {e : Env} {s : State} {m : MethodId} {args : Array Value} {below : List Frame} {meth : Method} {c : Code} {D : Zd} {base : Nat}
set_option maxRecDepth 100000 in
set_option maxHeartbeats 4000000 in
theorem rX7_moves (hc : zOk p s m args meth c D cX7_moves 4 RX7 none) {a0 : Nat} {x1 : Int} {x2 : Int} {x3 : Int} {h : Zm} {Q : Zm → Prop} (H : mX7_moves a0 x1 x2 x3 h Q) : zW p l e zrX7_moves s m args below meth c D base 4 (MQ below (zQv D base Q) args s 0 0 (zFree base)) 0 0 0 [some (.inr a0), some (.inl x1), some (.inl x2), some (.inl x3)] [] h := by
  unfold mX7_moves at H
  refine z_aload_n (pc := 0) hc dX7_moves_0 rfl ?_
  refine z_getR (pc := 1) hc dX7_moves_1 zf_RX7_47 rfl rfl rfl H (fun r1 H => ?_)
  refine z_iload_n (pc := 4) hc dX7_moves_4 rfl ?_
  refine z_dup2 (pc := 5) hc dX7_moves_5 ?_
  refine z_iaload (pc := 6) hc dX7_moves_6 H (fun v2 H => ?_)
  refine z_iload_n (pc := 7) hc dX7_moves_7 rfl ?_
  refine z_aload_n (pc := 8) hc dX7_moves_8 rfl ?_
  refine z_getR (pc := 9) hc dX7_moves_9 zf_RX7_47 rfl rfl rfl H (fun r3 H => ?_)
  refine z_iload_n (pc := 12) hc dX7_moves_12 rfl ?_
  refine z_iaload (pc := 13) hc dX7_moves_13 H (fun v4 H => ?_)
  refine z_isub (pc := 14) hc dX7_moves_14 ?_
  refine z_iload_n (pc := 15) hc dX7_moves_15 rfl ?_
  refine z_imul (pc := 16) hc dX7_moves_16 ?_
  refine z_bipush (pc := 17) hc dX7_moves_17 (by decide) ?_
  refine z_calI (z_runS (pc := 19) hc dX7_moves_19 zw_RX7_132 (metX7_floor _ _ _ H) rfl (Nat.le_of_ble_eq_true rfl) ⟨Nat.le_of_ble_eq_true rfl, Nat.le_of_ble_eq_true rfl⟩ ⟨by exact Nat.le_of_ble_eq_true rfl, by exact Nat.le_of_ble_eq_true rfl⟩) rfl ⟨rfl, rfl⟩ (fun v6 h5 H => ?_)
  refine z_iadd (pc := 22) hc dX7_moves_22 ?_
  refine z_iastore (pc := 23) hc dX7_moves_23 H (fun h7 H => ?_)
  exact z_return (pc := 24) hc dX7_moves_24 H
end
theorem metX7_moves (l : Launch) (D : Zd) (base : Nat) {a0 : Nat} {x1 : Int} {x2 : Int} {x3 : Int} {h : Zm} {Q : Zm → Prop} (H : mX7_moves a0 x1 x2 x3 h Q) : zMet l D base yX7_moves cX7_moves 4 none zrX7_moves [.inr a0, .inl x1, .inl x2, .inl x3] h (zQv D base Q) :=
  z_met (by decide +kernel) (Nat.le_of_ble_eq_true rfl) (fun p e s m args below meth c hc hn => rX7_moves hc H)
def zrX7_touches : Room := { frames := 2, cells := 0, slots := 0, locals := 45 }
def mX7_touches_B88 (X88 : Int → Zm → Prop) (a0 : Nat) (x2 : Int) (x3 : Int) (x4 : Int) (h : Zm) (Q : Zm → Prop) : Prop :=
  cLt x4 3
  (cGr h 17 a0 0 fun r12 => cLd h 1 r12 (5 + x3) fun v13 => cEq v13 1
    (cRc h 17 a0 <| mX7_moves a0 x4 255 x2 h fun h14 => cEq x4 x3
      (cGr h14 17 a0 14 fun r16 => cLd h14 1 r16 (3 + x4) fun v17 => cRc h14 17 a0 <| mX7_moves a0 (3 + x4) v17 x2 h14 fun h18 => X88 (x4 + 1) h18)
      (cRc h14 17 a0 <| mX7_moves a0 (3 + x4) 0 x2 h14 fun h15 => X88 (x4 + 1) h15))
    (Q h))
  (Q h)
def mX7_touches_H88  (a0 : Nat) (x2 : Int) (x3 : Int) (x4 : Int) (h : Zm) (Q : Zm → Prop) : Prop :=
  lfp1 (fun X88 x4 h => mX7_touches_B88 X88 a0 x2 x3 x4 h Q) x4 h
def mX7_touches_B24 (X24 : Int → Zm → Prop) (a0 : Nat) (x1 : Int) (x2 : Int) (x3 : Int) (h : Zm) (Q : Zm → Prop) : Prop :=
  cLt x3 3
  (cRc h 17 a0 <| mX7_of a0 x1 (7 + x3) h fun v20 h19 => cRc h19 17 a0 <| mX7_moves a0 x3 v20 x2 h19 fun h21 => cRc h21 17 a0 <| mX7_moves a0 (3 + x3) 0 x2 h21 fun h22 => X24 (x3 + 1) h22)
  (Q h)
def mX7_touches_H24  (a0 : Nat) (x1 : Int) (x2 : Int) (x3 : Int) (h : Zm) (Q : Zm → Prop) : Prop :=
  lfp1 (fun X24 x3 h => mX7_touches_B24 X24 a0 x1 x2 x3 h Q) x3 h
def mX7_touches (a0 : Nat) (x1 : Int) (h : Zm) (Q : Zm → Prop) : Prop :=
  cGr h 17 a0 11 fun r1 => cRc h 17 a0 <| mX7_of a0 x1 1 h fun v3 h2 => cLd h2 1 r1 v3 fun v4 => cRc h2 17 a0 <| mX7_of a0 x1 0 h2 fun v6 h5 => cEq v6 1
  (mX7_touches_H24  a0 x1 v4 0 h5 Q)
  (cRc h5 17 a0 <| mX7_of a0 x1 7 h5 fun v8 h7 => cRc h7 17 a0 <| mX7_of a0 x1 8 h7 fun v10 h9 => cRc h9 17 a0 <| mX7_moves a0 (3 + v8) v10 v4 h9 fun h11 => mX7_touches_H88  a0 v4 v8 0 h11 Q)
section
variable {p : Program} {l : Launch} {e : Env} {s : State} {m : MethodId} {args : Array Value} {below : List Frame} {meth : Method} {c : Code} {D : Zd} {base : Nat}
set_option maxRecDepth 100000 in
set_option maxHeartbeats 4000000 in
theorem rX7_touches_B88 (hc : zOk p s m args meth c D cX7_touches 5 RX7 none) {X88 : Int → Zm → Prop} {a0 : Nat} {x2 : Int} {x3 : Int} {x4 : Int} {h : Zm} {Q : Zm → Prop} (hX88 : ∀ (x4 : Int) (h : Zm), X88 x4 h → zW p l e zrX7_touches s m args below meth c D base 5 (MQ below (zQv D base Q) args s 0 0 (zFree base)) 0 0 88 [some (.inr a0), none, some (.inl x2), some (.inl x3), some (.inl x4)] [] h) (H : mX7_touches_B88 X88 a0 x2 x3 x4 h Q) : zW p l e zrX7_touches s m args below meth c D base 5 (MQ below (zQv D base Q) args s 0 0 (zFree base)) 0 0 88 [some (.inr a0), none, some (.inl x2), some (.inl x3), some (.inl x4)] [] h := by
  unfold mX7_touches_B88 at H
  refine z_iload (pc := 88) hc dX7_touches_88 rfl ?_
  refine z_iconst (pc := 90) hc dX7_touches_90 ?_
  refine z_icmp_ge (tgt := 150) (pc := 91) hc dX7_touches_91 rfl H (fun H => ?_) (fun H => ?_)
  · refine z_aload_n (pc := 94) hc dX7_touches_94 rfl ?_
    refine z_getR (pc := 95) hc dX7_touches_95 zf_RX7_7 rfl rfl rfl H (fun r12 H => ?_)
    refine z_iconst (pc := 98) hc dX7_touches_98 ?_
    refine z_iload_n (pc := 99) hc dX7_touches_99 rfl ?_
    refine z_iadd (pc := 100) hc dX7_touches_100 ?_
    refine z_iaload (pc := 101) hc dX7_touches_101 H (fun v13 H => ?_)
    refine z_iconst (pc := 102) hc dX7_touches_102 ?_
    refine z_icmp_ne (tgt := 150) (pc := 103) hc dX7_touches_103 rfl H (fun H => ?_) (fun H => ?_)
    · refine z_aload_n (pc := 106) hc dX7_touches_106 rfl ?_
      refine z_iload (pc := 107) hc dX7_touches_107 rfl ?_
      refine z_sipush (pc := 109) hc dX7_touches_109 (by decide) ?_
      refine z_iload_n (pc := 112) hc dX7_touches_112 rfl ?_
      refine z_calV0 (z_runV (pc := 113) (ci := 7) (T := TX7) (N := 20) hc dX7_touches_113 zw_RX7_135 (metX7_moves _ _ _ H.2) rfl (Nat.le_of_ble_eq_true rfl) ⟨Nat.le_of_ble_eq_true rfl, Nat.le_of_ble_eq_true rfl⟩ ⟨by exact Nat.le_of_ble_eq_true rfl, by exact Nat.le_of_ble_eq_true rfl⟩ rfl H.1) rfl ⟨rfl, rfl⟩ (fun h14 H => ?_)
      refine z_aload_n (pc := 116) hc dX7_touches_116 rfl ?_
      refine z_iconst (pc := 117) hc dX7_touches_117 ?_
      refine z_iload (pc := 118) hc dX7_touches_118 rfl ?_
      refine z_iadd (pc := 120) hc dX7_touches_120 ?_
      refine z_iload (pc := 121) hc dX7_touches_121 rfl ?_
      refine z_iload_n (pc := 123) hc dX7_touches_123 rfl ?_
      refine z_icmp_ne (tgt := 139) (pc := 124) hc dX7_touches_124 rfl H (fun H => ?_) (fun H => ?_)
      · refine z_aload_n (pc := 127) hc dX7_touches_127 rfl ?_
        refine z_getR (pc := 128) hc dX7_touches_128 zf_RX7_47 rfl rfl rfl H (fun r16 H => ?_)
        refine z_iconst (pc := 131) hc dX7_touches_131 ?_
        refine z_iload (pc := 132) hc dX7_touches_132 rfl ?_
        refine z_iadd (pc := 134) hc dX7_touches_134 ?_
        refine z_iaload (pc := 135) hc dX7_touches_135 H (fun v17 H => ?_)
        refine z_goto (tgt := 140) (pc := 136) hc dX7_touches_136 rfl ?_
        refine z_iload_n (pc := 140) hc dX7_touches_140 rfl ?_
        refine z_calV0 (z_runV (pc := 141) (ci := 7) (T := TX7) (N := 20) hc dX7_touches_141 zw_RX7_135 (metX7_moves _ _ _ H.2) rfl (Nat.le_of_ble_eq_true rfl) ⟨Nat.le_of_ble_eq_true rfl, Nat.le_of_ble_eq_true rfl⟩ ⟨by exact Nat.le_of_ble_eq_true rfl, by exact Nat.le_of_ble_eq_true rfl⟩ rfl H.1) rfl ⟨rfl, rfl⟩ (fun h18 H => ?_)
        refine z_iinc (pc := 144) hc dX7_touches_144 (by decide) rfl (ρ' := [some (.inr a0), none, some (.inl x2), some (.inl x3), some (.inl (x4 + 1))]) rfl ?_
        refine z_goto (tgt := 88) (pc := 147) hc dX7_touches_147 rfl ?_
        exact hX88 _ _ H
      · refine z_iconst (pc := 139) hc dX7_touches_139 ?_
        refine z_iload_n (pc := 140) hc dX7_touches_140 rfl ?_
        refine z_calV0 (z_runV (pc := 141) (ci := 7) (T := TX7) (N := 20) hc dX7_touches_141 zw_RX7_135 (metX7_moves _ _ _ H.2) rfl (Nat.le_of_ble_eq_true rfl) ⟨Nat.le_of_ble_eq_true rfl, Nat.le_of_ble_eq_true rfl⟩ ⟨by exact Nat.le_of_ble_eq_true rfl, by exact Nat.le_of_ble_eq_true rfl⟩ rfl H.1) rfl ⟨rfl, rfl⟩ (fun h15 H => ?_)
        refine z_iinc (pc := 144) hc dX7_touches_144 (by decide) rfl (ρ' := [some (.inr a0), none, some (.inl x2), some (.inl x3), some (.inl (x4 + 1))]) rfl ?_
        refine z_goto (tgt := 88) (pc := 147) hc dX7_touches_147 rfl ?_
        exact hX88 _ _ H
    · exact z_return (pc := 150) hc dX7_touches_150 H
  · exact z_return (pc := 150) hc dX7_touches_150 H
theorem rX7_touches_H88 (hc : zOk p s m args meth c D cX7_touches 5 RX7 none)  {a0 : Nat} {x2 : Int} {x3 : Int} {x4 : Int} {h : Zm} {Q : Zm → Prop}  (H : mX7_touches_H88  a0 x2 x3 x4 h Q) : zW p l e zrX7_touches s m args below meth c D base 5 (MQ below (zQv D base Q) args s 0 0 (zFree base)) 0 0 88 [some (.inr a0), none, some (.inl x2), some (.inl x3), some (.inl x4)] [] h :=
  H (fun x4 h => zW p l e zrX7_touches s m args below meth c D base 5 (MQ below (zQv D base Q) args s 0 0 (zFree base)) 0 0 88 [some (.inr a0), none, some (.inl x2), some (.inl x3), some (.inl x4)] [] h) (fun x4 h H => rX7_touches_B88 hc (fun _ _ q => q) H)
set_option maxRecDepth 100000 in
set_option maxHeartbeats 4000000 in
theorem rX7_touches_B24 (hc : zOk p s m args meth c D cX7_touches 5 RX7 none) {X24 : Int → Zm → Prop} {a0 : Nat} {x1 : Int} {x2 : Int} {x3 : Int} {h : Zm} {Q : Zm → Prop} (hX24 : ∀ (x3 : Int) (h : Zm), X24 x3 h → zW p l e zrX7_touches s m args below meth c D base 5 (MQ below (zQv D base Q) args s 0 0 (zFree base)) 0 0 24 [some (.inr a0), some (.inl x1), some (.inl x2), some (.inl x3), none] [] h) (H : mX7_touches_B24 X24 a0 x1 x2 x3 h Q) : zW p l e zrX7_touches s m args below meth c D base 5 (MQ below (zQv D base Q) args s 0 0 (zFree base)) 0 0 24 [some (.inr a0), some (.inl x1), some (.inl x2), some (.inl x3), none] [] h := by
  unfold mX7_touches_B24 at H
  refine z_iload_n (pc := 24) hc dX7_touches_24 rfl ?_
  refine z_iconst (pc := 25) hc dX7_touches_25 ?_
  refine z_icmp_ge (tgt := 59) (pc := 26) hc dX7_touches_26 rfl H (fun H => ?_) (fun H => ?_)
  · refine z_aload_n (pc := 29) hc dX7_touches_29 rfl ?_
    refine z_iload_n (pc := 30) hc dX7_touches_30 rfl ?_
    refine z_aload_n (pc := 31) hc dX7_touches_31 rfl ?_
    refine z_iload_n (pc := 32) hc dX7_touches_32 rfl ?_
    refine z_bipush (pc := 33) hc dX7_touches_33 (by decide) ?_
    refine z_iload_n (pc := 35) hc dX7_touches_35 rfl ?_
    refine z_iadd (pc := 36) hc dX7_touches_36 ?_
    refine z_calI (z_runV (pc := 37) (ci := 7) (T := TX7) (N := 20) hc dX7_touches_37 zw_RX7_77 (metX7_of _ _ _ H.2) rfl (Nat.le_of_ble_eq_true rfl) ⟨Nat.le_of_ble_eq_true rfl, Nat.le_of_ble_eq_true rfl⟩ ⟨by exact Nat.le_of_ble_eq_true rfl, by exact Nat.le_of_ble_eq_true rfl⟩ rfl H.1) rfl ⟨rfl, rfl⟩ (fun v20 h19 H => ?_)
    refine z_iload_n (pc := 40) hc dX7_touches_40 rfl ?_
    refine z_calV0 (z_runV (pc := 41) (ci := 7) (T := TX7) (N := 20) hc dX7_touches_41 zw_RX7_135 (metX7_moves _ _ _ H.2) rfl (Nat.le_of_ble_eq_true rfl) ⟨Nat.le_of_ble_eq_true rfl, Nat.le_of_ble_eq_true rfl⟩ ⟨by exact Nat.le_of_ble_eq_true rfl, by exact Nat.le_of_ble_eq_true rfl⟩ rfl H.1) rfl ⟨rfl, rfl⟩ (fun h21 H => ?_)
    refine z_aload_n (pc := 44) hc dX7_touches_44 rfl ?_
    refine z_iconst (pc := 45) hc dX7_touches_45 ?_
    refine z_iload_n (pc := 46) hc dX7_touches_46 rfl ?_
    refine z_iadd (pc := 47) hc dX7_touches_47 ?_
    refine z_iconst (pc := 48) hc dX7_touches_48 ?_
    refine z_iload_n (pc := 49) hc dX7_touches_49 rfl ?_
    refine z_calV0 (z_runV (pc := 50) (ci := 7) (T := TX7) (N := 20) hc dX7_touches_50 zw_RX7_135 (metX7_moves _ _ _ H.2) rfl (Nat.le_of_ble_eq_true rfl) ⟨Nat.le_of_ble_eq_true rfl, Nat.le_of_ble_eq_true rfl⟩ ⟨by exact Nat.le_of_ble_eq_true rfl, by exact Nat.le_of_ble_eq_true rfl⟩ rfl H.1) rfl ⟨rfl, rfl⟩ (fun h22 H => ?_)
    refine z_iinc (pc := 53) hc dX7_touches_53 (by decide) rfl (ρ' := [some (.inr a0), some (.inl x1), some (.inl x2), some (.inl (x3 + 1)), none]) rfl ?_
    refine z_goto (tgt := 24) (pc := 56) hc dX7_touches_56 rfl ?_
    exact hX24 _ _ H
  · refine z_goto (tgt := 150) (pc := 59) hc dX7_touches_59 rfl ?_
    exact z_return (pc := 150) hc dX7_touches_150 H
theorem rX7_touches_H24 (hc : zOk p s m args meth c D cX7_touches 5 RX7 none)  {a0 : Nat} {x1 : Int} {x2 : Int} {x3 : Int} {h : Zm} {Q : Zm → Prop}  (H : mX7_touches_H24  a0 x1 x2 x3 h Q) : zW p l e zrX7_touches s m args below meth c D base 5 (MQ below (zQv D base Q) args s 0 0 (zFree base)) 0 0 24 [some (.inr a0), some (.inl x1), some (.inl x2), some (.inl x3), none] [] h :=
  H (fun x3 h => zW p l e zrX7_touches s m args below meth c D base 5 (MQ below (zQv D base Q) args s 0 0 (zFree base)) 0 0 24 [some (.inr a0), some (.inl x1), some (.inl x2), some (.inl x3), none] [] h) (fun x3 h H => rX7_touches_B24 hc (fun _ _ q => q) H)
set_option maxRecDepth 100000 in
set_option maxHeartbeats 4000000 in
theorem rX7_touches (hc : zOk p s m args meth c D cX7_touches 5 RX7 none) {a0 : Nat} {x1 : Int} {h : Zm} {Q : Zm → Prop} (H : mX7_touches a0 x1 h Q) : zW p l e zrX7_touches s m args below meth c D base 5 (MQ below (zQv D base Q) args s 0 0 (zFree base)) 0 0 0 [some (.inr a0), some (.inl x1), none, none, none] [] h := by
  unfold mX7_touches at H
  refine z_aload_n (pc := 0) hc dX7_touches_0 rfl ?_
  refine z_getR (pc := 1) hc dX7_touches_1 zf_RX7_38 rfl rfl rfl H (fun r1 H => ?_)
  refine z_aload_n (pc := 4) hc dX7_touches_4 rfl ?_
  refine z_iload_n (pc := 5) hc dX7_touches_5 rfl ?_
  refine z_iconst (pc := 6) hc dX7_touches_6 ?_
  refine z_calI (z_runV (pc := 7) (ci := 7) (T := TX7) (N := 20) hc dX7_touches_7 zw_RX7_77 (metX7_of _ _ _ H.2) rfl (Nat.le_of_ble_eq_true rfl) ⟨Nat.le_of_ble_eq_true rfl, Nat.le_of_ble_eq_true rfl⟩ ⟨by exact Nat.le_of_ble_eq_true rfl, by exact Nat.le_of_ble_eq_true rfl⟩ rfl H.1) rfl ⟨rfl, rfl⟩ (fun v3 h2 H => ?_)
  refine z_iaload (pc := 10) hc dX7_touches_10 H (fun v4 H => ?_)
  refine z_istore_n (pc := 11) hc dX7_touches_11 (by decide) (ρ' := [some (.inr a0), some (.inl x1), some (.inl v4), none, none]) rfl ?_
  refine z_aload_n (pc := 12) hc dX7_touches_12 rfl ?_
  refine z_iload_n (pc := 13) hc dX7_touches_13 rfl ?_
  refine z_iconst (pc := 14) hc dX7_touches_14 ?_
  refine z_calI (z_runV (pc := 15) (ci := 7) (T := TX7) (N := 20) hc dX7_touches_15 zw_RX7_77 (metX7_of _ _ _ H.2) rfl (Nat.le_of_ble_eq_true rfl) ⟨Nat.le_of_ble_eq_true rfl, Nat.le_of_ble_eq_true rfl⟩ ⟨by exact Nat.le_of_ble_eq_true rfl, by exact Nat.le_of_ble_eq_true rfl⟩ rfl H.1) rfl ⟨rfl, rfl⟩ (fun v6 h5 H => ?_)
  refine z_iconst (pc := 18) hc dX7_touches_18 ?_
  refine z_icmp_ne (tgt := 62) (pc := 19) hc dX7_touches_19 rfl H (fun H => ?_) (fun H => ?_)
  · refine z_iconst (pc := 22) hc dX7_touches_22 ?_
    refine z_istore_n (pc := 23) hc dX7_touches_23 (by decide) (ρ' := [some (.inr a0), some (.inl x1), some (.inl v4), some (.inl 0), none]) rfl ?_
    exact rX7_touches_H24 hc H
  · refine z_aload_n (pc := 62) hc dX7_touches_62 rfl ?_
    refine z_iload_n (pc := 63) hc dX7_touches_63 rfl ?_
    refine z_bipush (pc := 64) hc dX7_touches_64 (by decide) ?_
    refine z_calI (z_runV (pc := 66) (ci := 7) (T := TX7) (N := 20) hc dX7_touches_66 zw_RX7_77 (metX7_of _ _ _ H.2) rfl (Nat.le_of_ble_eq_true rfl) ⟨Nat.le_of_ble_eq_true rfl, Nat.le_of_ble_eq_true rfl⟩ ⟨by exact Nat.le_of_ble_eq_true rfl, by exact Nat.le_of_ble_eq_true rfl⟩ rfl H.1) rfl ⟨rfl, rfl⟩ (fun v8 h7 H => ?_)
    refine z_istore_n (pc := 69) hc dX7_touches_69 (by decide) (ρ' := [some (.inr a0), some (.inl x1), some (.inl v4), some (.inl v8), none]) rfl ?_
    refine z_aload_n (pc := 70) hc dX7_touches_70 rfl ?_
    refine z_iconst (pc := 71) hc dX7_touches_71 ?_
    refine z_iload_n (pc := 72) hc dX7_touches_72 rfl ?_
    refine z_iadd (pc := 73) hc dX7_touches_73 ?_
    refine z_aload_n (pc := 74) hc dX7_touches_74 rfl ?_
    refine z_iload_n (pc := 75) hc dX7_touches_75 rfl ?_
    refine z_bipush (pc := 76) hc dX7_touches_76 (by decide) ?_
    refine z_calI (z_runV (pc := 78) (ci := 7) (T := TX7) (N := 20) hc dX7_touches_78 zw_RX7_77 (metX7_of _ _ _ H.2) rfl (Nat.le_of_ble_eq_true rfl) ⟨Nat.le_of_ble_eq_true rfl, Nat.le_of_ble_eq_true rfl⟩ ⟨by exact Nat.le_of_ble_eq_true rfl, by exact Nat.le_of_ble_eq_true rfl⟩ rfl H.1) rfl ⟨rfl, rfl⟩ (fun v10 h9 H => ?_)
    refine z_iload_n (pc := 81) hc dX7_touches_81 rfl ?_
    refine z_calV0 (z_runV (pc := 82) (ci := 7) (T := TX7) (N := 20) hc dX7_touches_82 zw_RX7_135 (metX7_moves _ _ _ H.2) rfl (Nat.le_of_ble_eq_true rfl) ⟨Nat.le_of_ble_eq_true rfl, Nat.le_of_ble_eq_true rfl⟩ ⟨by exact Nat.le_of_ble_eq_true rfl, by exact Nat.le_of_ble_eq_true rfl⟩ rfl H.1) rfl ⟨rfl, rfl⟩ (fun h11 H => ?_)
    refine z_iconst (pc := 85) hc dX7_touches_85 ?_
    refine z_istore (pc := 86) hc dX7_touches_86 (by decide) (ρ' := [some (.inr a0), some (.inl x1), some (.inl v4), some (.inl v8), some (.inl 0)]) rfl ?_
    refine z_mask [true, false, true, true, true] (ρ' := [some (.inr a0), none, some (.inl v4), some (.inl v8), some (.inl 0)]) rfl ?_
    exact rX7_touches_H88 hc H
end
theorem metX7_touches (l : Launch) (D : Zd) (base : Nat) {a0 : Nat} {x1 : Int} {h : Zm} {Q : Zm → Prop} (H : mX7_touches a0 x1 h Q) : zMet l D base yX7_touches cX7_touches 5 none zrX7_touches [.inr a0, .inl x1] h (zQv D base Q) :=
  z_met (by decide +kernel) (Nat.le_of_ble_eq_true rfl) (fun p e s m args below meth c hc hn => rX7_touches hc H)
def zrX7_renders : Room := { frames := 3, cells := 0, slots := 0, locals := 69 }
def mX7_renders_B34 (X34 : Int → Zm → Prop) (a0 : Nat) (x1 : Int) (x2 : Int) (x3 : Int) (h : Zm) (Q : Zm → Prop) : Prop :=
  cGi h 17 a0 9 fun v4 => cLt x3 v4
  (cGr h 17 a0 8 fun r5 => cLd h 1 r5 x3 fun v6 => cRc h 17 a0 <| mX7_isIn a0 v6 x1 x2 h fun v8 h7 => cEq v8 0
    (X34 (x3 + 1) h7)
    (cGr h7 17 a0 8 fun r9 => cLd h7 1 r9 x3 fun v10 => cRc h7 17 a0 <| mX7_touches a0 v10 h7 fun h11 => X34 (x3 + 1) h11))
  (Q h)
def mX7_renders_H34  (a0 : Nat) (x1 : Int) (x2 : Int) (x3 : Int) (h : Zm) (Q : Zm → Prop) : Prop :=
  lfp1 (fun X34 x3 h => mX7_renders_B34 X34 a0 x1 x2 x3 h Q) x3 h
def mX7_renders_B2 (X2 : Int → Zm → Prop) (a0 : Nat) (x1 : Int) (x2 : Int) (x3 : Int) (h : Zm) (Q : Zm → Prop) : Prop :=
  cLt x3 6
  (cGr h 17 a0 14 fun r1 => cLt x3 3
    (cSt h r1 x3 255 fun h3 => X2 (x3 + 1) h3)
    (cSt h r1 x3 0 fun h2 => X2 (x3 + 1) h2))
  (mX7_renders_H34  a0 x1 x2 0 h Q)
def mX7_renders_H2  (a0 : Nat) (x1 : Int) (x2 : Int) (x3 : Int) (h : Zm) (Q : Zm → Prop) : Prop :=
  lfp1 (fun X2 x3 h => mX7_renders_B2 X2 a0 x1 x2 x3 h Q) x3 h
def mX7_renders (a0 : Nat) (x1 : Int) (x2 : Int) (h : Zm) (Q : Zm → Prop) : Prop :=
  mX7_renders_H2  a0 x1 x2 0 h Q
section
variable {p : Program} {l : Launch} {e : Env} {s : State} {m : MethodId} {args : Array Value} {below : List Frame} {meth : Method} {c : Code} {D : Zd} {base : Nat}
set_option maxRecDepth 100000 in
set_option maxHeartbeats 4000000 in
theorem rX7_renders_B34 (hc : zOk p s m args meth c D cX7_renders 4 RX7 none) {X34 : Int → Zm → Prop} {a0 : Nat} {x1 : Int} {x2 : Int} {x3 : Int} {h : Zm} {Q : Zm → Prop} (hX34 : ∀ (x3 : Int) (h : Zm), X34 x3 h → zW p l e zrX7_renders s m args below meth c D base 4 (MQ below (zQv D base Q) args s 0 0 (zFree base)) 0 0 34 [some (.inr a0), some (.inl x1), some (.inl x2), some (.inl x3)] [] h) (H : mX7_renders_B34 X34 a0 x1 x2 x3 h Q) : zW p l e zrX7_renders s m args below meth c D base 4 (MQ below (zQv D base Q) args s 0 0 (zFree base)) 0 0 34 [some (.inr a0), some (.inl x1), some (.inl x2), some (.inl x3)] [] h := by
  unfold mX7_renders_B34 at H
  refine z_iload_n (pc := 34) hc dX7_renders_34 rfl ?_
  refine z_aload_n (pc := 35) hc dX7_renders_35 rfl ?_
  refine z_getI (pc := 36) hc dX7_renders_36 zf_RX7_126 rfl rfl rfl H (fun v4 H => ?_)
  refine z_icmp_ge (tgt := 73) (pc := 39) hc dX7_renders_39 rfl H (fun H => ?_) (fun H => ?_)
  · refine z_aload_n (pc := 42) hc dX7_renders_42 rfl ?_
    refine z_aload_n (pc := 43) hc dX7_renders_43 rfl ?_
    refine z_getR (pc := 44) hc dX7_renders_44 zf_RX7_32 rfl rfl rfl H (fun r5 H => ?_)
    refine z_iload_n (pc := 47) hc dX7_renders_47 rfl ?_
    refine z_iaload (pc := 48) hc dX7_renders_48 H (fun v6 H => ?_)
    refine z_iload_n (pc := 49) hc dX7_renders_49 rfl ?_
    refine z_iload_n (pc := 50) hc dX7_renders_50 rfl ?_
    refine z_calI (z_runV (pc := 51) (ci := 7) (T := TX7) (N := 20) hc dX7_renders_51 zw_RX7_139 (metX7_isIn _ _ _ H.2) rfl (Nat.le_of_ble_eq_true rfl) ⟨Nat.le_of_ble_eq_true rfl, Nat.le_of_ble_eq_true rfl⟩ ⟨by exact Nat.le_of_ble_eq_true rfl, by exact Nat.le_of_ble_eq_true rfl⟩ rfl H.1) rfl ⟨rfl, rfl⟩ (fun v8 h7 H => ?_)
    refine z_if_eq (tgt := 67) (pc := 54) hc dX7_renders_54 rfl H (fun H => ?_) (fun H => ?_)
    · refine z_iinc (pc := 67) hc dX7_renders_67 (by decide) rfl (ρ' := [some (.inr a0), some (.inl x1), some (.inl x2), some (.inl (x3 + 1))]) rfl ?_
      refine z_goto (tgt := 34) (pc := 70) hc dX7_renders_70 rfl ?_
      exact hX34 _ _ H
    · refine z_aload_n (pc := 57) hc dX7_renders_57 rfl ?_
      refine z_aload_n (pc := 58) hc dX7_renders_58 rfl ?_
      refine z_getR (pc := 59) hc dX7_renders_59 zf_RX7_32 rfl rfl rfl H (fun r9 H => ?_)
      refine z_iload_n (pc := 62) hc dX7_renders_62 rfl ?_
      refine z_iaload (pc := 63) hc dX7_renders_63 H (fun v10 H => ?_)
      refine z_calV0 (z_runV (pc := 64) (ci := 7) (T := TX7) (N := 20) hc dX7_renders_64 zw_RX7_142 (metX7_touches _ _ _ H.2) rfl (Nat.le_of_ble_eq_true rfl) ⟨Nat.le_of_ble_eq_true rfl, Nat.le_of_ble_eq_true rfl⟩ ⟨by exact Nat.le_of_ble_eq_true rfl, by exact Nat.le_of_ble_eq_true rfl⟩ rfl H.1) rfl ⟨rfl, rfl⟩ (fun h11 H => ?_)
      refine z_iinc (pc := 67) hc dX7_renders_67 (by decide) rfl (ρ' := [some (.inr a0), some (.inl x1), some (.inl x2), some (.inl (x3 + 1))]) rfl ?_
      refine z_goto (tgt := 34) (pc := 70) hc dX7_renders_70 rfl ?_
      exact hX34 _ _ H
  · exact z_return (pc := 73) hc dX7_renders_73 H
theorem rX7_renders_H34 (hc : zOk p s m args meth c D cX7_renders 4 RX7 none)  {a0 : Nat} {x1 : Int} {x2 : Int} {x3 : Int} {h : Zm} {Q : Zm → Prop}  (H : mX7_renders_H34  a0 x1 x2 x3 h Q) : zW p l e zrX7_renders s m args below meth c D base 4 (MQ below (zQv D base Q) args s 0 0 (zFree base)) 0 0 34 [some (.inr a0), some (.inl x1), some (.inl x2), some (.inl x3)] [] h :=
  H (fun x3 h => zW p l e zrX7_renders s m args below meth c D base 4 (MQ below (zQv D base Q) args s 0 0 (zFree base)) 0 0 34 [some (.inr a0), some (.inl x1), some (.inl x2), some (.inl x3)] [] h) (fun x3 h H => rX7_renders_B34 hc (fun _ _ q => q) H)
set_option maxRecDepth 100000 in
set_option maxHeartbeats 4000000 in
theorem rX7_renders_B2 (hc : zOk p s m args meth c D cX7_renders 4 RX7 none) {X2 : Int → Zm → Prop} {a0 : Nat} {x1 : Int} {x2 : Int} {x3 : Int} {h : Zm} {Q : Zm → Prop} (hX2 : ∀ (x3 : Int) (h : Zm), X2 x3 h → zW p l e zrX7_renders s m args below meth c D base 4 (MQ below (zQv D base Q) args s 0 0 (zFree base)) 0 0 2 [some (.inr a0), some (.inl x1), some (.inl x2), some (.inl x3)] [] h) (H : mX7_renders_B2 X2 a0 x1 x2 x3 h Q) : zW p l e zrX7_renders s m args below meth c D base 4 (MQ below (zQv D base Q) args s 0 0 (zFree base)) 0 0 2 [some (.inr a0), some (.inl x1), some (.inl x2), some (.inl x3)] [] h := by
  unfold mX7_renders_B2 at H
  refine z_iload_n (pc := 2) hc dX7_renders_2 rfl ?_
  refine z_bipush (pc := 3) hc dX7_renders_3 (by decide) ?_
  refine z_icmp_ge (tgt := 32) (pc := 5) hc dX7_renders_5 rfl H (fun H => ?_) (fun H => ?_)
  · refine z_aload_n (pc := 8) hc dX7_renders_8 rfl ?_
    refine z_getR (pc := 9) hc dX7_renders_9 zf_RX7_47 rfl rfl rfl H (fun r1 H => ?_)
    refine z_iload_n (pc := 12) hc dX7_renders_12 rfl ?_
    refine z_iload_n (pc := 13) hc dX7_renders_13 rfl ?_
    refine z_iconst (pc := 14) hc dX7_renders_14 ?_
    refine z_icmp_ge (tgt := 24) (pc := 15) hc dX7_renders_15 rfl H (fun H => ?_) (fun H => ?_)
    · refine z_sipush (pc := 18) hc dX7_renders_18 (by decide) ?_
      refine z_goto (tgt := 25) (pc := 21) hc dX7_renders_21 rfl ?_
      refine z_iastore (pc := 25) hc dX7_renders_25 H (fun h3 H => ?_)
      refine z_iinc (pc := 26) hc dX7_renders_26 (by decide) rfl (ρ' := [some (.inr a0), some (.inl x1), some (.inl x2), some (.inl (x3 + 1))]) rfl ?_
      refine z_goto (tgt := 2) (pc := 29) hc dX7_renders_29 rfl ?_
      exact hX2 _ _ H
    · refine z_iconst (pc := 24) hc dX7_renders_24 ?_
      refine z_iastore (pc := 25) hc dX7_renders_25 H (fun h2 H => ?_)
      refine z_iinc (pc := 26) hc dX7_renders_26 (by decide) rfl (ρ' := [some (.inr a0), some (.inl x1), some (.inl x2), some (.inl (x3 + 1))]) rfl ?_
      refine z_goto (tgt := 2) (pc := 29) hc dX7_renders_29 rfl ?_
      exact hX2 _ _ H
  · refine z_iconst (pc := 32) hc dX7_renders_32 ?_
    refine z_istore_n (pc := 33) hc dX7_renders_33 (by decide) (ρ' := [some (.inr a0), some (.inl x1), some (.inl x2), some (.inl 0)]) rfl ?_
    exact rX7_renders_H34 hc H
theorem rX7_renders_H2 (hc : zOk p s m args meth c D cX7_renders 4 RX7 none)  {a0 : Nat} {x1 : Int} {x2 : Int} {x3 : Int} {h : Zm} {Q : Zm → Prop}  (H : mX7_renders_H2  a0 x1 x2 x3 h Q) : zW p l e zrX7_renders s m args below meth c D base 4 (MQ below (zQv D base Q) args s 0 0 (zFree base)) 0 0 2 [some (.inr a0), some (.inl x1), some (.inl x2), some (.inl x3)] [] h :=
  H (fun x3 h => zW p l e zrX7_renders s m args below meth c D base 4 (MQ below (zQv D base Q) args s 0 0 (zFree base)) 0 0 2 [some (.inr a0), some (.inl x1), some (.inl x2), some (.inl x3)] [] h) (fun x3 h H => rX7_renders_B2 hc (fun _ _ q => q) H)
set_option maxRecDepth 100000 in
set_option maxHeartbeats 4000000 in
theorem rX7_renders (hc : zOk p s m args meth c D cX7_renders 4 RX7 none) {a0 : Nat} {x1 : Int} {x2 : Int} {h : Zm} {Q : Zm → Prop} (H : mX7_renders a0 x1 x2 h Q) : zW p l e zrX7_renders s m args below meth c D base 4 (MQ below (zQv D base Q) args s 0 0 (zFree base)) 0 0 0 [some (.inr a0), some (.inl x1), some (.inl x2), none] [] h := by
  unfold mX7_renders at H
  refine z_iconst (pc := 0) hc dX7_renders_0 ?_
  refine z_istore_n (pc := 1) hc dX7_renders_1 (by decide) (ρ' := [some (.inr a0), some (.inl x1), some (.inl x2), some (.inl 0)]) rfl ?_
  exact rX7_renders_H2 hc H
end
theorem metX7_renders (l : Launch) (D : Zd) (base : Nat) {a0 : Nat} {x1 : Int} {x2 : Int} {h : Zm} {Q : Zm → Prop} (H : mX7_renders a0 x1 x2 h Q) : zMet l D base yX7_renders cX7_renders 4 none zrX7_renders [.inr a0, .inl x1, .inl x2] h (zQv D base Q) :=
  z_met (by decide +kernel) (Nat.le_of_ble_eq_true rfl) (fun p e s m args below meth c hc hn => rX7_renders hc H)
def zrX7_limits : Room := { frames := 0, cells := 0, slots := 0, locals := 0 }
def mX7_limits_B150 (X150 : Int → Zm → Prop) (a0 : Nat) (x1 : Int) (x4 : Int) (h : Zm) (Q : Zm → Prop) : Prop :=
  cLt x4 7
  (cGr h 17 a0 16 fun r33 => cGr h 17 a0 0 fun r34 => cLd h 1 r34 4 fun v35 => cLt v35 x1
    (cGr h 17 a0 15 fun r39 => cLd h 1 r39 x4 fun v40 => cGr h 17 a0 0 fun r41 => cLd h 1 r41 4 fun v42 => cDiv (v40 * v42) x1 fun v43 => cSt h r33 x4 v43 fun h44 => X150 (x4 + 1) h44)
    (cGr h 17 a0 15 fun r36 => cLd h 1 r36 x4 fun v37 => cSt h r33 x4 v37 fun h38 => X150 (x4 + 1) h38))
  (Q h)
def mX7_limits_H150  (a0 : Nat) (x1 : Int) (x4 : Int) (h : Zm) (Q : Zm → Prop) : Prop :=
  lfp1 (fun X150 x4 h => mX7_limits_B150 X150 a0 x1 x4 h Q) x4 h
def mX7_limits_B62 (X62 : Int → Zm → Prop) (a0 : Nat) (x1 : Int) (x2 : Int) (x3 : Int) (x4 : Int) (h : Zm) (Q : Zm → Prop) : Prop :=
  cLt x4 3
  (cGr h 17 a0 16 fun r24 => cLt x2 0
    (cSt h r24 x4 0 fun h32 => X62 (x4 + 1) h32)
    (cLe x3 x2
      (cGr h 17 a0 15 fun r25 => cLd h 1 r25 x4 fun v26 => cSt h r24 x4 v26 fun h27 => X62 (x4 + 1) h27)
      (cGr h 17 a0 15 fun r28 => cLd h 1 r28 x4 fun v29 => cDiv (v29 * x2) x3 fun v30 => cSt h r24 x4 v30 fun h31 => X62 (x4 + 1) h31)))
  (cLt x2 0
    (cGr h 17 a0 16 fun r17 => cGr h 17 a0 0 fun r18 => cLd h 1 r18 4 fun v19 => cLe v19 x1
      (cSt h r17 3 0 fun h20 => mX7_limits_H150  a0 x1 4 h20 Q)
      (cGr h 17 a0 0 fun r21 => cLd h 1 r21 4 fun v22 => cSt h r17 3 (v22 - x1) fun h23 => mX7_limits_H150  a0 x1 4 h23 Q))
    (Q h))
def mX7_limits_H62  (a0 : Nat) (x1 : Int) (x2 : Int) (x3 : Int) (x4 : Int) (h : Zm) (Q : Zm → Prop) : Prop :=
  lfp1 (fun X62 x4 h => mX7_limits_B62 X62 a0 x1 x2 x3 x4 h Q) x4 h
def mX7_limits (a0 : Nat) (h : Zm) (Q : Zm → Prop) : Prop :=
  cGr h 17 a0 15 fun r1 => cLd h 1 r1 4 fun v2 => cGr h 17 a0 15 fun r3 => cLd h 1 r3 5 fun v4 => cGr h 17 a0 15 fun r5 => cLd h 1 r5 6 fun v6 => cGr h 17 a0 0 fun r7 => cLd h 1 r7 4 fun v8 => cGr h 17 a0 15 fun r9 => cLd h 1 r9 3 fun v10 => cGr h 17 a0 15 fun r11 => cLd h 1 r11 0 fun v12 => cGr h 17 a0 15 fun r13 => cLd h 1 r13 1 fun v14 => cGr h 17 a0 15 fun r15 => cLd h 1 r15 2 fun v16 => mX7_limits_H62  a0 ((v2 + v4) + v6) ((v8 - v10) - ((v2 + v4) + v6)) ((v12 + v14) + v16) 0 h Q
section
variable {p : Program} {l : Launch} {e : Env} {s : State} {m : MethodId} {args : Array Value} {below : List Frame} {meth : Method} {c : Code} {D : Zd} {base : Nat}
set_option maxRecDepth 100000 in
set_option maxHeartbeats 4000000 in
theorem rX7_limits_B150 (hc : zOk p s m args meth c D cX7_limits 5 RX7 none) {X150 : Int → Zm → Prop} {a0 : Nat} {x1 : Int} {x4 : Int} {h : Zm} {Q : Zm → Prop} (hX150 : ∀ (x4 : Int) (h : Zm), X150 x4 h → zW p l e zrX7_limits s m args below meth c D base 5 (MQ below (zQv D base Q) args s 0 0 (zFree base)) 0 0 150 [some (.inr a0), some (.inl x1), none, none, some (.inl x4)] [] h) (H : mX7_limits_B150 X150 a0 x1 x4 h Q) : zW p l e zrX7_limits s m args below meth c D base 5 (MQ below (zQv D base Q) args s 0 0 (zFree base)) 0 0 150 [some (.inr a0), some (.inl x1), none, none, some (.inl x4)] [] h := by
  unfold mX7_limits_B150 at H
  refine z_iload (pc := 150) hc dX7_limits_150 rfl ?_
  refine z_bipush (pc := 152) hc dX7_limits_152 (by decide) ?_
  refine z_icmp_ge (tgt := 206) (pc := 154) hc dX7_limits_154 rfl H (fun H => ?_) (fun H => ?_)
  · refine z_aload_n (pc := 157) hc dX7_limits_157 rfl ?_
    refine z_getR (pc := 158) hc dX7_limits_158 zf_RX7_53 rfl rfl rfl H (fun r33 H => ?_)
    refine z_iload (pc := 161) hc dX7_limits_161 rfl ?_
    refine z_aload_n (pc := 163) hc dX7_limits_163 rfl ?_
    refine z_getR (pc := 164) hc dX7_limits_164 zf_RX7_7 rfl rfl rfl H (fun r34 H => ?_)
    refine z_iconst (pc := 167) hc dX7_limits_167 ?_
    refine z_iaload (pc := 168) hc dX7_limits_168 H (fun v35 H => ?_)
    refine z_iload_n (pc := 169) hc dX7_limits_169 rfl ?_
    refine z_icmp_ge (tgt := 192) (pc := 170) hc dX7_limits_170 rfl H (fun H => ?_) (fun H => ?_)
    · refine z_aload_n (pc := 173) hc dX7_limits_173 rfl ?_
      refine z_getR (pc := 174) hc dX7_limits_174 zf_RX7_50 rfl rfl rfl H (fun r39 H => ?_)
      refine z_iload (pc := 177) hc dX7_limits_177 rfl ?_
      refine z_iaload (pc := 179) hc dX7_limits_179 H (fun v40 H => ?_)
      refine z_aload_n (pc := 180) hc dX7_limits_180 rfl ?_
      refine z_getR (pc := 181) hc dX7_limits_181 zf_RX7_7 rfl rfl rfl H (fun r41 H => ?_)
      refine z_iconst (pc := 184) hc dX7_limits_184 ?_
      refine z_iaload (pc := 185) hc dX7_limits_185 H (fun v42 H => ?_)
      refine z_imul (pc := 186) hc dX7_limits_186 ?_
      refine z_iload_n (pc := 187) hc dX7_limits_187 rfl ?_
      refine z_idiv (pc := 188) hc dX7_limits_188 H (fun v43 H => ?_)
      refine z_goto (tgt := 199) (pc := 189) hc dX7_limits_189 rfl ?_
      refine z_iastore (pc := 199) hc dX7_limits_199 H (fun h44 H => ?_)
      refine z_iinc (pc := 200) hc dX7_limits_200 (by decide) rfl (ρ' := [some (.inr a0), some (.inl x1), none, none, some (.inl (x4 + 1))]) rfl ?_
      refine z_goto (tgt := 150) (pc := 203) hc dX7_limits_203 rfl ?_
      exact hX150 _ _ H
    · refine z_aload_n (pc := 192) hc dX7_limits_192 rfl ?_
      refine z_getR (pc := 193) hc dX7_limits_193 zf_RX7_50 rfl rfl rfl H (fun r36 H => ?_)
      refine z_iload (pc := 196) hc dX7_limits_196 rfl ?_
      refine z_iaload (pc := 198) hc dX7_limits_198 H (fun v37 H => ?_)
      refine z_iastore (pc := 199) hc dX7_limits_199 H (fun h38 H => ?_)
      refine z_iinc (pc := 200) hc dX7_limits_200 (by decide) rfl (ρ' := [some (.inr a0), some (.inl x1), none, none, some (.inl (x4 + 1))]) rfl ?_
      refine z_goto (tgt := 150) (pc := 203) hc dX7_limits_203 rfl ?_
      exact hX150 _ _ H
  · exact z_return (pc := 206) hc dX7_limits_206 H
theorem rX7_limits_H150 (hc : zOk p s m args meth c D cX7_limits 5 RX7 none)  {a0 : Nat} {x1 : Int} {x4 : Int} {h : Zm} {Q : Zm → Prop}  (H : mX7_limits_H150  a0 x1 x4 h Q) : zW p l e zrX7_limits s m args below meth c D base 5 (MQ below (zQv D base Q) args s 0 0 (zFree base)) 0 0 150 [some (.inr a0), some (.inl x1), none, none, some (.inl x4)] [] h :=
  H (fun x4 h => zW p l e zrX7_limits s m args below meth c D base 5 (MQ below (zQv D base Q) args s 0 0 (zFree base)) 0 0 150 [some (.inr a0), some (.inl x1), none, none, some (.inl x4)] [] h) (fun x4 h H => rX7_limits_B150 hc (fun _ _ q => q) H)
set_option maxRecDepth 100000 in
set_option maxHeartbeats 4000000 in
theorem rX7_limits_B62 (hc : zOk p s m args meth c D cX7_limits 5 RX7 none) {X62 : Int → Zm → Prop} {a0 : Nat} {x1 : Int} {x2 : Int} {x3 : Int} {x4 : Int} {h : Zm} {Q : Zm → Prop} (hX62 : ∀ (x4 : Int) (h : Zm), X62 x4 h → zW p l e zrX7_limits s m args below meth c D base 5 (MQ below (zQv D base Q) args s 0 0 (zFree base)) 0 0 62 [some (.inr a0), some (.inl x1), some (.inl x2), some (.inl x3), some (.inl x4)] [] h) (H : mX7_limits_B62 X62 a0 x1 x2 x3 x4 h Q) : zW p l e zrX7_limits s m args below meth c D base 5 (MQ below (zQv D base Q) args s 0 0 (zFree base)) 0 0 62 [some (.inr a0), some (.inl x1), some (.inl x2), some (.inl x3), some (.inl x4)] [] h := by
  unfold mX7_limits_B62 at H
  refine z_iload (pc := 62) hc dX7_limits_62 rfl ?_
  refine z_iconst (pc := 64) hc dX7_limits_64 ?_
  refine z_icmp_ge (tgt := 115) (pc := 65) hc dX7_limits_65 rfl H (fun H => ?_) (fun H => ?_)
  · refine z_aload_n (pc := 68) hc dX7_limits_68 rfl ?_
    refine z_getR (pc := 69) hc dX7_limits_69 zf_RX7_53 rfl rfl rfl H (fun r24 H => ?_)
    refine z_iload (pc := 72) hc dX7_limits_72 rfl ?_
    refine z_iload_n (pc := 74) hc dX7_limits_74 rfl ?_
    refine z_if_ge (tgt := 82) (pc := 75) hc dX7_limits_75 rfl H (fun H => ?_) (fun H => ?_)
    · refine z_iconst (pc := 78) hc dX7_limits_78 ?_
      refine z_goto (tgt := 108) (pc := 79) hc dX7_limits_79 rfl ?_
      refine z_iastore (pc := 108) hc dX7_limits_108 H (fun h32 H => ?_)
      refine z_iinc (pc := 109) hc dX7_limits_109 (by decide) rfl (ρ' := [some (.inr a0), some (.inl x1), some (.inl x2), some (.inl x3), some (.inl (x4 + 1))]) rfl ?_
      refine z_goto (tgt := 62) (pc := 112) hc dX7_limits_112 rfl ?_
      exact hX62 _ _ H
    · refine z_iload_n (pc := 82) hc dX7_limits_82 rfl ?_
      refine z_iload_n (pc := 83) hc dX7_limits_83 rfl ?_
      refine z_icmp_le (tgt := 101) (pc := 84) hc dX7_limits_84 rfl H (fun H => ?_) (fun H => ?_)
      · refine z_aload_n (pc := 101) hc dX7_limits_101 rfl ?_
        refine z_getR (pc := 102) hc dX7_limits_102 zf_RX7_50 rfl rfl rfl H (fun r25 H => ?_)
        refine z_iload (pc := 105) hc dX7_limits_105 rfl ?_
        refine z_iaload (pc := 107) hc dX7_limits_107 H (fun v26 H => ?_)
        refine z_iastore (pc := 108) hc dX7_limits_108 H (fun h27 H => ?_)
        refine z_iinc (pc := 109) hc dX7_limits_109 (by decide) rfl (ρ' := [some (.inr a0), some (.inl x1), some (.inl x2), some (.inl x3), some (.inl (x4 + 1))]) rfl ?_
        refine z_goto (tgt := 62) (pc := 112) hc dX7_limits_112 rfl ?_
        exact hX62 _ _ H
      · refine z_aload_n (pc := 87) hc dX7_limits_87 rfl ?_
        refine z_getR (pc := 88) hc dX7_limits_88 zf_RX7_50 rfl rfl rfl H (fun r28 H => ?_)
        refine z_iload (pc := 91) hc dX7_limits_91 rfl ?_
        refine z_iaload (pc := 93) hc dX7_limits_93 H (fun v29 H => ?_)
        refine z_iload_n (pc := 94) hc dX7_limits_94 rfl ?_
        refine z_imul (pc := 95) hc dX7_limits_95 ?_
        refine z_iload_n (pc := 96) hc dX7_limits_96 rfl ?_
        refine z_idiv (pc := 97) hc dX7_limits_97 H (fun v30 H => ?_)
        refine z_goto (tgt := 108) (pc := 98) hc dX7_limits_98 rfl ?_
        refine z_iastore (pc := 108) hc dX7_limits_108 H (fun h31 H => ?_)
        refine z_iinc (pc := 109) hc dX7_limits_109 (by decide) rfl (ρ' := [some (.inr a0), some (.inl x1), some (.inl x2), some (.inl x3), some (.inl (x4 + 1))]) rfl ?_
        refine z_goto (tgt := 62) (pc := 112) hc dX7_limits_112 rfl ?_
        exact hX62 _ _ H
  · refine z_iload_n (pc := 115) hc dX7_limits_115 rfl ?_
    refine z_if_ge (tgt := 206) (pc := 116) hc dX7_limits_116 rfl H (fun H => ?_) (fun H => ?_)
    · refine z_aload_n (pc := 119) hc dX7_limits_119 rfl ?_
      refine z_getR (pc := 120) hc dX7_limits_120 zf_RX7_53 rfl rfl rfl H (fun r17 H => ?_)
      refine z_iconst (pc := 123) hc dX7_limits_123 ?_
      refine z_aload_n (pc := 124) hc dX7_limits_124 rfl ?_
      refine z_getR (pc := 125) hc dX7_limits_125 zf_RX7_7 rfl rfl rfl H (fun r18 H => ?_)
      refine z_iconst (pc := 128) hc dX7_limits_128 ?_
      refine z_iaload (pc := 129) hc dX7_limits_129 H (fun v19 H => ?_)
      refine z_iload_n (pc := 130) hc dX7_limits_130 rfl ?_
      refine z_icmp_le (tgt := 145) (pc := 131) hc dX7_limits_131 rfl H (fun H => ?_) (fun H => ?_)
      · refine z_iconst (pc := 145) hc dX7_limits_145 ?_
        refine z_iastore (pc := 146) hc dX7_limits_146 H (fun h20 H => ?_)
        refine z_iconst (pc := 147) hc dX7_limits_147 ?_
        refine z_istore (pc := 148) hc dX7_limits_148 (by decide) (ρ' := [some (.inr a0), some (.inl x1), some (.inl x2), some (.inl x3), some (.inl 4)]) rfl ?_
        refine z_mask [true, true, false, false, true] (ρ' := [some (.inr a0), some (.inl x1), none, none, some (.inl 4)]) rfl ?_
        exact rX7_limits_H150 hc H
      · refine z_aload_n (pc := 134) hc dX7_limits_134 rfl ?_
        refine z_getR (pc := 135) hc dX7_limits_135 zf_RX7_7 rfl rfl rfl H (fun r21 H => ?_)
        refine z_iconst (pc := 138) hc dX7_limits_138 ?_
        refine z_iaload (pc := 139) hc dX7_limits_139 H (fun v22 H => ?_)
        refine z_iload_n (pc := 140) hc dX7_limits_140 rfl ?_
        refine z_isub (pc := 141) hc dX7_limits_141 ?_
        refine z_goto (tgt := 146) (pc := 142) hc dX7_limits_142 rfl ?_
        refine z_iastore (pc := 146) hc dX7_limits_146 H (fun h23 H => ?_)
        refine z_iconst (pc := 147) hc dX7_limits_147 ?_
        refine z_istore (pc := 148) hc dX7_limits_148 (by decide) (ρ' := [some (.inr a0), some (.inl x1), some (.inl x2), some (.inl x3), some (.inl 4)]) rfl ?_
        refine z_mask [true, true, false, false, true] (ρ' := [some (.inr a0), some (.inl x1), none, none, some (.inl 4)]) rfl ?_
        exact rX7_limits_H150 hc H
    · exact z_return (pc := 206) hc dX7_limits_206 H
theorem rX7_limits_H62 (hc : zOk p s m args meth c D cX7_limits 5 RX7 none)  {a0 : Nat} {x1 : Int} {x2 : Int} {x3 : Int} {x4 : Int} {h : Zm} {Q : Zm → Prop}  (H : mX7_limits_H62  a0 x1 x2 x3 x4 h Q) : zW p l e zrX7_limits s m args below meth c D base 5 (MQ below (zQv D base Q) args s 0 0 (zFree base)) 0 0 62 [some (.inr a0), some (.inl x1), some (.inl x2), some (.inl x3), some (.inl x4)] [] h :=
  H (fun x4 h => zW p l e zrX7_limits s m args below meth c D base 5 (MQ below (zQv D base Q) args s 0 0 (zFree base)) 0 0 62 [some (.inr a0), some (.inl x1), some (.inl x2), some (.inl x3), some (.inl x4)] [] h) (fun x4 h H => rX7_limits_B62 hc (fun _ _ q => q) H)
set_option maxRecDepth 100000 in
set_option maxHeartbeats 4000000 in
theorem rX7_limits (hc : zOk p s m args meth c D cX7_limits 5 RX7 none) {a0 : Nat} {h : Zm} {Q : Zm → Prop} (H : mX7_limits a0 h Q) : zW p l e zrX7_limits s m args below meth c D base 5 (MQ below (zQv D base Q) args s 0 0 (zFree base)) 0 0 0 [some (.inr a0), none, none, none, none] [] h := by
  unfold mX7_limits at H
  refine z_aload_n (pc := 0) hc dX7_limits_0 rfl ?_
  refine z_getR (pc := 1) hc dX7_limits_1 zf_RX7_50 rfl rfl rfl H (fun r1 H => ?_)
  refine z_iconst (pc := 4) hc dX7_limits_4 ?_
  refine z_iaload (pc := 5) hc dX7_limits_5 H (fun v2 H => ?_)
  refine z_aload_n (pc := 6) hc dX7_limits_6 rfl ?_
  refine z_getR (pc := 7) hc dX7_limits_7 zf_RX7_50 rfl rfl rfl H (fun r3 H => ?_)
  refine z_iconst (pc := 10) hc dX7_limits_10 ?_
  refine z_iaload (pc := 11) hc dX7_limits_11 H (fun v4 H => ?_)
  refine z_iadd (pc := 12) hc dX7_limits_12 ?_
  refine z_aload_n (pc := 13) hc dX7_limits_13 rfl ?_
  refine z_getR (pc := 14) hc dX7_limits_14 zf_RX7_50 rfl rfl rfl H (fun r5 H => ?_)
  refine z_bipush (pc := 17) hc dX7_limits_17 (by decide) ?_
  refine z_iaload (pc := 19) hc dX7_limits_19 H (fun v6 H => ?_)
  refine z_iadd (pc := 20) hc dX7_limits_20 ?_
  refine z_istore_n (pc := 21) hc dX7_limits_21 (by decide) (ρ' := [some (.inr a0), some (.inl ((v2 + v4) + v6)), none, none, none]) rfl ?_
  refine z_aload_n (pc := 22) hc dX7_limits_22 rfl ?_
  refine z_getR (pc := 23) hc dX7_limits_23 zf_RX7_7 rfl rfl rfl H (fun r7 H => ?_)
  refine z_iconst (pc := 26) hc dX7_limits_26 ?_
  refine z_iaload (pc := 27) hc dX7_limits_27 H (fun v8 H => ?_)
  refine z_aload_n (pc := 28) hc dX7_limits_28 rfl ?_
  refine z_getR (pc := 29) hc dX7_limits_29 zf_RX7_50 rfl rfl rfl H (fun r9 H => ?_)
  refine z_iconst (pc := 32) hc dX7_limits_32 ?_
  refine z_iaload (pc := 33) hc dX7_limits_33 H (fun v10 H => ?_)
  refine z_isub (pc := 34) hc dX7_limits_34 ?_
  refine z_iload_n (pc := 35) hc dX7_limits_35 rfl ?_
  refine z_isub (pc := 36) hc dX7_limits_36 ?_
  refine z_istore_n (pc := 37) hc dX7_limits_37 (by decide) (ρ' := [some (.inr a0), some (.inl ((v2 + v4) + v6)), some (.inl ((v8 - v10) - ((v2 + v4) + v6))), none, none]) rfl ?_
  refine z_aload_n (pc := 38) hc dX7_limits_38 rfl ?_
  refine z_getR (pc := 39) hc dX7_limits_39 zf_RX7_50 rfl rfl rfl H (fun r11 H => ?_)
  refine z_iconst (pc := 42) hc dX7_limits_42 ?_
  refine z_iaload (pc := 43) hc dX7_limits_43 H (fun v12 H => ?_)
  refine z_aload_n (pc := 44) hc dX7_limits_44 rfl ?_
  refine z_getR (pc := 45) hc dX7_limits_45 zf_RX7_50 rfl rfl rfl H (fun r13 H => ?_)
  refine z_iconst (pc := 48) hc dX7_limits_48 ?_
  refine z_iaload (pc := 49) hc dX7_limits_49 H (fun v14 H => ?_)
  refine z_iadd (pc := 50) hc dX7_limits_50 ?_
  refine z_aload_n (pc := 51) hc dX7_limits_51 rfl ?_
  refine z_getR (pc := 52) hc dX7_limits_52 zf_RX7_50 rfl rfl rfl H (fun r15 H => ?_)
  refine z_iconst (pc := 55) hc dX7_limits_55 ?_
  refine z_iaload (pc := 56) hc dX7_limits_56 H (fun v16 H => ?_)
  refine z_iadd (pc := 57) hc dX7_limits_57 ?_
  refine z_istore_n (pc := 58) hc dX7_limits_58 (by decide) (ρ' := [some (.inr a0), some (.inl ((v2 + v4) + v6)), some (.inl ((v8 - v10) - ((v2 + v4) + v6))), some (.inl ((v12 + v14) + v16)), none]) rfl ?_
  refine z_iconst (pc := 59) hc dX7_limits_59 ?_
  refine z_istore (pc := 60) hc dX7_limits_60 (by decide) (ρ' := [some (.inr a0), some (.inl ((v2 + v4) + v6)), some (.inl ((v8 - v10) - ((v2 + v4) + v6))), some (.inl ((v12 + v14) + v16)), some (.inl 0)]) rfl ?_
  exact rX7_limits_H62 hc H
end
theorem metX7_limits (l : Launch) (D : Zd) (base : Nat) {a0 : Nat} {h : Zm} {Q : Zm → Prop} (H : mX7_limits a0 h Q) : zMet l D base yX7_limits cX7_limits 5 none zrX7_limits [.inr a0] h (zQv D base Q) :=
  z_met (by decide +kernel) (Nat.le_of_ble_eq_true rfl) (fun p e s m args below meth c hc hn => rX7_limits hc H)
