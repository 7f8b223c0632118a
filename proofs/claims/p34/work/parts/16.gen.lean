/-! printed by gen.py: L_renders L_separates -/
def zrL_renders : Room := { frames := 3, cells := 1, slots := 3, locals := 83 }
def mL_renders_J379 (X52 : Int → Int → Zm → Prop) (a0 : Nat) (a1 : Nat) (a2 : Nat) (a3 : Nat) (a4 : Nat) (a5 : Nat) (x6 : Int) (x7 : Int) (a8 : Nat) (a9 : Nat) (x10 : Int) (x11 : Int) (h : Zm) (Q : Int → Zm → Prop) : Prop :=
  mL_keyOf a1 a2 x11 h fun v22 h21 => mL_next a0 a1 a2 v22 h21 fun v24 h23 => X52 x10 v24 h23
def mL_renders_J352 (X52 : Int → Int → Zm → Prop) (X167 : Int → Zm → Prop) (a0 : Nat) (a1 : Nat) (a2 : Nat) (a3 : Nat) (a4 : Nat) (a5 : Nat) (x6 : Int) (x7 : Int) (a8 : Nat) (a9 : Nat) (x10 : Int) (x11 : Int) (x14 : Int) (x15 : Int) (x16 : Int) (q0 : Nat) (s1 : Int) (s2 : Int) (h : Zm) (Q : Int → Zm → Prop) : Prop :=
  cEq x15 0
  (cEq x16 0
    (mL_moves q0 s1 s2 0 h fun h49 => X167 (x14 + 1) h49)
    (cLd h 1 a9 0 fun v50 => mL_moves q0 s1 s2 v50 h fun h51 => X167 (x14 + 1) h51))
  (cLd h 1 a9 0 fun v47 => mL_moves q0 s1 s2 v47 h fun h48 => X167 (x14 + 1) h48)
def mL_renders_J325 (X52 : Int → Int → Zm → Prop) (X167 : Int → Zm → Prop) (a0 : Nat) (a1 : Nat) (a2 : Nat) (a3 : Nat) (a4 : Nat) (a5 : Nat) (x6 : Int) (x7 : Int) (a8 : Nat) (a9 : Nat) (x10 : Int) (x11 : Int) (x14 : Int) (x15 : Int) (x16 : Int) (q0 : Nat) (s1 : Int) (s2 : Int) (s3 : Int) (h : Zm) (Q : Int → Zm → Prop) : Prop :=
  mL_moves q0 s1 s2 s3 h fun h44 => cEq x15 0
  (mL_renders_J352 X52 X167 a0 a1 a2 a3 a4 a5 x6 x7 a8 a9 x10 x11 x14 x15 x16 a8 (3 + x14) 0 h44 Q)
  (cLd h44 1 a4 x11 fun v45 => cRem v45 256 fun v46 => mL_renders_J352 X52 X167 a0 a1 a2 a3 a4 a5 x6 x7 a8 a9 x10 x11 x14 x15 x16 a8 (3 + x14) v46 h44 Q)
def mL_renders_J304 (X52 : Int → Int → Zm → Prop) (X167 : Int → Zm → Prop) (a0 : Nat) (a1 : Nat) (a2 : Nat) (a3 : Nat) (a4 : Nat) (a5 : Nat) (x6 : Int) (x7 : Int) (a8 : Nat) (a9 : Nat) (x10 : Int) (x11 : Int) (x14 : Int) (x15 : Int) (x16 : Int) (q0 : Nat) (s1 : Int) (s2 : Int) (h : Zm) (Q : Int → Zm → Prop) : Prop :=
  cLd h 1 a0 x11 fun v41 => cEq v41 1
  (cLd h 1 a9 0 fun v42 => mL_renders_J325 X52 X167 a0 a1 a2 a3 a4 a5 x6 x7 a8 a9 x10 x11 x14 x15 x16 q0 s1 s2 v42 h Q)
  (cEq x16 0
    (mL_renders_J325 X52 X167 a0 a1 a2 a3 a4 a5 x6 x7 a8 a9 x10 x11 x14 x15 x16 q0 s1 s2 0 h Q)
    (cLd h 1 a9 0 fun v43 => mL_renders_J325 X52 X167 a0 a1 a2 a3 a4 a5 x6 x7 a8 a9 x10 x11 x14 x15 x16 q0 s1 s2 v43 h Q))
def mL_renders_J282 (X52 : Int → Int → Zm → Prop) (X167 : Int → Zm → Prop) (a0 : Nat) (a1 : Nat) (a2 : Nat) (a3 : Nat) (a4 : Nat) (a5 : Nat) (x6 : Int) (x7 : Int) (a8 : Nat) (a9 : Nat) (x10 : Int) (x11 : Int) (x14 : Int) (x15 : Int) (x16 : Int) (s0 : Int) (h : Zm) (Q : Int → Zm → Prop) : Prop :=
  cLd h 1 a0 x11 fun v40 => cEq v40 1
  (mL_renders_J304 X52 X167 a0 a1 a2 a3 a4 a5 x6 x7 a8 a9 x10 x11 x14 x15 x16 a8 x14 s0 h Q)
  (mL_renders_J304 X52 X167 a0 a1 a2 a3 a4 a5 x6 x7 a8 a9 x10 x11 x14 x15 x16 a8 x14 255 h Q)
def mL_renders_J233 (X52 : Int → Int → Zm → Prop) (X167 : Int → Zm → Prop) (a0 : Nat) (a1 : Nat) (a2 : Nat) (a3 : Nat) (a4 : Nat) (a5 : Nat) (x6 : Int) (x7 : Int) (a8 : Nat) (a9 : Nat) (x10 : Int) (x11 : Int) (x14 : Int) (x15 : Int) (s0 : Int) (h : Zm) (Q : Int → Zm → Prop) : Prop :=
  cEq x14 0
  (cLd h 1 a4 x11 fun v38 => cDiv v38 65536 fun v39 => mL_renders_J282 X52 X167 a0 a1 a2 a3 a4 a5 x6 x7 a8 a9 x10 x11 x14 x15 s0 v39 h Q)
  (cEq x14 1
    (cLd h 1 a4 x11 fun v35 => cDiv v35 256 fun v36 => cRem v36 256 fun v37 => mL_renders_J282 X52 X167 a0 a1 a2 a3 a4 a5 x6 x7 a8 a9 x10 x11 x14 x15 s0 v37 h Q)
    (cLd h 1 a4 x11 fun v33 => cRem v33 256 fun v34 => mL_renders_J282 X52 X167 a0 a1 a2 a3 a4 a5 x6 x7 a8 a9 x10 x11 x14 x15 s0 v34 h Q))
def mL_renders_J200 (X52 : Int → Int → Zm → Prop) (X167 : Int → Zm → Prop) (a0 : Nat) (a1 : Nat) (a2 : Nat) (a3 : Nat) (a4 : Nat) (a5 : Nat) (x6 : Int) (x7 : Int) (a8 : Nat) (a9 : Nat) (x10 : Int) (x11 : Int) (x14 : Int) (s0 : Int) (h : Zm) (Q : Int → Zm → Prop) : Prop :=
  cLd h 1 a0 x11 fun v28 => cEq v28 1
  (mL_renders_J233 X52 X167 a0 a1 a2 a3 a4 a5 x6 x7 a8 a9 x10 x11 x14 s0 1 h Q)
  (cLd h 1 a4 x11 fun v29 => cDiv v29 256 fun v30 => cRem v30 3 fun v31 => cLd h 1 a5 v31 fun v32 => cEq v32 1
    (mL_renders_J233 X52 X167 a0 a1 a2 a3 a4 a5 x6 x7 a8 a9 x10 x11 x14 s0 1 h Q)
    (mL_renders_J233 X52 X167 a0 a1 a2 a3 a4 a5 x6 x7 a8 a9 x10 x11 x14 s0 0 h Q))
def mL_renders_B167 (X52 : Int → Int → Zm → Prop) (X167 : Int → Zm → Prop) (a0 : Nat) (a1 : Nat) (a2 : Nat) (a3 : Nat) (a4 : Nat) (a5 : Nat) (x6 : Int) (x7 : Int) (a8 : Nat) (a9 : Nat) (x10 : Int) (x11 : Int) (x14 : Int) (h : Zm) (Q : Int → Zm → Prop) : Prop :=
  cLt x14 3
  (cLd h 1 a0 x11 fun v25 => cEq v25 2
    (cLd h 1 a4 x11 fun v26 => cDiv v26 256 fun v27 => cEq v27 x14
      (mL_renders_J200 X52 X167 a0 a1 a2 a3 a4 a5 x6 x7 a8 a9 x10 x11 x14 1 h Q)
      (mL_renders_J200 X52 X167 a0 a1 a2 a3 a4 a5 x6 x7 a8 a9 x10 x11 x14 0 h Q))
    (mL_renders_J200 X52 X167 a0 a1 a2 a3 a4 a5 x6 x7 a8 a9 x10 x11 x14 0 h Q))
  (mL_renders_J379 X52 a0 a1 a2 a3 a4 a5 x6 x7 a8 a9 x10 x11 h Q)
def mL_renders_H167 (X52 : Int → Int → Zm → Prop) (a0 : Nat) (a1 : Nat) (a2 : Nat) (a3 : Nat) (a4 : Nat) (a5 : Nat) (x6 : Int) (x7 : Int) (a8 : Nat) (a9 : Nat) (x10 : Int) (x11 : Int) (x14 : Int) (h : Zm) (Q : Int → Zm → Prop) : Prop :=
  lfp1 (fun X167 x14 h => mL_renders_B167 X52 X167 a0 a1 a2 a3 a4 a5 x6 x7 a8 a9 x10 x11 x14 h Q) x14 h
def mL_renders_B52 (X52 : Int → Int → Zm → Prop) (a0 : Nat) (a1 : Nat) (a2 : Nat) (a3 : Nat) (a4 : Nat) (a5 : Nat) (x6 : Int) (x7 : Int) (a8 : Nat) (a9 : Nat) (x10 : Int) (x11 : Int) (h : Zm) (Q : Int → Zm → Prop) : Prop :=
  cLe x11 0
  (Q x10 h)
  (mL_above a1 a3 x11 a9 h fun h7 => cLd h7 1 a9 1 fun v8 => cLd h7 1 a3 x11 fun v9 => cRem v9 32 fun v10 => cLd h7 1 a9 2 fun v11 => cLd h7 1 a3 x11 fun v12 => cDiv v12 32 fun v13 => cRem v13 32 fun v14 => cLt ((x6 - v8) - (v10 - 12)) 0
    (mL_renders_J379 X52 a0 a1 a2 a3 a4 a5 x6 x7 a8 a9 x10 x11 h7 Q)
    (cLd h7 1 a3 x11 fun v15 => cDiv v15 1024 fun v16 => cRem v16 16 fun v17 => cLt ((x6 - v8) - (v10 - 12)) v17
      (cLt ((x7 - v11) - (v14 - 12)) 0
        (mL_renders_J379 X52 a0 a1 a2 a3 a4 a5 x6 x7 a8 a9 x10 x11 h7 Q)
        (cLd h7 1 a3 x11 fun v18 => cDiv v18 16384 fun v19 => cLt ((x7 - v11) - (v14 - 12)) v19
          (cLd h7 1 a9 0 fun v20 => cLe v20 0
            (mL_renders_H167 X52 a0 a1 a2 a3 a4 a5 x6 x7 a8 a9 x10 x11 0 h7 Q)
            (mL_renders_H167 X52 a0 a1 a2 a3 a4 a5 x6 x7 a8 a9 x11 x11 0 h7 Q))
          (mL_renders_J379 X52 a0 a1 a2 a3 a4 a5 x6 x7 a8 a9 x10 x11 h7 Q)))
      (mL_renders_J379 X52 a0 a1 a2 a3 a4 a5 x6 x7 a8 a9 x10 x11 h7 Q)))
def mL_renders_H52  (a0 : Nat) (a1 : Nat) (a2 : Nat) (a3 : Nat) (a4 : Nat) (a5 : Nat) (x6 : Int) (x7 : Int) (a8 : Nat) (a9 : Nat) (x10 : Int) (x11 : Int) (h : Zm) (Q : Int → Zm → Prop) : Prop :=
  lfp2 (fun X52 x10 x11 h => mL_renders_B52 X52 a0 a1 a2 a3 a4 a5 x6 x7 a8 a9 x10 x11 h Q) x10 x11 h
def mL_renders_B12 (X12 : Int → Zm → Prop) (a0 : Nat) (a1 : Nat) (a2 : Nat) (a3 : Nat) (a4 : Nat) (a5 : Nat) (x6 : Int) (x7 : Int) (a8 : Nat) (a9 : Nat) (x10 : Int) (x11 : Int) (h : Zm) (Q : Int → Zm → Prop) : Prop :=
  cLt x11 6
  (cLt x11 3
    (cSt h a8 x11 255 fun h6 => X12 (x11 + 1) h6)
    (cSt h a8 x11 0 fun h5 => X12 (x11 + 1) h5))
  (mL_next a0 a1 a2 0 h fun v4 h3 => mL_renders_H52  a0 a1 a2 a3 a4 a5 x6 x7 a8 a9 x10 v4 h3 Q)
def mL_renders_H12  (a0 : Nat) (a1 : Nat) (a2 : Nat) (a3 : Nat) (a4 : Nat) (a5 : Nat) (x6 : Int) (x7 : Int) (a8 : Nat) (a9 : Nat) (x10 : Int) (x11 : Int) (h : Zm) (Q : Int → Zm → Prop) : Prop :=
  lfp1 (fun X12 x11 h => mL_renders_B12 X12 a0 a1 a2 a3 a4 a5 x6 x7 a8 a9 x10 x11 h Q) x11 h
def mL_renders (a0 : Nat) (a1 : Nat) (a2 : Nat) (a3 : Nat) (a4 : Nat) (a5 : Nat) (x6 : Int) (x7 : Int) (a8 : Nat) (h : Zm) (Q : Int → Zm → Prop) : Prop :=
  cNw h 1 3 fun r1 h2 => mL_renders_H12  a0 a1 a2 a3 a4 a5 x6 x7 a8 r1 (-4) 0 h2 Q
section
variable {p : Program} {l : Launch} {e : Env} {s : State} {m : MethodId} {args : Array Value} {below : List Frame} {meth : Method} {c : Code} {D : Zd} {base : Nat}
set_option maxRecDepth 100000 in
set_option maxHeartbeats 4000000 in
theorem rL_renders_J379 (hc : zOk p s m args meth c D cL_renders 18 RL (some .int)) {X52 : Int → Int → Zm → Prop} {a0 : Nat} {a1 : Nat} {a2 : Nat} {a3 : Nat} {a4 : Nat} {a5 : Nat} {x6 : Int} {x7 : Int} {a8 : Nat} {a9 : Nat} {x10 : Int} {x11 : Int} {h : Zm} {Q : Int → Zm → Prop} (hX52 : ∀ (x10 : Int) (x11 : Int) (h : Zm), X52 x10 x11 h → zW p l e zrL_renders s m args below meth c D base 18 (MQ below (zQi D base Q) args s 1 3 (zFree base)) 1 3 52 [some (.inr (.inl a0)), some (.inr (.inl a1)), some (.inr (.inl a2)), some (.inr (.inl a3)), some (.inr (.inl a4)), some (.inr (.inl a5)), some (.inl x6), some (.inl x7), some (.inr (.inl a8)), some (.inr (.inl a9)), some (.inl x10), some (.inl x11), none, none, none, none, none, none] [] h) (H : mL_renders_J379 X52 a0 a1 a2 a3 a4 a5 x6 x7 a8 a9 x10 x11 h Q) : zW p l e zrL_renders s m args below meth c D base 18 (MQ below (zQi D base Q) args s 1 3 (zFree base)) 1 3 379 [some (.inr (.inl a0)), some (.inr (.inl a1)), some (.inr (.inl a2)), some (.inr (.inl a3)), some (.inr (.inl a4)), some (.inr (.inl a5)), some (.inl x6), some (.inl x7), some (.inr (.inl a8)), some (.inr (.inl a9)), some (.inl x10), some (.inl x11), none, none, none, none, none, none] [] h := by
  unfold mL_renders_J379 at H
  refine z_aload_n (pc := 379) hc dL_renders_379 rfl ?_
  refine z_aload_n (pc := 380) hc dL_renders_380 rfl ?_
  refine z_aload_n (pc := 381) hc dL_renders_381 rfl ?_
  refine z_aload_n (pc := 382) hc dL_renders_382 rfl ?_
  refine z_aload_n (pc := 383) hc dL_renders_383 rfl ?_
  refine z_iload (pc := 384) hc dL_renders_384 rfl ?_
  refine z_calL (z_runS (pc := 386) hc dL_renders_386 zw_RL_41 (metL_keyOf _ _ _ H) rfl (Nat.le_of_ble_eq_true rfl) ⟨Nat.le_of_ble_eq_true rfl, Nat.le_of_ble_eq_true rfl⟩ ⟨by exact Nat.le_of_ble_eq_true rfl, by exact Nat.le_of_ble_eq_true rfl⟩) rfl ⟨rfl, rfl⟩ (fun v22 h21 H => ?_)
  refine z_calI (z_runS (pc := 389) hc dL_renders_389 zw_RL_50 (metL_next _ _ _ H) rfl (Nat.le_of_ble_eq_true rfl) ⟨Nat.le_of_ble_eq_true rfl, Nat.le_of_ble_eq_true rfl⟩ ⟨by exact Nat.le_of_ble_eq_true rfl, by exact Nat.le_of_ble_eq_true rfl⟩) rfl ⟨rfl, rfl⟩ (fun v24 h23 H => ?_)
  refine z_istore (pc := 392) hc dL_renders_392 (by decide) (ρ' := [some (.inr (.inl a0)), some (.inr (.inl a1)), some (.inr (.inl a2)), some (.inr (.inl a3)), some (.inr (.inl a4)), some (.inr (.inl a5)), some (.inl x6), some (.inl x7), some (.inr (.inl a8)), some (.inr (.inl a9)), some (.inl x10), some (.inl v24), none, none, none, none, none, none]) rfl rfl ?_
  refine z_goto (tgt := 52) (pc := 394) hc dL_renders_394 rfl ?_
  refine z_cells (cells' := 1) (slots' := 3) (by omega) (by omega) ?_
  exact hX52 _ _ _ H
set_option maxRecDepth 100000 in
set_option maxHeartbeats 4000000 in
theorem rL_renders_J352 (hc : zOk p s m args meth c D cL_renders 18 RL (some .int)) {X52 : Int → Int → Zm → Prop} {X167 : Int → Zm → Prop} {a0 : Nat} {a1 : Nat} {a2 : Nat} {a3 : Nat} {a4 : Nat} {a5 : Nat} {x6 : Int} {x7 : Int} {a8 : Nat} {a9 : Nat} {x10 : Int} {x11 : Int} {x14 : Int} {x15 : Int} {x16 : Int} {q0 : Nat} {s1 : Int} {s2 : Int} {h : Zm} {Q : Int → Zm → Prop} (hX52 : ∀ (x10 : Int) (x11 : Int) (h : Zm), X52 x10 x11 h → zW p l e zrL_renders s m args below meth c D base 18 (MQ below (zQi D base Q) args s 1 3 (zFree base)) 1 3 52 [some (.inr (.inl a0)), some (.inr (.inl a1)), some (.inr (.inl a2)), some (.inr (.inl a3)), some (.inr (.inl a4)), some (.inr (.inl a5)), some (.inl x6), some (.inl x7), some (.inr (.inl a8)), some (.inr (.inl a9)), some (.inl x10), some (.inl x11), none, none, none, none, none, none] [] h) (hX167 : ∀ (x14 : Int) (h : Zm), X167 x14 h → zW p l e zrL_renders s m args below meth c D base 18 (MQ below (zQi D base Q) args s 1 3 (zFree base)) 1 3 167 [some (.inr (.inl a0)), some (.inr (.inl a1)), some (.inr (.inl a2)), some (.inr (.inl a3)), some (.inr (.inl a4)), some (.inr (.inl a5)), some (.inl x6), some (.inl x7), some (.inr (.inl a8)), some (.inr (.inl a9)), some (.inl x10), some (.inl x11), none, none, some (.inl x14), none, none, none] [] h) (H : mL_renders_J352 X52 X167 a0 a1 a2 a3 a4 a5 x6 x7 a8 a9 x10 x11 x14 x15 x16 q0 s1 s2 h Q) : zW p l e zrL_renders s m args below meth c D base 18 (MQ below (zQi D base Q) args s 1 3 (zFree base)) 1 3 352 [some (.inr (.inl a0)), some (.inr (.inl a1)), some (.inr (.inl a2)), some (.inr (.inl a3)), some (.inr (.inl a4)), some (.inr (.inl a5)), some (.inl x6), some (.inl x7), some (.inr (.inl a8)), some (.inr (.inl a9)), some (.inl x10), some (.inl x11), none, none, some (.inl x14), some (.inl x15), some (.inl x16), none] [.inl s2, .inl s1, .inr (.inl q0)] h := by
  unfold mL_renders_J352 at H
  refine z_iload (pc := 352) hc dL_renders_352 rfl ?_
  refine z_if_ne (tgt := 362) (pc := 354) hc dL_renders_354 rfl H (fun H => ?_) (fun H => ?_)
  · refine z_iload (pc := 357) hc dL_renders_357 rfl ?_
    refine z_if_eq (tgt := 369) (pc := 359) hc dL_renders_359 rfl H (fun H => ?_) (fun H => ?_)
    · refine z_iconst (pc := 369) hc dL_renders_369 ?_
      refine z_calV0 (z_runS (pc := 370) hc dL_renders_370 zw_RL_58 (metL_moves _ _ _ H) rfl (Nat.le_of_ble_eq_true rfl) ⟨Nat.le_of_ble_eq_true rfl, Nat.le_of_ble_eq_true rfl⟩ ⟨by exact Nat.le_of_ble_eq_true rfl, by exact Nat.le_of_ble_eq_true rfl⟩) rfl ⟨rfl, rfl⟩ (fun h49 H => ?_)
      refine z_iinc (pc := 373) hc dL_renders_373 (by decide) rfl (ρ' := [some (.inr (.inl a0)), some (.inr (.inl a1)), some (.inr (.inl a2)), some (.inr (.inl a3)), some (.inr (.inl a4)), some (.inr (.inl a5)), some (.inl x6), some (.inl x7), some (.inr (.inl a8)), some (.inr (.inl a9)), some (.inl x10), some (.inl x11), none, none, some (.inl (x14 + 1)), some (.inl x15), some (.inl x16), none]) rfl rfl ?_
      refine z_goto (tgt := 167) (pc := 376) hc dL_renders_376 rfl ?_
      refine z_mask [true, true, true, true, true, true, true, true, true, true, true, true, false, false, true, false, false, false] (ρ' := [some (.inr (.inl a0)), some (.inr (.inl a1)), some (.inr (.inl a2)), some (.inr (.inl a3)), some (.inr (.inl a4)), some (.inr (.inl a5)), some (.inl x6), some (.inl x7), some (.inr (.inl a8)), some (.inr (.inl a9)), some (.inl x10), some (.inl x11), none, none, some (.inl (x14 + 1)), none, none, none]) rfl ?_
      refine z_cells (cells' := 1) (slots' := 3) (by omega) (by omega) ?_
      exact hX167 _ _ H
    · refine z_aload (pc := 362) hc dL_renders_362 rfl ?_
      refine z_iconst (pc := 364) hc dL_renders_364 ?_
      refine z_iaload (pc := 365) hc dL_renders_365 H (fun v50 H => ?_)
      refine z_goto (tgt := 370) (pc := 366) hc dL_renders_366 rfl ?_
      refine z_calV0 (z_runS (pc := 370) hc dL_renders_370 zw_RL_58 (metL_moves _ _ _ H) rfl (Nat.le_of_ble_eq_true rfl) ⟨Nat.le_of_ble_eq_true rfl, Nat.le_of_ble_eq_true rfl⟩ ⟨by exact Nat.le_of_ble_eq_true rfl, by exact Nat.le_of_ble_eq_true rfl⟩) rfl ⟨rfl, rfl⟩ (fun h51 H => ?_)
      refine z_iinc (pc := 373) hc dL_renders_373 (by decide) rfl (ρ' := [some (.inr (.inl a0)), some (.inr (.inl a1)), some (.inr (.inl a2)), some (.inr (.inl a3)), some (.inr (.inl a4)), some (.inr (.inl a5)), some (.inl x6), some (.inl x7), some (.inr (.inl a8)), some (.inr (.inl a9)), some (.inl x10), some (.inl x11), none, none, some (.inl (x14 + 1)), some (.inl x15), some (.inl x16), none]) rfl rfl ?_
      refine z_goto (tgt := 167) (pc := 376) hc dL_renders_376 rfl ?_
      refine z_mask [true, true, true, true, true, true, true, true, true, true, true, true, false, false, true, false, false, false] (ρ' := [some (.inr (.inl a0)), some (.inr (.inl a1)), some (.inr (.inl a2)), some (.inr (.inl a3)), some (.inr (.inl a4)), some (.inr (.inl a5)), some (.inl x6), some (.inl x7), some (.inr (.inl a8)), some (.inr (.inl a9)), some (.inl x10), some (.inl x11), none, none, some (.inl (x14 + 1)), none, none, none]) rfl ?_
      refine z_cells (cells' := 1) (slots' := 3) (by omega) (by omega) ?_
      exact hX167 _ _ H
  · refine z_aload (pc := 362) hc dL_renders_362 rfl ?_
    refine z_iconst (pc := 364) hc dL_renders_364 ?_
    refine z_iaload (pc := 365) hc dL_renders_365 H (fun v47 H => ?_)
    refine z_goto (tgt := 370) (pc := 366) hc dL_renders_366 rfl ?_
    refine z_calV0 (z_runS (pc := 370) hc dL_renders_370 zw_RL_58 (metL_moves _ _ _ H) rfl (Nat.le_of_ble_eq_true rfl) ⟨Nat.le_of_ble_eq_true rfl, Nat.le_of_ble_eq_true rfl⟩ ⟨by exact Nat.le_of_ble_eq_true rfl, by exact Nat.le_of_ble_eq_true rfl⟩) rfl ⟨rfl, rfl⟩ (fun h48 H => ?_)
    refine z_iinc (pc := 373) hc dL_renders_373 (by decide) rfl (ρ' := [some (.inr (.inl a0)), some (.inr (.inl a1)), some (.inr (.inl a2)), some (.inr (.inl a3)), some (.inr (.inl a4)), some (.inr (.inl a5)), some (.inl x6), some (.inl x7), some (.inr (.inl a8)), some (.inr (.inl a9)), some (.inl x10), some (.inl x11), none, none, some (.inl (x14 + 1)), some (.inl x15), some (.inl x16), none]) rfl rfl ?_
    refine z_goto (tgt := 167) (pc := 376) hc dL_renders_376 rfl ?_
    refine z_mask [true, true, true, true, true, true, true, true, true, true, true, true, false, false, true, false, false, false] (ρ' := [some (.inr (.inl a0)), some (.inr (.inl a1)), some (.inr (.inl a2)), some (.inr (.inl a3)), some (.inr (.inl a4)), some (.inr (.inl a5)), some (.inl x6), some (.inl x7), some (.inr (.inl a8)), some (.inr (.inl a9)), some (.inl x10), some (.inl x11), none, none, some (.inl (x14 + 1)), none, none, none]) rfl ?_
    refine z_cells (cells' := 1) (slots' := 3) (by omega) (by omega) ?_
    exact hX167 _ _ H
set_option maxRecDepth 100000 in
set_option maxHeartbeats 4000000 in
theorem rL_renders_J325 (hc : zOk p s m args meth c D cL_renders 18 RL (some .int)) {X52 : Int → Int → Zm → Prop} {X167 : Int → Zm → Prop} {a0 : Nat} {a1 : Nat} {a2 : Nat} {a3 : Nat} {a4 : Nat} {a5 : Nat} {x6 : Int} {x7 : Int} {a8 : Nat} {a9 : Nat} {x10 : Int} {x11 : Int} {x14 : Int} {x15 : Int} {x16 : Int} {q0 : Nat} {s1 : Int} {s2 : Int} {s3 : Int} {h : Zm} {Q : Int → Zm → Prop} (hX52 : ∀ (x10 : Int) (x11 : Int) (h : Zm), X52 x10 x11 h → zW p l e zrL_renders s m args below meth c D base 18 (MQ below (zQi D base Q) args s 1 3 (zFree base)) 1 3 52 [some (.inr (.inl a0)), some (.inr (.inl a1)), some (.inr (.inl a2)), some (.inr (.inl a3)), some (.inr (.inl a4)), some (.inr (.inl a5)), some (.inl x6), some (.inl x7), some (.inr (.inl a8)), some (.inr (.inl a9)), some (.inl x10), some (.inl x11), none, none, none, none, none, none] [] h) (hX167 : ∀ (x14 : Int) (h : Zm), X167 x14 h → zW p l e zrL_renders s m args below meth c D base 18 (MQ below (zQi D base Q) args s 1 3 (zFree base)) 1 3 167 [some (.inr (.inl a0)), some (.inr (.inl a1)), some (.inr (.inl a2)), some (.inr (.inl a3)), some (.inr (.inl a4)), some (.inr (.inl a5)), some (.inl x6), some (.inl x7), some (.inr (.inl a8)), some (.inr (.inl a9)), some (.inl x10), some (.inl x11), none, none, some (.inl x14), none, none, none] [] h) (H : mL_renders_J325 X52 X167 a0 a1 a2 a3 a4 a5 x6 x7 a8 a9 x10 x11 x14 x15 x16 q0 s1 s2 s3 h Q) : zW p l e zrL_renders s m args below meth c D base 18 (MQ below (zQi D base Q) args s 1 3 (zFree base)) 1 3 325 [some (.inr (.inl a0)), some (.inr (.inl a1)), some (.inr (.inl a2)), some (.inr (.inl a3)), some (.inr (.inl a4)), some (.inr (.inl a5)), some (.inl x6), some (.inl x7), some (.inr (.inl a8)), some (.inr (.inl a9)), some (.inl x10), some (.inl x11), none, none, some (.inl x14), some (.inl x15), some (.inl x16), none] [.inl s3, .inl s2, .inl s1, .inr (.inl q0)] h := by
  unfold mL_renders_J325 at H
  refine z_calV0 (z_runS (pc := 325) hc dL_renders_325 zw_RL_58 (metL_moves _ _ _ H) rfl (Nat.le_of_ble_eq_true rfl) ⟨Nat.le_of_ble_eq_true rfl, Nat.le_of_ble_eq_true rfl⟩ ⟨by exact Nat.le_of_ble_eq_true rfl, by exact Nat.le_of_ble_eq_true rfl⟩) rfl ⟨rfl, rfl⟩ (fun h44 H => ?_)
  refine z_aload (pc := 328) hc dL_renders_328 rfl ?_
  refine z_iconst (pc := 330) hc dL_renders_330 ?_
  refine z_iload (pc := 331) hc dL_renders_331 rfl ?_
  refine z_iadd (pc := 333) hc dL_renders_333 ?_
  refine z_iload (pc := 334) hc dL_renders_334 rfl ?_
  refine z_if_eq (tgt := 351) (pc := 336) hc dL_renders_336 rfl H (fun H => ?_) (fun H => ?_)
  · refine z_iconst (pc := 351) hc dL_renders_351 ?_
    refine z_cells (cells' := 1) (slots' := 3) (by omega) (by omega) ?_
    exact rL_renders_J352 hc hX52 hX167 H
  · refine z_aload (pc := 339) hc dL_renders_339 rfl ?_
    refine z_iload (pc := 341) hc dL_renders_341 rfl ?_
    refine z_iaload (pc := 343) hc dL_renders_343 H (fun v45 H => ?_)
    refine z_sipush (pc := 344) hc dL_renders_344 (by decide) ?_
    refine z_irem (pc := 347) hc dL_renders_347 H (fun v46 H => ?_)
    refine z_goto (tgt := 352) (pc := 348) hc dL_renders_348 rfl ?_
    refine z_cells (cells' := 1) (slots' := 3) (by omega) (by omega) ?_
    exact rL_renders_J352 hc hX52 hX167 H
set_option maxRecDepth 100000 in
set_option maxHeartbeats 4000000 in
theorem rL_renders_J304 (hc : zOk p s m args meth c D cL_renders 18 RL (some .int)) {X52 : Int → Int → Zm → Prop} {X167 : Int → Zm → Prop} {a0 : Nat} {a1 : Nat} {a2 : Nat} {a3 : Nat} {a4 : Nat} {a5 : Nat} {x6 : Int} {x7 : Int} {a8 : Nat} {a9 : Nat} {x10 : Int} {x11 : Int} {x14 : Int} {x15 : Int} {x16 : Int} {q0 : Nat} {s1 : Int} {s2 : Int} {h : Zm} {Q : Int → Zm → Prop} (hX52 : ∀ (x10 : Int) (x11 : Int) (h : Zm), X52 x10 x11 h → zW p l e zrL_renders s m args below meth c D base 18 (MQ below (zQi D base Q) args s 1 3 (zFree base)) 1 3 52 [some (.inr (.inl a0)), some (.inr (.inl a1)), some (.inr (.inl a2)), some (.inr (.inl a3)), some (.inr (.inl a4)), some (.inr (.inl a5)), some (.inl x6), some (.inl x7), some (.inr (.inl a8)), some (.inr (.inl a9)), some (.inl x10), some (.inl x11), none, none, none, none, none, none] [] h) (hX167 : ∀ (x14 : Int) (h : Zm), X167 x14 h → zW p l e zrL_renders s m args below meth c D base 18 (MQ below (zQi D base Q) args s 1 3 (zFree base)) 1 3 167 [some (.inr (.inl a0)), some (.inr (.inl a1)), some (.inr (.inl a2)), some (.inr (.inl a3)), some (.inr (.inl a4)), some (.inr (.inl a5)), some (.inl x6), some (.inl x7), some (.inr (.inl a8)), some (.inr (.inl a9)), some (.inl x10), some (.inl x11), none, none, some (.inl x14), none, none, none] [] h) (H : mL_renders_J304 X52 X167 a0 a1 a2 a3 a4 a5 x6 x7 a8 a9 x10 x11 x14 x15 x16 q0 s1 s2 h Q) : zW p l e zrL_renders s m args below meth c D base 18 (MQ below (zQi D base Q) args s 1 3 (zFree base)) 1 3 304 [some (.inr (.inl a0)), some (.inr (.inl a1)), some (.inr (.inl a2)), some (.inr (.inl a3)), some (.inr (.inl a4)), some (.inr (.inl a5)), some (.inl x6), some (.inl x7), some (.inr (.inl a8)), some (.inr (.inl a9)), some (.inl x10), some (.inl x11), none, none, some (.inl x14), some (.inl x15), some (.inl x16), none] [.inl s2, .inl s1, .inr (.inl q0)] h := by
  unfold mL_renders_J304 at H
  refine z_aload_n (pc := 304) hc dL_renders_304 rfl ?_
  refine z_iload (pc := 305) hc dL_renders_305 rfl ?_
  refine z_iaload (pc := 307) hc dL_renders_307 H (fun v41 H => ?_)
  refine z_iconst (pc := 308) hc dL_renders_308 ?_
  refine z_icmp_eq (tgt := 317) (pc := 309) hc dL_renders_309 rfl H (fun H => ?_) (fun H => ?_)
  · refine z_aload (pc := 317) hc dL_renders_317 rfl ?_
    refine z_iconst (pc := 319) hc dL_renders_319 ?_
    refine z_iaload (pc := 320) hc dL_renders_320 H (fun v42 H => ?_)
    refine z_goto (tgt := 325) (pc := 321) hc dL_renders_321 rfl ?_
    refine z_cells (cells' := 1) (slots' := 3) (by omega) (by omega) ?_
    exact rL_renders_J325 hc hX52 hX167 H
  · refine z_iload (pc := 312) hc dL_renders_312 rfl ?_
    refine z_if_eq (tgt := 324) (pc := 314) hc dL_renders_314 rfl H (fun H => ?_) (fun H => ?_)
    · refine z_iconst (pc := 324) hc dL_renders_324 ?_
      refine z_cells (cells' := 1) (slots' := 3) (by omega) (by omega) ?_
      exact rL_renders_J325 hc hX52 hX167 H
    · refine z_aload (pc := 317) hc dL_renders_317 rfl ?_
      refine z_iconst (pc := 319) hc dL_renders_319 ?_
      refine z_iaload (pc := 320) hc dL_renders_320 H (fun v43 H => ?_)
      refine z_goto (tgt := 325) (pc := 321) hc dL_renders_321 rfl ?_
      refine z_cells (cells' := 1) (slots' := 3) (by omega) (by omega) ?_
      exact rL_renders_J325 hc hX52 hX167 H
set_option maxRecDepth 100000 in
set_option maxHeartbeats 4000000 in
theorem rL_renders_J282 (hc : zOk p s m args meth c D cL_renders 18 RL (some .int)) {X52 : Int → Int → Zm → Prop} {X167 : Int → Zm → Prop} {a0 : Nat} {a1 : Nat} {a2 : Nat} {a3 : Nat} {a4 : Nat} {a5 : Nat} {x6 : Int} {x7 : Int} {a8 : Nat} {a9 : Nat} {x10 : Int} {x11 : Int} {x14 : Int} {x15 : Int} {x16 : Int} {s0 : Int} {h : Zm} {Q : Int → Zm → Prop} (hX52 : ∀ (x10 : Int) (x11 : Int) (h : Zm), X52 x10 x11 h → zW p l e zrL_renders s m args below meth c D base 18 (MQ below (zQi D base Q) args s 1 3 (zFree base)) 1 3 52 [some (.inr (.inl a0)), some (.inr (.inl a1)), some (.inr (.inl a2)), some (.inr (.inl a3)), some (.inr (.inl a4)), some (.inr (.inl a5)), some (.inl x6), some (.inl x7), some (.inr (.inl a8)), some (.inr (.inl a9)), some (.inl x10), some (.inl x11), none, none, none, none, none, none] [] h) (hX167 : ∀ (x14 : Int) (h : Zm), X167 x14 h → zW p l e zrL_renders s m args below meth c D base 18 (MQ below (zQi D base Q) args s 1 3 (zFree base)) 1 3 167 [some (.inr (.inl a0)), some (.inr (.inl a1)), some (.inr (.inl a2)), some (.inr (.inl a3)), some (.inr (.inl a4)), some (.inr (.inl a5)), some (.inl x6), some (.inl x7), some (.inr (.inl a8)), some (.inr (.inl a9)), some (.inl x10), some (.inl x11), none, none, some (.inl x14), none, none, none] [] h) (H : mL_renders_J282 X52 X167 a0 a1 a2 a3 a4 a5 x6 x7 a8 a9 x10 x11 x14 x15 x16 s0 h Q) : zW p l e zrL_renders s m args below meth c D base 18 (MQ below (zQi D base Q) args s 1 3 (zFree base)) 1 3 282 [some (.inr (.inl a0)), some (.inr (.inl a1)), some (.inr (.inl a2)), some (.inr (.inl a3)), some (.inr (.inl a4)), some (.inr (.inl a5)), some (.inl x6), some (.inl x7), some (.inr (.inl a8)), some (.inr (.inl a9)), some (.inl x10), some (.inl x11), none, none, some (.inl x14), some (.inl x15), some (.inl x16), none] [.inl s0] h := by
  unfold mL_renders_J282 at H
  refine z_istore (pc := 282) hc dL_renders_282 (by decide) (ρ' := [some (.inr (.inl a0)), some (.inr (.inl a1)), some (.inr (.inl a2)), some (.inr (.inl a3)), some (.inr (.inl a4)), some (.inr (.inl a5)), some (.inl x6), some (.inl x7), some (.inr (.inl a8)), some (.inr (.inl a9)), some (.inl x10), some (.inl x11), none, none, some (.inl x14), some (.inl x15), some (.inl x16), some (.inl s0)]) rfl rfl ?_
  refine z_aload (pc := 284) hc dL_renders_284 rfl ?_
  refine z_iload (pc := 286) hc dL_renders_286 rfl ?_
  refine z_aload_n (pc := 288) hc dL_renders_288 rfl ?_
  refine z_iload (pc := 289) hc dL_renders_289 rfl ?_
  refine z_iaload (pc := 291) hc dL_renders_291 H (fun v40 H => ?_)
  refine z_iconst (pc := 292) hc dL_renders_292 ?_
  refine z_icmp_ne (tgt := 301) (pc := 293) hc dL_renders_293 rfl H (fun H => ?_) (fun H => ?_)
  · refine z_iload (pc := 296) hc dL_renders_296 rfl ?_
    refine z_goto (tgt := 304) (pc := 298) hc dL_renders_298 rfl ?_
    refine z_mask [true, true, true, true, true, true, true, true, true, true, true, true, false, false, true, true, true, false] (ρ' := [some (.inr (.inl a0)), some (.inr (.inl a1)), some (.inr (.inl a2)), some (.inr (.inl a3)), some (.inr (.inl a4)), some (.inr (.inl a5)), some (.inl x6), some (.inl x7), some (.inr (.inl a8)), some (.inr (.inl a9)), some (.inl x10), some (.inl x11), none, none, some (.inl x14), some (.inl x15), some (.inl x16), none]) rfl ?_
    refine z_cells (cells' := 1) (slots' := 3) (by omega) (by omega) ?_
    exact rL_renders_J304 hc hX52 hX167 H
  · refine z_sipush (pc := 301) hc dL_renders_301 (by decide) ?_
    refine z_mask [true, true, true, true, true, true, true, true, true, true, true, true, false, false, true, true, true, false] (ρ' := [some (.inr (.inl a0)), some (.inr (.inl a1)), some (.inr (.inl a2)), some (.inr (.inl a3)), some (.inr (.inl a4)), some (.inr (.inl a5)), some (.inl x6), some (.inl x7), some (.inr (.inl a8)), some (.inr (.inl a9)), some (.inl x10), some (.inl x11), none, none, some (.inl x14), some (.inl x15), some (.inl x16), none]) rfl ?_
    refine z_cells (cells' := 1) (slots' := 3) (by omega) (by omega) ?_
    exact rL_renders_J304 hc hX52 hX167 H
set_option maxRecDepth 100000 in
set_option maxHeartbeats 4000000 in
theorem rL_renders_J233 (hc : zOk p s m args meth c D cL_renders 18 RL (some .int)) {X52 : Int → Int → Zm → Prop} {X167 : Int → Zm → Prop} {a0 : Nat} {a1 : Nat} {a2 : Nat} {a3 : Nat} {a4 : Nat} {a5 : Nat} {x6 : Int} {x7 : Int} {a8 : Nat} {a9 : Nat} {x10 : Int} {x11 : Int} {x14 : Int} {x15 : Int} {s0 : Int} {h : Zm} {Q : Int → Zm → Prop} (hX52 : ∀ (x10 : Int) (x11 : Int) (h : Zm), X52 x10 x11 h → zW p l e zrL_renders s m args below meth c D base 18 (MQ below (zQi D base Q) args s 1 3 (zFree base)) 1 3 52 [some (.inr (.inl a0)), some (.inr (.inl a1)), some (.inr (.inl a2)), some (.inr (.inl a3)), some (.inr (.inl a4)), some (.inr (.inl a5)), some (.inl x6), some (.inl x7), some (.inr (.inl a8)), some (.inr (.inl a9)), some (.inl x10), some (.inl x11), none, none, none, none, none, none] [] h) (hX167 : ∀ (x14 : Int) (h : Zm), X167 x14 h → zW p l e zrL_renders s m args below meth c D base 18 (MQ below (zQi D base Q) args s 1 3 (zFree base)) 1 3 167 [some (.inr (.inl a0)), some (.inr (.inl a1)), some (.inr (.inl a2)), some (.inr (.inl a3)), some (.inr (.inl a4)), some (.inr (.inl a5)), some (.inl x6), some (.inl x7), some (.inr (.inl a8)), some (.inr (.inl a9)), some (.inl x10), some (.inl x11), none, none, some (.inl x14), none, none, none] [] h) (H : mL_renders_J233 X52 X167 a0 a1 a2 a3 a4 a5 x6 x7 a8 a9 x10 x11 x14 x15 s0 h Q) : zW p l e zrL_renders s m args below meth c D base 18 (MQ below (zQi D base Q) args s 1 3 (zFree base)) 1 3 233 [some (.inr (.inl a0)), some (.inr (.inl a1)), some (.inr (.inl a2)), some (.inr (.inl a3)), some (.inr (.inl a4)), some (.inr (.inl a5)), some (.inl x6), some (.inl x7), some (.inr (.inl a8)), some (.inr (.inl a9)), some (.inl x10), some (.inl x11), none, none, some (.inl x14), some (.inl x15), none, none] [.inl s0] h := by
  unfold mL_renders_J233 at H
  refine z_istore (pc := 233) hc dL_renders_233 (by decide) (ρ' := [some (.inr (.inl a0)), some (.inr (.inl a1)), some (.inr (.inl a2)), some (.inr (.inl a3)), some (.inr (.inl a4)), some (.inr (.inl a5)), some (.inl x6), some (.inl x7), some (.inr (.inl a8)), some (.inr (.inl a9)), some (.inl x10), some (.inl x11), none, none, some (.inl x14), some (.inl x15), some (.inl s0), none]) rfl rfl ?_
  refine z_iload (pc := 235) hc dL_renders_235 rfl ?_
  refine z_if_ne (tgt := 251) (pc := 237) hc dL_renders_237 rfl H (fun H => ?_) (fun H => ?_)
  · refine z_aload (pc := 240) hc dL_renders_240 rfl ?_
    refine z_iload (pc := 242) hc dL_renders_242 rfl ?_
    refine z_iaload (pc := 244) hc dL_renders_244 H (fun v38 H => ?_)
    refine z_ldc (n := 65536) (pc := 245) hc dL_renders_245 (zT_mem 518 (by decide +kernel) rfl) ?_
    refine z_idiv (pc := 247) hc dL_renders_247 H (fun v39 H => ?_)
    refine z_goto (tgt := 282) (pc := 248) hc dL_renders_248 rfl ?_
    refine z_cells (cells' := 1) (slots' := 3) (by omega) (by omega) ?_
    exact rL_renders_J282 hc hX52 hX167 H
  · refine z_iload (pc := 251) hc dL_renders_251 rfl ?_
    refine z_iconst (pc := 253) hc dL_renders_253 ?_
    refine z_icmp_ne (tgt := 273) (pc := 254) hc dL_renders_254 rfl H (fun H => ?_) (fun H => ?_)
    · refine z_aload (pc := 257) hc dL_renders_257 rfl ?_
      refine z_iload (pc := 259) hc dL_renders_259 rfl ?_
      refine z_iaload (pc := 261) hc dL_renders_261 H (fun v35 H => ?_)
      refine z_sipush (pc := 262) hc dL_renders_262 (by decide) ?_
      refine z_idiv (pc := 265) hc dL_renders_265 H (fun v36 H => ?_)
      refine z_sipush (pc := 266) hc dL_renders_266 (by decide) ?_
      refine z_irem (pc := 269) hc dL_renders_269 H (fun v37 H => ?_)
      refine z_goto (tgt := 282) (pc := 270) hc dL_renders_270 rfl ?_
      refine z_cells (cells' := 1) (slots' := 3) (by omega) (by omega) ?_
      exact rL_renders_J282 hc hX52 hX167 H
    · refine z_aload (pc := 273) hc dL_renders_273 rfl ?_
      refine z_iload (pc := 275) hc dL_renders_275 rfl ?_
      refine z_iaload (pc := 277) hc dL_renders_277 H (fun v33 H => ?_)
      refine z_sipush (pc := 278) hc dL_renders_278 (by decide) ?_
      refine z_irem (pc := 281) hc dL_renders_281 H (fun v34 H => ?_)
      refine z_cells (cells' := 1) (slots' := 3) (by omega) (by omega) ?_
      exact rL_renders_J282 hc hX52 hX167 H
set_option maxRecDepth 100000 in
set_option maxHeartbeats 4000000 in
theorem rL_renders_J200 (hc : zOk p s m args meth c D cL_renders 18 RL (some .int)) {X52 : Int → Int → Zm → Prop} {X167 : Int → Zm → Prop} {a0 : Nat} {a1 : Nat} {a2 : Nat} {a3 : Nat} {a4 : Nat} {a5 : Nat} {x6 : Int} {x7 : Int} {a8 : Nat} {a9 : Nat} {x10 : Int} {x11 : Int} {x14 : Int} {s0 : Int} {h : Zm} {Q : Int → Zm → Prop} (hX52 : ∀ (x10 : Int) (x11 : Int) (h : Zm), X52 x10 x11 h → zW p l e zrL_renders s m args below meth c D base 18 (MQ below (zQi D base Q) args s 1 3 (zFree base)) 1 3 52 [some (.inr (.inl a0)), some (.inr (.inl a1)), some (.inr (.inl a2)), some (.inr (.inl a3)), some (.inr (.inl a4)), some (.inr (.inl a5)), some (.inl x6), some (.inl x7), some (.inr (.inl a8)), some (.inr (.inl a9)), some (.inl x10), some (.inl x11), none, none, none, none, none, none] [] h) (hX167 : ∀ (x14 : Int) (h : Zm), X167 x14 h → zW p l e zrL_renders s m args below meth c D base 18 (MQ below (zQi D base Q) args s 1 3 (zFree base)) 1 3 167 [some (.inr (.inl a0)), some (.inr (.inl a1)), some (.inr (.inl a2)), some (.inr (.inl a3)), some (.inr (.inl a4)), some (.inr (.inl a5)), some (.inl x6), some (.inl x7), some (.inr (.inl a8)), some (.inr (.inl a9)), some (.inl x10), some (.inl x11), none, none, some (.inl x14), none, none, none] [] h) (H : mL_renders_J200 X52 X167 a0 a1 a2 a3 a4 a5 x6 x7 a8 a9 x10 x11 x14 s0 h Q) : zW p l e zrL_renders s m args below meth c D base 18 (MQ below (zQi D base Q) args s 1 3 (zFree base)) 1 3 200 [some (.inr (.inl a0)), some (.inr (.inl a1)), some (.inr (.inl a2)), some (.inr (.inl a3)), some (.inr (.inl a4)), some (.inr (.inl a5)), some (.inl x6), some (.inl x7), some (.inr (.inl a8)), some (.inr (.inl a9)), some (.inl x10), some (.inl x11), none, none, some (.inl x14), none, none, none] [.inl s0] h := by
  unfold mL_renders_J200 at H
  refine z_istore (pc := 200) hc dL_renders_200 (by decide) (ρ' := [some (.inr (.inl a0)), some (.inr (.inl a1)), some (.inr (.inl a2)), some (.inr (.inl a3)), some (.inr (.inl a4)), some (.inr (.inl a5)), some (.inl x6), some (.inl x7), some (.inr (.inl a8)), some (.inr (.inl a9)), some (.inl x10), some (.inl x11), none, none, some (.inl x14), some (.inl s0), none, none]) rfl rfl ?_
  refine z_aload_n (pc := 202) hc dL_renders_202 rfl ?_
  refine z_iload (pc := 203) hc dL_renders_203 rfl ?_
  refine z_iaload (pc := 205) hc dL_renders_205 H (fun v28 H => ?_)
  refine z_iconst (pc := 206) hc dL_renders_206 ?_
  refine z_icmp_eq (tgt := 228) (pc := 207) hc dL_renders_207 rfl H (fun H => ?_) (fun H => ?_)
  · refine z_iconst (pc := 228) hc dL_renders_228 ?_
    refine z_goto (tgt := 233) (pc := 229) hc dL_renders_229 rfl ?_
    refine z_cells (cells' := 1) (slots' := 3) (by omega) (by omega) ?_
    exact rL_renders_J233 hc hX52 hX167 H
  · refine z_aload (pc := 210) hc dL_renders_210 rfl ?_
    refine z_aload (pc := 212) hc dL_renders_212 rfl ?_
    refine z_iload (pc := 214) hc dL_renders_214 rfl ?_
    refine z_iaload (pc := 216) hc dL_renders_216 H (fun v29 H => ?_)
    refine z_sipush (pc := 217) hc dL_renders_217 (by decide) ?_
    refine z_idiv (pc := 220) hc dL_renders_220 H (fun v30 H => ?_)
    refine z_iconst (pc := 221) hc dL_renders_221 ?_
    refine z_irem (pc := 222) hc dL_renders_222 H (fun v31 H => ?_)
    refine z_iaload (pc := 223) hc dL_renders_223 H (fun v32 H => ?_)
    refine z_iconst (pc := 224) hc dL_renders_224 ?_
    refine z_icmp_ne (tgt := 232) (pc := 225) hc dL_renders_225 rfl H (fun H => ?_) (fun H => ?_)
    · refine z_iconst (pc := 228) hc dL_renders_228 ?_
      refine z_goto (tgt := 233) (pc := 229) hc dL_renders_229 rfl ?_
      refine z_cells (cells' := 1) (slots' := 3) (by omega) (by omega) ?_
      exact rL_renders_J233 hc hX52 hX167 H
    · refine z_iconst (pc := 232) hc dL_renders_232 ?_
      refine z_cells (cells' := 1) (slots' := 3) (by omega) (by omega) ?_
      exact rL_renders_J233 hc hX52 hX167 H
set_option maxRecDepth 100000 in
set_option maxHeartbeats 4000000 in
theorem rL_renders_B167 (hc : zOk p s m args meth c D cL_renders 18 RL (some .int)) {X52 : Int → Int → Zm → Prop} {X167 : Int → Zm → Prop} {a0 : Nat} {a1 : Nat} {a2 : Nat} {a3 : Nat} {a4 : Nat} {a5 : Nat} {x6 : Int} {x7 : Int} {a8 : Nat} {a9 : Nat} {x10 : Int} {x11 : Int} {x14 : Int} {h : Zm} {Q : Int → Zm → Prop} (hX52 : ∀ (x10 : Int) (x11 : Int) (h : Zm), X52 x10 x11 h → zW p l e zrL_renders s m args below meth c D base 18 (MQ below (zQi D base Q) args s 1 3 (zFree base)) 1 3 52 [some (.inr (.inl a0)), some (.inr (.inl a1)), some (.inr (.inl a2)), some (.inr (.inl a3)), some (.inr (.inl a4)), some (.inr (.inl a5)), some (.inl x6), some (.inl x7), some (.inr (.inl a8)), some (.inr (.inl a9)), some (.inl x10), some (.inl x11), none, none, none, none, none, none] [] h) (hX167 : ∀ (x14 : Int) (h : Zm), X167 x14 h → zW p l e zrL_renders s m args below meth c D base 18 (MQ below (zQi D base Q) args s 1 3 (zFree base)) 1 3 167 [some (.inr (.inl a0)), some (.inr (.inl a1)), some (.inr (.inl a2)), some (.inr (.inl a3)), some (.inr (.inl a4)), some (.inr (.inl a5)), some (.inl x6), some (.inl x7), some (.inr (.inl a8)), some (.inr (.inl a9)), some (.inl x10), some (.inl x11), none, none, some (.inl x14), none, none, none] [] h) (H : mL_renders_B167 X52 X167 a0 a1 a2 a3 a4 a5 x6 x7 a8 a9 x10 x11 x14 h Q) : zW p l e zrL_renders s m args below meth c D base 18 (MQ below (zQi D base Q) args s 1 3 (zFree base)) 1 3 167 [some (.inr (.inl a0)), some (.inr (.inl a1)), some (.inr (.inl a2)), some (.inr (.inl a3)), some (.inr (.inl a4)), some (.inr (.inl a5)), some (.inl x6), some (.inl x7), some (.inr (.inl a8)), some (.inr (.inl a9)), some (.inl x10), some (.inl x11), none, none, some (.inl x14), none, none, none] [] h := by
  unfold mL_renders_B167 at H
  refine z_iload (pc := 167) hc dL_renders_167 rfl ?_
  refine z_iconst (pc := 169) hc dL_renders_169 ?_
  refine z_icmp_ge (tgt := 379) (pc := 170) hc dL_renders_170 rfl H (fun H => ?_) (fun H => ?_)
  · refine z_aload_n (pc := 173) hc dL_renders_173 rfl ?_
    refine z_iload (pc := 174) hc dL_renders_174 rfl ?_
    refine z_iaload (pc := 176) hc dL_renders_176 H (fun v25 H => ?_)
    refine z_iconst (pc := 177) hc dL_renders_177 ?_
    refine z_icmp_ne (tgt := 199) (pc := 178) hc dL_renders_178 rfl H (fun H => ?_) (fun H => ?_)
    · refine z_aload (pc := 181) hc dL_renders_181 rfl ?_
      refine z_iload (pc := 183) hc dL_renders_183 rfl ?_
      refine z_iaload (pc := 185) hc dL_renders_185 H (fun v26 H => ?_)
      refine z_sipush (pc := 186) hc dL_renders_186 (by decide) ?_
      refine z_idiv (pc := 189) hc dL_renders_189 H (fun v27 H => ?_)
      refine z_iload (pc := 190) hc dL_renders_190 rfl ?_
      refine z_icmp_ne (tgt := 199) (pc := 192) hc dL_renders_192 rfl H (fun H => ?_) (fun H => ?_)
      · refine z_iconst (pc := 195) hc dL_renders_195 ?_
        refine z_goto (tgt := 200) (pc := 196) hc dL_renders_196 rfl ?_
        refine z_cells (cells' := 1) (slots' := 3) (by omega) (by omega) ?_
        exact rL_renders_J200 hc hX52 hX167 H
      · refine z_iconst (pc := 199) hc dL_renders_199 ?_
        refine z_cells (cells' := 1) (slots' := 3) (by omega) (by omega) ?_
        exact rL_renders_J200 hc hX52 hX167 H
    · refine z_iconst (pc := 199) hc dL_renders_199 ?_
      refine z_cells (cells' := 1) (slots' := 3) (by omega) (by omega) ?_
      exact rL_renders_J200 hc hX52 hX167 H
  · refine z_mask [true, true, true, true, true, true, true, true, true, true, true, true, false, false, false, false, false, false] (ρ' := [some (.inr (.inl a0)), some (.inr (.inl a1)), some (.inr (.inl a2)), some (.inr (.inl a3)), some (.inr (.inl a4)), some (.inr (.inl a5)), some (.inl x6), some (.inl x7), some (.inr (.inl a8)), some (.inr (.inl a9)), some (.inl x10), some (.inl x11), none, none, none, none, none, none]) rfl ?_
    refine z_cells (cells' := 1) (slots' := 3) (by omega) (by omega) ?_
    exact rL_renders_J379 hc hX52 H
theorem rL_renders_H167 (hc : zOk p s m args meth c D cL_renders 18 RL (some .int)) {X52 : Int → Int → Zm → Prop} {a0 : Nat} {a1 : Nat} {a2 : Nat} {a3 : Nat} {a4 : Nat} {a5 : Nat} {x6 : Int} {x7 : Int} {a8 : Nat} {a9 : Nat} {x10 : Int} {x11 : Int} {x14 : Int} {h : Zm} {Q : Int → Zm → Prop} (hX52 : ∀ (x10 : Int) (x11 : Int) (h : Zm), X52 x10 x11 h → zW p l e zrL_renders s m args below meth c D base 18 (MQ below (zQi D base Q) args s 1 3 (zFree base)) 1 3 52 [some (.inr (.inl a0)), some (.inr (.inl a1)), some (.inr (.inl a2)), some (.inr (.inl a3)), some (.inr (.inl a4)), some (.inr (.inl a5)), some (.inl x6), some (.inl x7), some (.inr (.inl a8)), some (.inr (.inl a9)), some (.inl x10), some (.inl x11), none, none, none, none, none, none] [] h) (H : mL_renders_H167 X52 a0 a1 a2 a3 a4 a5 x6 x7 a8 a9 x10 x11 x14 h Q) : zW p l e zrL_renders s m args below meth c D base 18 (MQ below (zQi D base Q) args s 1 3 (zFree base)) 1 3 167 [some (.inr (.inl a0)), some (.inr (.inl a1)), some (.inr (.inl a2)), some (.inr (.inl a3)), some (.inr (.inl a4)), some (.inr (.inl a5)), some (.inl x6), some (.inl x7), some (.inr (.inl a8)), some (.inr (.inl a9)), some (.inl x10), some (.inl x11), none, none, some (.inl x14), none, none, none] [] h :=
  H (fun x14 h => zW p l e zrL_renders s m args below meth c D base 18 (MQ below (zQi D base Q) args s 1 3 (zFree base)) 1 3 167 [some (.inr (.inl a0)), some (.inr (.inl a1)), some (.inr (.inl a2)), some (.inr (.inl a3)), some (.inr (.inl a4)), some (.inr (.inl a5)), some (.inl x6), some (.inl x7), some (.inr (.inl a8)), some (.inr (.inl a9)), some (.inl x10), some (.inl x11), none, none, some (.inl x14), none, none, none] [] h) (fun x14 h H => rL_renders_B167 hc hX52 (fun _ _ q => q) H)
set_option maxRecDepth 100000 in
set_option maxHeartbeats 4000000 in
theorem rL_renders_B52 (hc : zOk p s m args meth c D cL_renders 18 RL (some .int)) {X52 : Int → Int → Zm → Prop} {a0 : Nat} {a1 : Nat} {a2 : Nat} {a3 : Nat} {a4 : Nat} {a5 : Nat} {x6 : Int} {x7 : Int} {a8 : Nat} {a9 : Nat} {x10 : Int} {x11 : Int} {h : Zm} {Q : Int → Zm → Prop} (hX52 : ∀ (x10 : Int) (x11 : Int) (h : Zm), X52 x10 x11 h → zW p l e zrL_renders s m args below meth c D base 18 (MQ below (zQi D base Q) args s 1 3 (zFree base)) 1 3 52 [some (.inr (.inl a0)), some (.inr (.inl a1)), some (.inr (.inl a2)), some (.inr (.inl a3)), some (.inr (.inl a4)), some (.inr (.inl a5)), some (.inl x6), some (.inl x7), some (.inr (.inl a8)), some (.inr (.inl a9)), some (.inl x10), some (.inl x11), none, none, none, none, none, none] [] h) (H : mL_renders_B52 X52 a0 a1 a2 a3 a4 a5 x6 x7 a8 a9 x10 x11 h Q) : zW p l e zrL_renders s m args below meth c D base 18 (MQ below (zQi D base Q) args s 1 3 (zFree base)) 1 3 52 [some (.inr (.inl a0)), some (.inr (.inl a1)), some (.inr (.inl a2)), some (.inr (.inl a3)), some (.inr (.inl a4)), some (.inr (.inl a5)), some (.inl x6), some (.inl x7), some (.inr (.inl a8)), some (.inr (.inl a9)), some (.inl x10), some (.inl x11), none, none, none, none, none, none] [] h := by
  unfold mL_renders_B52 at H
  refine z_iload (pc := 52) hc dL_renders_52 rfl ?_
  refine z_if_le (tgt := 397) (pc := 54) hc dL_renders_54 rfl H (fun H => ?_) (fun H => ?_)
  · refine z_iload (pc := 397) hc dL_renders_397 rfl ?_
    refine z_cells (cells' := 1) (slots' := 3) (by omega) (by omega) ?_
    exact z_ireturn (pc := 399) hc dL_renders_399 H
  · refine z_aload_n (pc := 57) hc dL_renders_57 rfl ?_
    refine z_aload_n (pc := 58) hc dL_renders_58 rfl ?_
    refine z_iload (pc := 59) hc dL_renders_59 rfl ?_
    refine z_aload (pc := 61) hc dL_renders_61 rfl ?_
    refine z_calV0 (z_runS (pc := 63) hc dL_renders_63 zw_RL_54 (metL_above _ _ _ H) rfl (Nat.le_of_ble_eq_true rfl) ⟨Nat.le_of_ble_eq_true rfl, Nat.le_of_ble_eq_true rfl⟩ ⟨by exact Nat.le_of_ble_eq_true rfl, by exact Nat.le_of_ble_eq_true rfl⟩) rfl ⟨rfl, rfl⟩ (fun h7 H => ?_)
    refine z_iload (pc := 66) hc dL_renders_66 rfl ?_
    refine z_aload (pc := 68) hc dL_renders_68 rfl ?_
    refine z_iconst (pc := 70) hc dL_renders_70 ?_
    refine z_iaload (pc := 71) hc dL_renders_71 H (fun v8 H => ?_)
    refine z_isub (pc := 72) hc dL_renders_72 ?_
    refine z_aload_n (pc := 73) hc dL_renders_73 rfl ?_
    refine z_iload (pc := 74) hc dL_renders_74 rfl ?_
    refine z_iaload (pc := 76) hc dL_renders_76 H (fun v9 H => ?_)
    refine z_bipush (pc := 77) hc dL_renders_77 (by decide) ?_
    refine z_irem (pc := 79) hc dL_renders_79 H (fun v10 H => ?_)
    refine z_bipush (pc := 80) hc dL_renders_80 (by decide) ?_
    refine z_isub (pc := 82) hc dL_renders_82 ?_
    refine z_isub (pc := 83) hc dL_renders_83 ?_
    refine z_istore (pc := 84) hc dL_renders_84 (by decide) (ρ' := [some (.inr (.inl a0)), some (.inr (.inl a1)), some (.inr (.inl a2)), some (.inr (.inl a3)), some (.inr (.inl a4)), some (.inr (.inl a5)), some (.inl x6), some (.inl x7), some (.inr (.inl a8)), some (.inr (.inl a9)), some (.inl x10), some (.inl x11), some (.inl ((x6 - v8) - (v10 - 12))), none, none, none, none, none]) rfl rfl ?_
    refine z_iload (pc := 86) hc dL_renders_86 rfl ?_
    refine z_aload (pc := 88) hc dL_renders_88 rfl ?_
    refine z_iconst (pc := 90) hc dL_renders_90 ?_
    refine z_iaload (pc := 91) hc dL_renders_91 H (fun v11 H => ?_)
    refine z_isub (pc := 92) hc dL_renders_92 ?_
    refine z_aload_n (pc := 93) hc dL_renders_93 rfl ?_
    refine z_iload (pc := 94) hc dL_renders_94 rfl ?_
    refine z_iaload (pc := 96) hc dL_renders_96 H (fun v12 H => ?_)
    refine z_bipush (pc := 97) hc dL_renders_97 (by decide) ?_
    refine z_idiv (pc := 99) hc dL_renders_99 H (fun v13 H => ?_)
    refine z_bipush (pc := 100) hc dL_renders_100 (by decide) ?_
    refine z_irem (pc := 102) hc dL_renders_102 H (fun v14 H => ?_)
    refine z_bipush (pc := 103) hc dL_renders_103 (by decide) ?_
    refine z_isub (pc := 105) hc dL_renders_105 ?_
    refine z_isub (pc := 106) hc dL_renders_106 ?_
    refine z_istore (pc := 107) hc dL_renders_107 (by decide) (ρ' := [some (.inr (.inl a0)), some (.inr (.inl a1)), some (.inr (.inl a2)), some (.inr (.inl a3)), some (.inr (.inl a4)), some (.inr (.inl a5)), some (.inl x6), some (.inl x7), some (.inr (.inl a8)), some (.inr (.inl a9)), some (.inl x10), some (.inl x11), some (.inl ((x6 - v8) - (v10 - 12))), some (.inl ((x7 - v11) - (v14 - 12))), none, none, none, none]) rfl rfl ?_
    refine z_iload (pc := 109) hc dL_renders_109 rfl ?_
    refine z_if_lt (tgt := 379) (pc := 111) hc dL_renders_111 rfl H (fun H => ?_) (fun H => ?_)
    · refine z_mask [true, true, true, true, true, true, true, true, true, true, true, true, false, false, false, false, false, false] (ρ' := [some (.inr (.inl a0)), some (.inr (.inl a1)), some (.inr (.inl a2)), some (.inr (.inl a3)), some (.inr (.inl a4)), some (.inr (.inl a5)), some (.inl x6), some (.inl x7), some (.inr (.inl a8)), some (.inr (.inl a9)), some (.inl x10), some (.inl x11), none, none, none, none, none, none]) rfl ?_
      refine z_cells (cells' := 1) (slots' := 3) (by omega) (by omega) ?_
      exact rL_renders_J379 hc hX52 H
    · refine z_iload (pc := 114) hc dL_renders_114 rfl ?_
      refine z_aload_n (pc := 116) hc dL_renders_116 rfl ?_
      refine z_iload (pc := 117) hc dL_renders_117 rfl ?_
      refine z_iaload (pc := 119) hc dL_renders_119 H (fun v15 H => ?_)
      refine z_sipush (pc := 120) hc dL_renders_120 (by decide) ?_
      refine z_idiv (pc := 123) hc dL_renders_123 H (fun v16 H => ?_)
      refine z_bipush (pc := 124) hc dL_renders_124 (by decide) ?_
      refine z_irem (pc := 126) hc dL_renders_126 H (fun v17 H => ?_)
      refine z_icmp_ge (tgt := 379) (pc := 127) hc dL_renders_127 rfl H (fun H => ?_) (fun H => ?_)
      · refine z_iload (pc := 130) hc dL_renders_130 rfl ?_
        refine z_if_lt (tgt := 379) (pc := 132) hc dL_renders_132 rfl H (fun H => ?_) (fun H => ?_)
        · refine z_mask [true, true, true, true, true, true, true, true, true, true, true, true, false, false, false, false, false, false] (ρ' := [some (.inr (.inl a0)), some (.inr (.inl a1)), some (.inr (.inl a2)), some (.inr (.inl a3)), some (.inr (.inl a4)), some (.inr (.inl a5)), some (.inl x6), some (.inl x7), some (.inr (.inl a8)), some (.inr (.inl a9)), some (.inl x10), some (.inl x11), none, none, none, none, none, none]) rfl ?_
          refine z_cells (cells' := 1) (slots' := 3) (by omega) (by omega) ?_
          exact rL_renders_J379 hc hX52 H
        · refine z_iload (pc := 135) hc dL_renders_135 rfl ?_
          refine z_aload_n (pc := 137) hc dL_renders_137 rfl ?_
          refine z_iload (pc := 138) hc dL_renders_138 rfl ?_
          refine z_iaload (pc := 140) hc dL_renders_140 H (fun v18 H => ?_)
          refine z_sipush (pc := 141) hc dL_renders_141 (by decide) ?_
          refine z_idiv (pc := 144) hc dL_renders_144 H (fun v19 H => ?_)
          refine z_icmp_ge (tgt := 379) (pc := 145) hc dL_renders_145 rfl H (fun H => ?_) (fun H => ?_)
          · refine z_aload (pc := 148) hc dL_renders_148 rfl ?_
            refine z_iconst (pc := 150) hc dL_renders_150 ?_
            refine z_iaload (pc := 151) hc dL_renders_151 H (fun v20 H => ?_)
            refine z_if_le (tgt := 160) (pc := 152) hc dL_renders_152 rfl H (fun H => ?_) (fun H => ?_)
            · refine z_iload (pc := 160) hc dL_renders_160 rfl ?_
              refine z_istore (pc := 162) hc dL_renders_162 (by decide) (ρ' := [some (.inr (.inl a0)), some (.inr (.inl a1)), some (.inr (.inl a2)), some (.inr (.inl a3)), some (.inr (.inl a4)), some (.inr (.inl a5)), some (.inl x6), some (.inl x7), some (.inr (.inl a8)), some (.inr (.inl a9)), some (.inl x10), some (.inl x11), some (.inl ((x6 - v8) - (v10 - 12))), some (.inl ((x7 - v11) - (v14 - 12))), none, none, none, none]) rfl rfl ?_
              refine z_iconst (pc := 164) hc dL_renders_164 ?_
              refine z_istore (pc := 165) hc dL_renders_165 (by decide) (ρ' := [some (.inr (.inl a0)), some (.inr (.inl a1)), some (.inr (.inl a2)), some (.inr (.inl a3)), some (.inr (.inl a4)), some (.inr (.inl a5)), some (.inl x6), some (.inl x7), some (.inr (.inl a8)), some (.inr (.inl a9)), some (.inl x10), some (.inl x11), some (.inl ((x6 - v8) - (v10 - 12))), some (.inl ((x7 - v11) - (v14 - 12))), some (.inl 0), none, none, none]) rfl rfl ?_
              refine z_mask [true, true, true, true, true, true, true, true, true, true, true, true, false, false, true, false, false, false] (ρ' := [some (.inr (.inl a0)), some (.inr (.inl a1)), some (.inr (.inl a2)), some (.inr (.inl a3)), some (.inr (.inl a4)), some (.inr (.inl a5)), some (.inl x6), some (.inl x7), some (.inr (.inl a8)), some (.inr (.inl a9)), some (.inl x10), some (.inl x11), none, none, some (.inl 0), none, none, none]) rfl ?_
              refine z_cells (cells' := 1) (slots' := 3) (by omega) (by omega) ?_
              exact rL_renders_H167 hc hX52 H
            · refine z_iload (pc := 155) hc dL_renders_155 rfl ?_
              refine z_goto (tgt := 162) (pc := 157) hc dL_renders_157 rfl ?_
              refine z_istore (pc := 162) hc dL_renders_162 (by decide) (ρ' := [some (.inr (.inl a0)), some (.inr (.inl a1)), some (.inr (.inl a2)), some (.inr (.inl a3)), some (.inr (.inl a4)), some (.inr (.inl a5)), some (.inl x6), some (.inl x7), some (.inr (.inl a8)), some (.inr (.inl a9)), some (.inl x11), some (.inl x11), some (.inl ((x6 - v8) - (v10 - 12))), some (.inl ((x7 - v11) - (v14 - 12))), none, none, none, none]) rfl rfl ?_
              refine z_iconst (pc := 164) hc dL_renders_164 ?_
              refine z_istore (pc := 165) hc dL_renders_165 (by decide) (ρ' := [some (.inr (.inl a0)), some (.inr (.inl a1)), some (.inr (.inl a2)), some (.inr (.inl a3)), some (.inr (.inl a4)), some (.inr (.inl a5)), some (.inl x6), some (.inl x7), some (.inr (.inl a8)), some (.inr (.inl a9)), some (.inl x11), some (.inl x11), some (.inl ((x6 - v8) - (v10 - 12))), some (.inl ((x7 - v11) - (v14 - 12))), some (.inl 0), none, none, none]) rfl rfl ?_
              refine z_mask [true, true, true, true, true, true, true, true, true, true, true, true, false, false, true, false, false, false] (ρ' := [some (.inr (.inl a0)), some (.inr (.inl a1)), some (.inr (.inl a2)), some (.inr (.inl a3)), some (.inr (.inl a4)), some (.inr (.inl a5)), some (.inl x6), some (.inl x7), some (.inr (.inl a8)), some (.inr (.inl a9)), some (.inl x11), some (.inl x11), none, none, some (.inl 0), none, none, none]) rfl ?_
              refine z_cells (cells' := 1) (slots' := 3) (by omega) (by omega) ?_
              exact rL_renders_H167 hc hX52 H
          · refine z_mask [true, true, true, true, true, true, true, true, true, true, true, true, false, false, false, false, false, false] (ρ' := [some (.inr (.inl a0)), some (.inr (.inl a1)), some (.inr (.inl a2)), some (.inr (.inl a3)), some (.inr (.inl a4)), some (.inr (.inl a5)), some (.inl x6), some (.inl x7), some (.inr (.inl a8)), some (.inr (.inl a9)), some (.inl x10), some (.inl x11), none, none, none, none, none, none]) rfl ?_
            refine z_cells (cells' := 1) (slots' := 3) (by omega) (by omega) ?_
            exact rL_renders_J379 hc hX52 H
      · refine z_mask [true, true, true, true, true, true, true, true, true, true, true, true, false, false, false, false, false, false] (ρ' := [some (.inr (.inl a0)), some (.inr (.inl a1)), some (.inr (.inl a2)), some (.inr (.inl a3)), some (.inr (.inl a4)), some (.inr (.inl a5)), some (.inl x6), some (.inl x7), some (.inr (.inl a8)), some (.inr (.inl a9)), some (.inl x10), some (.inl x11), none, none, none, none, none, none]) rfl ?_
        refine z_cells (cells' := 1) (slots' := 3) (by omega) (by omega) ?_
        exact rL_renders_J379 hc hX52 H
theorem rL_renders_H52 (hc : zOk p s m args meth c D cL_renders 18 RL (some .int))  {a0 : Nat} {a1 : Nat} {a2 : Nat} {a3 : Nat} {a4 : Nat} {a5 : Nat} {x6 : Int} {x7 : Int} {a8 : Nat} {a9 : Nat} {x10 : Int} {x11 : Int} {h : Zm} {Q : Int → Zm → Prop}  (H : mL_renders_H52  a0 a1 a2 a3 a4 a5 x6 x7 a8 a9 x10 x11 h Q) : zW p l e zrL_renders s m args below meth c D base 18 (MQ below (zQi D base Q) args s 1 3 (zFree base)) 1 3 52 [some (.inr (.inl a0)), some (.inr (.inl a1)), some (.inr (.inl a2)), some (.inr (.inl a3)), some (.inr (.inl a4)), some (.inr (.inl a5)), some (.inl x6), some (.inl x7), some (.inr (.inl a8)), some (.inr (.inl a9)), some (.inl x10), some (.inl x11), none, none, none, none, none, none] [] h :=
  H (fun x10 x11 h => zW p l e zrL_renders s m args below meth c D base 18 (MQ below (zQi D base Q) args s 1 3 (zFree base)) 1 3 52 [some (.inr (.inl a0)), some (.inr (.inl a1)), some (.inr (.inl a2)), some (.inr (.inl a3)), some (.inr (.inl a4)), some (.inr (.inl a5)), some (.inl x6), some (.inl x7), some (.inr (.inl a8)), some (.inr (.inl a9)), some (.inl x10), some (.inl x11), none, none, none, none, none, none] [] h) (fun x10 x11 h H => rL_renders_B52 hc (fun _ _ _ q => q) H)
set_option maxRecDepth 100000 in
set_option maxHeartbeats 4000000 in
theorem rL_renders_B12 (hc : zOk p s m args meth c D cL_renders 18 RL (some .int)) {X12 : Int → Zm → Prop} {a0 : Nat} {a1 : Nat} {a2 : Nat} {a3 : Nat} {a4 : Nat} {a5 : Nat} {x6 : Int} {x7 : Int} {a8 : Nat} {a9 : Nat} {x10 : Int} {x11 : Int} {h : Zm} {Q : Int → Zm → Prop} (hX12 : ∀ (x11 : Int) (h : Zm), X12 x11 h → zW p l e zrL_renders s m args below meth c D base 18 (MQ below (zQi D base Q) args s 1 3 (zFree base)) 1 3 12 [some (.inr (.inl a0)), some (.inr (.inl a1)), some (.inr (.inl a2)), some (.inr (.inl a3)), some (.inr (.inl a4)), some (.inr (.inl a5)), some (.inl x6), some (.inl x7), some (.inr (.inl a8)), some (.inr (.inl a9)), some (.inl x10), some (.inl x11), none, none, none, none, none, none] [] h) (H : mL_renders_B12 X12 a0 a1 a2 a3 a4 a5 x6 x7 a8 a9 x10 x11 h Q) : zW p l e zrL_renders s m args below meth c D base 18 (MQ below (zQi D base Q) args s 1 3 (zFree base)) 1 3 12 [some (.inr (.inl a0)), some (.inr (.inl a1)), some (.inr (.inl a2)), some (.inr (.inl a3)), some (.inr (.inl a4)), some (.inr (.inl a5)), some (.inl x6), some (.inl x7), some (.inr (.inl a8)), some (.inr (.inl a9)), some (.inl x10), some (.inl x11), none, none, none, none, none, none] [] h := by
  unfold mL_renders_B12 at H
  refine z_iload (pc := 12) hc dL_renders_12 rfl ?_
  refine z_bipush (pc := 14) hc dL_renders_14 (by decide) ?_
  refine z_icmp_ge (tgt := 43) (pc := 16) hc dL_renders_16 rfl H (fun H => ?_) (fun H => ?_)
  · refine z_aload (pc := 19) hc dL_renders_19 rfl ?_
    refine z_iload (pc := 21) hc dL_renders_21 rfl ?_
    refine z_iload (pc := 23) hc dL_renders_23 rfl ?_
    refine z_iconst (pc := 25) hc dL_renders_25 ?_
    refine z_icmp_ge (tgt := 35) (pc := 26) hc dL_renders_26 rfl H (fun H => ?_) (fun H => ?_)
    · refine z_sipush (pc := 29) hc dL_renders_29 (by decide) ?_
      refine z_goto (tgt := 36) (pc := 32) hc dL_renders_32 rfl ?_
      refine z_iastore (pc := 36) hc dL_renders_36 H (fun h6 H => ?_)
      refine z_iinc (pc := 37) hc dL_renders_37 (by decide) rfl (ρ' := [some (.inr (.inl a0)), some (.inr (.inl a1)), some (.inr (.inl a2)), some (.inr (.inl a3)), some (.inr (.inl a4)), some (.inr (.inl a5)), some (.inl x6), some (.inl x7), some (.inr (.inl a8)), some (.inr (.inl a9)), some (.inl x10), some (.inl (x11 + 1)), none, none, none, none, none, none]) rfl rfl ?_
      refine z_goto (tgt := 12) (pc := 40) hc dL_renders_40 rfl ?_
      refine z_cells (cells' := 1) (slots' := 3) (by omega) (by omega) ?_
      exact hX12 _ _ H
    · refine z_iconst (pc := 35) hc dL_renders_35 ?_
      refine z_iastore (pc := 36) hc dL_renders_36 H (fun h5 H => ?_)
      refine z_iinc (pc := 37) hc dL_renders_37 (by decide) rfl (ρ' := [some (.inr (.inl a0)), some (.inr (.inl a1)), some (.inr (.inl a2)), some (.inr (.inl a3)), some (.inr (.inl a4)), some (.inr (.inl a5)), some (.inl x6), some (.inl x7), some (.inr (.inl a8)), some (.inr (.inl a9)), some (.inl x10), some (.inl (x11 + 1)), none, none, none, none, none, none]) rfl rfl ?_
      refine z_goto (tgt := 12) (pc := 40) hc dL_renders_40 rfl ?_
      refine z_cells (cells' := 1) (slots' := 3) (by omega) (by omega) ?_
      exact hX12 _ _ H
  · refine z_aload_n (pc := 43) hc dL_renders_43 rfl ?_
    refine z_aload_n (pc := 44) hc dL_renders_44 rfl ?_
    refine z_aload_n (pc := 45) hc dL_renders_45 rfl ?_
    refine z_lconst (v := 0) (pc := 46) hc dL_renders_46 rfl ?_
    refine z_calI (z_runS (pc := 47) hc dL_renders_47 zw_RL_50 (metL_next _ _ _ H) rfl (Nat.le_of_ble_eq_true rfl) ⟨Nat.le_of_ble_eq_true rfl, Nat.le_of_ble_eq_true rfl⟩ ⟨by exact Nat.le_of_ble_eq_true rfl, by exact Nat.le_of_ble_eq_true rfl⟩) rfl ⟨rfl, rfl⟩ (fun v4 h3 H => ?_)
    refine z_istore (pc := 50) hc dL_renders_50 (by decide) (ρ' := [some (.inr (.inl a0)), some (.inr (.inl a1)), some (.inr (.inl a2)), some (.inr (.inl a3)), some (.inr (.inl a4)), some (.inr (.inl a5)), some (.inl x6), some (.inl x7), some (.inr (.inl a8)), some (.inr (.inl a9)), some (.inl x10), some (.inl v4), none, none, none, none, none, none]) rfl rfl ?_
    refine z_cells (cells' := 1) (slots' := 3) (by omega) (by omega) ?_
    exact rL_renders_H52 hc H
theorem rL_renders_H12 (hc : zOk p s m args meth c D cL_renders 18 RL (some .int))  {a0 : Nat} {a1 : Nat} {a2 : Nat} {a3 : Nat} {a4 : Nat} {a5 : Nat} {x6 : Int} {x7 : Int} {a8 : Nat} {a9 : Nat} {x10 : Int} {x11 : Int} {h : Zm} {Q : Int → Zm → Prop}  (H : mL_renders_H12  a0 a1 a2 a3 a4 a5 x6 x7 a8 a9 x10 x11 h Q) : zW p l e zrL_renders s m args below meth c D base 18 (MQ below (zQi D base Q) args s 1 3 (zFree base)) 1 3 12 [some (.inr (.inl a0)), some (.inr (.inl a1)), some (.inr (.inl a2)), some (.inr (.inl a3)), some (.inr (.inl a4)), some (.inr (.inl a5)), some (.inl x6), some (.inl x7), some (.inr (.inl a8)), some (.inr (.inl a9)), some (.inl x10), some (.inl x11), none, none, none, none, none, none] [] h :=
  H (fun x11 h => zW p l e zrL_renders s m args below meth c D base 18 (MQ below (zQi D base Q) args s 1 3 (zFree base)) 1 3 12 [some (.inr (.inl a0)), some (.inr (.inl a1)), some (.inr (.inl a2)), some (.inr (.inl a3)), some (.inr (.inl a4)), some (.inr (.inl a5)), some (.inl x6), some (.inl x7), some (.inr (.inl a8)), some (.inr (.inl a9)), some (.inl x10), some (.inl x11), none, none, none, none, none, none] [] h) (fun x11 h H => rL_renders_B12 hc (fun _ _ q => q) H)
set_option maxRecDepth 100000 in
set_option maxHeartbeats 4000000 in
theorem rL_renders (hc : zOk p s m args meth c D cL_renders 18 RL (some .int)) {a0 : Nat} {a1 : Nat} {a2 : Nat} {a3 : Nat} {a4 : Nat} {a5 : Nat} {x6 : Int} {x7 : Int} {a8 : Nat} {h : Zm} {Q : Int → Zm → Prop} (H : mL_renders a0 a1 a2 a3 a4 a5 x6 x7 a8 h Q) : zW p l e zrL_renders s m args below meth c D base 18 (MQ below (zQi D base Q) args s 1 3 (zFree base)) 0 0 0 [some (.inr (.inl a0)), some (.inr (.inl a1)), some (.inr (.inl a2)), some (.inr (.inl a3)), some (.inr (.inl a4)), some (.inr (.inl a5)), some (.inl x6), some (.inl x7), some (.inr (.inl a8)), none, none, none, none, none, none, none, none, none] [] h := by
  unfold mL_renders at H
  refine z_iconst (pc := 0) hc dL_renders_0 ?_
  refine z_newarr (pc := 1) (t := 1) (n := 3) hc dL_renders_1 (by decide) rfl (zT_mem 129 (by decide +kernel) rfl) (by decide) (by exact Nat.le_of_ble_eq_true rfl) (by exact Nat.le_of_ble_eq_true rfl) H (fun r1 h2 H => ?_)
  refine z_astore (pc := 3) hc dL_renders_3 (by decide) (ρ' := [some (.inr (.inl a0)), some (.inr (.inl a1)), some (.inr (.inl a2)), some (.inr (.inl a3)), some (.inr (.inl a4)), some (.inr (.inl a5)), some (.inl x6), some (.inl x7), some (.inr (.inl a8)), some (.inr (.inl r1)), none, none, none, none, none, none, none, none]) rfl rfl ?_
  refine z_bipush (pc := 5) hc dL_renders_5 (by decide) ?_
  refine z_istore (pc := 7) hc dL_renders_7 (by decide) (ρ' := [some (.inr (.inl a0)), some (.inr (.inl a1)), some (.inr (.inl a2)), some (.inr (.inl a3)), some (.inr (.inl a4)), some (.inr (.inl a5)), some (.inl x6), some (.inl x7), some (.inr (.inl a8)), some (.inr (.inl r1)), some (.inl (-4)), none, none, none, none, none, none, none]) rfl rfl ?_
  refine z_iconst (pc := 9) hc dL_renders_9 ?_
  refine z_istore (pc := 10) hc dL_renders_10 (by decide) (ρ' := [some (.inr (.inl a0)), some (.inr (.inl a1)), some (.inr (.inl a2)), some (.inr (.inl a3)), some (.inr (.inl a4)), some (.inr (.inl a5)), some (.inl x6), some (.inl x7), some (.inr (.inl a8)), some (.inr (.inl r1)), some (.inl (-4)), some (.inl 0), none, none, none, none, none, none]) rfl rfl ?_
  refine z_cells (cells' := 1) (slots' := 3) (by omega) (by omega) ?_
  exact rL_renders_H12 hc H
end
theorem metL_renders (l : Launch) (D : Zd) (base : Nat) {a0 : Nat} {a1 : Nat} {a2 : Nat} {a3 : Nat} {a4 : Nat} {a5 : Nat} {x6 : Int} {x7 : Int} {a8 : Nat} {h : Zm} {Q : Int → Zm → Prop} (H : mL_renders a0 a1 a2 a3 a4 a5 x6 x7 a8 h Q) : zMet l D base yL_renders cL_renders 18 (some .int) zrL_renders [.inr (.inl a0), .inr (.inl a1), .inr (.inl a2), .inr (.inl a3), .inr (.inl a4), .inr (.inl a5), .inl x6, .inl x7, .inr (.inl a8)] h (zQi D base Q) :=
  z_met (by decide +kernel) (Nat.le_of_ble_eq_true rfl) rfl (fun p e s m args below meth c hc hn => rL_renders hc H)
def zrL_separates : Room := { frames := 0, cells := 0, slots := 0, locals := 0 }
def mL_separates_J243 (X159 : Int → Zm → Prop) (a1 : Nat) (a2 : Nat) (a3 : Nat) (x5 : Int) (x6 : Int) (x7 : Int) (x8 : Int) (h : Zm) (Q : Zm → Prop) : Prop :=
  cLe x8 3
  (X159 (x8 + 1) h)
  (cLd h 1 a1 2 fun v34 => cLe x5 v34
    (X159 (x8 + 1) h)
    (cLd h 1 a2 x8 fun v35 => cLd h 1 a1 2 fun v36 => cDiv (v35 * v36) x5 fun v37 => cSt h a3 x8 v37 fun h38 => X159 (x8 + 1) h38))
def mL_separates_J210 (X159 : Int → Zm → Prop) (a1 : Nat) (a2 : Nat) (a3 : Nat) (x5 : Int) (x6 : Int) (x7 : Int) (x8 : Int) (h : Zm) (Q : Zm → Prop) : Prop :=
  cEq x8 3
  (cLt x7 0
    (cLd h 1 a1 2 fun v30 => cLt v30 x5
      (cSt h a3 x8 0 fun h33 => mL_separates_J243 X159 a1 a2 a3 x5 x6 x7 x8 h33 Q)
      (cLd h 1 a1 2 fun v31 => cSt h a3 x8 (v31 - x5) fun h32 => mL_separates_J243 X159 a1 a2 a3 x5 x6 x7 x8 h32 Q))
    (mL_separates_J243 X159 a1 a2 a3 x5 x6 x7 x8 h Q))
  (mL_separates_J243 X159 a1 a2 a3 x5 x6 x7 x8 h Q)
def mL_separates_B159 (X159 : Int → Zm → Prop) (a1 : Nat) (a2 : Nat) (a3 : Nat) (x5 : Int) (x6 : Int) (x7 : Int) (x8 : Int) (h : Zm) (Q : Zm → Prop) : Prop :=
  cLt x8 7
  (cLd h 1 a2 x8 fun v24 => cSt h a3 x8 v24 fun h25 => cLt x8 3
    (cLe x6 x7
      (mL_separates_J210 X159 a1 a2 a3 x5 x6 x7 x8 h25 Q)
      (cLt x7 0
        (cSt h25 a3 x8 0 fun h29 => mL_separates_J210 X159 a1 a2 a3 x5 x6 x7 x8 h29 Q)
        (cLd h25 1 a2 x8 fun v26 => cDiv (v26 * x7) x6 fun v27 => cSt h25 a3 x8 v27 fun h28 => mL_separates_J210 X159 a1 a2 a3 x5 x6 x7 x8 h28 Q)))
    (mL_separates_J210 X159 a1 a2 a3 x5 x6 x7 x8 h25 Q))
  (Q h)
def mL_separates_H159  (a1 : Nat) (a2 : Nat) (a3 : Nat) (x5 : Int) (x6 : Int) (x7 : Int) (x8 : Int) (h : Zm) (Q : Zm → Prop) : Prop :=
  lfp1 (fun X159 x8 h => mL_separates_B159 X159 a1 a2 a3 x5 x6 x7 x8 h Q) x8 h
def mL_separates_B95 (X95 : Int → Zm → Prop) (a1 : Nat) (a2 : Nat) (a3 : Nat) (x5 : Int) (h : Zm) (Q : Zm → Prop) : Prop :=
  cLt x5 3
  (cLd h 1 a2 x5 fun v21 => cLd h 1 a2 3 fun v22 => cSt h a2 x5 (v21 - v22) fun h23 => X95 (x5 + 1) h23)
  (cLd h 1 a2 4 fun v13 => cLd h 1 a2 5 fun v14 => cLd h 1 a2 6 fun v15 => cLd h 1 a2 0 fun v16 => cLd h 1 a2 1 fun v17 => cLd h 1 a2 2 fun v18 => cLd h 1 a1 2 fun v19 => cLd h 1 a2 3 fun v20 => mL_separates_H159  a1 a2 a3 ((v13 + v14) + v15) ((v16 + v17) + v18) ((v19 - ((v13 + v14) + v15)) - v20) 0 h Q)
def mL_separates_H95  (a1 : Nat) (a2 : Nat) (a3 : Nat) (x5 : Int) (h : Zm) (Q : Zm → Prop) : Prop :=
  lfp1 (fun X95 x5 h => mL_separates_B95 X95 a1 a2 a3 x5 h Q) x5 h
def mL_separates_B8 (X8 : Int → Int → Zm → Prop) (a0 : Nat) (a1 : Nat) (a2 : Nat) (a3 : Nat) (x4 : Int) (x5 : Int) (h : Zm) (Q : Zm → Prop) : Prop :=
  cLt x5 3
  (cLd h 1 a0 x5 fun v7 => cSt h a2 x5 (255 - v7) fun h8 => cLd h8 1 a0 (3 + x5) fun v9 => cSt h8 a2 (4 + x5) v9 fun h10 => cLd h10 1 a2 x5 fun v11 => cLt v11 x4
    (cLd h10 1 a2 x5 fun v12 => X8 v12 (x5 + 1) h10)
    (X8 x4 (x5 + 1) h10))
  (cLd h 1 a1 1 fun v1 => cLe x4 v1
    (cSt h a2 3 0 fun h2 => mL_separates_H95  a1 a2 a3 0 h2 Q)
    (cLd h 1 a1 1 fun v3 => cLd h 1 a1 0 fun v4 => cDiv ((x4 - v3) * v4) 100 fun v5 => cSt h a2 3 v5 fun h6 => mL_separates_H95  a1 a2 a3 0 h6 Q))
def mL_separates_H8  (a0 : Nat) (a1 : Nat) (a2 : Nat) (a3 : Nat) (x4 : Int) (x5 : Int) (h : Zm) (Q : Zm → Prop) : Prop :=
  lfp2 (fun X8 x4 x5 h => mL_separates_B8 X8 a0 a1 a2 a3 x4 x5 h Q) x4 x5 h
def mL_separates (a0 : Nat) (a1 : Nat) (a2 : Nat) (a3 : Nat) (h : Zm) (Q : Zm → Prop) : Prop :=
  mL_separates_H8  a0 a1 a2 a3 255 0 h Q
section
variable {p : Program} {l : Launch} {e : Env} {s : State} {m : MethodId} {args : Array Value} {below : List Frame} {meth : Method} {c : Code} {D : Zd} {base : Nat}
set_option maxRecDepth 100000 in
set_option maxHeartbeats 4000000 in
theorem rL_separates_J243 (hc : zOk p s m args meth c D cL_separates 9 RL none) {X159 : Int → Zm → Prop} {a1 : Nat} {a2 : Nat} {a3 : Nat} {x5 : Int} {x6 : Int} {x7 : Int} {x8 : Int} {h : Zm} {Q : Zm → Prop} (hX159 : ∀ (x8 : Int) (h : Zm), X159 x8 h → zW p l e zrL_separates s m args below meth c D base 9 (MQ below (zQv D base Q) args s 0 0 (zFree base)) 0 0 159 [none, some (.inr (.inl a1)), some (.inr (.inl a2)), some (.inr (.inl a3)), none, some (.inl x5), some (.inl x6), some (.inl x7), some (.inl x8)] [] h) (H : mL_separates_J243 X159 a1 a2 a3 x5 x6 x7 x8 h Q) : zW p l e zrL_separates s m args below meth c D base 9 (MQ below (zQv D base Q) args s 0 0 (zFree base)) 0 0 243 [none, some (.inr (.inl a1)), some (.inr (.inl a2)), some (.inr (.inl a3)), none, some (.inl x5), some (.inl x6), some (.inl x7), some (.inl x8)] [] h := by
  unfold mL_separates_J243 at H
  refine z_iload (pc := 243) hc dL_separates_243 rfl ?_
  refine z_iconst (pc := 245) hc dL_separates_245 ?_
  refine z_icmp_le (tgt := 272) (pc := 246) hc dL_separates_246 rfl H (fun H => ?_) (fun H => ?_)
  · refine z_iinc (pc := 272) hc dL_separates_272 (by decide) rfl (ρ' := [none, some (.inr (.inl a1)), some (.inr (.inl a2)), some (.inr (.inl a3)), none, some (.inl x5), some (.inl x6), some (.inl x7), some (.inl (x8 + 1))]) rfl rfl ?_
    refine z_goto (tgt := 159) (pc := 275) hc dL_separates_275 rfl ?_
    exact hX159 _ _ H
  · refine z_iload (pc := 249) hc dL_separates_249 rfl ?_
    refine z_aload_n (pc := 251) hc dL_separates_251 rfl ?_
    refine z_iconst (pc := 252) hc dL_separates_252 ?_
    refine z_iaload (pc := 253) hc dL_separates_253 H (fun v34 H => ?_)
    refine z_icmp_le (tgt := 272) (pc := 254) hc dL_separates_254 rfl H (fun H => ?_) (fun H => ?_)
    · refine z_iinc (pc := 272) hc dL_separates_272 (by decide) rfl (ρ' := [none, some (.inr (.inl a1)), some (.inr (.inl a2)), some (.inr (.inl a3)), none, some (.inl x5), some (.inl x6), some (.inl x7), some (.inl (x8 + 1))]) rfl rfl ?_
      refine z_goto (tgt := 159) (pc := 275) hc dL_separates_275 rfl ?_
      exact hX159 _ _ H
    · refine z_aload_n (pc := 257) hc dL_separates_257 rfl ?_
      refine z_iload (pc := 258) hc dL_separates_258 rfl ?_
      refine z_aload_n (pc := 260) hc dL_separates_260 rfl ?_
      refine z_iload (pc := 261) hc dL_separates_261 rfl ?_
      refine z_iaload (pc := 263) hc dL_separates_263 H (fun v35 H => ?_)
      refine z_aload_n (pc := 264) hc dL_separates_264 rfl ?_
      refine z_iconst (pc := 265) hc dL_separates_265 ?_
      refine z_iaload (pc := 266) hc dL_separates_266 H (fun v36 H => ?_)
      refine z_imul (pc := 267) hc dL_separates_267 ?_
      refine z_iload (pc := 268) hc dL_separates_268 rfl ?_
      refine z_idiv (pc := 270) hc dL_separates_270 H (fun v37 H => ?_)
      refine z_iastore (pc := 271) hc dL_separates_271 H (fun h38 H => ?_)
      refine z_iinc (pc := 272) hc dL_separates_272 (by decide) rfl (ρ' := [none, some (.inr (.inl a1)), some (.inr (.inl a2)), some (.inr (.inl a3)), none, some (.inl x5), some (.inl x6), some (.inl x7), some (.inl (x8 + 1))]) rfl rfl ?_
      refine z_goto (tgt := 159) (pc := 275) hc dL_separates_275 rfl ?_
      exact hX159 _ _ H
set_option maxRecDepth 100000 in
set_option maxHeartbeats 4000000 in
theorem rL_separates_J210 (hc : zOk p s m args meth c D cL_separates 9 RL none) {X159 : Int → Zm → Prop} {a1 : Nat} {a2 : Nat} {a3 : Nat} {x5 : Int} {x6 : Int} {x7 : Int} {x8 : Int} {h : Zm} {Q : Zm → Prop} (hX159 : ∀ (x8 : Int) (h : Zm), X159 x8 h → zW p l e zrL_separates s m args below meth c D base 9 (MQ below (zQv D base Q) args s 0 0 (zFree base)) 0 0 159 [none, some (.inr (.inl a1)), some (.inr (.inl a2)), some (.inr (.inl a3)), none, some (.inl x5), some (.inl x6), some (.inl x7), some (.inl x8)] [] h) (H : mL_separates_J210 X159 a1 a2 a3 x5 x6 x7 x8 h Q) : zW p l e zrL_separates s m args below meth c D base 9 (MQ below (zQv D base Q) args s 0 0 (zFree base)) 0 0 210 [none, some (.inr (.inl a1)), some (.inr (.inl a2)), some (.inr (.inl a3)), none, some (.inl x5), some (.inl x6), some (.inl x7), some (.inl x8)] [] h := by
  unfold mL_separates_J210 at H
  refine z_iload (pc := 210) hc dL_separates_210 rfl ?_
  refine z_iconst (pc := 212) hc dL_separates_212 ?_
  refine z_icmp_ne (tgt := 243) (pc := 213) hc dL_separates_213 rfl H (fun H => ?_) (fun H => ?_)
  · refine z_iload (pc := 216) hc dL_separates_216 rfl ?_
    refine z_if_ge (tgt := 243) (pc := 218) hc dL_separates_218 rfl H (fun H => ?_) (fun H => ?_)
    · refine z_aload_n (pc := 221) hc dL_separates_221 rfl ?_
      refine z_iload (pc := 222) hc dL_separates_222 rfl ?_
      refine z_aload_n (pc := 224) hc dL_separates_224 rfl ?_
      refine z_iconst (pc := 225) hc dL_separates_225 ?_
      refine z_iaload (pc := 226) hc dL_separates_226 H (fun v30 H => ?_)
      refine z_iload (pc := 227) hc dL_separates_227 rfl ?_
      refine z_icmp_ge (tgt := 236) (pc := 229) hc dL_separates_229 rfl H (fun H => ?_) (fun H => ?_)
      · refine z_iconst (pc := 232) hc dL_separates_232 ?_
        refine z_goto (tgt := 242) (pc := 233) hc dL_separates_233 rfl ?_
        refine z_iastore (pc := 242) hc dL_separates_242 H (fun h33 H => ?_)
        exact rL_separates_J243 hc hX159 H
      · refine z_aload_n (pc := 236) hc dL_separates_236 rfl ?_
        refine z_iconst (pc := 237) hc dL_separates_237 ?_
        refine z_iaload (pc := 238) hc dL_separates_238 H (fun v31 H => ?_)
        refine z_iload (pc := 239) hc dL_separates_239 rfl ?_
        refine z_isub (pc := 241) hc dL_separates_241 ?_
        refine z_iastore (pc := 242) hc dL_separates_242 H (fun h32 H => ?_)
        exact rL_separates_J243 hc hX159 H
    · exact rL_separates_J243 hc hX159 H
  · exact rL_separates_J243 hc hX159 H
set_option maxRecDepth 100000 in
set_option maxHeartbeats 4000000 in
theorem rL_separates_B159 (hc : zOk p s m args meth c D cL_separates 9 RL none) {X159 : Int → Zm → Prop} {a1 : Nat} {a2 : Nat} {a3 : Nat} {x5 : Int} {x6 : Int} {x7 : Int} {x8 : Int} {h : Zm} {Q : Zm → Prop} (hX159 : ∀ (x8 : Int) (h : Zm), X159 x8 h → zW p l e zrL_separates s m args below meth c D base 9 (MQ below (zQv D base Q) args s 0 0 (zFree base)) 0 0 159 [none, some (.inr (.inl a1)), some (.inr (.inl a2)), some (.inr (.inl a3)), none, some (.inl x5), some (.inl x6), some (.inl x7), some (.inl x8)] [] h) (H : mL_separates_B159 X159 a1 a2 a3 x5 x6 x7 x8 h Q) : zW p l e zrL_separates s m args below meth c D base 9 (MQ below (zQv D base Q) args s 0 0 (zFree base)) 0 0 159 [none, some (.inr (.inl a1)), some (.inr (.inl a2)), some (.inr (.inl a3)), none, some (.inl x5), some (.inl x6), some (.inl x7), some (.inl x8)] [] h := by
  unfold mL_separates_B159 at H
  refine z_iload (pc := 159) hc dL_separates_159 rfl ?_
  refine z_bipush (pc := 161) hc dL_separates_161 (by decide) ?_
  refine z_icmp_ge (tgt := 278) (pc := 163) hc dL_separates_163 rfl H (fun H => ?_) (fun H => ?_)
  · refine z_aload_n (pc := 166) hc dL_separates_166 rfl ?_
    refine z_iload (pc := 167) hc dL_separates_167 rfl ?_
    refine z_aload_n (pc := 169) hc dL_separates_169 rfl ?_
    refine z_iload (pc := 170) hc dL_separates_170 rfl ?_
    refine z_iaload (pc := 172) hc dL_separates_172 H (fun v24 H => ?_)
    refine z_iastore (pc := 173) hc dL_separates_173 H (fun h25 H => ?_)
    refine z_iload (pc := 174) hc dL_separates_174 rfl ?_
    refine z_iconst (pc := 176) hc dL_separates_176 ?_
    refine z_icmp_ge (tgt := 210) (pc := 177) hc dL_separates_177 rfl H (fun H => ?_) (fun H => ?_)
    · refine z_iload (pc := 180) hc dL_separates_180 rfl ?_
      refine z_iload (pc := 182) hc dL_separates_182 rfl ?_
      refine z_icmp_le (tgt := 210) (pc := 184) hc dL_separates_184 rfl H (fun H => ?_) (fun H => ?_)
      · exact rL_separates_J210 hc hX159 H
      · refine z_aload_n (pc := 187) hc dL_separates_187 rfl ?_
        refine z_iload (pc := 188) hc dL_separates_188 rfl ?_
        refine z_iload (pc := 190) hc dL_separates_190 rfl ?_
        refine z_if_ge (tgt := 199) (pc := 192) hc dL_separates_192 rfl H (fun H => ?_) (fun H => ?_)
        · refine z_iconst (pc := 195) hc dL_separates_195 ?_
          refine z_goto (tgt := 209) (pc := 196) hc dL_separates_196 rfl ?_
          refine z_iastore (pc := 209) hc dL_separates_209 H (fun h29 H => ?_)
          exact rL_separates_J210 hc hX159 H
        · refine z_aload_n (pc := 199) hc dL_separates_199 rfl ?_
          refine z_iload (pc := 200) hc dL_separates_200 rfl ?_
          refine z_iaload (pc := 202) hc dL_separates_202 H (fun v26 H => ?_)
          refine z_iload (pc := 203) hc dL_separates_203 rfl ?_
          refine z_imul (pc := 205) hc dL_separates_205 ?_
          refine z_iload (pc := 206) hc dL_separates_206 rfl ?_
          refine z_idiv (pc := 208) hc dL_separates_208 H (fun v27 H => ?_)
          refine z_iastore (pc := 209) hc dL_separates_209 H (fun h28 H => ?_)
          exact rL_separates_J210 hc hX159 H
    · exact rL_separates_J210 hc hX159 H
  · exact z_return (pc := 278) hc dL_separates_278 H
theorem rL_separates_H159 (hc : zOk p s m args meth c D cL_separates 9 RL none)  {a1 : Nat} {a2 : Nat} {a3 : Nat} {x5 : Int} {x6 : Int} {x7 : Int} {x8 : Int} {h : Zm} {Q : Zm → Prop}  (H : mL_separates_H159  a1 a2 a3 x5 x6 x7 x8 h Q) : zW p l e zrL_separates s m args below meth c D base 9 (MQ below (zQv D base Q) args s 0 0 (zFree base)) 0 0 159 [none, some (.inr (.inl a1)), some (.inr (.inl a2)), some (.inr (.inl a3)), none, some (.inl x5), some (.inl x6), some (.inl x7), some (.inl x8)] [] h :=
  H (fun x8 h => zW p l e zrL_separates s m args below meth c D base 9 (MQ below (zQv D base Q) args s 0 0 (zFree base)) 0 0 159 [none, some (.inr (.inl a1)), some (.inr (.inl a2)), some (.inr (.inl a3)), none, some (.inl x5), some (.inl x6), some (.inl x7), some (.inl x8)] [] h) (fun x8 h H => rL_separates_B159 hc (fun _ _ q => q) H)
set_option maxRecDepth 100000 in
set_option maxHeartbeats 4000000 in
theorem rL_separates_B95 (hc : zOk p s m args meth c D cL_separates 9 RL none) {X95 : Int → Zm → Prop} {a1 : Nat} {a2 : Nat} {a3 : Nat} {x5 : Int} {h : Zm} {Q : Zm → Prop} (hX95 : ∀ (x5 : Int) (h : Zm), X95 x5 h → zW p l e zrL_separates s m args below meth c D base 9 (MQ below (zQv D base Q) args s 0 0 (zFree base)) 0 0 95 [none, some (.inr (.inl a1)), some (.inr (.inl a2)), some (.inr (.inl a3)), none, some (.inl x5), none, none, none] [] h) (H : mL_separates_B95 X95 a1 a2 a3 x5 h Q) : zW p l e zrL_separates s m args below meth c D base 9 (MQ below (zQv D base Q) args s 0 0 (zFree base)) 0 0 95 [none, some (.inr (.inl a1)), some (.inr (.inl a2)), some (.inr (.inl a3)), none, some (.inl x5), none, none, none] [] h := by
  unfold mL_separates_B95 at H
  refine z_iload (pc := 95) hc dL_separates_95 rfl ?_
  refine z_iconst (pc := 97) hc dL_separates_97 ?_
  refine z_icmp_ge (tgt := 117) (pc := 98) hc dL_separates_98 rfl H (fun H => ?_) (fun H => ?_)
  · refine z_aload_n (pc := 101) hc dL_separates_101 rfl ?_
    refine z_iload (pc := 102) hc dL_separates_102 rfl ?_
    refine z_dup2 (pc := 104) hc dL_separates_104 rfl rfl ?_
    refine z_iaload (pc := 105) hc dL_separates_105 H (fun v21 H => ?_)
    refine z_aload_n (pc := 106) hc dL_separates_106 rfl ?_
    refine z_iconst (pc := 107) hc dL_separates_107 ?_
    refine z_iaload (pc := 108) hc dL_separates_108 H (fun v22 H => ?_)
    refine z_isub (pc := 109) hc dL_separates_109 ?_
    refine z_iastore (pc := 110) hc dL_separates_110 H (fun h23 H => ?_)
    refine z_iinc (pc := 111) hc dL_separates_111 (by decide) rfl (ρ' := [none, some (.inr (.inl a1)), some (.inr (.inl a2)), some (.inr (.inl a3)), none, some (.inl (x5 + 1)), none, none, none]) rfl rfl ?_
    refine z_goto (tgt := 95) (pc := 114) hc dL_separates_114 rfl ?_
    exact hX95 _ _ H
  · refine z_aload_n (pc := 117) hc dL_separates_117 rfl ?_
    refine z_iconst (pc := 118) hc dL_separates_118 ?_
    refine z_iaload (pc := 119) hc dL_separates_119 H (fun v13 H => ?_)
    refine z_aload_n (pc := 120) hc dL_separates_120 rfl ?_
    refine z_iconst (pc := 121) hc dL_separates_121 ?_
    refine z_iaload (pc := 122) hc dL_separates_122 H (fun v14 H => ?_)
    refine z_iadd (pc := 123) hc dL_separates_123 ?_
    refine z_aload_n (pc := 124) hc dL_separates_124 rfl ?_
    refine z_bipush (pc := 125) hc dL_separates_125 (by decide) ?_
    refine z_iaload (pc := 127) hc dL_separates_127 H (fun v15 H => ?_)
    refine z_iadd (pc := 128) hc dL_separates_128 ?_
    refine z_istore (pc := 129) hc dL_separates_129 (by decide) (ρ' := [none, some (.inr (.inl a1)), some (.inr (.inl a2)), some (.inr (.inl a3)), none, some (.inl ((v13 + v14) + v15)), none, none, none]) rfl rfl ?_
    refine z_aload_n (pc := 131) hc dL_separates_131 rfl ?_
    refine z_iconst (pc := 132) hc dL_separates_132 ?_
    refine z_iaload (pc := 133) hc dL_separates_133 H (fun v16 H => ?_)
    refine z_aload_n (pc := 134) hc dL_separates_134 rfl ?_
    refine z_iconst (pc := 135) hc dL_separates_135 ?_
    refine z_iaload (pc := 136) hc dL_separates_136 H (fun v17 H => ?_)
    refine z_iadd (pc := 137) hc dL_separates_137 ?_
    refine z_aload_n (pc := 138) hc dL_separates_138 rfl ?_
    refine z_iconst (pc := 139) hc dL_separates_139 ?_
    refine z_iaload (pc := 140) hc dL_separates_140 H (fun v18 H => ?_)
    refine z_iadd (pc := 141) hc dL_separates_141 ?_
    refine z_istore (pc := 142) hc dL_separates_142 (by decide) (ρ' := [none, some (.inr (.inl a1)), some (.inr (.inl a2)), some (.inr (.inl a3)), none, some (.inl ((v13 + v14) + v15)), some (.inl ((v16 + v17) + v18)), none, none]) rfl rfl ?_
    refine z_aload_n (pc := 144) hc dL_separates_144 rfl ?_
    refine z_iconst (pc := 145) hc dL_separates_145 ?_
    refine z_iaload (pc := 146) hc dL_separates_146 H (fun v19 H => ?_)
    refine z_iload (pc := 147) hc dL_separates_147 rfl ?_
    refine z_isub (pc := 149) hc dL_separates_149 ?_
    refine z_aload_n (pc := 150) hc dL_separates_150 rfl ?_
    refine z_iconst (pc := 151) hc dL_separates_151 ?_
    refine z_iaload (pc := 152) hc dL_separates_152 H (fun v20 H => ?_)
    refine z_isub (pc := 153) hc dL_separates_153 ?_
    refine z_istore (pc := 154) hc dL_separates_154 (by decide) (ρ' := [none, some (.inr (.inl a1)), some (.inr (.inl a2)), some (.inr (.inl a3)), none, some (.inl ((v13 + v14) + v15)), some (.inl ((v16 + v17) + v18)), some (.inl ((v19 - ((v13 + v14) + v15)) - v20)), none]) rfl rfl ?_
    refine z_iconst (pc := 156) hc dL_separates_156 ?_
    refine z_istore (pc := 157) hc dL_separates_157 (by decide) (ρ' := [none, some (.inr (.inl a1)), some (.inr (.inl a2)), some (.inr (.inl a3)), none, some (.inl ((v13 + v14) + v15)), some (.inl ((v16 + v17) + v18)), some (.inl ((v19 - ((v13 + v14) + v15)) - v20)), some (.inl 0)]) rfl rfl ?_
    exact rL_separates_H159 hc H
theorem rL_separates_H95 (hc : zOk p s m args meth c D cL_separates 9 RL none)  {a1 : Nat} {a2 : Nat} {a3 : Nat} {x5 : Int} {h : Zm} {Q : Zm → Prop}  (H : mL_separates_H95  a1 a2 a3 x5 h Q) : zW p l e zrL_separates s m args below meth c D base 9 (MQ below (zQv D base Q) args s 0 0 (zFree base)) 0 0 95 [none, some (.inr (.inl a1)), some (.inr (.inl a2)), some (.inr (.inl a3)), none, some (.inl x5), none, none, none] [] h :=
  H (fun x5 h => zW p l e zrL_separates s m args below meth c D base 9 (MQ below (zQv D base Q) args s 0 0 (zFree base)) 0 0 95 [none, some (.inr (.inl a1)), some (.inr (.inl a2)), some (.inr (.inl a3)), none, some (.inl x5), none, none, none] [] h) (fun x5 h H => rL_separates_B95 hc (fun _ _ q => q) H)
set_option maxRecDepth 100000 in
set_option maxHeartbeats 4000000 in
theorem rL_separates_B8 (hc : zOk p s m args meth c D cL_separates 9 RL none) {X8 : Int → Int → Zm → Prop} {a0 : Nat} {a1 : Nat} {a2 : Nat} {a3 : Nat} {x4 : Int} {x5 : Int} {h : Zm} {Q : Zm → Prop} (hX8 : ∀ (x4 : Int) (x5 : Int) (h : Zm), X8 x4 x5 h → zW p l e zrL_separates s m args below meth c D base 9 (MQ below (zQv D base Q) args s 0 0 (zFree base)) 0 0 8 [some (.inr (.inl a0)), some (.inr (.inl a1)), some (.inr (.inl a2)), some (.inr (.inl a3)), some (.inl x4), some (.inl x5), none, none, none] [] h) (H : mL_separates_B8 X8 a0 a1 a2 a3 x4 x5 h Q) : zW p l e zrL_separates s m args below meth c D base 9 (MQ below (zQv D base Q) args s 0 0 (zFree base)) 0 0 8 [some (.inr (.inl a0)), some (.inr (.inl a1)), some (.inr (.inl a2)), some (.inr (.inl a3)), some (.inl x4), some (.inl x5), none, none, none] [] h := by
  unfold mL_separates_B8 at H
  refine z_iload (pc := 8) hc dL_separates_8 rfl ?_
  refine z_iconst (pc := 10) hc dL_separates_10 ?_
  refine z_icmp_ge (tgt := 64) (pc := 11) hc dL_separates_11 rfl H (fun H => ?_) (fun H => ?_)
  · refine z_aload_n (pc := 14) hc dL_separates_14 rfl ?_
    refine z_iload (pc := 15) hc dL_separates_15 rfl ?_
    refine z_sipush (pc := 17) hc dL_separates_17 (by decide) ?_
    refine z_aload_n (pc := 20) hc dL_separates_20 rfl ?_
    refine z_iload (pc := 21) hc dL_separates_21 rfl ?_
    refine z_iaload (pc := 23) hc dL_separates_23 H (fun v7 H => ?_)
    refine z_isub (pc := 24) hc dL_separates_24 ?_
    refine z_iastore (pc := 25) hc dL_separates_25 H (fun h8 H => ?_)
    refine z_aload_n (pc := 26) hc dL_separates_26 rfl ?_
    refine z_iconst (pc := 27) hc dL_separates_27 ?_
    refine z_iload (pc := 28) hc dL_separates_28 rfl ?_
    refine z_iadd (pc := 30) hc dL_separates_30 ?_
    refine z_aload_n (pc := 31) hc dL_separates_31 rfl ?_
    refine z_iconst (pc := 32) hc dL_separates_32 ?_
    refine z_iload (pc := 33) hc dL_separates_33 rfl ?_
    refine z_iadd (pc := 35) hc dL_separates_35 ?_
    refine z_iaload (pc := 36) hc dL_separates_36 H (fun v9 H => ?_)
    refine z_iastore (pc := 37) hc dL_separates_37 H (fun h10 H => ?_)
    refine z_aload_n (pc := 38) hc dL_separates_38 rfl ?_
    refine z_iload (pc := 39) hc dL_separates_39 rfl ?_
    refine z_iaload (pc := 41) hc dL_separates_41 H (fun v11 H => ?_)
    refine z_iload (pc := 42) hc dL_separates_42 rfl ?_
    refine z_icmp_ge (tgt := 54) (pc := 44) hc dL_separates_44 rfl H (fun H => ?_) (fun H => ?_)
    · refine z_aload_n (pc := 47) hc dL_separates_47 rfl ?_
      refine z_iload (pc := 48) hc dL_separates_48 rfl ?_
      refine z_iaload (pc := 50) hc dL_separates_50 H (fun v12 H => ?_)
      refine z_goto (tgt := 56) (pc := 51) hc dL_separates_51 rfl ?_
      refine z_istore (pc := 56) hc dL_separates_56 (by decide) (ρ' := [some (.inr (.inl a0)), some (.inr (.inl a1)), some (.inr (.inl a2)), some (.inr (.inl a3)), some (.inl v12), some (.inl x5), none, none, none]) rfl rfl ?_
      refine z_iinc (pc := 58) hc dL_separates_58 (by decide) rfl (ρ' := [some (.inr (.inl a0)), some (.inr (.inl a1)), some (.inr (.inl a2)), some (.inr (.inl a3)), some (.inl v12), some (.inl (x5 + 1)), none, none, none]) rfl rfl ?_
      refine z_goto (tgt := 8) (pc := 61) hc dL_separates_61 rfl ?_
      exact hX8 _ _ _ H
    · refine z_iload (pc := 54) hc dL_separates_54 rfl ?_
      refine z_istore (pc := 56) hc dL_separates_56 (by decide) (ρ' := [some (.inr (.inl a0)), some (.inr (.inl a1)), some (.inr (.inl a2)), some (.inr (.inl a3)), some (.inl x4), some (.inl x5), none, none, none]) rfl rfl ?_
      refine z_iinc (pc := 58) hc dL_separates_58 (by decide) rfl (ρ' := [some (.inr (.inl a0)), some (.inr (.inl a1)), some (.inr (.inl a2)), some (.inr (.inl a3)), some (.inl x4), some (.inl (x5 + 1)), none, none, none]) rfl rfl ?_
      refine z_goto (tgt := 8) (pc := 61) hc dL_separates_61 rfl ?_
      exact hX8 _ _ _ H
  · refine z_aload_n (pc := 64) hc dL_separates_64 rfl ?_
    refine z_iconst (pc := 65) hc dL_separates_65 ?_
    refine z_iload (pc := 66) hc dL_separates_66 rfl ?_
    refine z_aload_n (pc := 68) hc dL_separates_68 rfl ?_
    refine z_iconst (pc := 69) hc dL_separates_69 ?_
    refine z_iaload (pc := 70) hc dL_separates_70 H (fun v1 H => ?_)
    refine z_icmp_le (tgt := 90) (pc := 71) hc dL_separates_71 rfl H (fun H => ?_) (fun H => ?_)
    · refine z_iconst (pc := 90) hc dL_separates_90 ?_
      refine z_iastore (pc := 91) hc dL_separates_91 H (fun h2 H => ?_)
      refine z_iconst (pc := 92) hc dL_separates_92 ?_
      refine z_istore (pc := 93) hc dL_separates_93 (by decide) (ρ' := [some (.inr (.inl a0)), some (.inr (.inl a1)), some (.inr (.inl a2)), some (.inr (.inl a3)), some (.inl x4), some (.inl 0), none, none, none]) rfl rfl ?_
      refine z_mask [false, true, true, true, false, true, false, false, false] (ρ' := [none, some (.inr (.inl a1)), some (.inr (.inl a2)), some (.inr (.inl a3)), none, some (.inl 0), none, none, none]) rfl ?_
      exact rL_separates_H95 hc H
    · refine z_iload (pc := 74) hc dL_separates_74 rfl ?_
      refine z_aload_n (pc := 76) hc dL_separates_76 rfl ?_
      refine z_iconst (pc := 77) hc dL_separates_77 ?_
      refine z_iaload (pc := 78) hc dL_separates_78 H (fun v3 H => ?_)
      refine z_isub (pc := 79) hc dL_separates_79 ?_
      refine z_aload_n (pc := 80) hc dL_separates_80 rfl ?_
      refine z_iconst (pc := 81) hc dL_separates_81 ?_
      refine z_iaload (pc := 82) hc dL_separates_82 H (fun v4 H => ?_)
      refine z_imul (pc := 83) hc dL_separates_83 ?_
      refine z_bipush (pc := 84) hc dL_separates_84 (by decide) ?_
      refine z_idiv (pc := 86) hc dL_separates_86 H (fun v5 H => ?_)
      refine z_goto (tgt := 91) (pc := 87) hc dL_separates_87 rfl ?_
      refine z_iastore (pc := 91) hc dL_separates_91 H (fun h6 H => ?_)
      refine z_iconst (pc := 92) hc dL_separates_92 ?_
      refine z_istore (pc := 93) hc dL_separates_93 (by decide) (ρ' := [some (.inr (.inl a0)), some (.inr (.inl a1)), some (.inr (.inl a2)), some (.inr (.inl a3)), some (.inl x4), some (.inl 0), none, none, none]) rfl rfl ?_
      refine z_mask [false, true, true, true, false, true, false, false, false] (ρ' := [none, some (.inr (.inl a1)), some (.inr (.inl a2)), some (.inr (.inl a3)), none, some (.inl 0), none, none, none]) rfl ?_
      exact rL_separates_H95 hc H
theorem rL_separates_H8 (hc : zOk p s m args meth c D cL_separates 9 RL none)  {a0 : Nat} {a1 : Nat} {a2 : Nat} {a3 : Nat} {x4 : Int} {x5 : Int} {h : Zm} {Q : Zm → Prop}  (H : mL_separates_H8  a0 a1 a2 a3 x4 x5 h Q) : zW p l e zrL_separates s m args below meth c D base 9 (MQ below (zQv D base Q) args s 0 0 (zFree base)) 0 0 8 [some (.inr (.inl a0)), some (.inr (.inl a1)), some (.inr (.inl a2)), some (.inr (.inl a3)), some (.inl x4), some (.inl x5), none, none, none] [] h :=
  H (fun x4 x5 h => zW p l e zrL_separates s m args below meth c D base 9 (MQ below (zQv D base Q) args s 0 0 (zFree base)) 0 0 8 [some (.inr (.inl a0)), some (.inr (.inl a1)), some (.inr (.inl a2)), some (.inr (.inl a3)), some (.inl x4), some (.inl x5), none, none, none] [] h) (fun x4 x5 h H => rL_separates_B8 hc (fun _ _ _ q => q) H)
set_option maxRecDepth 100000 in
set_option maxHeartbeats 4000000 in
theorem rL_separates (hc : zOk p s m args meth c D cL_separates 9 RL none) {a0 : Nat} {a1 : Nat} {a2 : Nat} {a3 : Nat} {h : Zm} {Q : Zm → Prop} (H : mL_separates a0 a1 a2 a3 h Q) : zW p l e zrL_separates s m args below meth c D base 9 (MQ below (zQv D base Q) args s 0 0 (zFree base)) 0 0 0 [some (.inr (.inl a0)), some (.inr (.inl a1)), some (.inr (.inl a2)), some (.inr (.inl a3)), none, none, none, none, none] [] h := by
  unfold mL_separates at H
  refine z_sipush (pc := 0) hc dL_separates_0 (by decide) ?_
  refine z_istore (pc := 3) hc dL_separates_3 (by decide) (ρ' := [some (.inr (.inl a0)), some (.inr (.inl a1)), some (.inr (.inl a2)), some (.inr (.inl a3)), some (.inl 255), none, none, none, none]) rfl rfl ?_
  refine z_iconst (pc := 5) hc dL_separates_5 ?_
  refine z_istore (pc := 6) hc dL_separates_6 (by decide) (ρ' := [some (.inr (.inl a0)), some (.inr (.inl a1)), some (.inr (.inl a2)), some (.inr (.inl a3)), some (.inl 255), some (.inl 0), none, none, none]) rfl rfl ?_
  exact rL_separates_H8 hc H
end
theorem metL_separates (l : Launch) (D : Zd) (base : Nat) {a0 : Nat} {a1 : Nat} {a2 : Nat} {a3 : Nat} {h : Zm} {Q : Zm → Prop} (H : mL_separates a0 a1 a2 a3 h Q) : zMet l D base yL_separates cL_separates 9 none zrL_separates [.inr (.inl a0), .inr (.inl a1), .inr (.inl a2), .inr (.inl a3)] h (zQv D base Q) :=
  z_met (by decide +kernel) (Nat.le_of_ble_eq_true rfl) rfl (fun p e s m args below meth c hc hn => rL_separates hc H)
