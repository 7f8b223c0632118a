/-! printed by gen.py: L_isAdded L_keyOf L_next L_above L_moves -/
def zrL_isAdded : Room := { frames := 6, cells := 0, slots := 0, locals := 139 }
def mL_isAdded_J486  (x18 : Int) (x19 : Int) (x20 : Int) (h : Zm) (Q : Int → Zm → Prop) : Prop :=
  cEq x19 0
  (Q 0 h)
  (cEq x20 x18
    (Q 1 h)
    (Q 0 h))
def mL_isAdded_J435  (a5 : Nat) (x8 : Int) (x13 : Int) (x14 : Int) (x15 : Int) (x18 : Int) (x19 : Int) (x20 : Int) (q0 : Nat) (s1 : Int) (s2 : Int) (h : Zm) (Q : Int → Zm → Prop) : Prop :=
  cSt h q0 s1 s2 fun h57 => cEq x8 1
  (cSt h57 a5 x18 (((65536 * x13) + (256 * x14)) + x15) fun h61 => mL_isAdded_J486  x18 x19 x20 h61 Q)
  (cEq x8 2
    (cRem x13 3 fun v59 => cSt h57 a5 x18 ((256 * v59) + x14) fun h60 => mL_isAdded_J486  x18 x19 x20 h60 Q)
    (cSt h57 a5 x18 0 fun h58 => mL_isAdded_J486  x18 x19 x20 h58 Q))
def mL_isAdded_J340  (a1 : Nat) (a2 : Nat) (a3 : Nat) (a4 : Nat) (a5 : Nat) (x7 : Int) (x8 : Int) (x9 : Int) (x10 : Int) (x11 : Int) (x12 : Int) (x13 : Int) (x14 : Int) (x15 : Int) (x16 : Int) (x18 : Int) (x19 : Int) (s0 : Int) (h : Zm) (Q : Int → Zm → Prop) : Prop :=
  cLe x18 0
  (mL_isAdded_J486  x18 x19 s0 h Q)
  (cSt h a1 x18 x8 fun h51 => cSt h51 a2 x18 x7 fun h52 => cLd h52 1 a3 0 fun v53 => cSt h52 a3 0 (v53 + 1) fun h54 => cLd h54 1 a3 0 fun v55 => cSt h54 a3 x18 v55 fun h56 => cEq x8 0
    (mL_isAdded_J435  a5 x8 x13 x14 x15 x18 x19 s0 a4 x18 ((x16 + (128 * (x9 + 12))) + (4096 * (x10 + 12))) h56 Q)
    (mL_isAdded_J435  a5 x8 x13 x14 x15 x18 x19 s0 a4 x18 ((((x9 + 12) + (32 * (x10 + 12))) + (1024 * x11)) + (16384 * x12)) h56 Q))
def mL_isAdded_J291  (a0 : Nat) (a1 : Nat) (a2 : Nat) (a3 : Nat) (a4 : Nat) (a5 : Nat) (x7 : Int) (x8 : Int) (x9 : Int) (x10 : Int) (x11 : Int) (x12 : Int) (x13 : Int) (x14 : Int) (x15 : Int) (x16 : Int) (x18 : Int) (s0 : Int) (h : Zm) (Q : Int → Zm → Prop) : Prop :=
  cEq x8 0
  (cRc h 16 a0 <| mX6_addGroup a0 x7 x16 x9 x10 h fun v50 h49 => mL_isAdded_J340  a1 a2 a3 a4 a5 x7 x8 x9 x10 x11 x12 x13 x14 x15 x16 x18 s0 v50 h49 Q)
  (cEq x8 1
    (cRc h 16 a0 <| mX6_addRect a0 x7 h fun v48 h47 => mL_isAdded_J340  a1 a2 a3 a4 a5 x7 x8 x9 x10 x11 x12 x13 x14 x15 x16 x18 s0 v48 h47 Q)
    (cRem x13 3 fun v44 => cRc h 16 a0 <| mX6_addSpot a0 x7 v44 x14 h fun v46 h45 => mL_isAdded_J340  a1 a2 a3 a4 a5 x7 x8 x9 x10 x11 x12 x13 x14 x15 x16 x18 s0 v46 h45 Q))
def mL_isAdded_J243  (a0 : Nat) (a1 : Nat) (a2 : Nat) (a3 : Nat) (a4 : Nat) (a5 : Nat) (x7 : Int) (x8 : Int) (x9 : Int) (x10 : Int) (x11 : Int) (x12 : Int) (x13 : Int) (x14 : Int) (x15 : Int) (x16 : Int) (s0 : Int) (h : Zm) (Q : Int → Zm → Prop) : Prop :=
  cRc h 16 a0 <| mX6_setBox a0 x9 x10 x11 x12 h fun v41 h40 => cEq v41 (x11 * x12)
  (cRc h40 16 a0 <| mX6_setInk a0 x13 x14 x15 h40 fun v43 h42 => cEq v43 ((x13 + x14) + x15)
    (mL_isAdded_J291  a0 a1 a2 a3 a4 a5 x7 x8 x9 x10 x11 x12 x13 x14 x15 x16 s0 1 h42 Q)
    (mL_isAdded_J291  a0 a1 a2 a3 a4 a5 x7 x8 x9 x10 x11 x12 x13 x14 x15 x16 s0 0 h42 Q))
  (mL_isAdded_J291  a0 a1 a2 a3 a4 a5 x7 x8 x9 x10 x11 x12 x13 x14 x15 x16 s0 0 h40 Q)
def mL_isAdded_B169 (X169 : Int → Int → Zm → Prop) (a0 : Nat) (a1 : Nat) (a2 : Nat) (a3 : Nat) (a4 : Nat) (a5 : Nat) (x7 : Int) (x8 : Int) (x9 : Int) (x10 : Int) (x11 : Int) (x12 : Int) (x13 : Int) (x14 : Int) (x15 : Int) (x16 : Int) (x17 : Int) (x18 : Int) (h : Zm) (Q : Int → Zm → Prop) : Prop :=
  cLe x18 0
  (cLt x7 0
    (mL_isAdded_J243  a0 a1 a2 a3 a4 a5 x7 x8 x9 x10 x11 x12 x13 x14 x15 x16 (-1) h Q)
    (cLe x7 23
      (cLd h 1 a1 x7 fun v35 => cLt v35 0
        (mL_isAdded_J243  a0 a1 a2 a3 a4 a5 x7 x8 x9 x10 x11 x12 x13 x14 x15 x16 (-1) h Q)
        (cLd h 1 a1 x7 fun v36 => cEq v36 0
          (mL_depthOf a2 x7 h fun v38 h37 => cEq v38 4
            (mL_isAdded_J243  a0 a1 a2 a3 a4 a5 x7 x8 x9 x10 x11 x12 x13 x14 x15 x16 (-2) h37 Q)
            (mL_isAdded_J243  a0 a1 a2 a3 a4 a5 x7 x8 x9 x10 x11 x12 x13 x14 x15 x16 x17 h37 Q))
          (mL_isAdded_J243  a0 a1 a2 a3 a4 a5 x7 x8 x9 x10 x11 x12 x13 x14 x15 x16 (-2) h Q)))
      (mL_isAdded_J243  a0 a1 a2 a3 a4 a5 x7 x8 x9 x10 x11 x12 x13 x14 x15 x16 (-1) h Q)))
  (cLd h 1 a1 x18 fun v39 => cLt v39 0
    (X169 x18 (x18 + (-1)) h)
    (X169 x17 (x18 + (-1)) h))
def mL_isAdded_H169  (a0 : Nat) (a1 : Nat) (a2 : Nat) (a3 : Nat) (a4 : Nat) (a5 : Nat) (x7 : Int) (x8 : Int) (x9 : Int) (x10 : Int) (x11 : Int) (x12 : Int) (x13 : Int) (x14 : Int) (x15 : Int) (x16 : Int) (x17 : Int) (x18 : Int) (h : Zm) (Q : Int → Zm → Prop) : Prop :=
  lfp2 (fun X169 x17 x18 h => mL_isAdded_B169 X169 a0 a1 a2 a3 a4 a5 x7 x8 x9 x10 x11 x12 x13 x14 x15 x16 x17 x18 h Q) x17 x18 h
def mL_isAdded_J31  (a0 : Nat) (a1 : Nat) (a2 : Nat) (a3 : Nat) (a4 : Nat) (a5 : Nat) (x6 : Int) (s0 : Int) (h : Zm) (Q : Int → Zm → Prop) : Prop :=
  cShr x6 2048 fun v7 => mL_low v7 3 h fun v9 h8 => cShr x6 8192 fun v10 => mL_low v10 9 h8 fun v12 h11 => cShr x6 65536 fun v13 => mL_low v13 9 h11 fun v15 h14 => cShr x6 524288 fun v16 => mL_low v16 12 h14 fun v18 h17 => cShr x6 32 fun v19 => mL_low v19 12 h17 fun v21 h20 => cShr x6 4 fun v22 => mL_low v22 256 h20 fun v24 h23 => cShr x6 1024 fun v25 => mL_low v25 256 h23 fun v27 h26 => cShr x6 262144 fun v28 => mL_low v28 256 h26 fun v30 h29 => cShr x6 128 fun v31 => mL_low v31 3 h29 fun v33 h32 => cEq v33 0
  (mL_isAdded_H169  a0 a1 a2 a3 a4 a5 s0 v9 (v12 - 4) (v15 - 4) (1 + v18) (1 + v21) v24 v27 v30 100 (-3) 23 h32 Q)
  (cRem v24 101 fun v34 => mL_isAdded_H169  a0 a1 a2 a3 a4 a5 s0 v9 (v12 - 4) (v15 - 4) (1 + v18) (1 + v21) v24 v27 v30 v34 (-3) 23 h32 Q)
def mL_isAdded (a0 : Nat) (a1 : Nat) (a2 : Nat) (a3 : Nat) (a4 : Nat) (a5 : Nat) (x6 : Int) (h : Zm) (Q : Int → Zm → Prop) : Prop :=
  cShr x6 8 fun v1 => mL_low v1 26 h fun v3 h2 => cShr x6 512 fun v4 => mL_low v4 3 h2 fun v6 h5 => cEq v6 0
  (mL_isAdded_J31  a0 a1 a2 a3 a4 a5 x6 0 h5 Q)
  (mL_isAdded_J31  a0 a1 a2 a3 a4 a5 x6 (v3 - 1) h5 Q)
section
variable {p : Program} {l : Launch} {e : Env} {s : State} {m : MethodId} {args : Array Value} {below : List Frame} {meth : Method} {c : Code} {D : Zd} {base : Nat}
set_option maxRecDepth 100000 in
set_option maxHeartbeats 4000000 in
theorem rL_isAdded_J486 (hc : zOk p s m args meth c D cL_isAdded 21 RL (some .boolean))  {x18 : Int} {x19 : Int} {x20 : Int} {h : Zm} {Q : Int → Zm → Prop}  (H : mL_isAdded_J486  x18 x19 x20 h Q) : zW p l e zrL_isAdded s m args below meth c D base 21 (MQ below (zQi D base Q) args s 0 0 (zFree base)) 0 0 486 [none, none, none, none, none, none, none, none, none, none, none, none, none, none, none, none, none, none, some (.inl x18), some (.inl x19), some (.inl x20)] [] h := by
  unfold mL_isAdded_J486 at H
  refine z_iload (pc := 486) hc dL_isAdded_486 rfl ?_
  refine z_if_eq (tgt := 502) (pc := 488) hc dL_isAdded_488 rfl H (fun H => ?_) (fun H => ?_)
  · refine z_iconst (pc := 502) hc dL_isAdded_502 ?_
    exact z_zreturn (pc := 503) hc dL_isAdded_503 ⟨Or.inl rfl, H⟩
  · refine z_iload (pc := 491) hc dL_isAdded_491 rfl ?_
    refine z_iload (pc := 493) hc dL_isAdded_493 rfl ?_
    refine z_icmp_ne (tgt := 502) (pc := 495) hc dL_isAdded_495 rfl H (fun H => ?_) (fun H => ?_)
    · refine z_iconst (pc := 498) hc dL_isAdded_498 ?_
      refine z_goto (tgt := 503) (pc := 499) hc dL_isAdded_499 rfl ?_
      exact z_zreturn (pc := 503) hc dL_isAdded_503 ⟨Or.inr rfl, H⟩
    · refine z_iconst (pc := 502) hc dL_isAdded_502 ?_
      exact z_zreturn (pc := 503) hc dL_isAdded_503 ⟨Or.inl rfl, H⟩
set_option maxRecDepth 100000 in
set_option maxHeartbeats 4000000 in
theorem rL_isAdded_J435 (hc : zOk p s m args meth c D cL_isAdded 21 RL (some .boolean))  {a5 : Nat} {x8 : Int} {x13 : Int} {x14 : Int} {x15 : Int} {x18 : Int} {x19 : Int} {x20 : Int} {q0 : Nat} {s1 : Int} {s2 : Int} {h : Zm} {Q : Int → Zm → Prop}  (H : mL_isAdded_J435  a5 x8 x13 x14 x15 x18 x19 x20 q0 s1 s2 h Q) : zW p l e zrL_isAdded s m args below meth c D base 21 (MQ below (zQi D base Q) args s 0 0 (zFree base)) 0 0 435 [none, none, none, none, none, some (.inr (.inl a5)), none, none, some (.inl x8), none, none, none, none, some (.inl x13), some (.inl x14), some (.inl x15), none, none, some (.inl x18), some (.inl x19), some (.inl x20)] [.inl s2, .inl s1, .inr (.inl q0)] h := by
  unfold mL_isAdded_J435 at H
  refine z_iastore (pc := 435) hc dL_isAdded_435 H (fun h57 H => ?_)
  refine z_aload (pc := 436) hc dL_isAdded_436 rfl ?_
  refine z_iload (pc := 438) hc dL_isAdded_438 rfl ?_
  refine z_iload (pc := 440) hc dL_isAdded_440 rfl ?_
  refine z_iconst (pc := 442) hc dL_isAdded_442 ?_
  refine z_icmp_ne (tgt := 464) (pc := 443) hc dL_isAdded_443 rfl H (fun H => ?_) (fun H => ?_)
  · refine z_ldc (n := 65536) (pc := 446) hc dL_isAdded_446 (zT_mem 518 (by decide +kernel) rfl) ?_
    refine z_iload (pc := 448) hc dL_isAdded_448 rfl ?_
    refine z_imul (pc := 450) hc dL_isAdded_450 ?_
    refine z_sipush (pc := 451) hc dL_isAdded_451 (by decide) ?_
    refine z_iload (pc := 454) hc dL_isAdded_454 rfl ?_
    refine z_imul (pc := 456) hc dL_isAdded_456 ?_
    refine z_iadd (pc := 457) hc dL_isAdded_457 ?_
    refine z_iload (pc := 458) hc dL_isAdded_458 rfl ?_
    refine z_iadd (pc := 460) hc dL_isAdded_460 ?_
    refine z_goto (tgt := 485) (pc := 461) hc dL_isAdded_461 rfl ?_
    refine z_iastore (pc := 485) hc dL_isAdded_485 H (fun h61 H => ?_)
    refine z_mask [false, false, false, false, false, false, false, false, false, false, false, false, false, false, false, false, false, false, true, true, true] (ρ' := [none, none, none, none, none, none, none, none, none, none, none, none, none, none, none, none, none, none, some (.inl x18), some (.inl x19), some (.inl x20)]) rfl ?_
    exact rL_isAdded_J486 hc H
  · refine z_iload (pc := 464) hc dL_isAdded_464 rfl ?_
    refine z_iconst (pc := 466) hc dL_isAdded_466 ?_
    refine z_icmp_ne (tgt := 484) (pc := 467) hc dL_isAdded_467 rfl H (fun H => ?_) (fun H => ?_)
    · refine z_sipush (pc := 470) hc dL_isAdded_470 (by decide) ?_
      refine z_iload (pc := 473) hc dL_isAdded_473 rfl ?_
      refine z_iconst (pc := 475) hc dL_isAdded_475 ?_
      refine z_irem (pc := 476) hc dL_isAdded_476 H (fun v59 H => ?_)
      refine z_imul (pc := 477) hc dL_isAdded_477 ?_
      refine z_iload (pc := 478) hc dL_isAdded_478 rfl ?_
      refine z_iadd (pc := 480) hc dL_isAdded_480 ?_
      refine z_goto (tgt := 485) (pc := 481) hc dL_isAdded_481 rfl ?_
      refine z_iastore (pc := 485) hc dL_isAdded_485 H (fun h60 H => ?_)
      refine z_mask [false, false, false, false, false, false, false, false, false, false, false, false, false, false, false, false, false, false, true, true, true] (ρ' := [none, none, none, none, none, none, none, none, none, none, none, none, none, none, none, none, none, none, some (.inl x18), some (.inl x19), some (.inl x20)]) rfl ?_
      exact rL_isAdded_J486 hc H
    · refine z_iconst (pc := 484) hc dL_isAdded_484 ?_
      refine z_iastore (pc := 485) hc dL_isAdded_485 H (fun h58 H => ?_)
      refine z_mask [false, false, false, false, false, false, false, false, false, false, false, false, false, false, false, false, false, false, true, true, true] (ρ' := [none, none, none, none, none, none, none, none, none, none, none, none, none, none, none, none, none, none, some (.inl x18), some (.inl x19), some (.inl x20)]) rfl ?_
      exact rL_isAdded_J486 hc H
set_option maxRecDepth 100000 in
set_option maxHeartbeats 4000000 in
theorem rL_isAdded_J340 (hc : zOk p s m args meth c D cL_isAdded 21 RL (some .boolean))  {a1 : Nat} {a2 : Nat} {a3 : Nat} {a4 : Nat} {a5 : Nat} {x7 : Int} {x8 : Int} {x9 : Int} {x10 : Int} {x11 : Int} {x12 : Int} {x13 : Int} {x14 : Int} {x15 : Int} {x16 : Int} {x18 : Int} {x19 : Int} {s0 : Int} {h : Zm} {Q : Int → Zm → Prop}  (H : mL_isAdded_J340  a1 a2 a3 a4 a5 x7 x8 x9 x10 x11 x12 x13 x14 x15 x16 x18 x19 s0 h Q) : zW p l e zrL_isAdded s m args below meth c D base 21 (MQ below (zQi D base Q) args s 0 0 (zFree base)) 0 0 340 [none, some (.inr (.inl a1)), some (.inr (.inl a2)), some (.inr (.inl a3)), some (.inr (.inl a4)), some (.inr (.inl a5)), none, some (.inl x7), some (.inl x8), some (.inl x9), some (.inl x10), some (.inl x11), some (.inl x12), some (.inl x13), some (.inl x14), some (.inl x15), some (.inl x16), none, some (.inl x18), some (.inl x19), none] [.inl s0] h := by
  unfold mL_isAdded_J340 at H
  refine z_istore (pc := 340) hc dL_isAdded_340 (by decide) (ρ' := [none, some (.inr (.inl a1)), some (.inr (.inl a2)), some (.inr (.inl a3)), some (.inr (.inl a4)), some (.inr (.inl a5)), none, some (.inl x7), some (.inl x8), some (.inl x9), some (.inl x10), some (.inl x11), some (.inl x12), some (.inl x13), some (.inl x14), some (.inl x15), some (.inl x16), none, some (.inl x18), some (.inl x19), some (.inl s0)]) rfl rfl ?_
  refine z_iload (pc := 342) hc dL_isAdded_342 rfl ?_
  refine z_if_le (tgt := 486) (pc := 344) hc dL_isAdded_344 rfl H (fun H => ?_) (fun H => ?_)
  · refine z_mask [false, false, false, false, false, false, false, false, false, false, false, false, false, false, false, false, false, false, true, true, true] (ρ' := [none, none, none, none, none, none, none, none, none, none, none, none, none, none, none, none, none, none, some (.inl x18), some (.inl x19), some (.inl s0)]) rfl ?_
    exact rL_isAdded_J486 hc H
  · refine z_aload_n (pc := 347) hc dL_isAdded_347 rfl ?_
    refine z_iload (pc := 348) hc dL_isAdded_348 rfl ?_
    refine z_iload (pc := 350) hc dL_isAdded_350 rfl ?_
    refine z_iastore (pc := 352) hc dL_isAdded_352 H (fun h51 H => ?_)
    refine z_aload_n (pc := 353) hc dL_isAdded_353 rfl ?_
    refine z_iload (pc := 354) hc dL_isAdded_354 rfl ?_
    refine z_iload (pc := 356) hc dL_isAdded_356 rfl ?_
    refine z_iastore (pc := 358) hc dL_isAdded_358 H (fun h52 H => ?_)
    refine z_aload_n (pc := 359) hc dL_isAdded_359 rfl ?_
    refine z_iconst (pc := 360) hc dL_isAdded_360 ?_
    refine z_dup2 (pc := 361) hc dL_isAdded_361 rfl rfl ?_
    refine z_iaload (pc := 362) hc dL_isAdded_362 H (fun v53 H => ?_)
    refine z_iconst (pc := 363) hc dL_isAdded_363 ?_
    refine z_iadd (pc := 364) hc dL_isAdded_364 ?_
    refine z_iastore (pc := 365) hc dL_isAdded_365 H (fun h54 H => ?_)
    refine z_aload_n (pc := 366) hc dL_isAdded_366 rfl ?_
    refine z_iload (pc := 367) hc dL_isAdded_367 rfl ?_
    refine z_aload_n (pc := 369) hc dL_isAdded_369 rfl ?_
    refine z_iconst (pc := 370) hc dL_isAdded_370 ?_
    refine z_iaload (pc := 371) hc dL_isAdded_371 H (fun v55 H => ?_)
    refine z_iastore (pc := 372) hc dL_isAdded_372 H (fun h56 H => ?_)
    refine z_aload (pc := 373) hc dL_isAdded_373 rfl ?_
    refine z_iload (pc := 375) hc dL_isAdded_375 rfl ?_
    refine z_iload (pc := 377) hc dL_isAdded_377 rfl ?_
    refine z_if_ne (tgt := 407) (pc := 379) hc dL_isAdded_379 rfl H (fun H => ?_) (fun H => ?_)
    · refine z_iload (pc := 382) hc dL_isAdded_382 rfl ?_
      refine z_sipush (pc := 384) hc dL_isAdded_384 (by decide) ?_
      refine z_iload (pc := 387) hc dL_isAdded_387 rfl ?_
      refine z_bipush (pc := 389) hc dL_isAdded_389 (by decide) ?_
      refine z_iadd (pc := 391) hc dL_isAdded_391 ?_
      refine z_imul (pc := 392) hc dL_isAdded_392 ?_
      refine z_iadd (pc := 393) hc dL_isAdded_393 ?_
      refine z_sipush (pc := 394) hc dL_isAdded_394 (by decide) ?_
      refine z_iload (pc := 397) hc dL_isAdded_397 rfl ?_
      refine z_bipush (pc := 399) hc dL_isAdded_399 (by decide) ?_
      refine z_iadd (pc := 401) hc dL_isAdded_401 ?_
      refine z_imul (pc := 402) hc dL_isAdded_402 ?_
      refine z_iadd (pc := 403) hc dL_isAdded_403 ?_
      refine z_goto (tgt := 435) (pc := 404) hc dL_isAdded_404 rfl ?_
      refine z_mask [false, false, false, false, false, true, false, false, true, false, false, false, false, true, true, true, false, false, true, true, true] (ρ' := [none, none, none, none, none, some (.inr (.inl a5)), none, none, some (.inl x8), none, none, none, none, some (.inl x13), some (.inl x14), some (.inl x15), none, none, some (.inl x18), some (.inl x19), some (.inl s0)]) rfl ?_
      exact rL_isAdded_J435 hc H
    · refine z_iload (pc := 407) hc dL_isAdded_407 rfl ?_
      refine z_bipush (pc := 409) hc dL_isAdded_409 (by decide) ?_
      refine z_iadd (pc := 411) hc dL_isAdded_411 ?_
      refine z_bipush (pc := 412) hc dL_isAdded_412 (by decide) ?_
      refine z_iload (pc := 414) hc dL_isAdded_414 rfl ?_
      refine z_bipush (pc := 416) hc dL_isAdded_416 (by decide) ?_
      refine z_iadd (pc := 418) hc dL_isAdded_418 ?_
      refine z_imul (pc := 419) hc dL_isAdded_419 ?_
      refine z_iadd (pc := 420) hc dL_isAdded_420 ?_
      refine z_sipush (pc := 421) hc dL_isAdded_421 (by decide) ?_
      refine z_iload (pc := 424) hc dL_isAdded_424 rfl ?_
      refine z_imul (pc := 426) hc dL_isAdded_426 ?_
      refine z_iadd (pc := 427) hc dL_isAdded_427 ?_
      refine z_sipush (pc := 428) hc dL_isAdded_428 (by decide) ?_
      refine z_iload (pc := 431) hc dL_isAdded_431 rfl ?_
      refine z_imul (pc := 433) hc dL_isAdded_433 ?_
      refine z_iadd (pc := 434) hc dL_isAdded_434 ?_
      refine z_mask [false, false, false, false, false, true, false, false, true, false, false, false, false, true, true, true, false, false, true, true, true] (ρ' := [none, none, none, none, none, some (.inr (.inl a5)), none, none, some (.inl x8), none, none, none, none, some (.inl x13), some (.inl x14), some (.inl x15), none, none, some (.inl x18), some (.inl x19), some (.inl s0)]) rfl ?_
      exact rL_isAdded_J435 hc H
set_option maxRecDepth 100000 in
set_option maxHeartbeats 4000000 in
theorem rL_isAdded_J291 (hc : zOk p s m args meth c D cL_isAdded 21 RL (some .boolean))  {a0 : Nat} {a1 : Nat} {a2 : Nat} {a3 : Nat} {a4 : Nat} {a5 : Nat} {x7 : Int} {x8 : Int} {x9 : Int} {x10 : Int} {x11 : Int} {x12 : Int} {x13 : Int} {x14 : Int} {x15 : Int} {x16 : Int} {x18 : Int} {s0 : Int} {h : Zm} {Q : Int → Zm → Prop}  (H : mL_isAdded_J291  a0 a1 a2 a3 a4 a5 x7 x8 x9 x10 x11 x12 x13 x14 x15 x16 x18 s0 h Q) : zW p l e zrL_isAdded s m args below meth c D base 21 (MQ below (zQi D base Q) args s 0 0 (zFree base)) 0 0 291 [some (.inr (.inl a0)), some (.inr (.inl a1)), some (.inr (.inl a2)), some (.inr (.inl a3)), some (.inr (.inl a4)), some (.inr (.inl a5)), none, some (.inl x7), some (.inl x8), some (.inl x9), some (.inl x10), some (.inl x11), some (.inl x12), some (.inl x13), some (.inl x14), some (.inl x15), some (.inl x16), none, some (.inl x18), none, none] [.inl s0] h := by
  unfold mL_isAdded_J291 at H
  refine z_istore (pc := 291) hc dL_isAdded_291 (by decide) (ρ' := [some (.inr (.inl a0)), some (.inr (.inl a1)), some (.inr (.inl a2)), some (.inr (.inl a3)), some (.inr (.inl a4)), some (.inr (.inl a5)), none, some (.inl x7), some (.inl x8), some (.inl x9), some (.inl x10), some (.inl x11), some (.inl x12), some (.inl x13), some (.inl x14), some (.inl x15), some (.inl x16), none, some (.inl x18), some (.inl s0), none]) rfl rfl ?_
  refine z_iload (pc := 293) hc dL_isAdded_293 rfl ?_
  refine z_if_ne (tgt := 313) (pc := 295) hc dL_isAdded_295 rfl H (fun H => ?_) (fun H => ?_)
  · refine z_aload_n (pc := 298) hc dL_isAdded_298 rfl ?_
    refine z_iload (pc := 299) hc dL_isAdded_299 rfl ?_
    refine z_iload (pc := 301) hc dL_isAdded_301 rfl ?_
    refine z_iload (pc := 303) hc dL_isAdded_303 rfl ?_
    refine z_iload (pc := 305) hc dL_isAdded_305 rfl ?_
    refine z_calI (z_runV (pc := 307) (ci := 6) (T := TX6) (N := 8) hc dL_isAdded_307 zw_RL_30 (metX6_addGroup _ _ _ H.2) rfl (Nat.le_of_ble_eq_true rfl) ⟨Nat.le_of_ble_eq_true rfl, Nat.le_of_ble_eq_true rfl⟩ ⟨by exact Nat.le_of_ble_eq_true rfl, by exact Nat.le_of_ble_eq_true rfl⟩ rfl H.1) rfl ⟨rfl, rfl⟩ (fun v50 h49 H => ?_)
    refine z_goto (tgt := 340) (pc := 310) hc dL_isAdded_310 rfl ?_
    refine z_mask [false, true, true, true, true, true, false, true, true, true, true, true, true, true, true, true, true, false, true, true, false] (ρ' := [none, some (.inr (.inl a1)), some (.inr (.inl a2)), some (.inr (.inl a3)), some (.inr (.inl a4)), some (.inr (.inl a5)), none, some (.inl x7), some (.inl x8), some (.inl x9), some (.inl x10), some (.inl x11), some (.inl x12), some (.inl x13), some (.inl x14), some (.inl x15), some (.inl x16), none, some (.inl x18), some (.inl s0), none]) rfl ?_
    exact rL_isAdded_J340 hc H
  · refine z_iload (pc := 313) hc dL_isAdded_313 rfl ?_
    refine z_iconst (pc := 315) hc dL_isAdded_315 ?_
    refine z_icmp_ne (tgt := 328) (pc := 316) hc dL_isAdded_316 rfl H (fun H => ?_) (fun H => ?_)
    · refine z_aload_n (pc := 319) hc dL_isAdded_319 rfl ?_
      refine z_iload (pc := 320) hc dL_isAdded_320 rfl ?_
      refine z_calI (z_runV (pc := 322) (ci := 6) (T := TX6) (N := 8) hc dL_isAdded_322 zw_RL_33 (metX6_addRect _ _ _ H.2) rfl (Nat.le_of_ble_eq_true rfl) ⟨Nat.le_of_ble_eq_true rfl, Nat.le_of_ble_eq_true rfl⟩ ⟨by exact Nat.le_of_ble_eq_true rfl, by exact Nat.le_of_ble_eq_true rfl⟩ rfl H.1) rfl ⟨rfl, rfl⟩ (fun v48 h47 H => ?_)
      refine z_goto (tgt := 340) (pc := 325) hc dL_isAdded_325 rfl ?_
      refine z_mask [false, true, true, true, true, true, false, true, true, true, true, true, true, true, true, true, true, false, true, true, false] (ρ' := [none, some (.inr (.inl a1)), some (.inr (.inl a2)), some (.inr (.inl a3)), some (.inr (.inl a4)), some (.inr (.inl a5)), none, some (.inl x7), some (.inl x8), some (.inl x9), some (.inl x10), some (.inl x11), some (.inl x12), some (.inl x13), some (.inl x14), some (.inl x15), some (.inl x16), none, some (.inl x18), some (.inl s0), none]) rfl ?_
      exact rL_isAdded_J340 hc H
    · refine z_aload_n (pc := 328) hc dL_isAdded_328 rfl ?_
      refine z_iload (pc := 329) hc dL_isAdded_329 rfl ?_
      refine z_iload (pc := 331) hc dL_isAdded_331 rfl ?_
      refine z_iconst (pc := 333) hc dL_isAdded_333 ?_
      refine z_irem (pc := 334) hc dL_isAdded_334 H (fun v44 H => ?_)
      refine z_iload (pc := 335) hc dL_isAdded_335 rfl ?_
      refine z_calI (z_runV (pc := 337) (ci := 6) (T := TX6) (N := 8) hc dL_isAdded_337 zw_RL_37 (metX6_addSpot _ _ _ H.2) rfl (Nat.le_of_ble_eq_true rfl) ⟨Nat.le_of_ble_eq_true rfl, Nat.le_of_ble_eq_true rfl⟩ ⟨by exact Nat.le_of_ble_eq_true rfl, by exact Nat.le_of_ble_eq_true rfl⟩ rfl H.1) rfl ⟨rfl, rfl⟩ (fun v46 h45 H => ?_)
      refine z_mask [false, true, true, true, true, true, false, true, true, true, true, true, true, true, true, true, true, false, true, true, false] (ρ' := [none, some (.inr (.inl a1)), some (.inr (.inl a2)), some (.inr (.inl a3)), some (.inr (.inl a4)), some (.inr (.inl a5)), none, some (.inl x7), some (.inl x8), some (.inl x9), some (.inl x10), some (.inl x11), some (.inl x12), some (.inl x13), some (.inl x14), some (.inl x15), some (.inl x16), none, some (.inl x18), some (.inl s0), none]) rfl ?_
      exact rL_isAdded_J340 hc H
set_option maxRecDepth 100000 in
set_option maxHeartbeats 4000000 in
theorem rL_isAdded_J243 (hc : zOk p s m args meth c D cL_isAdded 21 RL (some .boolean))  {a0 : Nat} {a1 : Nat} {a2 : Nat} {a3 : Nat} {a4 : Nat} {a5 : Nat} {x7 : Int} {x8 : Int} {x9 : Int} {x10 : Int} {x11 : Int} {x12 : Int} {x13 : Int} {x14 : Int} {x15 : Int} {x16 : Int} {s0 : Int} {h : Zm} {Q : Int → Zm → Prop}  (H : mL_isAdded_J243  a0 a1 a2 a3 a4 a5 x7 x8 x9 x10 x11 x12 x13 x14 x15 x16 s0 h Q) : zW p l e zrL_isAdded s m args below meth c D base 21 (MQ below (zQi D base Q) args s 0 0 (zFree base)) 0 0 243 [some (.inr (.inl a0)), some (.inr (.inl a1)), some (.inr (.inl a2)), some (.inr (.inl a3)), some (.inr (.inl a4)), some (.inr (.inl a5)), none, some (.inl x7), some (.inl x8), some (.inl x9), some (.inl x10), some (.inl x11), some (.inl x12), some (.inl x13), some (.inl x14), some (.inl x15), some (.inl x16), none, none, none, none] [.inl s0] h := by
  unfold mL_isAdded_J243 at H
  refine z_istore (pc := 243) hc dL_isAdded_243 (by decide) (ρ' := [some (.inr (.inl a0)), some (.inr (.inl a1)), some (.inr (.inl a2)), some (.inr (.inl a3)), some (.inr (.inl a4)), some (.inr (.inl a5)), none, some (.inl x7), some (.inl x8), some (.inl x9), some (.inl x10), some (.inl x11), some (.inl x12), some (.inl x13), some (.inl x14), some (.inl x15), some (.inl x16), none, some (.inl s0), none, none]) rfl rfl ?_
  refine z_aload_n (pc := 245) hc dL_isAdded_245 rfl ?_
  refine z_iload (pc := 246) hc dL_isAdded_246 rfl ?_
  refine z_iload (pc := 248) hc dL_isAdded_248 rfl ?_
  refine z_iload (pc := 250) hc dL_isAdded_250 rfl ?_
  refine z_iload (pc := 252) hc dL_isAdded_252 rfl ?_
  refine z_calI (z_runV (pc := 254) (ci := 6) (T := TX6) (N := 8) hc dL_isAdded_254 zw_RL_20 (metX6_setBox _ _ _ H.2) rfl (Nat.le_of_ble_eq_true rfl) ⟨Nat.le_of_ble_eq_true rfl, Nat.le_of_ble_eq_true rfl⟩ ⟨by exact Nat.le_of_ble_eq_true rfl, by exact Nat.le_of_ble_eq_true rfl⟩ rfl H.1) rfl ⟨rfl, rfl⟩ (fun v41 h40 H => ?_)
  refine z_iload (pc := 257) hc dL_isAdded_257 rfl ?_
  refine z_iload (pc := 259) hc dL_isAdded_259 rfl ?_
  refine z_imul (pc := 261) hc dL_isAdded_261 ?_
  refine z_icmp_ne (tgt := 290) (pc := 262) hc dL_isAdded_262 rfl H (fun H => ?_) (fun H => ?_)
  · refine z_aload_n (pc := 265) hc dL_isAdded_265 rfl ?_
    refine z_iload (pc := 266) hc dL_isAdded_266 rfl ?_
    refine z_iload (pc := 268) hc dL_isAdded_268 rfl ?_
    refine z_iload (pc := 270) hc dL_isAdded_270 rfl ?_
    refine z_calI (z_runV (pc := 272) (ci := 6) (T := TX6) (N := 8) hc dL_isAdded_272 zw_RL_26 (metX6_setInk _ _ _ H.2) rfl (Nat.le_of_ble_eq_true rfl) ⟨Nat.le_of_ble_eq_true rfl, Nat.le_of_ble_eq_true rfl⟩ ⟨by exact Nat.le_of_ble_eq_true rfl, by exact Nat.le_of_ble_eq_true rfl⟩ rfl H.1) rfl ⟨rfl, rfl⟩ (fun v43 h42 H => ?_)
    refine z_iload (pc := 275) hc dL_isAdded_275 rfl ?_
    refine z_iload (pc := 277) hc dL_isAdded_277 rfl ?_
    refine z_iadd (pc := 279) hc dL_isAdded_279 ?_
    refine z_iload (pc := 280) hc dL_isAdded_280 rfl ?_
    refine z_iadd (pc := 282) hc dL_isAdded_282 ?_
    refine z_icmp_ne (tgt := 290) (pc := 283) hc dL_isAdded_283 rfl H (fun H => ?_) (fun H => ?_)
    · refine z_iconst (pc := 286) hc dL_isAdded_286 ?_
      refine z_goto (tgt := 291) (pc := 287) hc dL_isAdded_287 rfl ?_
      exact rL_isAdded_J291 hc H
    · refine z_iconst (pc := 290) hc dL_isAdded_290 ?_
      exact rL_isAdded_J291 hc H
  · refine z_iconst (pc := 290) hc dL_isAdded_290 ?_
    exact rL_isAdded_J291 hc H
set_option maxRecDepth 100000 in
set_option maxHeartbeats 4000000 in
theorem rL_isAdded_B169 (hc : zOk p s m args meth c D cL_isAdded 21 RL (some .boolean)) {X169 : Int → Int → Zm → Prop} {a0 : Nat} {a1 : Nat} {a2 : Nat} {a3 : Nat} {a4 : Nat} {a5 : Nat} {x7 : Int} {x8 : Int} {x9 : Int} {x10 : Int} {x11 : Int} {x12 : Int} {x13 : Int} {x14 : Int} {x15 : Int} {x16 : Int} {x17 : Int} {x18 : Int} {h : Zm} {Q : Int → Zm → Prop} (hX169 : ∀ (x17 : Int) (x18 : Int) (h : Zm), X169 x17 x18 h → zW p l e zrL_isAdded s m args below meth c D base 21 (MQ below (zQi D base Q) args s 0 0 (zFree base)) 0 0 169 [some (.inr (.inl a0)), some (.inr (.inl a1)), some (.inr (.inl a2)), some (.inr (.inl a3)), some (.inr (.inl a4)), some (.inr (.inl a5)), none, some (.inl x7), some (.inl x8), some (.inl x9), some (.inl x10), some (.inl x11), some (.inl x12), some (.inl x13), some (.inl x14), some (.inl x15), some (.inl x16), some (.inl x17), some (.inl x18), none, none] [] h) (H : mL_isAdded_B169 X169 a0 a1 a2 a3 a4 a5 x7 x8 x9 x10 x11 x12 x13 x14 x15 x16 x17 x18 h Q) : zW p l e zrL_isAdded s m args below meth c D base 21 (MQ below (zQi D base Q) args s 0 0 (zFree base)) 0 0 169 [some (.inr (.inl a0)), some (.inr (.inl a1)), some (.inr (.inl a2)), some (.inr (.inl a3)), some (.inr (.inl a4)), some (.inr (.inl a5)), none, some (.inl x7), some (.inl x8), some (.inl x9), some (.inl x10), some (.inl x11), some (.inl x12), some (.inl x13), some (.inl x14), some (.inl x15), some (.inl x16), some (.inl x17), some (.inl x18), none, none] [] h := by
  unfold mL_isAdded_B169 at H
  refine z_iload (pc := 169) hc dL_isAdded_169 rfl ?_
  refine z_if_le (tgt := 196) (pc := 171) hc dL_isAdded_171 rfl H (fun H => ?_) (fun H => ?_)
  · refine z_iload (pc := 196) hc dL_isAdded_196 rfl ?_
    refine z_if_lt (tgt := 215) (pc := 198) hc dL_isAdded_198 rfl H (fun H => ?_) (fun H => ?_)
    · refine z_iconst (pc := 215) hc dL_isAdded_215 ?_
      refine z_goto (tgt := 243) (pc := 216) hc dL_isAdded_216 rfl ?_
      refine z_mask [true, true, true, true, true, true, false, true, true, true, true, true, true, true, true, true, true, false, false, false, false] (ρ' := [some (.inr (.inl a0)), some (.inr (.inl a1)), some (.inr (.inl a2)), some (.inr (.inl a3)), some (.inr (.inl a4)), some (.inr (.inl a5)), none, some (.inl x7), some (.inl x8), some (.inl x9), some (.inl x10), some (.inl x11), some (.inl x12), some (.inl x13), some (.inl x14), some (.inl x15), some (.inl x16), none, none, none, none]) rfl ?_
      exact rL_isAdded_J243 hc H
    · refine z_iload (pc := 201) hc dL_isAdded_201 rfl ?_
      refine z_bipush (pc := 203) hc dL_isAdded_203 (by decide) ?_
      refine z_icmp_gt (tgt := 215) (pc := 205) hc dL_isAdded_205 rfl H (fun H => ?_) (fun H => ?_)
      · refine z_aload_n (pc := 208) hc dL_isAdded_208 rfl ?_
        refine z_iload (pc := 209) hc dL_isAdded_209 rfl ?_
        refine z_iaload (pc := 211) hc dL_isAdded_211 H (fun v35 H => ?_)
        refine z_if_ge (tgt := 219) (pc := 212) hc dL_isAdded_212 rfl H (fun H => ?_) (fun H => ?_)
        · refine z_iconst (pc := 215) hc dL_isAdded_215 ?_
          refine z_goto (tgt := 243) (pc := 216) hc dL_isAdded_216 rfl ?_
          refine z_mask [true, true, true, true, true, true, false, true, true, true, true, true, true, true, true, true, true, false, false, false, false] (ρ' := [some (.inr (.inl a0)), some (.inr (.inl a1)), some (.inr (.inl a2)), some (.inr (.inl a3)), some (.inr (.inl a4)), some (.inr (.inl a5)), none, some (.inl x7), some (.inl x8), some (.inl x9), some (.inl x10), some (.inl x11), some (.inl x12), some (.inl x13), some (.inl x14), some (.inl x15), some (.inl x16), none, none, none, none]) rfl ?_
          exact rL_isAdded_J243 hc H
        · refine z_aload_n (pc := 219) hc dL_isAdded_219 rfl ?_
          refine z_iload (pc := 220) hc dL_isAdded_220 rfl ?_
          refine z_iaload (pc := 222) hc dL_isAdded_222 H (fun v36 H => ?_)
          refine z_if_ne (tgt := 236) (pc := 223) hc dL_isAdded_223 rfl H (fun H => ?_) (fun H => ?_)
          · refine z_aload_n (pc := 226) hc dL_isAdded_226 rfl ?_
            refine z_iload (pc := 227) hc dL_isAdded_227 rfl ?_
            refine z_calI (z_runS (pc := 229) hc dL_isAdded_229 zw_RL_16 (metL_depthOf _ _ _ H) rfl (Nat.le_of_ble_eq_true rfl) ⟨Nat.le_of_ble_eq_true rfl, Nat.le_of_ble_eq_true rfl⟩ ⟨by exact Nat.le_of_ble_eq_true rfl, by exact Nat.le_of_ble_eq_true rfl⟩) rfl ⟨rfl, rfl⟩ (fun v38 h37 H => ?_)
            refine z_iconst (pc := 232) hc dL_isAdded_232 ?_
            refine z_icmp_ne (tgt := 241) (pc := 233) hc dL_isAdded_233 rfl H (fun H => ?_) (fun H => ?_)
            · refine z_bipush (pc := 236) hc dL_isAdded_236 (by decide) ?_
              refine z_goto (tgt := 243) (pc := 238) hc dL_isAdded_238 rfl ?_
              refine z_mask [true, true, true, true, true, true, false, true, true, true, true, true, true, true, true, true, true, false, false, false, false] (ρ' := [some (.inr (.inl a0)), some (.inr (.inl a1)), some (.inr (.inl a2)), some (.inr (.inl a3)), some (.inr (.inl a4)), some (.inr (.inl a5)), none, some (.inl x7), some (.inl x8), some (.inl x9), some (.inl x10), some (.inl x11), some (.inl x12), some (.inl x13), some (.inl x14), some (.inl x15), some (.inl x16), none, none, none, none]) rfl ?_
              exact rL_isAdded_J243 hc H
            · refine z_iload (pc := 241) hc dL_isAdded_241 rfl ?_
              refine z_mask [true, true, true, true, true, true, false, true, true, true, true, true, true, true, true, true, true, false, false, false, false] (ρ' := [some (.inr (.inl a0)), some (.inr (.inl a1)), some (.inr (.inl a2)), some (.inr (.inl a3)), some (.inr (.inl a4)), some (.inr (.inl a5)), none, some (.inl x7), some (.inl x8), some (.inl x9), some (.inl x10), some (.inl x11), some (.inl x12), some (.inl x13), some (.inl x14), some (.inl x15), some (.inl x16), none, none, none, none]) rfl ?_
              exact rL_isAdded_J243 hc H
          · refine z_bipush (pc := 236) hc dL_isAdded_236 (by decide) ?_
            refine z_goto (tgt := 243) (pc := 238) hc dL_isAdded_238 rfl ?_
            refine z_mask [true, true, true, true, true, true, false, true, true, true, true, true, true, true, true, true, true, false, false, false, false] (ρ' := [some (.inr (.inl a0)), some (.inr (.inl a1)), some (.inr (.inl a2)), some (.inr (.inl a3)), some (.inr (.inl a4)), some (.inr (.inl a5)), none, some (.inl x7), some (.inl x8), some (.inl x9), some (.inl x10), some (.inl x11), some (.inl x12), some (.inl x13), some (.inl x14), some (.inl x15), some (.inl x16), none, none, none, none]) rfl ?_
            exact rL_isAdded_J243 hc H
      · refine z_iconst (pc := 215) hc dL_isAdded_215 ?_
        refine z_goto (tgt := 243) (pc := 216) hc dL_isAdded_216 rfl ?_
        refine z_mask [true, true, true, true, true, true, false, true, true, true, true, true, true, true, true, true, true, false, false, false, false] (ρ' := [some (.inr (.inl a0)), some (.inr (.inl a1)), some (.inr (.inl a2)), some (.inr (.inl a3)), some (.inr (.inl a4)), some (.inr (.inl a5)), none, some (.inl x7), some (.inl x8), some (.inl x9), some (.inl x10), some (.inl x11), some (.inl x12), some (.inl x13), some (.inl x14), some (.inl x15), some (.inl x16), none, none, none, none]) rfl ?_
        exact rL_isAdded_J243 hc H
  · refine z_aload_n (pc := 174) hc dL_isAdded_174 rfl ?_
    refine z_iload (pc := 175) hc dL_isAdded_175 rfl ?_
    refine z_iaload (pc := 177) hc dL_isAdded_177 H (fun v39 H => ?_)
    refine z_if_ge (tgt := 186) (pc := 178) hc dL_isAdded_178 rfl H (fun H => ?_) (fun H => ?_)
    · refine z_iload (pc := 181) hc dL_isAdded_181 rfl ?_
      refine z_goto (tgt := 188) (pc := 183) hc dL_isAdded_183 rfl ?_
      refine z_istore (pc := 188) hc dL_isAdded_188 (by decide) (ρ' := [some (.inr (.inl a0)), some (.inr (.inl a1)), some (.inr (.inl a2)), some (.inr (.inl a3)), some (.inr (.inl a4)), some (.inr (.inl a5)), none, some (.inl x7), some (.inl x8), some (.inl x9), some (.inl x10), some (.inl x11), some (.inl x12), some (.inl x13), some (.inl x14), some (.inl x15), some (.inl x16), some (.inl x18), some (.inl x18), none, none]) rfl rfl ?_
      refine z_iinc (pc := 190) hc dL_isAdded_190 (by decide) rfl (ρ' := [some (.inr (.inl a0)), some (.inr (.inl a1)), some (.inr (.inl a2)), some (.inr (.inl a3)), some (.inr (.inl a4)), some (.inr (.inl a5)), none, some (.inl x7), some (.inl x8), some (.inl x9), some (.inl x10), some (.inl x11), some (.inl x12), some (.inl x13), some (.inl x14), some (.inl x15), some (.inl x16), some (.inl x18), some (.inl (x18 + (-1))), none, none]) rfl rfl ?_
      refine z_goto (tgt := 169) (pc := 193) hc dL_isAdded_193 rfl ?_
      exact hX169 _ _ _ H
    · refine z_iload (pc := 186) hc dL_isAdded_186 rfl ?_
      refine z_istore (pc := 188) hc dL_isAdded_188 (by decide) (ρ' := [some (.inr (.inl a0)), some (.inr (.inl a1)), some (.inr (.inl a2)), some (.inr (.inl a3)), some (.inr (.inl a4)), some (.inr (.inl a5)), none, some (.inl x7), some (.inl x8), some (.inl x9), some (.inl x10), some (.inl x11), some (.inl x12), some (.inl x13), some (.inl x14), some (.inl x15), some (.inl x16), some (.inl x17), some (.inl x18), none, none]) rfl rfl ?_
      refine z_iinc (pc := 190) hc dL_isAdded_190 (by decide) rfl (ρ' := [some (.inr (.inl a0)), some (.inr (.inl a1)), some (.inr (.inl a2)), some (.inr (.inl a3)), some (.inr (.inl a4)), some (.inr (.inl a5)), none, some (.inl x7), some (.inl x8), some (.inl x9), some (.inl x10), some (.inl x11), some (.inl x12), some (.inl x13), some (.inl x14), some (.inl x15), some (.inl x16), some (.inl x17), some (.inl (x18 + (-1))), none, none]) rfl rfl ?_
      refine z_goto (tgt := 169) (pc := 193) hc dL_isAdded_193 rfl ?_
      exact hX169 _ _ _ H
theorem rL_isAdded_H169 (hc : zOk p s m args meth c D cL_isAdded 21 RL (some .boolean))  {a0 : Nat} {a1 : Nat} {a2 : Nat} {a3 : Nat} {a4 : Nat} {a5 : Nat} {x7 : Int} {x8 : Int} {x9 : Int} {x10 : Int} {x11 : Int} {x12 : Int} {x13 : Int} {x14 : Int} {x15 : Int} {x16 : Int} {x17 : Int} {x18 : Int} {h : Zm} {Q : Int → Zm → Prop}  (H : mL_isAdded_H169  a0 a1 a2 a3 a4 a5 x7 x8 x9 x10 x11 x12 x13 x14 x15 x16 x17 x18 h Q) : zW p l e zrL_isAdded s m args below meth c D base 21 (MQ below (zQi D base Q) args s 0 0 (zFree base)) 0 0 169 [some (.inr (.inl a0)), some (.inr (.inl a1)), some (.inr (.inl a2)), some (.inr (.inl a3)), some (.inr (.inl a4)), some (.inr (.inl a5)), none, some (.inl x7), some (.inl x8), some (.inl x9), some (.inl x10), some (.inl x11), some (.inl x12), some (.inl x13), some (.inl x14), some (.inl x15), some (.inl x16), some (.inl x17), some (.inl x18), none, none] [] h :=
  H (fun x17 x18 h => zW p l e zrL_isAdded s m args below meth c D base 21 (MQ below (zQi D base Q) args s 0 0 (zFree base)) 0 0 169 [some (.inr (.inl a0)), some (.inr (.inl a1)), some (.inr (.inl a2)), some (.inr (.inl a3)), some (.inr (.inl a4)), some (.inr (.inl a5)), none, some (.inl x7), some (.inl x8), some (.inl x9), some (.inl x10), some (.inl x11), some (.inl x12), some (.inl x13), some (.inl x14), some (.inl x15), some (.inl x16), some (.inl x17), some (.inl x18), none, none] [] h) (fun x17 x18 h H => rL_isAdded_B169 hc (fun _ _ _ q => q) H)
set_option maxRecDepth 100000 in
set_option maxHeartbeats 4000000 in
theorem rL_isAdded_J31 (hc : zOk p s m args meth c D cL_isAdded 21 RL (some .boolean))  {a0 : Nat} {a1 : Nat} {a2 : Nat} {a3 : Nat} {a4 : Nat} {a5 : Nat} {x6 : Int} {s0 : Int} {h : Zm} {Q : Int → Zm → Prop}  (H : mL_isAdded_J31  a0 a1 a2 a3 a4 a5 x6 s0 h Q) : zW p l e zrL_isAdded s m args below meth c D base 21 (MQ below (zQi D base Q) args s 0 0 (zFree base)) 0 0 31 [some (.inr (.inl a0)), some (.inr (.inl a1)), some (.inr (.inl a2)), some (.inr (.inl a3)), some (.inr (.inl a4)), some (.inr (.inl a5)), some (.inl x6), none, none, none, none, none, none, none, none, none, none, none, none, none, none] [.inl s0] h := by
  unfold mL_isAdded_J31 at H
  refine z_istore (pc := 31) hc dL_isAdded_31 (by decide) (ρ' := [some (.inr (.inl a0)), some (.inr (.inl a1)), some (.inr (.inl a2)), some (.inr (.inl a3)), some (.inr (.inl a4)), some (.inr (.inl a5)), some (.inl x6), some (.inl s0), none, none, none, none, none, none, none, none, none, none, none, none, none]) rfl rfl ?_
  refine z_iload (pc := 33) hc dL_isAdded_33 rfl ?_
  refine z_bipush (pc := 35) hc dL_isAdded_35 (by decide) ?_
  refine z_ishr (n := 2048) (pc := 37) hc 11 rfl (by decide) dL_isAdded_37 H (fun v7 H => ?_)
  refine z_iconst (pc := 38) hc dL_isAdded_38 ?_
  refine z_calI (z_runS (pc := 39) hc dL_isAdded_39 zw_RL_10 (metL_low _ _ _ H) rfl (Nat.le_of_ble_eq_true rfl) ⟨Nat.le_of_ble_eq_true rfl, Nat.le_of_ble_eq_true rfl⟩ ⟨by exact Nat.le_of_ble_eq_true rfl, by exact Nat.le_of_ble_eq_true rfl⟩) rfl ⟨rfl, rfl⟩ (fun v9 h8 H => ?_)
  refine z_istore (pc := 42) hc dL_isAdded_42 (by decide) (ρ' := [some (.inr (.inl a0)), some (.inr (.inl a1)), some (.inr (.inl a2)), some (.inr (.inl a3)), some (.inr (.inl a4)), some (.inr (.inl a5)), some (.inl x6), some (.inl s0), some (.inl v9), none, none, none, none, none, none, none, none, none, none, none, none]) rfl rfl ?_
  refine z_iload (pc := 44) hc dL_isAdded_44 rfl ?_
  refine z_bipush (pc := 46) hc dL_isAdded_46 (by decide) ?_
  refine z_ishr (n := 8192) (pc := 48) hc 13 rfl (by decide) dL_isAdded_48 H (fun v10 H => ?_)
  refine z_bipush (pc := 49) hc dL_isAdded_49 (by decide) ?_
  refine z_calI (z_runS (pc := 51) hc dL_isAdded_51 zw_RL_10 (metL_low _ _ _ H) rfl (Nat.le_of_ble_eq_true rfl) ⟨Nat.le_of_ble_eq_true rfl, Nat.le_of_ble_eq_true rfl⟩ ⟨by exact Nat.le_of_ble_eq_true rfl, by exact Nat.le_of_ble_eq_true rfl⟩) rfl ⟨rfl, rfl⟩ (fun v12 h11 H => ?_)
  refine z_iconst (pc := 54) hc dL_isAdded_54 ?_
  refine z_isub (pc := 55) hc dL_isAdded_55 ?_
  refine z_istore (pc := 56) hc dL_isAdded_56 (by decide) (ρ' := [some (.inr (.inl a0)), some (.inr (.inl a1)), some (.inr (.inl a2)), some (.inr (.inl a3)), some (.inr (.inl a4)), some (.inr (.inl a5)), some (.inl x6), some (.inl s0), some (.inl v9), some (.inl (v12 - 4)), none, none, none, none, none, none, none, none, none, none, none]) rfl rfl ?_
  refine z_iload (pc := 58) hc dL_isAdded_58 rfl ?_
  refine z_bipush (pc := 60) hc dL_isAdded_60 (by decide) ?_
  refine z_ishr (n := 65536) (pc := 62) hc 16 rfl (by decide) dL_isAdded_62 H (fun v13 H => ?_)
  refine z_bipush (pc := 63) hc dL_isAdded_63 (by decide) ?_
  refine z_calI (z_runS (pc := 65) hc dL_isAdded_65 zw_RL_10 (metL_low _ _ _ H) rfl (Nat.le_of_ble_eq_true rfl) ⟨Nat.le_of_ble_eq_true rfl, Nat.le_of_ble_eq_true rfl⟩ ⟨by exact Nat.le_of_ble_eq_true rfl, by exact Nat.le_of_ble_eq_true rfl⟩) rfl ⟨rfl, rfl⟩ (fun v15 h14 H => ?_)
  refine z_iconst (pc := 68) hc dL_isAdded_68 ?_
  refine z_isub (pc := 69) hc dL_isAdded_69 ?_
  refine z_istore (pc := 70) hc dL_isAdded_70 (by decide) (ρ' := [some (.inr (.inl a0)), some (.inr (.inl a1)), some (.inr (.inl a2)), some (.inr (.inl a3)), some (.inr (.inl a4)), some (.inr (.inl a5)), some (.inl x6), some (.inl s0), some (.inl v9), some (.inl (v12 - 4)), some (.inl (v15 - 4)), none, none, none, none, none, none, none, none, none, none]) rfl rfl ?_
  refine z_iconst (pc := 72) hc dL_isAdded_72 ?_
  refine z_iload (pc := 73) hc dL_isAdded_73 rfl ?_
  refine z_bipush (pc := 75) hc dL_isAdded_75 (by decide) ?_
  refine z_ishr (n := 524288) (pc := 77) hc 19 rfl (by decide) dL_isAdded_77 H (fun v16 H => ?_)
  refine z_bipush (pc := 78) hc dL_isAdded_78 (by decide) ?_
  refine z_calI (z_runS (pc := 80) hc dL_isAdded_80 zw_RL_10 (metL_low _ _ _ H) rfl (Nat.le_of_ble_eq_true rfl) ⟨Nat.le_of_ble_eq_true rfl, Nat.le_of_ble_eq_true rfl⟩ ⟨by exact Nat.le_of_ble_eq_true rfl, by exact Nat.le_of_ble_eq_true rfl⟩) rfl ⟨rfl, rfl⟩ (fun v18 h17 H => ?_)
  refine z_iadd (pc := 83) hc dL_isAdded_83 ?_
  refine z_istore (pc := 84) hc dL_isAdded_84 (by decide) (ρ' := [some (.inr (.inl a0)), some (.inr (.inl a1)), some (.inr (.inl a2)), some (.inr (.inl a3)), some (.inr (.inl a4)), some (.inr (.inl a5)), some (.inl x6), some (.inl s0), some (.inl v9), some (.inl (v12 - 4)), some (.inl (v15 - 4)), some (.inl (1 + v18)), none, none, none, none, none, none, none, none, none]) rfl rfl ?_
  refine z_iconst (pc := 86) hc dL_isAdded_86 ?_
  refine z_iload (pc := 87) hc dL_isAdded_87 rfl ?_
  refine z_iconst (pc := 89) hc dL_isAdded_89 ?_
  refine z_ishr (n := 32) (pc := 90) hc 5 rfl (by decide) dL_isAdded_90 H (fun v19 H => ?_)
  refine z_bipush (pc := 91) hc dL_isAdded_91 (by decide) ?_
  refine z_calI (z_runS (pc := 93) hc dL_isAdded_93 zw_RL_10 (metL_low _ _ _ H) rfl (Nat.le_of_ble_eq_true rfl) ⟨Nat.le_of_ble_eq_true rfl, Nat.le_of_ble_eq_true rfl⟩ ⟨by exact Nat.le_of_ble_eq_true rfl, by exact Nat.le_of_ble_eq_true rfl⟩) rfl ⟨rfl, rfl⟩ (fun v21 h20 H => ?_)
  refine z_iadd (pc := 96) hc dL_isAdded_96 ?_
  refine z_istore (pc := 97) hc dL_isAdded_97 (by decide) (ρ' := [some (.inr (.inl a0)), some (.inr (.inl a1)), some (.inr (.inl a2)), some (.inr (.inl a3)), some (.inr (.inl a4)), some (.inr (.inl a5)), some (.inl x6), some (.inl s0), some (.inl v9), some (.inl (v12 - 4)), some (.inl (v15 - 4)), some (.inl (1 + v18)), some (.inl (1 + v21)), none, none, none, none, none, none, none, none]) rfl rfl ?_
  refine z_iload (pc := 99) hc dL_isAdded_99 rfl ?_
  refine z_iconst (pc := 101) hc dL_isAdded_101 ?_
  refine z_ishr (n := 4) (pc := 102) hc 2 rfl (by decide) dL_isAdded_102 H (fun v22 H => ?_)
  refine z_sipush (pc := 103) hc dL_isAdded_103 (by decide) ?_
  refine z_calI (z_runS (pc := 106) hc dL_isAdded_106 zw_RL_10 (metL_low _ _ _ H) rfl (Nat.le_of_ble_eq_true rfl) ⟨Nat.le_of_ble_eq_true rfl, Nat.le_of_ble_eq_true rfl⟩ ⟨by exact Nat.le_of_ble_eq_true rfl, by exact Nat.le_of_ble_eq_true rfl⟩) rfl ⟨rfl, rfl⟩ (fun v24 h23 H => ?_)
  refine z_istore (pc := 109) hc dL_isAdded_109 (by decide) (ρ' := [some (.inr (.inl a0)), some (.inr (.inl a1)), some (.inr (.inl a2)), some (.inr (.inl a3)), some (.inr (.inl a4)), some (.inr (.inl a5)), some (.inl x6), some (.inl s0), some (.inl v9), some (.inl (v12 - 4)), some (.inl (v15 - 4)), some (.inl (1 + v18)), some (.inl (1 + v21)), some (.inl v24), none, none, none, none, none, none, none]) rfl rfl ?_
  refine z_iload (pc := 111) hc dL_isAdded_111 rfl ?_
  refine z_bipush (pc := 113) hc dL_isAdded_113 (by decide) ?_
  refine z_ishr (n := 1024) (pc := 115) hc 10 rfl (by decide) dL_isAdded_115 H (fun v25 H => ?_)
  refine z_sipush (pc := 116) hc dL_isAdded_116 (by decide) ?_
  refine z_calI (z_runS (pc := 119) hc dL_isAdded_119 zw_RL_10 (metL_low _ _ _ H) rfl (Nat.le_of_ble_eq_true rfl) ⟨Nat.le_of_ble_eq_true rfl, Nat.le_of_ble_eq_true rfl⟩ ⟨by exact Nat.le_of_ble_eq_true rfl, by exact Nat.le_of_ble_eq_true rfl⟩) rfl ⟨rfl, rfl⟩ (fun v27 h26 H => ?_)
  refine z_istore (pc := 122) hc dL_isAdded_122 (by decide) (ρ' := [some (.inr (.inl a0)), some (.inr (.inl a1)), some (.inr (.inl a2)), some (.inr (.inl a3)), some (.inr (.inl a4)), some (.inr (.inl a5)), some (.inl x6), some (.inl s0), some (.inl v9), some (.inl (v12 - 4)), some (.inl (v15 - 4)), some (.inl (1 + v18)), some (.inl (1 + v21)), some (.inl v24), some (.inl v27), none, none, none, none, none, none]) rfl rfl ?_
  refine z_iload (pc := 124) hc dL_isAdded_124 rfl ?_
  refine z_bipush (pc := 126) hc dL_isAdded_126 (by decide) ?_
  refine z_ishr (n := 262144) (pc := 128) hc 18 rfl (by decide) dL_isAdded_128 H (fun v28 H => ?_)
  refine z_sipush (pc := 129) hc dL_isAdded_129 (by decide) ?_
  refine z_calI (z_runS (pc := 132) hc dL_isAdded_132 zw_RL_10 (metL_low _ _ _ H) rfl (Nat.le_of_ble_eq_true rfl) ⟨Nat.le_of_ble_eq_true rfl, Nat.le_of_ble_eq_true rfl⟩ ⟨by exact Nat.le_of_ble_eq_true rfl, by exact Nat.le_of_ble_eq_true rfl⟩) rfl ⟨rfl, rfl⟩ (fun v30 h29 H => ?_)
  refine z_istore (pc := 135) hc dL_isAdded_135 (by decide) (ρ' := [some (.inr (.inl a0)), some (.inr (.inl a1)), some (.inr (.inl a2)), some (.inr (.inl a3)), some (.inr (.inl a4)), some (.inr (.inl a5)), some (.inl x6), some (.inl s0), some (.inl v9), some (.inl (v12 - 4)), some (.inl (v15 - 4)), some (.inl (1 + v18)), some (.inl (1 + v21)), some (.inl v24), some (.inl v27), some (.inl v30), none, none, none, none, none]) rfl rfl ?_
  refine z_iload (pc := 137) hc dL_isAdded_137 rfl ?_
  refine z_bipush (pc := 139) hc dL_isAdded_139 (by decide) ?_
  refine z_ishr (n := 128) (pc := 141) hc 7 rfl (by decide) dL_isAdded_141 H (fun v31 H => ?_)
  refine z_iconst (pc := 142) hc dL_isAdded_142 ?_
  refine z_calI (z_runS (pc := 143) hc dL_isAdded_143 zw_RL_10 (metL_low _ _ _ H) rfl (Nat.le_of_ble_eq_true rfl) ⟨Nat.le_of_ble_eq_true rfl, Nat.le_of_ble_eq_true rfl⟩ ⟨by exact Nat.le_of_ble_eq_true rfl, by exact Nat.le_of_ble_eq_true rfl⟩) rfl ⟨rfl, rfl⟩ (fun v33 h32 H => ?_)
  refine z_if_ne (tgt := 154) (pc := 146) hc dL_isAdded_146 rfl H (fun H => ?_) (fun H => ?_)
  · refine z_bipush (pc := 149) hc dL_isAdded_149 (by decide) ?_
    refine z_goto (tgt := 159) (pc := 151) hc dL_isAdded_151 rfl ?_
    refine z_istore (pc := 159) hc dL_isAdded_159 (by decide) (ρ' := [some (.inr (.inl a0)), some (.inr (.inl a1)), some (.inr (.inl a2)), some (.inr (.inl a3)), some (.inr (.inl a4)), some (.inr (.inl a5)), some (.inl x6), some (.inl s0), some (.inl v9), some (.inl (v12 - 4)), some (.inl (v15 - 4)), some (.inl (1 + v18)), some (.inl (1 + v21)), some (.inl v24), some (.inl v27), some (.inl v30), some (.inl 100), none, none, none, none]) rfl rfl ?_
    refine z_bipush (pc := 161) hc dL_isAdded_161 (by decide) ?_
    refine z_istore (pc := 163) hc dL_isAdded_163 (by decide) (ρ' := [some (.inr (.inl a0)), some (.inr (.inl a1)), some (.inr (.inl a2)), some (.inr (.inl a3)), some (.inr (.inl a4)), some (.inr (.inl a5)), some (.inl x6), some (.inl s0), some (.inl v9), some (.inl (v12 - 4)), some (.inl (v15 - 4)), some (.inl (1 + v18)), some (.inl (1 + v21)), some (.inl v24), some (.inl v27), some (.inl v30), some (.inl 100), some (.inl (-3)), none, none, none]) rfl rfl ?_
    refine z_bipush (pc := 165) hc dL_isAdded_165 (by decide) ?_
    refine z_istore (pc := 167) hc dL_isAdded_167 (by decide) (ρ' := [some (.inr (.inl a0)), some (.inr (.inl a1)), some (.inr (.inl a2)), some (.inr (.inl a3)), some (.inr (.inl a4)), some (.inr (.inl a5)), some (.inl x6), some (.inl s0), some (.inl v9), some (.inl (v12 - 4)), some (.inl (v15 - 4)), some (.inl (1 + v18)), some (.inl (1 + v21)), some (.inl v24), some (.inl v27), some (.inl v30), some (.inl 100), some (.inl (-3)), some (.inl 23), none, none]) rfl rfl ?_
    refine z_mask [true, true, true, true, true, true, false, true, true, true, true, true, true, true, true, true, true, true, true, false, false] (ρ' := [some (.inr (.inl a0)), some (.inr (.inl a1)), some (.inr (.inl a2)), some (.inr (.inl a3)), some (.inr (.inl a4)), some (.inr (.inl a5)), none, some (.inl s0), some (.inl v9), some (.inl (v12 - 4)), some (.inl (v15 - 4)), some (.inl (1 + v18)), some (.inl (1 + v21)), some (.inl v24), some (.inl v27), some (.inl v30), some (.inl 100), some (.inl (-3)), some (.inl 23), none, none]) rfl ?_
    exact rL_isAdded_H169 hc H
  · refine z_iload (pc := 154) hc dL_isAdded_154 rfl ?_
    refine z_bipush (pc := 156) hc dL_isAdded_156 (by decide) ?_
    refine z_irem (pc := 158) hc dL_isAdded_158 H (fun v34 H => ?_)
    refine z_istore (pc := 159) hc dL_isAdded_159 (by decide) (ρ' := [some (.inr (.inl a0)), some (.inr (.inl a1)), some (.inr (.inl a2)), some (.inr (.inl a3)), some (.inr (.inl a4)), some (.inr (.inl a5)), some (.inl x6), some (.inl s0), some (.inl v9), some (.inl (v12 - 4)), some (.inl (v15 - 4)), some (.inl (1 + v18)), some (.inl (1 + v21)), some (.inl v24), some (.inl v27), some (.inl v30), some (.inl v34), none, none, none, none]) rfl rfl ?_
    refine z_bipush (pc := 161) hc dL_isAdded_161 (by decide) ?_
    refine z_istore (pc := 163) hc dL_isAdded_163 (by decide) (ρ' := [some (.inr (.inl a0)), some (.inr (.inl a1)), some (.inr (.inl a2)), some (.inr (.inl a3)), some (.inr (.inl a4)), some (.inr (.inl a5)), some (.inl x6), some (.inl s0), some (.inl v9), some (.inl (v12 - 4)), some (.inl (v15 - 4)), some (.inl (1 + v18)), some (.inl (1 + v21)), some (.inl v24), some (.inl v27), some (.inl v30), some (.inl v34), some (.inl (-3)), none, none, none]) rfl rfl ?_
    refine z_bipush (pc := 165) hc dL_isAdded_165 (by decide) ?_
    refine z_istore (pc := 167) hc dL_isAdded_167 (by decide) (ρ' := [some (.inr (.inl a0)), some (.inr (.inl a1)), some (.inr (.inl a2)), some (.inr (.inl a3)), some (.inr (.inl a4)), some (.inr (.inl a5)), some (.inl x6), some (.inl s0), some (.inl v9), some (.inl (v12 - 4)), some (.inl (v15 - 4)), some (.inl (1 + v18)), some (.inl (1 + v21)), some (.inl v24), some (.inl v27), some (.inl v30), some (.inl v34), some (.inl (-3)), some (.inl 23), none, none]) rfl rfl ?_
    refine z_mask [true, true, true, true, true, true, false, true, true, true, true, true, true, true, true, true, true, true, true, false, false] (ρ' := [some (.inr (.inl a0)), some (.inr (.inl a1)), some (.inr (.inl a2)), some (.inr (.inl a3)), some (.inr (.inl a4)), some (.inr (.inl a5)), none, some (.inl s0), some (.inl v9), some (.inl (v12 - 4)), some (.inl (v15 - 4)), some (.inl (1 + v18)), some (.inl (1 + v21)), some (.inl v24), some (.inl v27), some (.inl v30), some (.inl v34), some (.inl (-3)), some (.inl 23), none, none]) rfl ?_
    exact rL_isAdded_H169 hc H
set_option maxRecDepth 100000 in
set_option maxHeartbeats 4000000 in
theorem rL_isAdded (hc : zOk p s m args meth c D cL_isAdded 21 RL (some .boolean)) {a0 : Nat} {a1 : Nat} {a2 : Nat} {a3 : Nat} {a4 : Nat} {a5 : Nat} {x6 : Int} {h : Zm} {Q : Int → Zm → Prop} (H : mL_isAdded a0 a1 a2 a3 a4 a5 x6 h Q) : zW p l e zrL_isAdded s m args below meth c D base 21 (MQ below (zQi D base Q) args s 0 0 (zFree base)) 0 0 0 [some (.inr (.inl a0)), some (.inr (.inl a1)), some (.inr (.inl a2)), some (.inr (.inl a3)), some (.inr (.inl a4)), some (.inr (.inl a5)), some (.inl x6), none, none, none, none, none, none, none, none, none, none, none, none, none, none] [] h := by
  unfold mL_isAdded at H
  refine z_iload (pc := 0) hc dL_isAdded_0 rfl ?_
  refine z_iconst (pc := 2) hc dL_isAdded_2 ?_
  refine z_ishr (n := 8) (pc := 3) hc 3 rfl (by decide) dL_isAdded_3 H (fun v1 H => ?_)
  refine z_bipush (pc := 4) hc dL_isAdded_4 (by decide) ?_
  refine z_calI (z_runS (pc := 6) hc dL_isAdded_6 zw_RL_10 (metL_low _ _ _ H) rfl (Nat.le_of_ble_eq_true rfl) ⟨Nat.le_of_ble_eq_true rfl, Nat.le_of_ble_eq_true rfl⟩ ⟨by exact Nat.le_of_ble_eq_true rfl, by exact Nat.le_of_ble_eq_true rfl⟩) rfl ⟨rfl, rfl⟩ (fun v3 h2 H => ?_)
  refine z_iconst (pc := 9) hc dL_isAdded_9 ?_
  refine z_isub (pc := 10) hc dL_isAdded_10 ?_
  refine z_istore (pc := 11) hc dL_isAdded_11 (by decide) (ρ' := [some (.inr (.inl a0)), some (.inr (.inl a1)), some (.inr (.inl a2)), some (.inr (.inl a3)), some (.inr (.inl a4)), some (.inr (.inl a5)), some (.inl x6), some (.inl (v3 - 1)), none, none, none, none, none, none, none, none, none, none, none, none, none]) rfl rfl ?_
  refine z_iload (pc := 13) hc dL_isAdded_13 rfl ?_
  refine z_bipush (pc := 15) hc dL_isAdded_15 (by decide) ?_
  refine z_ishr (n := 512) (pc := 17) hc 9 rfl (by decide) dL_isAdded_17 H (fun v4 H => ?_)
  refine z_iconst (pc := 18) hc dL_isAdded_18 ?_
  refine z_calI (z_runS (pc := 19) hc dL_isAdded_19 zw_RL_10 (metL_low _ _ _ H) rfl (Nat.le_of_ble_eq_true rfl) ⟨Nat.le_of_ble_eq_true rfl, Nat.le_of_ble_eq_true rfl⟩ ⟨by exact Nat.le_of_ble_eq_true rfl, by exact Nat.le_of_ble_eq_true rfl⟩) rfl ⟨rfl, rfl⟩ (fun v6 h5 H => ?_)
  refine z_if_ne (tgt := 29) (pc := 22) hc dL_isAdded_22 rfl H (fun H => ?_) (fun H => ?_)
  · refine z_iconst (pc := 25) hc dL_isAdded_25 ?_
    refine z_goto (tgt := 31) (pc := 26) hc dL_isAdded_26 rfl ?_
    refine z_mask [true, true, true, true, true, true, true, false, false, false, false, false, false, false, false, false, false, false, false, false, false] (ρ' := [some (.inr (.inl a0)), some (.inr (.inl a1)), some (.inr (.inl a2)), some (.inr (.inl a3)), some (.inr (.inl a4)), some (.inr (.inl a5)), some (.inl x6), none, none, none, none, none, none, none, none, none, none, none, none, none, none]) rfl ?_
    exact rL_isAdded_J31 hc H
  · refine z_iload (pc := 29) hc dL_isAdded_29 rfl ?_
    refine z_mask [true, true, true, true, true, true, true, false, false, false, false, false, false, false, false, false, false, false, false, false, false] (ρ' := [some (.inr (.inl a0)), some (.inr (.inl a1)), some (.inr (.inl a2)), some (.inr (.inl a3)), some (.inr (.inl a4)), some (.inr (.inl a5)), some (.inl x6), none, none, none, none, none, none, none, none, none, none, none, none, none, none]) rfl ?_
    exact rL_isAdded_J31 hc H
end
theorem metL_isAdded (l : Launch) (D : Zd) (base : Nat) {a0 : Nat} {a1 : Nat} {a2 : Nat} {a3 : Nat} {a4 : Nat} {a5 : Nat} {x6 : Int} {h : Zm} {Q : Int → Zm → Prop} (H : mL_isAdded a0 a1 a2 a3 a4 a5 x6 h Q) : zMet l D base yL_isAdded cL_isAdded 21 (some .boolean) zrL_isAdded [.inr (.inl a0), .inr (.inl a1), .inr (.inl a2), .inr (.inl a3), .inr (.inl a4), .inr (.inl a5), .inl x6] h (zQi D base Q) :=
  z_met (by decide +kernel) (Nat.le_of_ble_eq_true rfl) rfl (fun p e s m args below meth c hc hn => rL_isAdded hc H)
def zrL_keyOf : Room := { frames := 1, cells := 0, slots := 0, locals := 23 }
def mL_keyOf_B32 (X16 : Int → Int → Int → Zm → Prop) (X32 : Int → Int → Zm → Prop) (a0 : Nat) (a1 : Nat) (x3 : Int) (x6 : Int) (x7 : Int) (x8 : Int) (x10 : Int) (h : Zm) (Q : Int → Zm → Prop) : Prop :=
  cLt x10 4
  (X32 (x8 * 4096) (x10 + 1) h)
  (cLd h 1 a0 x6 fun v5 => X16 (x3 + x8) v5 (x7 + (-1)) h)
def mL_keyOf_H32 (X16 : Int → Int → Int → Zm → Prop) (a0 : Nat) (a1 : Nat) (x3 : Int) (x6 : Int) (x7 : Int) (x8 : Int) (x10 : Int) (h : Zm) (Q : Int → Zm → Prop) : Prop :=
  lfp2 (fun X32 x8 x10 h => mL_keyOf_B32 X16 X32 a0 a1 x3 x6 x7 x8 x10 h Q) x8 x10 h
def mL_keyOf_B16 (X16 : Int → Int → Int → Zm → Prop) (a0 : Nat) (a1 : Nat) (x3 : Int) (x6 : Int) (x7 : Int) (h : Zm) (Q : Int → Zm → Prop) : Prop :=
  cLe x7 0
  (Q x3 h)
  (cLd h 1 a1 x6 fun v3 => cI2l v3 fun v4 => mL_keyOf_H32 X16 a0 a1 x3 x6 x7 v4 x7 h Q)
def mL_keyOf_H16  (a0 : Nat) (a1 : Nat) (x3 : Int) (x6 : Int) (x7 : Int) (h : Zm) (Q : Int → Zm → Prop) : Prop :=
  lfp3 (fun X16 x3 x6 x7 h => mL_keyOf_B16 X16 a0 a1 x3 x6 x7 h Q) x3 x6 x7 h
def mL_keyOf (a0 : Nat) (a1 : Nat) (x2 : Int) (h : Zm) (Q : Int → Zm → Prop) : Prop :=
  mL_depthOf a0 x2 h fun v2 h1 => mL_keyOf_H16  a0 a1 0 x2 v2 h1 Q
section
variable {p : Program} {l : Launch} {e : Env} {s : State} {m : MethodId} {args : Array Value} {below : List Frame} {meth : Method} {c : Code} {D : Zd} {base : Nat}
set_option maxRecDepth 100000 in
set_option maxHeartbeats 4000000 in
theorem rL_keyOf_B32 (hc : zOk p s m args meth c D cL_keyOf 11 RL (some .long)) {X16 : Int → Int → Int → Zm → Prop} {X32 : Int → Int → Zm → Prop} {a0 : Nat} {a1 : Nat} {x3 : Int} {x6 : Int} {x7 : Int} {x8 : Int} {x10 : Int} {h : Zm} {Q : Int → Zm → Prop} (hX16 : ∀ (x3 : Int) (x6 : Int) (x7 : Int) (h : Zm), X16 x3 x6 x7 h → zW p l e zrL_keyOf s m args below meth c D base 11 (MQ below (zQl D base Q) args s 0 0 (zFree base)) 0 0 16 [some (.inr (.inl a0)), some (.inr (.inl a1)), none, some (.inr (.inr x3)), none, none, some (.inl x6), some (.inl x7), none, none, none] [] h) (hX32 : ∀ (x8 : Int) (x10 : Int) (h : Zm), X32 x8 x10 h → zW p l e zrL_keyOf s m args below meth c D base 11 (MQ below (zQl D base Q) args s 0 0 (zFree base)) 0 0 32 [some (.inr (.inl a0)), some (.inr (.inl a1)), none, some (.inr (.inr x3)), none, none, some (.inl x6), some (.inl x7), some (.inr (.inr x8)), none, some (.inl x10)] [] h) (H : mL_keyOf_B32 X16 X32 a0 a1 x3 x6 x7 x8 x10 h Q) : zW p l e zrL_keyOf s m args below meth c D base 11 (MQ below (zQl D base Q) args s 0 0 (zFree base)) 0 0 32 [some (.inr (.inl a0)), some (.inr (.inl a1)), none, some (.inr (.inr x3)), none, none, some (.inl x6), some (.inl x7), some (.inr (.inr x8)), none, some (.inl x10)] [] h := by
  unfold mL_keyOf_B32 at H
  refine z_iload (pc := 32) hc dL_keyOf_32 rfl ?_
  refine z_iconst (pc := 34) hc dL_keyOf_34 ?_
  refine z_icmp_ge (tgt := 52) (pc := 35) hc dL_keyOf_35 rfl H (fun H => ?_) (fun H => ?_)
  · refine z_lload (pc := 38) hc dL_keyOf_38 rfl ?_
    refine z_ldc2 (n := 4096) (pc := 40) hc dL_keyOf_40 (zT_mem 528 (by decide +kernel) rfl) ?_
    refine z_lmul (pc := 43) hc dL_keyOf_43 ?_
    refine z_lstore (pc := 44) hc dL_keyOf_44 (by decide) (ρ' := [some (.inr (.inl a0)), some (.inr (.inl a1)), none, some (.inr (.inr x3)), none, none, some (.inl x6), some (.inl x7), some (.inr (.inr (x8 * 4096))), none, some (.inl x10)]) rfl rfl ?_
    refine z_iinc (pc := 46) hc dL_keyOf_46 (by decide) rfl (ρ' := [some (.inr (.inl a0)), some (.inr (.inl a1)), none, some (.inr (.inr x3)), none, none, some (.inl x6), some (.inl x7), some (.inr (.inr (x8 * 4096))), none, some (.inl (x10 + 1))]) rfl rfl ?_
    refine z_goto (tgt := 32) (pc := 49) hc dL_keyOf_49 rfl ?_
    exact hX32 _ _ _ H
  · refine z_lload_n (pc := 52) hc dL_keyOf_52 rfl ?_
    refine z_lload (pc := 53) hc dL_keyOf_53 rfl ?_
    refine z_ladd (pc := 55) hc dL_keyOf_55 ?_
    refine z_lstore_n (pc := 56) hc dL_keyOf_56 (by decide) (ρ' := [some (.inr (.inl a0)), some (.inr (.inl a1)), none, some (.inr (.inr (x3 + x8))), none, none, some (.inl x6), some (.inl x7), some (.inr (.inr x8)), none, some (.inl x10)]) rfl rfl ?_
    refine z_aload_n (pc := 57) hc dL_keyOf_57 rfl ?_
    refine z_iload (pc := 58) hc dL_keyOf_58 rfl ?_
    refine z_iaload (pc := 60) hc dL_keyOf_60 H (fun v5 H => ?_)
    refine z_istore (pc := 61) hc dL_keyOf_61 (by decide) (ρ' := [some (.inr (.inl a0)), some (.inr (.inl a1)), none, some (.inr (.inr (x3 + x8))), none, none, some (.inl v5), some (.inl x7), some (.inr (.inr x8)), none, some (.inl x10)]) rfl rfl ?_
    refine z_iinc (pc := 63) hc dL_keyOf_63 (by decide) rfl (ρ' := [some (.inr (.inl a0)), some (.inr (.inl a1)), none, some (.inr (.inr (x3 + x8))), none, none, some (.inl v5), some (.inl (x7 + (-1))), some (.inr (.inr x8)), none, some (.inl x10)]) rfl rfl ?_
    refine z_goto (tgt := 16) (pc := 66) hc dL_keyOf_66 rfl ?_
    refine z_mask [true, true, false, true, false, false, true, true, false, false, false] (ρ' := [some (.inr (.inl a0)), some (.inr (.inl a1)), none, some (.inr (.inr (x3 + x8))), none, none, some (.inl v5), some (.inl (x7 + (-1))), none, none, none]) rfl ?_
    exact hX16 _ _ _ _ H
theorem rL_keyOf_H32 (hc : zOk p s m args meth c D cL_keyOf 11 RL (some .long)) {X16 : Int → Int → Int → Zm → Prop} {a0 : Nat} {a1 : Nat} {x3 : Int} {x6 : Int} {x7 : Int} {x8 : Int} {x10 : Int} {h : Zm} {Q : Int → Zm → Prop} (hX16 : ∀ (x3 : Int) (x6 : Int) (x7 : Int) (h : Zm), X16 x3 x6 x7 h → zW p l e zrL_keyOf s m args below meth c D base 11 (MQ below (zQl D base Q) args s 0 0 (zFree base)) 0 0 16 [some (.inr (.inl a0)), some (.inr (.inl a1)), none, some (.inr (.inr x3)), none, none, some (.inl x6), some (.inl x7), none, none, none] [] h) (H : mL_keyOf_H32 X16 a0 a1 x3 x6 x7 x8 x10 h Q) : zW p l e zrL_keyOf s m args below meth c D base 11 (MQ below (zQl D base Q) args s 0 0 (zFree base)) 0 0 32 [some (.inr (.inl a0)), some (.inr (.inl a1)), none, some (.inr (.inr x3)), none, none, some (.inl x6), some (.inl x7), some (.inr (.inr x8)), none, some (.inl x10)] [] h :=
  H (fun x8 x10 h => zW p l e zrL_keyOf s m args below meth c D base 11 (MQ below (zQl D base Q) args s 0 0 (zFree base)) 0 0 32 [some (.inr (.inl a0)), some (.inr (.inl a1)), none, some (.inr (.inr x3)), none, none, some (.inl x6), some (.inl x7), some (.inr (.inr x8)), none, some (.inl x10)] [] h) (fun x8 x10 h H => rL_keyOf_B32 hc hX16 (fun _ _ _ q => q) H)
set_option maxRecDepth 100000 in
set_option maxHeartbeats 4000000 in
theorem rL_keyOf_B16 (hc : zOk p s m args meth c D cL_keyOf 11 RL (some .long)) {X16 : Int → Int → Int → Zm → Prop} {a0 : Nat} {a1 : Nat} {x3 : Int} {x6 : Int} {x7 : Int} {h : Zm} {Q : Int → Zm → Prop} (hX16 : ∀ (x3 : Int) (x6 : Int) (x7 : Int) (h : Zm), X16 x3 x6 x7 h → zW p l e zrL_keyOf s m args below meth c D base 11 (MQ below (zQl D base Q) args s 0 0 (zFree base)) 0 0 16 [some (.inr (.inl a0)), some (.inr (.inl a1)), none, some (.inr (.inr x3)), none, none, some (.inl x6), some (.inl x7), none, none, none] [] h) (H : mL_keyOf_B16 X16 a0 a1 x3 x6 x7 h Q) : zW p l e zrL_keyOf s m args below meth c D base 11 (MQ below (zQl D base Q) args s 0 0 (zFree base)) 0 0 16 [some (.inr (.inl a0)), some (.inr (.inl a1)), none, some (.inr (.inr x3)), none, none, some (.inl x6), some (.inl x7), none, none, none] [] h := by
  unfold mL_keyOf_B16 at H
  refine z_iload (pc := 16) hc dL_keyOf_16 rfl ?_
  refine z_if_le (tgt := 69) (pc := 18) hc dL_keyOf_18 rfl H (fun H => ?_) (fun H => ?_)
  · refine z_lload_n (pc := 69) hc dL_keyOf_69 rfl ?_
    exact z_lreturn (pc := 70) hc dL_keyOf_70 H
  · refine z_aload_n (pc := 21) hc dL_keyOf_21 rfl ?_
    refine z_iload (pc := 22) hc dL_keyOf_22 rfl ?_
    refine z_iaload (pc := 24) hc dL_keyOf_24 H (fun v3 H => ?_)
    refine z_i2l (pc := 25) hc dL_keyOf_25 H (fun v4 H => ?_)
    refine z_lstore (pc := 26) hc dL_keyOf_26 (by decide) (ρ' := [some (.inr (.inl a0)), some (.inr (.inl a1)), none, some (.inr (.inr x3)), none, none, some (.inl x6), some (.inl x7), some (.inr (.inr v4)), none, none]) rfl rfl ?_
    refine z_iload (pc := 28) hc dL_keyOf_28 rfl ?_
    refine z_istore (pc := 30) hc dL_keyOf_30 (by decide) (ρ' := [some (.inr (.inl a0)), some (.inr (.inl a1)), none, some (.inr (.inr x3)), none, none, some (.inl x6), some (.inl x7), some (.inr (.inr v4)), none, some (.inl x7)]) rfl rfl ?_
    exact rL_keyOf_H32 hc hX16 H
theorem rL_keyOf_H16 (hc : zOk p s m args meth c D cL_keyOf 11 RL (some .long))  {a0 : Nat} {a1 : Nat} {x3 : Int} {x6 : Int} {x7 : Int} {h : Zm} {Q : Int → Zm → Prop}  (H : mL_keyOf_H16  a0 a1 x3 x6 x7 h Q) : zW p l e zrL_keyOf s m args below meth c D base 11 (MQ below (zQl D base Q) args s 0 0 (zFree base)) 0 0 16 [some (.inr (.inl a0)), some (.inr (.inl a1)), none, some (.inr (.inr x3)), none, none, some (.inl x6), some (.inl x7), none, none, none] [] h :=
  H (fun x3 x6 x7 h => zW p l e zrL_keyOf s m args below meth c D base 11 (MQ below (zQl D base Q) args s 0 0 (zFree base)) 0 0 16 [some (.inr (.inl a0)), some (.inr (.inl a1)), none, some (.inr (.inr x3)), none, none, some (.inl x6), some (.inl x7), none, none, none] [] h) (fun x3 x6 x7 h H => rL_keyOf_B16 hc (fun _ _ _ _ q => q) H)
set_option maxRecDepth 100000 in
set_option maxHeartbeats 4000000 in
theorem rL_keyOf (hc : zOk p s m args meth c D cL_keyOf 11 RL (some .long)) {a0 : Nat} {a1 : Nat} {x2 : Int} {h : Zm} {Q : Int → Zm → Prop} (H : mL_keyOf a0 a1 x2 h Q) : zW p l e zrL_keyOf s m args below meth c D base 11 (MQ below (zQl D base Q) args s 0 0 (zFree base)) 0 0 0 [some (.inr (.inl a0)), some (.inr (.inl a1)), some (.inl x2), none, none, none, none, none, none, none, none] [] h := by
  unfold mL_keyOf at H
  refine z_lconst (v := 0) (pc := 0) hc dL_keyOf_0 rfl ?_
  refine z_lstore_n (pc := 1) hc dL_keyOf_1 (by decide) (ρ' := [some (.inr (.inl a0)), some (.inr (.inl a1)), some (.inl x2), some (.inr (.inr 0)), none, none, none, none, none, none, none]) rfl rfl ?_
  refine z_aload_n (pc := 2) hc dL_keyOf_2 rfl ?_
  refine z_iload_n (pc := 3) hc dL_keyOf_3 rfl ?_
  refine z_calI (z_runS (pc := 4) hc dL_keyOf_4 zw_RL_16 (metL_depthOf _ _ _ H) rfl (Nat.le_of_ble_eq_true rfl) ⟨Nat.le_of_ble_eq_true rfl, Nat.le_of_ble_eq_true rfl⟩ ⟨by exact Nat.le_of_ble_eq_true rfl, by exact Nat.le_of_ble_eq_true rfl⟩) rfl ⟨rfl, rfl⟩ (fun v2 h1 H => ?_)
  refine z_istore (pc := 7) hc dL_keyOf_7 (by decide) (ρ' := [some (.inr (.inl a0)), some (.inr (.inl a1)), some (.inl x2), some (.inr (.inr 0)), none, some (.inl v2), none, none, none, none, none]) rfl rfl ?_
  refine z_iload_n (pc := 9) hc dL_keyOf_9 rfl ?_
  refine z_istore (pc := 10) hc dL_keyOf_10 (by decide) (ρ' := [some (.inr (.inl a0)), some (.inr (.inl a1)), some (.inl x2), some (.inr (.inr 0)), none, some (.inl v2), some (.inl x2), none, none, none, none]) rfl rfl ?_
  refine z_iload (pc := 12) hc dL_keyOf_12 rfl ?_
  refine z_istore (pc := 14) hc dL_keyOf_14 (by decide) (ρ' := [some (.inr (.inl a0)), some (.inr (.inl a1)), some (.inl x2), some (.inr (.inr 0)), none, some (.inl v2), some (.inl x2), some (.inl v2), none, none, none]) rfl rfl ?_
  refine z_mask [true, true, false, true, false, false, true, true, false, false, false] (ρ' := [some (.inr (.inl a0)), some (.inr (.inl a1)), none, some (.inr (.inr 0)), none, none, some (.inl x2), some (.inl v2), none, none, none]) rfl ?_
  exact rL_keyOf_H16 hc H
end
theorem metL_keyOf (l : Launch) (D : Zd) (base : Nat) {a0 : Nat} {a1 : Nat} {x2 : Int} {h : Zm} {Q : Int → Zm → Prop} (H : mL_keyOf a0 a1 x2 h Q) : zMet l D base yL_keyOf cL_keyOf 11 (some .long) zrL_keyOf [.inr (.inl a0), .inr (.inl a1), .inl x2] h (zQl D base Q) :=
  z_met (by decide +kernel) (Nat.le_of_ble_eq_true rfl) rfl (fun p e s m args below meth c hc hn => rL_keyOf hc H)
def zrL_next : Room := { frames := 2, cells := 0, slots := 0, locals := 53 }
def mL_next_B9 (X9 : Int → Int → Int → Zm → Prop) (a0 : Nat) (a1 : Nat) (a2 : Nat) (x3 : Int) (x5 : Int) (x6 : Int) (x8 : Int) (h : Zm) (Q : Int → Zm → Prop) : Prop :=
  cLt x8 24
  (mL_keyOf a1 a2 x8 h fun v2 h1 => cLd h1 1 a0 x8 fun v3 => cLe v3 0
    (X9 x5 x6 (x8 + 1) h1)
    (cLcmp v2 x3 fun v4 => cLe v4 0
      (X9 x5 x6 (x8 + 1) h1)
      (cLt x5 0
        (X9 x8 v2 (x8 + 1) h1)
        (cLcmp v2 x6 fun v5 => cLt v5 0
          (X9 x8 v2 (x8 + 1) h1)
          (X9 x5 x6 (x8 + 1) h1)))))
  (Q x5 h)
def mL_next_H9  (a0 : Nat) (a1 : Nat) (a2 : Nat) (x3 : Int) (x5 : Int) (x6 : Int) (x8 : Int) (h : Zm) (Q : Int → Zm → Prop) : Prop :=
  lfp3 (fun X9 x5 x6 x8 h => mL_next_B9 X9 a0 a1 a2 x3 x5 x6 x8 h Q) x5 x6 x8 h
def mL_next (a0 : Nat) (a1 : Nat) (a2 : Nat) (x3 : Int) (h : Zm) (Q : Int → Zm → Prop) : Prop :=
  mL_next_H9  a0 a1 a2 x3 (-1) 0 1 h Q
section
variable {p : Program} {l : Launch} {e : Env} {s : State} {m : MethodId} {args : Array Value} {below : List Frame} {meth : Method} {c : Code} {D : Zd} {base : Nat}
set_option maxRecDepth 100000 in
set_option maxHeartbeats 4000000 in
theorem rL_next_B9 (hc : zOk p s m args meth c D cL_next 11 RL (some .int)) {X9 : Int → Int → Int → Zm → Prop} {a0 : Nat} {a1 : Nat} {a2 : Nat} {x3 : Int} {x5 : Int} {x6 : Int} {x8 : Int} {h : Zm} {Q : Int → Zm → Prop} (hX9 : ∀ (x5 : Int) (x6 : Int) (x8 : Int) (h : Zm), X9 x5 x6 x8 h → zW p l e zrL_next s m args below meth c D base 11 (MQ below (zQi D base Q) args s 0 0 (zFree base)) 0 0 9 [some (.inr (.inl a0)), some (.inr (.inl a1)), some (.inr (.inl a2)), some (.inr (.inr x3)), none, some (.inl x5), some (.inr (.inr x6)), none, some (.inl x8), none, none] [] h) (H : mL_next_B9 X9 a0 a1 a2 x3 x5 x6 x8 h Q) : zW p l e zrL_next s m args below meth c D base 11 (MQ below (zQi D base Q) args s 0 0 (zFree base)) 0 0 9 [some (.inr (.inl a0)), some (.inr (.inl a1)), some (.inr (.inl a2)), some (.inr (.inr x3)), none, some (.inl x5), some (.inr (.inr x6)), none, some (.inl x8), none, none] [] h := by
  unfold mL_next_B9 at H
  refine z_iload (pc := 9) hc dL_next_9 rfl ?_
  refine z_bipush (pc := 11) hc dL_next_11 (by decide) ?_
  refine z_icmp_ge (tgt := 66) (pc := 13) hc dL_next_13 rfl H (fun H => ?_) (fun H => ?_)
  · refine z_aload_n (pc := 16) hc dL_next_16 rfl ?_
    refine z_aload_n (pc := 17) hc dL_next_17 rfl ?_
    refine z_iload (pc := 18) hc dL_next_18 rfl ?_
    refine z_calL (z_runS (pc := 20) hc dL_next_20 zw_RL_41 (metL_keyOf _ _ _ H) rfl (Nat.le_of_ble_eq_true rfl) ⟨Nat.le_of_ble_eq_true rfl, Nat.le_of_ble_eq_true rfl⟩ ⟨by exact Nat.le_of_ble_eq_true rfl, by exact Nat.le_of_ble_eq_true rfl⟩) rfl ⟨rfl, rfl⟩ (fun v2 h1 H => ?_)
    refine z_lstore (pc := 23) hc dL_next_23 (by decide) (ρ' := [some (.inr (.inl a0)), some (.inr (.inl a1)), some (.inr (.inl a2)), some (.inr (.inr x3)), none, some (.inl x5), some (.inr (.inr x6)), none, some (.inl x8), some (.inr (.inr v2)), none]) rfl rfl ?_
    refine z_aload_n (pc := 25) hc dL_next_25 rfl ?_
    refine z_iload (pc := 26) hc dL_next_26 rfl ?_
    refine z_iaload (pc := 28) hc dL_next_28 H (fun v3 H => ?_)
    refine z_if_le (tgt := 60) (pc := 29) hc dL_next_29 rfl H (fun H => ?_) (fun H => ?_)
    · refine z_iinc (pc := 60) hc dL_next_60 (by decide) rfl (ρ' := [some (.inr (.inl a0)), some (.inr (.inl a1)), some (.inr (.inl a2)), some (.inr (.inr x3)), none, some (.inl x5), some (.inr (.inr x6)), none, some (.inl (x8 + 1)), some (.inr (.inr v2)), none]) rfl rfl ?_
      refine z_goto (tgt := 9) (pc := 63) hc dL_next_63 rfl ?_
      refine z_mask [true, true, true, true, false, true, true, false, true, false, false] (ρ' := [some (.inr (.inl a0)), some (.inr (.inl a1)), some (.inr (.inl a2)), some (.inr (.inr x3)), none, some (.inl x5), some (.inr (.inr x6)), none, some (.inl (x8 + 1)), none, none]) rfl ?_
      exact hX9 _ _ _ _ H
    · refine z_lload (pc := 32) hc dL_next_32 rfl ?_
      refine z_lload_n (pc := 34) hc dL_next_34 rfl ?_
      refine z_lcmp (pc := 35) hc dL_next_35 H (fun v4 H => ?_)
      refine z_if_le (tgt := 60) (pc := 36) hc dL_next_36 rfl H (fun H => ?_) (fun H => ?_)
      · refine z_iinc (pc := 60) hc dL_next_60 (by decide) rfl (ρ' := [some (.inr (.inl a0)), some (.inr (.inl a1)), some (.inr (.inl a2)), some (.inr (.inr x3)), none, some (.inl x5), some (.inr (.inr x6)), none, some (.inl (x8 + 1)), some (.inr (.inr v2)), none]) rfl rfl ?_
        refine z_goto (tgt := 9) (pc := 63) hc dL_next_63 rfl ?_
        refine z_mask [true, true, true, true, false, true, true, false, true, false, false] (ρ' := [some (.inr (.inl a0)), some (.inr (.inl a1)), some (.inr (.inl a2)), some (.inr (.inr x3)), none, some (.inl x5), some (.inr (.inr x6)), none, some (.inl (x8 + 1)), none, none]) rfl ?_
        exact hX9 _ _ _ _ H
      · refine z_iload (pc := 39) hc dL_next_39 rfl ?_
        refine z_if_lt (tgt := 52) (pc := 41) hc dL_next_41 rfl H (fun H => ?_) (fun H => ?_)
        · refine z_iload (pc := 52) hc dL_next_52 rfl ?_
          refine z_istore (pc := 54) hc dL_next_54 (by decide) (ρ' := [some (.inr (.inl a0)), some (.inr (.inl a1)), some (.inr (.inl a2)), some (.inr (.inr x3)), none, some (.inl x8), some (.inr (.inr x6)), none, some (.inl x8), some (.inr (.inr v2)), none]) rfl rfl ?_
          refine z_lload (pc := 56) hc dL_next_56 rfl ?_
          refine z_lstore (pc := 58) hc dL_next_58 (by decide) (ρ' := [some (.inr (.inl a0)), some (.inr (.inl a1)), some (.inr (.inl a2)), some (.inr (.inr x3)), none, some (.inl x8), some (.inr (.inr v2)), none, some (.inl x8), some (.inr (.inr v2)), none]) rfl rfl ?_
          refine z_iinc (pc := 60) hc dL_next_60 (by decide) rfl (ρ' := [some (.inr (.inl a0)), some (.inr (.inl a1)), some (.inr (.inl a2)), some (.inr (.inr x3)), none, some (.inl x8), some (.inr (.inr v2)), none, some (.inl (x8 + 1)), some (.inr (.inr v2)), none]) rfl rfl ?_
          refine z_goto (tgt := 9) (pc := 63) hc dL_next_63 rfl ?_
          refine z_mask [true, true, true, true, false, true, true, false, true, false, false] (ρ' := [some (.inr (.inl a0)), some (.inr (.inl a1)), some (.inr (.inl a2)), some (.inr (.inr x3)), none, some (.inl x8), some (.inr (.inr v2)), none, some (.inl (x8 + 1)), none, none]) rfl ?_
          exact hX9 _ _ _ _ H
        · refine z_lload (pc := 44) hc dL_next_44 rfl ?_
          refine z_lload (pc := 46) hc dL_next_46 rfl ?_
          refine z_lcmp (pc := 48) hc dL_next_48 H (fun v5 H => ?_)
          refine z_if_ge (tgt := 60) (pc := 49) hc dL_next_49 rfl H (fun H => ?_) (fun H => ?_)
          · refine z_iload (pc := 52) hc dL_next_52 rfl ?_
            refine z_istore (pc := 54) hc dL_next_54 (by decide) (ρ' := [some (.inr (.inl a0)), some (.inr (.inl a1)), some (.inr (.inl a2)), some (.inr (.inr x3)), none, some (.inl x8), some (.inr (.inr x6)), none, some (.inl x8), some (.inr (.inr v2)), none]) rfl rfl ?_
            refine z_lload (pc := 56) hc dL_next_56 rfl ?_
            refine z_lstore (pc := 58) hc dL_next_58 (by decide) (ρ' := [some (.inr (.inl a0)), some (.inr (.inl a1)), some (.inr (.inl a2)), some (.inr (.inr x3)), none, some (.inl x8), some (.inr (.inr v2)), none, some (.inl x8), some (.inr (.inr v2)), none]) rfl rfl ?_
            refine z_iinc (pc := 60) hc dL_next_60 (by decide) rfl (ρ' := [some (.inr (.inl a0)), some (.inr (.inl a1)), some (.inr (.inl a2)), some (.inr (.inr x3)), none, some (.inl x8), some (.inr (.inr v2)), none, some (.inl (x8 + 1)), some (.inr (.inr v2)), none]) rfl rfl ?_
            refine z_goto (tgt := 9) (pc := 63) hc dL_next_63 rfl ?_
            refine z_mask [true, true, true, true, false, true, true, false, true, false, false] (ρ' := [some (.inr (.inl a0)), some (.inr (.inl a1)), some (.inr (.inl a2)), some (.inr (.inr x3)), none, some (.inl x8), some (.inr (.inr v2)), none, some (.inl (x8 + 1)), none, none]) rfl ?_
            exact hX9 _ _ _ _ H
          · refine z_iinc (pc := 60) hc dL_next_60 (by decide) rfl (ρ' := [some (.inr (.inl a0)), some (.inr (.inl a1)), some (.inr (.inl a2)), some (.inr (.inr x3)), none, some (.inl x5), some (.inr (.inr x6)), none, some (.inl (x8 + 1)), some (.inr (.inr v2)), none]) rfl rfl ?_
            refine z_goto (tgt := 9) (pc := 63) hc dL_next_63 rfl ?_
            refine z_mask [true, true, true, true, false, true, true, false, true, false, false] (ρ' := [some (.inr (.inl a0)), some (.inr (.inl a1)), some (.inr (.inl a2)), some (.inr (.inr x3)), none, some (.inl x5), some (.inr (.inr x6)), none, some (.inl (x8 + 1)), none, none]) rfl ?_
            exact hX9 _ _ _ _ H
  · refine z_iload (pc := 66) hc dL_next_66 rfl ?_
    exact z_ireturn (pc := 68) hc dL_next_68 H
theorem rL_next_H9 (hc : zOk p s m args meth c D cL_next 11 RL (some .int))  {a0 : Nat} {a1 : Nat} {a2 : Nat} {x3 : Int} {x5 : Int} {x6 : Int} {x8 : Int} {h : Zm} {Q : Int → Zm → Prop}  (H : mL_next_H9  a0 a1 a2 x3 x5 x6 x8 h Q) : zW p l e zrL_next s m args below meth c D base 11 (MQ below (zQi D base Q) args s 0 0 (zFree base)) 0 0 9 [some (.inr (.inl a0)), some (.inr (.inl a1)), some (.inr (.inl a2)), some (.inr (.inr x3)), none, some (.inl x5), some (.inr (.inr x6)), none, some (.inl x8), none, none] [] h :=
  H (fun x5 x6 x8 h => zW p l e zrL_next s m args below meth c D base 11 (MQ below (zQi D base Q) args s 0 0 (zFree base)) 0 0 9 [some (.inr (.inl a0)), some (.inr (.inl a1)), some (.inr (.inl a2)), some (.inr (.inr x3)), none, some (.inl x5), some (.inr (.inr x6)), none, some (.inl x8), none, none] [] h) (fun x5 x6 x8 h H => rL_next_B9 hc (fun _ _ _ _ q => q) H)
set_option maxRecDepth 100000 in
set_option maxHeartbeats 4000000 in
theorem rL_next (hc : zOk p s m args meth c D cL_next 11 RL (some .int)) {a0 : Nat} {a1 : Nat} {a2 : Nat} {x3 : Int} {h : Zm} {Q : Int → Zm → Prop} (H : mL_next a0 a1 a2 x3 h Q) : zW p l e zrL_next s m args below meth c D base 11 (MQ below (zQi D base Q) args s 0 0 (zFree base)) 0 0 0 [some (.inr (.inl a0)), some (.inr (.inl a1)), some (.inr (.inl a2)), some (.inr (.inr x3)), none, none, none, none, none, none, none] [] h := by
  unfold mL_next at H
  refine z_iconst (pc := 0) hc dL_next_0 ?_
  refine z_istore (pc := 1) hc dL_next_1 (by decide) (ρ' := [some (.inr (.inl a0)), some (.inr (.inl a1)), some (.inr (.inl a2)), some (.inr (.inr x3)), none, some (.inl (-1)), none, none, none, none, none]) rfl rfl ?_
  refine z_lconst (v := 0) (pc := 3) hc dL_next_3 rfl ?_
  refine z_lstore (pc := 4) hc dL_next_4 (by decide) (ρ' := [some (.inr (.inl a0)), some (.inr (.inl a1)), some (.inr (.inl a2)), some (.inr (.inr x3)), none, some (.inl (-1)), some (.inr (.inr 0)), none, none, none, none]) rfl rfl ?_
  refine z_iconst (pc := 6) hc dL_next_6 ?_
  refine z_istore (pc := 7) hc dL_next_7 (by decide) (ρ' := [some (.inr (.inl a0)), some (.inr (.inl a1)), some (.inr (.inl a2)), some (.inr (.inr x3)), none, some (.inl (-1)), some (.inr (.inr 0)), none, some (.inl 1), none, none]) rfl rfl ?_
  exact rL_next_H9 hc H
end
theorem metL_next (l : Launch) (D : Zd) (base : Nat) {a0 : Nat} {a1 : Nat} {a2 : Nat} {x3 : Int} {h : Zm} {Q : Int → Zm → Prop} (H : mL_next a0 a1 a2 x3 h Q) : zMet l D base yL_next cL_next 11 (some .int) zrL_next [.inr (.inl a0), .inr (.inl a1), .inr (.inl a2), .inr (.inr x3)] h (zQi D base Q) :=
  z_met (by decide +kernel) (Nat.le_of_ble_eq_true rfl) rfl (fun p e s m args below meth c hc hn => rL_next hc H)
def zrL_above : Room := { frames := 1, cells := 0, slots := 0, locals := 23 }
def mL_above_B37 (X23 : Int → Zm → Prop) (X37 : Int → Int → Zm → Prop) (a0 : Nat) (a1 : Nat) (x2 : Int) (a3 : Nat) (x4 : Int) (x5 : Int) (x6 : Int) (x7 : Int) (h : Zm) (Q : Zm → Prop) : Prop :=
  cLe x7 x5
  (cLd h 1 a3 0 fun v6 => cLd h 1 a1 x6 fun v7 => cRem v7 128 fun v8 => cDiv (v6 * v8) 100 fun v9 => cSt h a3 0 v9 fun h10 => cLd h10 1 a3 1 fun v11 => cLd h10 1 a1 x6 fun v12 => cDiv v12 128 fun v13 => cRem v13 32 fun v14 => cSt h10 a3 1 (v11 + (v14 - 12)) fun h15 => cLd h15 1 a3 2 fun v16 => cLd h15 1 a1 x6 fun v17 => cDiv v17 4096 fun v18 => cSt h15 a3 2 (v16 + (v18 - 12)) fun h19 => X23 (x5 + 1) h19)
  (cLd h 1 a0 x6 fun v20 => X37 v20 (x7 + (-1)) h)
def mL_above_H37 (X23 : Int → Zm → Prop) (a0 : Nat) (a1 : Nat) (x2 : Int) (a3 : Nat) (x4 : Int) (x5 : Int) (x6 : Int) (x7 : Int) (h : Zm) (Q : Zm → Prop) : Prop :=
  lfp2 (fun X37 x6 x7 h => mL_above_B37 X23 X37 a0 a1 x2 a3 x4 x5 x6 x7 h Q) x6 x7 h
def mL_above_B23 (X23 : Int → Zm → Prop) (a0 : Nat) (a1 : Nat) (x2 : Int) (a3 : Nat) (x4 : Int) (x5 : Int) (h : Zm) (Q : Zm → Prop) : Prop :=
  cLt x5 x4
  (mL_above_H37 X23 a0 a1 x2 a3 x4 x5 x2 x4 h Q)
  (Q h)
def mL_above_H23  (a0 : Nat) (a1 : Nat) (x2 : Int) (a3 : Nat) (x4 : Int) (x5 : Int) (h : Zm) (Q : Zm → Prop) : Prop :=
  lfp1 (fun X23 x5 h => mL_above_B23 X23 a0 a1 x2 a3 x4 x5 h Q) x5 h
def mL_above (a0 : Nat) (a1 : Nat) (x2 : Int) (a3 : Nat) (h : Zm) (Q : Zm → Prop) : Prop :=
  cSt h a3 0 100 fun h1 => cSt h1 a3 1 0 fun h2 => cSt h2 a3 2 0 fun h3 => mL_depthOf a0 x2 h3 fun v5 h4 => mL_above_H23  a0 a1 x2 a3 v5 1 h4 Q
section
variable {p : Program} {l : Launch} {e : Env} {s : State} {m : MethodId} {args : Array Value} {below : List Frame} {meth : Method} {c : Code} {D : Zd} {base : Nat}
set_option maxRecDepth 100000 in
set_option maxHeartbeats 4000000 in
theorem rL_above_B37 (hc : zOk p s m args meth c D cL_above 8 RL none) {X23 : Int → Zm → Prop} {X37 : Int → Int → Zm → Prop} {a0 : Nat} {a1 : Nat} {x2 : Int} {a3 : Nat} {x4 : Int} {x5 : Int} {x6 : Int} {x7 : Int} {h : Zm} {Q : Zm → Prop} (hX23 : ∀ (x5 : Int) (h : Zm), X23 x5 h → zW p l e zrL_above s m args below meth c D base 8 (MQ below (zQv D base Q) args s 0 0 (zFree base)) 0 0 23 [some (.inr (.inl a0)), some (.inr (.inl a1)), some (.inl x2), some (.inr (.inl a3)), some (.inl x4), some (.inl x5), none, none] [] h) (hX37 : ∀ (x6 : Int) (x7 : Int) (h : Zm), X37 x6 x7 h → zW p l e zrL_above s m args below meth c D base 8 (MQ below (zQv D base Q) args s 0 0 (zFree base)) 0 0 37 [some (.inr (.inl a0)), some (.inr (.inl a1)), some (.inl x2), some (.inr (.inl a3)), some (.inl x4), some (.inl x5), some (.inl x6), some (.inl x7)] [] h) (H : mL_above_B37 X23 X37 a0 a1 x2 a3 x4 x5 x6 x7 h Q) : zW p l e zrL_above s m args below meth c D base 8 (MQ below (zQv D base Q) args s 0 0 (zFree base)) 0 0 37 [some (.inr (.inl a0)), some (.inr (.inl a1)), some (.inl x2), some (.inr (.inl a3)), some (.inl x4), some (.inl x5), some (.inl x6), some (.inl x7)] [] h := by
  unfold mL_above_B37 at H
  refine z_iload (pc := 37) hc dL_above_37 rfl ?_
  refine z_iload (pc := 39) hc dL_above_39 rfl ?_
  refine z_icmp_le (tgt := 56) (pc := 41) hc dL_above_41 rfl H (fun H => ?_) (fun H => ?_)
  · refine z_aload_n (pc := 56) hc dL_above_56 rfl ?_
    refine z_iconst (pc := 57) hc dL_above_57 ?_
    refine z_aload_n (pc := 58) hc dL_above_58 rfl ?_
    refine z_iconst (pc := 59) hc dL_above_59 ?_
    refine z_iaload (pc := 60) hc dL_above_60 H (fun v6 H => ?_)
    refine z_aload_n (pc := 61) hc dL_above_61 rfl ?_
    refine z_iload (pc := 62) hc dL_above_62 rfl ?_
    refine z_iaload (pc := 64) hc dL_above_64 H (fun v7 H => ?_)
    refine z_sipush (pc := 65) hc dL_above_65 (by decide) ?_
    refine z_irem (pc := 68) hc dL_above_68 H (fun v8 H => ?_)
    refine z_imul (pc := 69) hc dL_above_69 ?_
    refine z_bipush (pc := 70) hc dL_above_70 (by decide) ?_
    refine z_idiv (pc := 72) hc dL_above_72 H (fun v9 H => ?_)
    refine z_iastore (pc := 73) hc dL_above_73 H (fun h10 H => ?_)
    refine z_aload_n (pc := 74) hc dL_above_74 rfl ?_
    refine z_iconst (pc := 75) hc dL_above_75 ?_
    refine z_dup2 (pc := 76) hc dL_above_76 rfl rfl ?_
    refine z_iaload (pc := 77) hc dL_above_77 H (fun v11 H => ?_)
    refine z_aload_n (pc := 78) hc dL_above_78 rfl ?_
    refine z_iload (pc := 79) hc dL_above_79 rfl ?_
    refine z_iaload (pc := 81) hc dL_above_81 H (fun v12 H => ?_)
    refine z_sipush (pc := 82) hc dL_above_82 (by decide) ?_
    refine z_idiv (pc := 85) hc dL_above_85 H (fun v13 H => ?_)
    refine z_bipush (pc := 86) hc dL_above_86 (by decide) ?_
    refine z_irem (pc := 88) hc dL_above_88 H (fun v14 H => ?_)
    refine z_bipush (pc := 89) hc dL_above_89 (by decide) ?_
    refine z_isub (pc := 91) hc dL_above_91 ?_
    refine z_iadd (pc := 92) hc dL_above_92 ?_
    refine z_iastore (pc := 93) hc dL_above_93 H (fun h15 H => ?_)
    refine z_aload_n (pc := 94) hc dL_above_94 rfl ?_
    refine z_iconst (pc := 95) hc dL_above_95 ?_
    refine z_dup2 (pc := 96) hc dL_above_96 rfl rfl ?_
    refine z_iaload (pc := 97) hc dL_above_97 H (fun v16 H => ?_)
    refine z_aload_n (pc := 98) hc dL_above_98 rfl ?_
    refine z_iload (pc := 99) hc dL_above_99 rfl ?_
    refine z_iaload (pc := 101) hc dL_above_101 H (fun v17 H => ?_)
    refine z_sipush (pc := 102) hc dL_above_102 (by decide) ?_
    refine z_idiv (pc := 105) hc dL_above_105 H (fun v18 H => ?_)
    refine z_bipush (pc := 106) hc dL_above_106 (by decide) ?_
    refine z_isub (pc := 108) hc dL_above_108 ?_
    refine z_iadd (pc := 109) hc dL_above_109 ?_
    refine z_iastore (pc := 110) hc dL_above_110 H (fun h19 H => ?_)
    refine z_iinc (pc := 111) hc dL_above_111 (by decide) rfl (ρ' := [some (.inr (.inl a0)), some (.inr (.inl a1)), some (.inl x2), some (.inr (.inl a3)), some (.inl x4), some (.inl (x5 + 1)), some (.inl x6), some (.inl x7)]) rfl rfl ?_
    refine z_goto (tgt := 23) (pc := 114) hc dL_above_114 rfl ?_
    refine z_mask [true, true, true, true, true, true, false, false] (ρ' := [some (.inr (.inl a0)), some (.inr (.inl a1)), some (.inl x2), some (.inr (.inl a3)), some (.inl x4), some (.inl (x5 + 1)), none, none]) rfl ?_
    exact hX23 _ _ H
  · refine z_aload_n (pc := 44) hc dL_above_44 rfl ?_
    refine z_iload (pc := 45) hc dL_above_45 rfl ?_
    refine z_iaload (pc := 47) hc dL_above_47 H (fun v20 H => ?_)
    refine z_istore (pc := 48) hc dL_above_48 (by decide) (ρ' := [some (.inr (.inl a0)), some (.inr (.inl a1)), some (.inl x2), some (.inr (.inl a3)), some (.inl x4), some (.inl x5), some (.inl v20), some (.inl x7)]) rfl rfl ?_
    refine z_iinc (pc := 50) hc dL_above_50 (by decide) rfl (ρ' := [some (.inr (.inl a0)), some (.inr (.inl a1)), some (.inl x2), some (.inr (.inl a3)), some (.inl x4), some (.inl x5), some (.inl v20), some (.inl (x7 + (-1)))]) rfl rfl ?_
    refine z_goto (tgt := 37) (pc := 53) hc dL_above_53 rfl ?_
    exact hX37 _ _ _ H
theorem rL_above_H37 (hc : zOk p s m args meth c D cL_above 8 RL none) {X23 : Int → Zm → Prop} {a0 : Nat} {a1 : Nat} {x2 : Int} {a3 : Nat} {x4 : Int} {x5 : Int} {x6 : Int} {x7 : Int} {h : Zm} {Q : Zm → Prop} (hX23 : ∀ (x5 : Int) (h : Zm), X23 x5 h → zW p l e zrL_above s m args below meth c D base 8 (MQ below (zQv D base Q) args s 0 0 (zFree base)) 0 0 23 [some (.inr (.inl a0)), some (.inr (.inl a1)), some (.inl x2), some (.inr (.inl a3)), some (.inl x4), some (.inl x5), none, none] [] h) (H : mL_above_H37 X23 a0 a1 x2 a3 x4 x5 x6 x7 h Q) : zW p l e zrL_above s m args below meth c D base 8 (MQ below (zQv D base Q) args s 0 0 (zFree base)) 0 0 37 [some (.inr (.inl a0)), some (.inr (.inl a1)), some (.inl x2), some (.inr (.inl a3)), some (.inl x4), some (.inl x5), some (.inl x6), some (.inl x7)] [] h :=
  H (fun x6 x7 h => zW p l e zrL_above s m args below meth c D base 8 (MQ below (zQv D base Q) args s 0 0 (zFree base)) 0 0 37 [some (.inr (.inl a0)), some (.inr (.inl a1)), some (.inl x2), some (.inr (.inl a3)), some (.inl x4), some (.inl x5), some (.inl x6), some (.inl x7)] [] h) (fun x6 x7 h H => rL_above_B37 hc hX23 (fun _ _ _ q => q) H)
set_option maxRecDepth 100000 in
set_option maxHeartbeats 4000000 in
theorem rL_above_B23 (hc : zOk p s m args meth c D cL_above 8 RL none) {X23 : Int → Zm → Prop} {a0 : Nat} {a1 : Nat} {x2 : Int} {a3 : Nat} {x4 : Int} {x5 : Int} {h : Zm} {Q : Zm → Prop} (hX23 : ∀ (x5 : Int) (h : Zm), X23 x5 h → zW p l e zrL_above s m args below meth c D base 8 (MQ below (zQv D base Q) args s 0 0 (zFree base)) 0 0 23 [some (.inr (.inl a0)), some (.inr (.inl a1)), some (.inl x2), some (.inr (.inl a3)), some (.inl x4), some (.inl x5), none, none] [] h) (H : mL_above_B23 X23 a0 a1 x2 a3 x4 x5 h Q) : zW p l e zrL_above s m args below meth c D base 8 (MQ below (zQv D base Q) args s 0 0 (zFree base)) 0 0 23 [some (.inr (.inl a0)), some (.inr (.inl a1)), some (.inl x2), some (.inr (.inl a3)), some (.inl x4), some (.inl x5), none, none] [] h := by
  unfold mL_above_B23 at H
  refine z_iload (pc := 23) hc dL_above_23 rfl ?_
  refine z_iload (pc := 25) hc dL_above_25 rfl ?_
  refine z_icmp_ge (tgt := 117) (pc := 27) hc dL_above_27 rfl H (fun H => ?_) (fun H => ?_)
  · refine z_iload_n (pc := 30) hc dL_above_30 rfl ?_
    refine z_istore (pc := 31) hc dL_above_31 (by decide) (ρ' := [some (.inr (.inl a0)), some (.inr (.inl a1)), some (.inl x2), some (.inr (.inl a3)), some (.inl x4), some (.inl x5), some (.inl x2), none]) rfl rfl ?_
    refine z_iload (pc := 33) hc dL_above_33 rfl ?_
    refine z_istore (pc := 35) hc dL_above_35 (by decide) (ρ' := [some (.inr (.inl a0)), some (.inr (.inl a1)), some (.inl x2), some (.inr (.inl a3)), some (.inl x4), some (.inl x5), some (.inl x2), some (.inl x4)]) rfl rfl ?_
    exact rL_above_H37 hc hX23 H
  · exact z_return (pc := 117) hc dL_above_117 H
theorem rL_above_H23 (hc : zOk p s m args meth c D cL_above 8 RL none)  {a0 : Nat} {a1 : Nat} {x2 : Int} {a3 : Nat} {x4 : Int} {x5 : Int} {h : Zm} {Q : Zm → Prop}  (H : mL_above_H23  a0 a1 x2 a3 x4 x5 h Q) : zW p l e zrL_above s m args below meth c D base 8 (MQ below (zQv D base Q) args s 0 0 (zFree base)) 0 0 23 [some (.inr (.inl a0)), some (.inr (.inl a1)), some (.inl x2), some (.inr (.inl a3)), some (.inl x4), some (.inl x5), none, none] [] h :=
  H (fun x5 h => zW p l e zrL_above s m args below meth c D base 8 (MQ below (zQv D base Q) args s 0 0 (zFree base)) 0 0 23 [some (.inr (.inl a0)), some (.inr (.inl a1)), some (.inl x2), some (.inr (.inl a3)), some (.inl x4), some (.inl x5), none, none] [] h) (fun x5 h H => rL_above_B23 hc (fun _ _ q => q) H)
set_option maxRecDepth 100000 in
set_option maxHeartbeats 4000000 in
theorem rL_above (hc : zOk p s m args meth c D cL_above 8 RL none) {a0 : Nat} {a1 : Nat} {x2 : Int} {a3 : Nat} {h : Zm} {Q : Zm → Prop} (H : mL_above a0 a1 x2 a3 h Q) : zW p l e zrL_above s m args below meth c D base 8 (MQ below (zQv D base Q) args s 0 0 (zFree base)) 0 0 0 [some (.inr (.inl a0)), some (.inr (.inl a1)), some (.inl x2), some (.inr (.inl a3)), none, none, none, none] [] h := by
  unfold mL_above at H
  refine z_aload_n (pc := 0) hc dL_above_0 rfl ?_
  refine z_iconst (pc := 1) hc dL_above_1 ?_
  refine z_bipush (pc := 2) hc dL_above_2 (by decide) ?_
  refine z_iastore (pc := 4) hc dL_above_4 H (fun h1 H => ?_)
  refine z_aload_n (pc := 5) hc dL_above_5 rfl ?_
  refine z_iconst (pc := 6) hc dL_above_6 ?_
  refine z_iconst (pc := 7) hc dL_above_7 ?_
  refine z_iastore (pc := 8) hc dL_above_8 H (fun h2 H => ?_)
  refine z_aload_n (pc := 9) hc dL_above_9 rfl ?_
  refine z_iconst (pc := 10) hc dL_above_10 ?_
  refine z_iconst (pc := 11) hc dL_above_11 ?_
  refine z_iastore (pc := 12) hc dL_above_12 H (fun h3 H => ?_)
  refine z_aload_n (pc := 13) hc dL_above_13 rfl ?_
  refine z_iload_n (pc := 14) hc dL_above_14 rfl ?_
  refine z_calI (z_runS (pc := 15) hc dL_above_15 zw_RL_16 (metL_depthOf _ _ _ H) rfl (Nat.le_of_ble_eq_true rfl) ⟨Nat.le_of_ble_eq_true rfl, Nat.le_of_ble_eq_true rfl⟩ ⟨by exact Nat.le_of_ble_eq_true rfl, by exact Nat.le_of_ble_eq_true rfl⟩) rfl ⟨rfl, rfl⟩ (fun v5 h4 H => ?_)
  refine z_istore (pc := 18) hc dL_above_18 (by decide) (ρ' := [some (.inr (.inl a0)), some (.inr (.inl a1)), some (.inl x2), some (.inr (.inl a3)), some (.inl v5), none, none, none]) rfl rfl ?_
  refine z_iconst (pc := 20) hc dL_above_20 ?_
  refine z_istore (pc := 21) hc dL_above_21 (by decide) (ρ' := [some (.inr (.inl a0)), some (.inr (.inl a1)), some (.inl x2), some (.inr (.inl a3)), some (.inl v5), some (.inl 1), none, none]) rfl rfl ?_
  exact rL_above_H23 hc H
end
theorem metL_above (l : Launch) (D : Zd) (base : Nat) {a0 : Nat} {a1 : Nat} {x2 : Int} {a3 : Nat} {h : Zm} {Q : Zm → Prop} (H : mL_above a0 a1 x2 a3 h Q) : zMet l D base yL_above cL_above 8 none zrL_above [.inr (.inl a0), .inr (.inl a1), .inl x2, .inr (.inl a3)] h (zQv D base Q) :=
  z_met (by decide +kernel) (Nat.le_of_ble_eq_true rfl) rfl (fun p e s m args below meth c hc hn => rL_above hc H)
def zrL_moves : Room := { frames := 1, cells := 0, slots := 0, locals := 22 }
def mL_moves (a0 : Nat) (x1 : Int) (x2 : Int) (x3 : Int) (h : Zm) (Q : Zm → Prop) : Prop :=
  cLd h 1 a0 x1 fun v1 => cLd h 1 a0 x1 fun v2 => mL_down ((x2 - v2) * x3) 100 h fun v4 h3 => cSt h3 a0 x1 (v1 + v4) fun h5 => Q h5
section
variable {p : Program} {l : Launch} {e : Env} {s : State} {m : MethodId} {args : Array Value} {below : List Frame} {meth : Method} {c : Code} {D : Zd} {base : Nat}
set_option maxRecDepth 100000 in
set_option maxHeartbeats 4000000 in
theorem rL_moves (hc : zOk p s m args meth c D cL_moves 4 RL none) {a0 : Nat} {x1 : Int} {x2 : Int} {x3 : Int} {h : Zm} {Q : Zm → Prop} (H : mL_moves a0 x1 x2 x3 h Q) : zW p l e zrL_moves s m args below meth c D base 4 (MQ below (zQv D base Q) args s 0 0 (zFree base)) 0 0 0 [some (.inr (.inl a0)), some (.inl x1), some (.inl x2), some (.inl x3)] [] h := by
  unfold mL_moves at H
  refine z_aload_n (pc := 0) hc dL_moves_0 rfl ?_
  refine z_iload_n (pc := 1) hc dL_moves_1 rfl ?_
  refine z_dup2 (pc := 2) hc dL_moves_2 rfl rfl ?_
  refine z_iaload (pc := 3) hc dL_moves_3 H (fun v1 H => ?_)
  refine z_iload_n (pc := 4) hc dL_moves_4 rfl ?_
  refine z_aload_n (pc := 5) hc dL_moves_5 rfl ?_
  refine z_iload_n (pc := 6) hc dL_moves_6 rfl ?_
  refine z_iaload (pc := 7) hc dL_moves_7 H (fun v2 H => ?_)
  refine z_isub (pc := 8) hc dL_moves_8 ?_
  refine z_iload_n (pc := 9) hc dL_moves_9 rfl ?_
  refine z_imul (pc := 10) hc dL_moves_10 ?_
  refine z_bipush (pc := 11) hc dL_moves_11 (by decide) ?_
  refine z_calI (z_runS (pc := 13) hc dL_moves_13 zw_RL_47 (metL_down _ _ _ H) rfl (Nat.le_of_ble_eq_true rfl) ⟨Nat.le_of_ble_eq_true rfl, Nat.le_of_ble_eq_true rfl⟩ ⟨by exact Nat.le_of_ble_eq_true rfl, by exact Nat.le_of_ble_eq_true rfl⟩) rfl ⟨rfl, rfl⟩ (fun v4 h3 H => ?_)
  refine z_iadd (pc := 16) hc dL_moves_16 ?_
  refine z_iastore (pc := 17) hc dL_moves_17 H (fun h5 H => ?_)
  exact z_return (pc := 18) hc dL_moves_18 H
end
theorem metL_moves (l : Launch) (D : Zd) (base : Nat) {a0 : Nat} {x1 : Int} {x2 : Int} {x3 : Int} {h : Zm} {Q : Zm → Prop} (H : mL_moves a0 x1 x2 x3 h Q) : zMet l D base yL_moves cL_moves 4 none zrL_moves [.inr (.inl a0), .inl x1, .inl x2, .inl x3] h (zQv D base Q) :=
  z_met (by decide +kernel) (Nat.le_of_ble_eq_true rfl) rfl (fun p e s m args below meth c hc hn => rL_moves hc H)
