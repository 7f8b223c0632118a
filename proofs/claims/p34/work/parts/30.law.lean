/-! printed by gen.py: the law -/
def mL_law_B704 (L : Nat) (sc : Int → Int) (X704 : Int → Int → Zm → Prop) (a1 : Nat) (x12 : Int) (x13 : Int) (x14 : Int) (a16 : Nat) (x17 : Int) (x18 : Int) (x19 : Int) (x20 : Int) (h : Zm) (Q : Int → Zm → Prop) : Prop :=
  cLt x20 8
  (cEq x12 0
    (X704 0 (x20 + 1) h)
    (cRc h 16 a1 <| mX6_coverage a1 x20 h fun v98 h97 => cLd h97 1 a16 x20 fun v99 => cEq v98 v99
      (X704 1 (x20 + 1) h97)
      (X704 0 (x20 + 1) h97)))
  (cEq x12 0
    (Q 0 h)
    (cRc h 16 a1 <| mX6_greatestSum a1 h fun v80 h79 => cEq v80 x17
      (cRc h79 16 a1 <| mX6_neededLimit a1 h79 fun v82 h81 => cEq v82 x18
        (cRc h81 16 a1 <| mX6_limitedPixels a1 h81 fun v84 h83 => cEq v84 x19
          (cRc h83 16 a1 <| mX6_disorderedPixels a1 h83 fun v86 h85 => cEq v86 0
            (cRc h85 16 a1 <| mX6_rendered a1 x13 0 0 h85 fun v88 h87 => cEq v88 (-1)
              (cRc h87 16 a1 <| mX6_ink a1 0 x14 0 h87 fun v90 h89 => cEq v90 (-1)
                (cRc h89 16 a1 <| mX6_touchedBy a1 (-1) 0 h89 fun v92 h91 => cEq v92 (-1)
                  (cRc h91 16 a1 <| mX6_coverage a1 8 h91 fun v94 h93 => cEq v94 (-1)
                    (cRc h93 16 a1 <| mX6_rendered a1 0 0 6 h93 fun v96 h95 => cEq v96 (-1)
                      (Q 1 h95)
                      (Q 0 h95))
                    (Q 0 h93))
                  (Q 0 h91))
                (Q 0 h89))
              (Q 0 h87))
            (Q 0 h85))
          (Q 0 h83))
        (Q 0 h81))
      (Q 0 h79)))
def mL_law_H704 (L : Nat) (sc : Int → Int)  (a1 : Nat) (x12 : Int) (x13 : Int) (x14 : Int) (a16 : Nat) (x17 : Int) (x18 : Int) (x19 : Int) (x20 : Int) (h : Zm) (Q : Int → Zm → Prop) : Prop :=
  lfp2 (fun X704 x12 x20 h => mL_law_B704 L sc X704 a1 x12 x13 x14 a16 x17 x18 x19 x20 h Q) x12 x20 h
def mL_law_J650 (L : Nat) (sc : Int → Int) (X393 : Int → Int → Int → Int → Int → Zm → Prop) (a1 : Nat) (a2 : Nat) (a3 : Nat) (a4 : Nat) (a5 : Nat) (a6 : Nat) (a7 : Nat) (a8 : Nat) (a9 : Nat) (a10 : Nat) (a11 : Nat) (x12 : Int) (x13 : Int) (x14 : Int) (a16 : Nat) (x17 : Int) (x18 : Int) (x20 : Int) (x22 : Int) (s0 : Int) (s1 : Int) (h : Zm) (Q : Int → Zm → Prop) : Prop :=
  cEq x12 0
  (X393 0 x17 x18 (s0 + s1) (x20 + 1) h)
  (cRem x20 x13 fun v117 => cDiv x20 x13 fun v118 => cRc h 16 a1 <| mX6_ink a1 v117 v118 7 h fun v120 h119 => cEq v120 x22
    (cLd h119 1 a8 2 fun v121 => cLe x22 v121
      (X393 1 x17 x18 (s0 + s1) (x20 + 1) h119)
      (X393 0 x17 x18 (s0 + s1) (x20 + 1) h119))
    (X393 0 x17 x18 (s0 + s1) (x20 + 1) h119))
def mL_law_J634 (L : Nat) (sc : Int → Int) (X393 : Int → Int → Int → Int → Int → Zm → Prop) (a1 : Nat) (a2 : Nat) (a3 : Nat) (a4 : Nat) (a5 : Nat) (a6 : Nat) (a7 : Nat) (a8 : Nat) (a9 : Nat) (a10 : Nat) (a11 : Nat) (x12 : Int) (x13 : Int) (x14 : Int) (a16 : Nat) (x17 : Int) (x19 : Int) (x20 : Int) (x22 : Int) (x23 : Int) (s0 : Int) (h : Zm) (Q : Int → Zm → Prop) : Prop :=
  cLt x22 x23
  (mL_law_J650 L sc X393 a1 a2 a3 a4 a5 a6 a7 a8 a9 a10 a11 x12 x13 x14 a16 x17 s0 x20 x22 x19 1 h Q)
  (mL_law_J650 L sc X393 a1 a2 a3 a4 a5 a6 a7 a8 a9 a10 a11 x12 x13 x14 a16 x17 s0 x20 x22 x19 0 h Q)
def mL_law_J594 (L : Nat) (sc : Int → Int) (X393 : Int → Int → Int → Int → Int → Zm → Prop) (a1 : Nat) (a2 : Nat) (a3 : Nat) (a4 : Nat) (a5 : Nat) (a6 : Nat) (a7 : Nat) (a8 : Nat) (a9 : Nat) (a10 : Nat) (a11 : Nat) (x12 : Int) (x13 : Int) (x14 : Int) (a16 : Nat) (x17 : Int) (x18 : Int) (x19 : Int) (x20 : Int) (x22 : Int) (x23 : Int) (h : Zm) (Q : Int → Zm → Prop) : Prop :=
  cLd h 1 a16 7 fun v105 => cSt h a16 7 (v105 + x22) fun h106 => cLe x22 x17
  (cLe x23 x18
    (mL_law_J634 L sc X393 a1 a2 a3 a4 a5 a6 a7 a8 a9 a10 a11 x12 x13 x14 a16 x17 x19 x20 x22 x23 x18 h106 Q)
    (mL_law_J634 L sc X393 a1 a2 a3 a4 a5 a6 a7 a8 a9 a10 a11 x12 x13 x14 a16 x17 x19 x20 x22 x23 x23 h106 Q))
  (cLe x23 x18
    (mL_law_J634 L sc X393 a1 a2 a3 a4 a5 a6 a7 a8 a9 a10 a11 x12 x13 x14 a16 x22 x19 x20 x22 x23 x18 h106 Q)
    (mL_law_J634 L sc X393 a1 a2 a3 a4 a5 a6 a7 a8 a9 a10 a11 x12 x13 x14 a16 x22 x19 x20 x22 x23 x23 h106 Q))
def mL_law_J553 (L : Nat) (sc : Int → Int) (X393 : Int → Int → Int → Int → Int → Zm → Prop) (X481 : Int → Int → Int → Int → Zm → Prop) (a1 : Nat) (a2 : Nat) (a3 : Nat) (a4 : Nat) (a5 : Nat) (a6 : Nat) (a7 : Nat) (a8 : Nat) (a9 : Nat) (a10 : Nat) (a11 : Nat) (x13 : Int) (x14 : Int) (a16 : Nat) (x17 : Int) (x18 : Int) (x19 : Int) (x20 : Int) (x22 : Int) (x23 : Int) (x24 : Int) (s0 : Int) (h : Zm) (Q : Int → Zm → Prop) : Prop :=
  cLd h 1 a11 x24 fun v112 => cLd h 1 a10 x24 fun v113 => cLd h 1 a16 x24 fun v114 => cLd h 1 a11 x24 fun v115 => cSt h a16 x24 (v114 + v115) fun h116 => X481 s0 (x22 + v112) (x23 + v113) (x24 + 1) h116
def mL_law_J524 (L : Nat) (sc : Int → Int) (X393 : Int → Int → Int → Int → Int → Zm → Prop) (X481 : Int → Int → Int → Int → Zm → Prop) (a1 : Nat) (a2 : Nat) (a3 : Nat) (a4 : Nat) (a5 : Nat) (a6 : Nat) (a7 : Nat) (a8 : Nat) (a9 : Nat) (a10 : Nat) (a11 : Nat) (x13 : Int) (x14 : Int) (a16 : Nat) (x17 : Int) (x18 : Int) (x19 : Int) (x20 : Int) (x22 : Int) (x23 : Int) (x24 : Int) (h : Zm) (Q : Int → Zm → Prop) : Prop :=
  cRem x20 x13 fun v107 => cDiv x20 x13 fun v108 => cRc h 16 a1 <| mX6_ink a1 v107 v108 x24 h fun v110 h109 => cLd h109 1 a11 x24 fun v111 => cEq v110 v111
  (mL_law_J553 L sc X393 X481 a1 a2 a3 a4 a5 a6 a7 a8 a9 a10 a11 x13 x14 a16 x17 x18 x19 x20 x22 x23 x24 1 h109 Q)
  (mL_law_J553 L sc X393 X481 a1 a2 a3 a4 a5 a6 a7 a8 a9 a10 a11 x13 x14 a16 x17 x18 x19 x20 x22 x23 x24 0 h109 Q)
def mL_law_B481 (L : Nat) (sc : Int → Int) (X393 : Int → Int → Int → Int → Int → Zm → Prop) (X481 : Int → Int → Int → Int → Zm → Prop) (a1 : Nat) (a2 : Nat) (a3 : Nat) (a4 : Nat) (a5 : Nat) (a6 : Nat) (a7 : Nat) (a8 : Nat) (a9 : Nat) (a10 : Nat) (a11 : Nat) (x12 : Int) (x13 : Int) (x14 : Int) (a16 : Nat) (x17 : Int) (x18 : Int) (x19 : Int) (x20 : Int) (x22 : Int) (x23 : Int) (x24 : Int) (h : Zm) (Q : Int → Zm → Prop) : Prop :=
  cLt x24 7
  (cEq x12 0
    (mL_law_J594 L sc X393 a1 a2 a3 a4 a5 a6 a7 a8 a9 a10 a11 x12 x13 x14 a16 x17 x18 x19 x20 x22 x23 h Q)
    (cEq x24 6
      (mL_law_J524 L sc X393 X481 a1 a2 a3 a4 a5 a6 a7 a8 a9 a10 a11 x13 x14 a16 x17 x18 x19 x20 x22 x23 x24 h Q)
      (cRem x20 x13 fun v100 => cDiv x20 x13 fun v101 => cRc h 16 a1 <| mX6_rendered a1 v100 v101 x24 h fun v103 h102 => cLd h102 1 a9 x24 fun v104 => cEq v103 v104
        (mL_law_J524 L sc X393 X481 a1 a2 a3 a4 a5 a6 a7 a8 a9 a10 a11 x13 x14 a16 x17 x18 x19 x20 x22 x23 x24 h102 Q)
        (mL_law_J553 L sc X393 X481 a1 a2 a3 a4 a5 a6 a7 a8 a9 a10 a11 x13 x14 a16 x17 x18 x19 x20 x22 x23 x24 0 h102 Q))))
  (mL_law_J594 L sc X393 a1 a2 a3 a4 a5 a6 a7 a8 a9 a10 a11 x12 x13 x14 a16 x17 x18 x19 x20 x22 x23 h Q)
def mL_law_H481 (L : Nat) (sc : Int → Int) (X393 : Int → Int → Int → Int → Int → Zm → Prop) (a1 : Nat) (a2 : Nat) (a3 : Nat) (a4 : Nat) (a5 : Nat) (a6 : Nat) (a7 : Nat) (a8 : Nat) (a9 : Nat) (a10 : Nat) (a11 : Nat) (x12 : Int) (x13 : Int) (x14 : Int) (a16 : Nat) (x17 : Int) (x18 : Int) (x19 : Int) (x20 : Int) (x22 : Int) (x23 : Int) (x24 : Int) (h : Zm) (Q : Int → Zm → Prop) : Prop :=
  lfp4 (fun X481 x12 x22 x23 x24 h => mL_law_B481 L sc X393 X481 a1 a2 a3 a4 a5 a6 a7 a8 a9 a10 a11 x12 x13 x14 a16 x17 x18 x19 x20 x22 x23 x24 h Q) x12 x22 x23 x24 h
def mL_law_B393 (L : Nat) (sc : Int → Int) (X393 : Int → Int → Int → Int → Int → Zm → Prop) (a1 : Nat) (a2 : Nat) (a3 : Nat) (a4 : Nat) (a5 : Nat) (a6 : Nat) (a7 : Nat) (a8 : Nat) (a9 : Nat) (a10 : Nat) (a11 : Nat) (x12 : Int) (x13 : Int) (x14 : Int) (a16 : Nat) (x17 : Int) (x18 : Int) (x19 : Int) (x20 : Int) (h : Zm) (Q : Int → Zm → Prop) : Prop :=
  cLt x20 (x13 * x14)
  (cEq x12 0
    (mL_law_H704 L sc  a1 x12 x13 x14 a16 x17 x18 x19 0 h Q)
    (x20 < 144 ∧ (cRem x20 x13 fun v70 => cDiv x20 x13 fun v71 => mL_renders a2 a3 a4 a5 a6 a7 v70 v71 a9 h fun v73 h72 => mL_separates a9 a8 a10 a11 h72 fun h74 => cRem x20 x13 fun v75 => cDiv x20 x13 fun v76 => cRc h74 16 a1 <| mX6_touchedBy a1 v75 v76 h74 fun v78 h77 => cEq v78 v73
        (mL_law_H481 L sc X393 a1 a2 a3 a4 a5 a6 a7 a8 a9 a10 a11 1 x13 x14 a16 x17 x18 x19 x20 0 0 0 h77 Q)
        (mL_law_H481 L sc X393 a1 a2 a3 a4 a5 a6 a7 a8 a9 a10 a11 0 x13 x14 a16 x17 x18 x19 x20 0 0 0 h77 Q))))
  (mL_law_H704 L sc  a1 x12 x13 x14 a16 x17 x18 x19 0 h Q)
def mL_law_H393 (L : Nat) (sc : Int → Int)  (a1 : Nat) (a2 : Nat) (a3 : Nat) (a4 : Nat) (a5 : Nat) (a6 : Nat) (a7 : Nat) (a8 : Nat) (a9 : Nat) (a10 : Nat) (a11 : Nat) (x12 : Int) (x13 : Int) (x14 : Int) (a16 : Nat) (x17 : Int) (x18 : Int) (x19 : Int) (x20 : Int) (h : Zm) (Q : Int → Zm → Prop) : Prop :=
  lfp5 (fun X393 x12 x17 x18 x19 x20 h => mL_law_B393 L sc X393 a1 a2 a3 a4 a5 a6 a7 a8 a9 a10 a11 x12 x13 x14 a16 x17 x18 x19 x20 h Q) x12 x17 x18 x19 x20 h
def mL_law_J375 (L : Nat) (sc : Int → Int)  (a1 : Nat) (a2 : Nat) (a3 : Nat) (a4 : Nat) (a5 : Nat) (a6 : Nat) (a7 : Nat) (a8 : Nat) (a9 : Nat) (a10 : Nat) (a11 : Nat) (x12 : Int) (x13 : Int) (x14 : Int) (h : Zm) (Q : Int → Zm → Prop) : Prop :=
  cNw h 1 8 fun r68 h69 => mL_law_H393 L sc  a1 a2 a3 a4 a5 a6 a7 a8 a9 a10 a11 x12 x13 x14 r68 0 0 0 0 h69 Q
def mL_law_B327 (L : Nat) (sc : Int → Int) (X327 : Int → Int → Zm → Prop) (a0 : Nat) (a1 : Nat) (a2 : Nat) (a3 : Nat) (a4 : Nat) (a5 : Nat) (a6 : Nat) (a7 : Nat) (a8 : Nat) (a9 : Nat) (a10 : Nat) (a11 : Nat) (x12 : Int) (x13 : Int) (x14 : Int) (x15 : Int) (x16 : Int) (h : Zm) (Q : Int → Zm → Prop) : Prop :=
  cLt x16 x15
  (cEq x12 0
    (mL_law_J375 L sc  a1 a2 a3 a4 a5 a6 a7 a8 a9 a10 a11 x12 x13 x14 h Q)
    (mL_cell L sc a0 (6 + x16) h fun v64 h63 => cXor v64 (7919 * x16) fun v65 => mL_isAdded a1 a2 a3 a4 a5 a6 v65 h63 fun v67 h66 => X327 v67 (x16 + 1) h66))
  (mL_law_J375 L sc  a1 a2 a3 a4 a5 a6 a7 a8 a9 a10 a11 x12 x13 x14 h Q)
def mL_law_H327 (L : Nat) (sc : Int → Int)  (a0 : Nat) (a1 : Nat) (a2 : Nat) (a3 : Nat) (a4 : Nat) (a5 : Nat) (a6 : Nat) (a7 : Nat) (a8 : Nat) (a9 : Nat) (a10 : Nat) (a11 : Nat) (x12 : Int) (x13 : Int) (x14 : Int) (x15 : Int) (x16 : Int) (h : Zm) (Q : Int → Zm → Prop) : Prop :=
  lfp2 (fun X327 x12 x16 h => mL_law_B327 L sc X327 a0 a1 a2 a3 a4 a5 a6 a7 a8 a9 a10 a11 x12 x13 x14 x15 x16 h Q) x12 x16 h
def mL_law_J310 (L : Nat) (sc : Int → Int)  (a0 : Nat) (a1 : Nat) (a2 : Nat) (a3 : Nat) (a4 : Nat) (a5 : Nat) (a6 : Nat) (a7 : Nat) (a8 : Nat) (a9 : Nat) (a10 : Nat) (a11 : Nat) (x13 : Int) (x14 : Int) (s0 : Int) (h : Zm) (Q : Int → Zm → Prop) : Prop :=
  mL_cell L sc a0 5 h fun v60 h59 => mL_low v60 26 h59 fun v62 h61 => mL_law_H327 L sc  a0 a1 a2 a3 a4 a5 a6 a7 a8 a9 a10 a11 s0 x13 x14 v62 0 h61 Q
def mL_law_J256 (L : Nat) (sc : Int → Int)  (a0 : Nat) (a1 : Nat) (a2 : Nat) (a3 : Nat) (a4 : Nat) (a5 : Nat) (a6 : Nat) (a7 : Nat) (a8 : Nat) (a9 : Nat) (a10 : Nat) (a11 : Nat) (x12 : Int) (h : Zm) (Q : Int → Zm → Prop) : Prop :=
  mL_cell L sc a0 4 h fun v40 h39 => mL_low v40 12 h39 fun v42 h41 => mL_cell L sc a0 4 h41 fun v44 h43 => cShr v44 32 fun v45 => mL_low v45 12 h43 fun v47 h46 => cEq x12 0
  (mL_law_J310 L sc  a0 a1 a2 a3 a4 a5 a6 a7 a8 a9 a10 a11 (1 + v42) (1 + v47) 0 h46 Q)
  (cRc h46 16 a1 <| mX6_setSize a1 (1 + v42) (1 + v47) h46 fun v49 h48 => cEq v49 806
    (mL_law_J310 L sc  a0 a1 a2 a3 a4 a5 a6 a7 a8 a9 a10 a11 (1 + v42) (1 + v47) 1 h48 Q)
    (mL_law_J310 L sc  a0 a1 a2 a3 a4 a5 a6 a7 a8 a9 a10 a11 (1 + v42) (1 + v47) 0 h48 Q))
def mL_law_J240 (L : Nat) (sc : Int → Int) (X121 : Int → Int → Zm → Prop) (a0 : Nat) (a1 : Nat) (a2 : Nat) (a3 : Nat) (a4 : Nat) (a5 : Nat) (a6 : Nat) (a7 : Nat) (a8 : Nat) (a9 : Nat) (a10 : Nat) (a11 : Nat) (x13 : Int) (s0 : Int) (s1 : Int) (h : Zm) (Q : Int → Zm → Prop) : Prop :=
  cEq s0 s1
  (X121 1 (x13 + 1) h)
  (X121 0 (x13 + 1) h)
def mL_law_J186 (L : Nat) (sc : Int → Int) (X121 : Int → Int → Zm → Prop) (a0 : Nat) (a1 : Nat) (a2 : Nat) (a3 : Nat) (a4 : Nat) (a5 : Nat) (a6 : Nat) (a7 : Nat) (a8 : Nat) (a9 : Nat) (a10 : Nat) (a11 : Nat) (x13 : Int) (q0 : Nat) (s1 : Int) (s2 : Int) (s3 : Int) (h : Zm) (Q : Int → Zm → Prop) : Prop :=
  mL_low s2 s3 h fun v51 h50 => cSt h50 q0 s1 v51 fun h52 => cLd h52 1 a7 x13 fun v53 => cRc h52 16 a1 <| mX6_setKnockout a1 x13 v53 h52 fun v55 h54 => cEq v55 1
  (cLd h54 1 a8 x13 fun v56 => cRc h54 16 a1 <| mX6_set a1 x13 v56 h54 fun v58 h57 => cEq x13 0
    (mL_law_J240 L sc X121 a0 a1 a2 a3 a4 a5 a6 a7 a8 a9 a10 a11 x13 v58 50 h57 Q)
    (cEq x13 1
      (mL_law_J240 L sc X121 a0 a1 a2 a3 a4 a5 a6 a7 a8 a9 a10 a11 x13 v58 40 h57 Q)
      (mL_law_J240 L sc X121 a0 a1 a2 a3 a4 a5 a6 a7 a8 a9 a10 a11 x13 v58 700 h57 Q)))
  (X121 0 (x13 + 1) h54)
def mL_law_B121 (L : Nat) (sc : Int → Int) (X121 : Int → Int → Zm → Prop) (a0 : Nat) (a1 : Nat) (a2 : Nat) (a3 : Nat) (a4 : Nat) (a5 : Nat) (a6 : Nat) (a7 : Nat) (a8 : Nat) (a9 : Nat) (a10 : Nat) (a11 : Nat) (x12 : Int) (x13 : Int) (h : Zm) (Q : Int → Zm → Prop) : Prop :=
  cLt x13 3
  (cEq x12 0
    (mL_law_J256 L sc  a0 a1 a2 a3 a4 a5 a6 a7 a8 a9 a10 a11 x12 h Q)
    (mL_cell L sc a0 0 h fun v32 h31 => cShv fun v33 => mL_low v33 2 h31 fun v35 h34 => cSt h34 a7 x13 v35 fun h36 => mL_cell L sc a0 (1 + x13) h36 fun v38 h37 => cEq x13 0
      (mL_law_J186 L sc X121 a0 a1 a2 a3 a4 a5 a6 a7 a8 a9 a10 a11 x13 a8 x13 v38 101 h37 Q)
      (cEq x13 1
        (mL_law_J186 L sc X121 a0 a1 a2 a3 a4 a5 a6 a7 a8 a9 a10 a11 x13 a8 x13 v38 256 h37 Q)
        (mL_law_J186 L sc X121 a0 a1 a2 a3 a4 a5 a6 a7 a8 a9 a10 a11 x13 a8 x13 v38 1786 h37 Q))))
  (mL_law_J256 L sc  a0 a1 a2 a3 a4 a5 a6 a7 a8 a9 a10 a11 x12 h Q)
def mL_law_H121 (L : Nat) (sc : Int → Int)  (a0 : Nat) (a1 : Nat) (a2 : Nat) (a3 : Nat) (a4 : Nat) (a5 : Nat) (a6 : Nat) (a7 : Nat) (a8 : Nat) (a9 : Nat) (a10 : Nat) (a11 : Nat) (x12 : Int) (x13 : Int) (h : Zm) (Q : Int → Zm → Prop) : Prop :=
  lfp2 (fun X121 x12 x13 h => mL_law_B121 L sc X121 a0 a1 a2 a3 a4 a5 a6 a7 a8 a9 a10 a11 x12 x13 h Q) x12 x13 h
def mL_law (L : Nat) (sc : Int → Int) (a0 : Nat) (h : Zm) (Q : Int → Zm → Prop) : Prop :=
  cNw h 16 8 fun r1 h2 => cRc h2 16 r1 <| mX6_init r1 h2 fun h3 => cNw h3 1 24 fun r4 h5 => cNw h5 1 24 fun r6 h7 => cNw h7 1 24 fun r8 h9 => cNw h9 1 24 fun r10 h11 => cNw h11 1 24 fun r12 h13 => cNw h13 1 3 fun r14 h15 => cNw h15 1 3 fun r16 h17 => cNw h17 1 6 fun r18 h19 => cNw h19 1 7 fun r20 h21 => cNw h21 1 7 fun r22 h23 => mL_begins r4 r6 r8 r10 r12 h23 fun h24 => cRc h24 16 r1 <| mX6_ink r1 0 0 7 h24 fun v26 h25 => cEq v26 0
  (cRc h25 16 r1 <| mX6_rendered r1 7 5 0 h25 fun v28 h27 => cEq v28 255
    (cRc h27 16 r1 <| mX6_touchedBy r1 0 0 h27 fun v30 h29 => cEq v30 (-4)
      (mL_law_H121 L sc  a0 r1 r4 r6 r8 r10 r12 r14 r16 r18 r20 r22 1 0 h29 Q)
      (mL_law_H121 L sc  a0 r1 r4 r6 r8 r10 r12 r14 r16 r18 r20 r22 0 0 h29 Q))
    (mL_law_H121 L sc  a0 r1 r4 r6 r8 r10 r12 r14 r16 r18 r20 r22 0 0 h27 Q))
  (mL_law_H121 L sc  a0 r1 r4 r6 r8 r10 r12 r14 r16 r18 r20 r22 0 0 h25 Q)
section
variable {p : Program} {l : Launch} {e : Env} {s : State} {m : MethodId} {args : Array Value} {below : List Frame} {meth : Method} {c : Code} {D : Zd} {base : Nat}
set_option maxRecDepth 100000 in
set_option maxHeartbeats 4000000 in
theorem rL_law_B704 (hc : zOk p s m args meth c D cL_law 25 RL (some .boolean)) {a0 L : Nat} {sc : Int → Int} {Qf : State → Prop} {Q : Int → Zm → Prop} (hX0 : zScr s base L sc a0) (hR0 : ∀ (pc : Nat) (ρ : List (Option Zv)) (v : Int) (h : Zm), decode cL_law pc = .ok (.ireturn, 1) → Q v h → zW p l e room_1 s m args below meth c D base 25 Qf 622 6144 pc ρ [.inl v] h) {X704 : Int → Int → Zm → Prop} {a1 : Nat} {x12 : Int} {x13 : Int} {x14 : Int} {a16 : Nat} {x17 : Int} {x18 : Int} {x19 : Int} {x20 : Int} {h : Zm} (hX704 : ∀ (x12 : Int) (x20 : Int) (h : Zm), X704 x12 x20 h → zW p l e room_1 s m args below meth c D base 25 Qf 622 6144 704 [none, some (.inr (.inl a1)), none, none, none, none, none, none, none, none, none, none, some (.inl x12), some (.inl x13), some (.inl x14), none, some (.inr (.inl a16)), some (.inl x17), some (.inl x18), some (.inl x19), some (.inl x20), none, none, none, none] [] h) (H : mL_law_B704 L sc X704 a1 x12 x13 x14 a16 x17 x18 x19 x20 h Q) : zW p l e room_1 s m args below meth c D base 25 Qf 622 6144 704 [none, some (.inr (.inl a1)), none, none, none, none, none, none, none, none, none, none, some (.inl x12), some (.inl x13), some (.inl x14), none, some (.inr (.inl a16)), some (.inl x17), some (.inl x18), some (.inl x19), some (.inl x20), none, none, none, none] [] h := by
  unfold mL_law_B704 at H
  refine z_iload (pc := 704) hc dL_law_704 rfl ?_
  refine z_bipush (pc := 706) hc dL_law_706 (by decide) ?_
  refine z_icmp_ge (tgt := 743) (pc := 708) hc dL_law_708 rfl H (fun H => ?_) (fun H => ?_)
  · refine z_iload (pc := 711) hc dL_law_711 rfl ?_
    refine z_if_eq (tgt := 734) (pc := 713) hc dL_law_713 rfl H (fun H => ?_) (fun H => ?_)
    · refine z_iconst (pc := 734) hc dL_law_734 ?_
      refine z_istore (pc := 735) hc dL_law_735 (by decide) (ρ' := [none, some (.inr (.inl a1)), none, none, none, none, none, none, none, none, none, none, some (.inl 0), some (.inl x13), some (.inl x14), none, some (.inr (.inl a16)), some (.inl x17), some (.inl x18), some (.inl x19), some (.inl x20), none, none, none, none]) rfl rfl ?_
      refine z_iinc (pc := 737) hc dL_law_737 (by decide) rfl (ρ' := [none, some (.inr (.inl a1)), none, none, none, none, none, none, none, none, none, none, some (.inl 0), some (.inl x13), some (.inl x14), none, some (.inr (.inl a16)), some (.inl x17), some (.inl x18), some (.inl x19), some (.inl (x20 + 1)), none, none, none, none]) rfl rfl ?_
      refine z_goto (tgt := 704) (pc := 740) hc dL_law_740 rfl ?_
      refine z_cells (cells' := 622) (slots' := 6144) (by omega) (by omega) ?_
      exact hX704 _ _ _ H
    · refine z_aload_n (pc := 716) hc dL_law_716 rfl ?_
      refine z_iload (pc := 717) hc dL_law_717 rfl ?_
      refine z_calI (z_runV (pc := 719) (ci := 6) (T := TX6) (N := 8) hc dL_law_719 zw_RL_100 (metX6_coverage _ _ _ H.2) rfl (Nat.le_of_ble_eq_true rfl) ⟨Nat.le_of_ble_eq_true rfl, Nat.le_of_ble_eq_true rfl⟩ ⟨by exact Nat.le_of_ble_eq_true rfl, by exact Nat.le_of_ble_eq_true rfl⟩ rfl H.1) rfl ⟨rfl, rfl⟩ (fun v98 h97 H => ?_)
      refine z_aload (pc := 722) hc dL_law_722 rfl ?_
      refine z_iload (pc := 724) hc dL_law_724 rfl ?_
      refine z_iaload (pc := 726) hc dL_law_726 H (fun v99 H => ?_)
      refine z_icmp_ne (tgt := 734) (pc := 727) hc dL_law_727 rfl H (fun H => ?_) (fun H => ?_)
      · refine z_iconst (pc := 730) hc dL_law_730 ?_
        refine z_goto (tgt := 735) (pc := 731) hc dL_law_731 rfl ?_
        refine z_istore (pc := 735) hc dL_law_735 (by decide) (ρ' := [none, some (.inr (.inl a1)), none, none, none, none, none, none, none, none, none, none, some (.inl 1), some (.inl x13), some (.inl x14), none, some (.inr (.inl a16)), some (.inl x17), some (.inl x18), some (.inl x19), some (.inl x20), none, none, none, none]) rfl rfl ?_
        refine z_iinc (pc := 737) hc dL_law_737 (by decide) rfl (ρ' := [none, some (.inr (.inl a1)), none, none, none, none, none, none, none, none, none, none, some (.inl 1), some (.inl x13), some (.inl x14), none, some (.inr (.inl a16)), some (.inl x17), some (.inl x18), some (.inl x19), some (.inl (x20 + 1)), none, none, none, none]) rfl rfl ?_
        refine z_goto (tgt := 704) (pc := 740) hc dL_law_740 rfl ?_
        refine z_cells (cells' := 622) (slots' := 6144) (by omega) (by omega) ?_
        exact hX704 _ _ _ H
      · refine z_iconst (pc := 734) hc dL_law_734 ?_
        refine z_istore (pc := 735) hc dL_law_735 (by decide) (ρ' := [none, some (.inr (.inl a1)), none, none, none, none, none, none, none, none, none, none, some (.inl 0), some (.inl x13), some (.inl x14), none, some (.inr (.inl a16)), some (.inl x17), some (.inl x18), some (.inl x19), some (.inl x20), none, none, none, none]) rfl rfl ?_
        refine z_iinc (pc := 737) hc dL_law_737 (by decide) rfl (ρ' := [none, some (.inr (.inl a1)), none, none, none, none, none, none, none, none, none, none, some (.inl 0), some (.inl x13), some (.inl x14), none, some (.inr (.inl a16)), some (.inl x17), some (.inl x18), some (.inl x19), some (.inl (x20 + 1)), none, none, none, none]) rfl rfl ?_
        refine z_goto (tgt := 704) (pc := 740) hc dL_law_740 rfl ?_
        refine z_cells (cells' := 622) (slots' := 6144) (by omega) (by omega) ?_
        exact hX704 _ _ _ H
  · refine z_iload (pc := 743) hc dL_law_743 rfl ?_
    refine z_if_eq (tgt := 842) (pc := 745) hc dL_law_745 rfl H (fun H => ?_) (fun H => ?_)
    · refine z_iconst (pc := 842) hc dL_law_842 ?_
      exact hR0 _ _ _ _ dL_law_843 H
    · refine z_aload_n (pc := 748) hc dL_law_748 rfl ?_
      refine z_calI (z_runV (pc := 749) (ci := 6) (T := TX6) (N := 8) hc dL_law_749 zw_RL_103 (metX6_greatestSum _ _ _ H.2) rfl (Nat.le_of_ble_eq_true rfl) ⟨Nat.le_of_ble_eq_true rfl, Nat.le_of_ble_eq_true rfl⟩ ⟨by exact Nat.le_of_ble_eq_true rfl, by exact Nat.le_of_ble_eq_true rfl⟩ rfl H.1) rfl ⟨rfl, rfl⟩ (fun v80 h79 H => ?_)
      refine z_iload (pc := 752) hc dL_law_752 rfl ?_
      refine z_icmp_ne (tgt := 842) (pc := 754) hc dL_law_754 rfl H (fun H => ?_) (fun H => ?_)
      · refine z_aload_n (pc := 757) hc dL_law_757 rfl ?_
        refine z_calI (z_runV (pc := 758) (ci := 6) (T := TX6) (N := 8) hc dL_law_758 zw_RL_107 (metX6_neededLimit _ _ _ H.2) rfl (Nat.le_of_ble_eq_true rfl) ⟨Nat.le_of_ble_eq_true rfl, Nat.le_of_ble_eq_true rfl⟩ ⟨by exact Nat.le_of_ble_eq_true rfl, by exact Nat.le_of_ble_eq_true rfl⟩ rfl H.1) rfl ⟨rfl, rfl⟩ (fun v82 h81 H => ?_)
        refine z_iload (pc := 761) hc dL_law_761 rfl ?_
        refine z_icmp_ne (tgt := 842) (pc := 763) hc dL_law_763 rfl H (fun H => ?_) (fun H => ?_)
        · refine z_aload_n (pc := 766) hc dL_law_766 rfl ?_
          refine z_calI (z_runV (pc := 767) (ci := 6) (T := TX6) (N := 8) hc dL_law_767 zw_RL_110 (metX6_limitedPixels _ _ _ H.2) rfl (Nat.le_of_ble_eq_true rfl) ⟨Nat.le_of_ble_eq_true rfl, Nat.le_of_ble_eq_true rfl⟩ ⟨by exact Nat.le_of_ble_eq_true rfl, by exact Nat.le_of_ble_eq_true rfl⟩ rfl H.1) rfl ⟨rfl, rfl⟩ (fun v84 h83 H => ?_)
          refine z_iload (pc := 770) hc dL_law_770 rfl ?_
          refine z_icmp_ne (tgt := 842) (pc := 772) hc dL_law_772 rfl H (fun H => ?_) (fun H => ?_)
          · refine z_aload_n (pc := 775) hc dL_law_775 rfl ?_
            refine z_calI (z_runV (pc := 776) (ci := 6) (T := TX6) (N := 8) hc dL_law_776 zw_RL_113 (metX6_disorderedPixels _ _ _ H.2) rfl (Nat.le_of_ble_eq_true rfl) ⟨Nat.le_of_ble_eq_true rfl, Nat.le_of_ble_eq_true rfl⟩ ⟨by exact Nat.le_of_ble_eq_true rfl, by exact Nat.le_of_ble_eq_true rfl⟩ rfl H.1) rfl ⟨rfl, rfl⟩ (fun v86 h85 H => ?_)
            refine z_if_ne (tgt := 842) (pc := 779) hc dL_law_779 rfl H (fun H => ?_) (fun H => ?_)
            · refine z_aload_n (pc := 782) hc dL_law_782 rfl ?_
              refine z_iload (pc := 783) hc dL_law_783 rfl ?_
              refine z_iconst (pc := 785) hc dL_law_785 ?_
              refine z_iconst (pc := 786) hc dL_law_786 ?_
              refine z_calI (z_runV (pc := 787) (ci := 6) (T := TX6) (N := 8) hc dL_law_787 zw_RL_70 (metX6_rendered _ _ _ H.2) rfl (Nat.le_of_ble_eq_true rfl) ⟨Nat.le_of_ble_eq_true rfl, Nat.le_of_ble_eq_true rfl⟩ ⟨by exact Nat.le_of_ble_eq_true rfl, by exact Nat.le_of_ble_eq_true rfl⟩ rfl H.1) rfl ⟨rfl, rfl⟩ (fun v88 h87 H => ?_)
              refine z_iconst (pc := 790) hc dL_law_790 ?_
              refine z_icmp_ne (tgt := 842) (pc := 791) hc dL_law_791 rfl H (fun H => ?_) (fun H => ?_)
              · refine z_aload_n (pc := 794) hc dL_law_794 rfl ?_
                refine z_iconst (pc := 795) hc dL_law_795 ?_
                refine z_iload (pc := 796) hc dL_law_796 rfl ?_
                refine z_iconst (pc := 798) hc dL_law_798 ?_
                refine z_calI (z_runV (pc := 799) (ci := 6) (T := TX6) (N := 8) hc dL_law_799 zw_RL_67 (metX6_ink _ _ _ H.2) rfl (Nat.le_of_ble_eq_true rfl) ⟨Nat.le_of_ble_eq_true rfl, Nat.le_of_ble_eq_true rfl⟩ ⟨by exact Nat.le_of_ble_eq_true rfl, by exact Nat.le_of_ble_eq_true rfl⟩ rfl H.1) rfl ⟨rfl, rfl⟩ (fun v90 h89 H => ?_)
                refine z_iconst (pc := 802) hc dL_law_802 ?_
                refine z_icmp_ne (tgt := 842) (pc := 803) hc dL_law_803 rfl H (fun H => ?_) (fun H => ?_)
                · refine z_aload_n (pc := 806) hc dL_law_806 rfl ?_
                  refine z_iconst (pc := 807) hc dL_law_807 ?_
                  refine z_iconst (pc := 808) hc dL_law_808 ?_
                  refine z_calI (z_runV (pc := 809) (ci := 6) (T := TX6) (N := 8) hc dL_law_809 zw_RL_73 (metX6_touchedBy _ _ _ H.2) rfl (Nat.le_of_ble_eq_true rfl) ⟨Nat.le_of_ble_eq_true rfl, Nat.le_of_ble_eq_true rfl⟩ ⟨by exact Nat.le_of_ble_eq_true rfl, by exact Nat.le_of_ble_eq_true rfl⟩ rfl H.1) rfl ⟨rfl, rfl⟩ (fun v92 h91 H => ?_)
                  refine z_iconst (pc := 812) hc dL_law_812 ?_
                  refine z_icmp_ne (tgt := 842) (pc := 813) hc dL_law_813 rfl H (fun H => ?_) (fun H => ?_)
                  · refine z_aload_n (pc := 816) hc dL_law_816 rfl ?_
                    refine z_bipush (pc := 817) hc dL_law_817 (by decide) ?_
                    refine z_calI (z_runV (pc := 819) (ci := 6) (T := TX6) (N := 8) hc dL_law_819 zw_RL_100 (metX6_coverage _ _ _ H.2) rfl (Nat.le_of_ble_eq_true rfl) ⟨Nat.le_of_ble_eq_true rfl, Nat.le_of_ble_eq_true rfl⟩ ⟨by exact Nat.le_of_ble_eq_true rfl, by exact Nat.le_of_ble_eq_true rfl⟩ rfl H.1) rfl ⟨rfl, rfl⟩ (fun v94 h93 H => ?_)
                    refine z_iconst (pc := 822) hc dL_law_822 ?_
                    refine z_icmp_ne (tgt := 842) (pc := 823) hc dL_law_823 rfl H (fun H => ?_) (fun H => ?_)
                    · refine z_aload_n (pc := 826) hc dL_law_826 rfl ?_
                      refine z_iconst (pc := 827) hc dL_law_827 ?_
                      refine z_iconst (pc := 828) hc dL_law_828 ?_
                      refine z_bipush (pc := 829) hc dL_law_829 (by decide) ?_
                      refine z_calI (z_runV (pc := 831) (ci := 6) (T := TX6) (N := 8) hc dL_law_831 zw_RL_70 (metX6_rendered _ _ _ H.2) rfl (Nat.le_of_ble_eq_true rfl) ⟨Nat.le_of_ble_eq_true rfl, Nat.le_of_ble_eq_true rfl⟩ ⟨by exact Nat.le_of_ble_eq_true rfl, by exact Nat.le_of_ble_eq_true rfl⟩ rfl H.1) rfl ⟨rfl, rfl⟩ (fun v96 h95 H => ?_)
                      refine z_iconst (pc := 834) hc dL_law_834 ?_
                      refine z_icmp_ne (tgt := 842) (pc := 835) hc dL_law_835 rfl H (fun H => ?_) (fun H => ?_)
                      · refine z_iconst (pc := 838) hc dL_law_838 ?_
                        refine z_goto (tgt := 843) (pc := 839) hc dL_law_839 rfl ?_
                        exact hR0 _ _ _ _ dL_law_843 H
                      · refine z_iconst (pc := 842) hc dL_law_842 ?_
                        exact hR0 _ _ _ _ dL_law_843 H
                    · refine z_iconst (pc := 842) hc dL_law_842 ?_
                      exact hR0 _ _ _ _ dL_law_843 H
                  · refine z_iconst (pc := 842) hc dL_law_842 ?_
                    exact hR0 _ _ _ _ dL_law_843 H
                · refine z_iconst (pc := 842) hc dL_law_842 ?_
                  exact hR0 _ _ _ _ dL_law_843 H
              · refine z_iconst (pc := 842) hc dL_law_842 ?_
                exact hR0 _ _ _ _ dL_law_843 H
            · refine z_iconst (pc := 842) hc dL_law_842 ?_
              exact hR0 _ _ _ _ dL_law_843 H
          · refine z_iconst (pc := 842) hc dL_law_842 ?_
            exact hR0 _ _ _ _ dL_law_843 H
        · refine z_iconst (pc := 842) hc dL_law_842 ?_
          exact hR0 _ _ _ _ dL_law_843 H
      · refine z_iconst (pc := 842) hc dL_law_842 ?_
        exact hR0 _ _ _ _ dL_law_843 H
theorem rL_law_H704 (hc : zOk p s m args meth c D cL_law 25 RL (some .boolean)) {a0 L : Nat} {sc : Int → Int} {Qf : State → Prop} {Q : Int → Zm → Prop} (hX0 : zScr s base L sc a0) (hR0 : ∀ (pc : Nat) (ρ : List (Option Zv)) (v : Int) (h : Zm), decode cL_law pc = .ok (.ireturn, 1) → Q v h → zW p l e room_1 s m args below meth c D base 25 Qf 622 6144 pc ρ [.inl v] h)  {a1 : Nat} {x12 : Int} {x13 : Int} {x14 : Int} {a16 : Nat} {x17 : Int} {x18 : Int} {x19 : Int} {x20 : Int} {h : Zm}  (H : mL_law_H704 L sc  a1 x12 x13 x14 a16 x17 x18 x19 x20 h Q) : zW p l e room_1 s m args below meth c D base 25 Qf 622 6144 704 [none, some (.inr (.inl a1)), none, none, none, none, none, none, none, none, none, none, some (.inl x12), some (.inl x13), some (.inl x14), none, some (.inr (.inl a16)), some (.inl x17), some (.inl x18), some (.inl x19), some (.inl x20), none, none, none, none] [] h :=
  H (fun x12 x20 h => zW p l e room_1 s m args below meth c D base 25 Qf 622 6144 704 [none, some (.inr (.inl a1)), none, none, none, none, none, none, none, none, none, none, some (.inl x12), some (.inl x13), some (.inl x14), none, some (.inr (.inl a16)), some (.inl x17), some (.inl x18), some (.inl x19), some (.inl x20), none, none, none, none] [] h) (fun x12 x20 h H => rL_law_B704 hc hX0 hR0 (fun _ _ _ q => q) H)
set_option maxRecDepth 100000 in
set_option maxHeartbeats 4000000 in
theorem rL_law_J650 (hc : zOk p s m args meth c D cL_law 25 RL (some .boolean)) {a0 L : Nat} {sc : Int → Int} {Qf : State → Prop} {Q : Int → Zm → Prop} (hX0 : zScr s base L sc a0) (hR0 : ∀ (pc : Nat) (ρ : List (Option Zv)) (v : Int) (h : Zm), decode cL_law pc = .ok (.ireturn, 1) → Q v h → zW p l e room_1 s m args below meth c D base 25 Qf 622 6144 pc ρ [.inl v] h) {X393 : Int → Int → Int → Int → Int → Zm → Prop} {a1 : Nat} {a2 : Nat} {a3 : Nat} {a4 : Nat} {a5 : Nat} {a6 : Nat} {a7 : Nat} {a8 : Nat} {a9 : Nat} {a10 : Nat} {a11 : Nat} {x12 : Int} {x13 : Int} {x14 : Int} {a16 : Nat} {x17 : Int} {x18 : Int} {x20 : Int} {x22 : Int} {s0 : Int} {s1 : Int} {h : Zm} (hX393 : ∀ (x12 : Int) (x17 : Int) (x18 : Int) (x19 : Int) (x20 : Int) (h : Zm), 0 ≤ x20 ∧ x20 ≤ 144 → X393 x12 x17 x18 x19 x20 h → zW p l e room_1 s m args below meth c D base 25 Qf (478 + 1 * x20.toNat) (5712 + 3 * x20.toNat) 393 [none, some (.inr (.inl a1)), some (.inr (.inl a2)), some (.inr (.inl a3)), some (.inr (.inl a4)), some (.inr (.inl a5)), some (.inr (.inl a6)), some (.inr (.inl a7)), some (.inr (.inl a8)), some (.inr (.inl a9)), some (.inr (.inl a10)), some (.inr (.inl a11)), some (.inl x12), some (.inl x13), some (.inl x14), none, some (.inr (.inl a16)), some (.inl x17), some (.inl x18), some (.inl x19), some (.inl x20), none, none, none, none] [] h) (hg : 0 ≤ x20 ∧ x20 ≤ 143) (H : mL_law_J650 L sc X393 a1 a2 a3 a4 a5 a6 a7 a8 a9 a10 a11 x12 x13 x14 a16 x17 x18 x20 x22 s0 s1 h Q) : zW p l e room_1 s m args below meth c D base 25 Qf (479 + 1 * x20.toNat) (5715 + 3 * x20.toNat) 650 [none, some (.inr (.inl a1)), some (.inr (.inl a2)), some (.inr (.inl a3)), some (.inr (.inl a4)), some (.inr (.inl a5)), some (.inr (.inl a6)), some (.inr (.inl a7)), some (.inr (.inl a8)), some (.inr (.inl a9)), some (.inr (.inl a10)), some (.inr (.inl a11)), some (.inl x12), some (.inl x13), some (.inl x14), none, some (.inr (.inl a16)), some (.inl x17), some (.inl x18), none, some (.inl x20), none, some (.inl x22), none, none] [.inl s1, .inl s0] h := by
  unfold mL_law_J650 at H
  refine z_iadd (pc := 650) hc dL_law_650 ?_
  refine z_istore (pc := 651) hc dL_law_651 (by decide) (ρ' := [none, some (.inr (.inl a1)), some (.inr (.inl a2)), some (.inr (.inl a3)), some (.inr (.inl a4)), some (.inr (.inl a5)), some (.inr (.inl a6)), some (.inr (.inl a7)), some (.inr (.inl a8)), some (.inr (.inl a9)), some (.inr (.inl a10)), some (.inr (.inl a11)), some (.inl x12), some (.inl x13), some (.inl x14), none, some (.inr (.inl a16)), some (.inl x17), some (.inl x18), some (.inl (s0 + s1)), some (.inl x20), none, some (.inl x22), none, none]) rfl rfl ?_
  refine z_iload (pc := 653) hc dL_law_653 rfl ?_
  refine z_if_eq (tgt := 692) (pc := 655) hc dL_law_655 rfl H (fun H => ?_) (fun H => ?_)
  · refine z_iconst (pc := 692) hc dL_law_692 ?_
    refine z_istore (pc := 693) hc dL_law_693 (by decide) (ρ' := [none, some (.inr (.inl a1)), some (.inr (.inl a2)), some (.inr (.inl a3)), some (.inr (.inl a4)), some (.inr (.inl a5)), some (.inr (.inl a6)), some (.inr (.inl a7)), some (.inr (.inl a8)), some (.inr (.inl a9)), some (.inr (.inl a10)), some (.inr (.inl a11)), some (.inl 0), some (.inl x13), some (.inl x14), none, some (.inr (.inl a16)), some (.inl x17), some (.inl x18), some (.inl (s0 + s1)), some (.inl x20), none, some (.inl x22), none, none]) rfl rfl ?_
    refine z_iinc (pc := 695) hc dL_law_695 (by decide) rfl (ρ' := [none, some (.inr (.inl a1)), some (.inr (.inl a2)), some (.inr (.inl a3)), some (.inr (.inl a4)), some (.inr (.inl a5)), some (.inr (.inl a6)), some (.inr (.inl a7)), some (.inr (.inl a8)), some (.inr (.inl a9)), some (.inr (.inl a10)), some (.inr (.inl a11)), some (.inl 0), some (.inl x13), some (.inl x14), none, some (.inr (.inl a16)), some (.inl x17), some (.inl x18), some (.inl (s0 + s1)), some (.inl (x20 + 1)), none, some (.inl x22), none, none]) rfl rfl ?_
    refine z_goto (tgt := 393) (pc := 698) hc dL_law_698 rfl ?_
    refine z_mask [false, true, true, true, true, true, true, true, true, true, true, true, true, true, true, false, true, true, true, true, true, false, false, false, false] (ρ' := [none, some (.inr (.inl a1)), some (.inr (.inl a2)), some (.inr (.inl a3)), some (.inr (.inl a4)), some (.inr (.inl a5)), some (.inr (.inl a6)), some (.inr (.inl a7)), some (.inr (.inl a8)), some (.inr (.inl a9)), some (.inr (.inl a10)), some (.inr (.inl a11)), some (.inl 0), some (.inl x13), some (.inl x14), none, some (.inr (.inl a16)), some (.inl x17), some (.inl x18), some (.inl (s0 + s1)), some (.inl (x20 + 1)), none, none, none, none]) rfl ?_
    refine z_cells (cells' := 478 + 1 * ((x20 + 1) : Int).toNat) (slots' := 5712 + 3 * ((x20 + 1) : Int).toNat) (by omega) (by omega) ?_
    exact hX393 _ _ _ _ _ _ ⟨by omega, by omega⟩ H
  · refine z_aload_n (pc := 658) hc dL_law_658 rfl ?_
    refine z_iload (pc := 659) hc dL_law_659 rfl ?_
    refine z_iload (pc := 661) hc dL_law_661 rfl ?_
    refine z_irem (pc := 663) hc dL_law_663 H (fun v117 H => ?_)
    refine z_iload (pc := 664) hc dL_law_664 rfl ?_
    refine z_iload (pc := 666) hc dL_law_666 rfl ?_
    refine z_idiv (pc := 668) hc dL_law_668 H (fun v118 H => ?_)
    refine z_bipush (pc := 669) hc dL_law_669 (by decide) ?_
    refine z_calI (z_runV (pc := 671) (ci := 6) (T := TX6) (N := 8) hc dL_law_671 zw_RL_67 (metX6_ink _ _ _ H.2) rfl (Nat.le_of_ble_eq_true rfl) ⟨Nat.le_of_ble_eq_true rfl, Nat.le_of_ble_eq_true rfl⟩ ⟨by (show _ + 0 ≤ 1137197; omega), by (show _ + 0 ≤ 5690656; omega)⟩ rfl H.1) rfl ⟨rfl, rfl⟩ (fun v120 h119 H => ?_)
    refine z_iload (pc := 674) hc dL_law_674 rfl ?_
    refine z_icmp_ne (tgt := 692) (pc := 676) hc dL_law_676 rfl H (fun H => ?_) (fun H => ?_)
    · refine z_iload (pc := 679) hc dL_law_679 rfl ?_
      refine z_aload (pc := 681) hc dL_law_681 rfl ?_
      refine z_iconst (pc := 683) hc dL_law_683 ?_
      refine z_iaload (pc := 684) hc dL_law_684 H (fun v121 H => ?_)
      refine z_icmp_gt (tgt := 692) (pc := 685) hc dL_law_685 rfl H (fun H => ?_) (fun H => ?_)
      · refine z_iconst (pc := 688) hc dL_law_688 ?_
        refine z_goto (tgt := 693) (pc := 689) hc dL_law_689 rfl ?_
        refine z_istore (pc := 693) hc dL_law_693 (by decide) (ρ' := [none, some (.inr (.inl a1)), some (.inr (.inl a2)), some (.inr (.inl a3)), some (.inr (.inl a4)), some (.inr (.inl a5)), some (.inr (.inl a6)), some (.inr (.inl a7)), some (.inr (.inl a8)), some (.inr (.inl a9)), some (.inr (.inl a10)), some (.inr (.inl a11)), some (.inl 1), some (.inl x13), some (.inl x14), none, some (.inr (.inl a16)), some (.inl x17), some (.inl x18), some (.inl (s0 + s1)), some (.inl x20), none, some (.inl x22), none, none]) rfl rfl ?_
        refine z_iinc (pc := 695) hc dL_law_695 (by decide) rfl (ρ' := [none, some (.inr (.inl a1)), some (.inr (.inl a2)), some (.inr (.inl a3)), some (.inr (.inl a4)), some (.inr (.inl a5)), some (.inr (.inl a6)), some (.inr (.inl a7)), some (.inr (.inl a8)), some (.inr (.inl a9)), some (.inr (.inl a10)), some (.inr (.inl a11)), some (.inl 1), some (.inl x13), some (.inl x14), none, some (.inr (.inl a16)), some (.inl x17), some (.inl x18), some (.inl (s0 + s1)), some (.inl (x20 + 1)), none, some (.inl x22), none, none]) rfl rfl ?_
        refine z_goto (tgt := 393) (pc := 698) hc dL_law_698 rfl ?_
        refine z_mask [false, true, true, true, true, true, true, true, true, true, true, true, true, true, true, false, true, true, true, true, true, false, false, false, false] (ρ' := [none, some (.inr (.inl a1)), some (.inr (.inl a2)), some (.inr (.inl a3)), some (.inr (.inl a4)), some (.inr (.inl a5)), some (.inr (.inl a6)), some (.inr (.inl a7)), some (.inr (.inl a8)), some (.inr (.inl a9)), some (.inr (.inl a10)), some (.inr (.inl a11)), some (.inl 1), some (.inl x13), some (.inl x14), none, some (.inr (.inl a16)), some (.inl x17), some (.inl x18), some (.inl (s0 + s1)), some (.inl (x20 + 1)), none, none, none, none]) rfl ?_
        refine z_cells (cells' := 478 + 1 * ((x20 + 1) : Int).toNat) (slots' := 5712 + 3 * ((x20 + 1) : Int).toNat) (by omega) (by omega) ?_
        exact hX393 _ _ _ _ _ _ ⟨by omega, by omega⟩ H
      · refine z_iconst (pc := 692) hc dL_law_692 ?_
        refine z_istore (pc := 693) hc dL_law_693 (by decide) (ρ' := [none, some (.inr (.inl a1)), some (.inr (.inl a2)), some (.inr (.inl a3)), some (.inr (.inl a4)), some (.inr (.inl a5)), some (.inr (.inl a6)), some (.inr (.inl a7)), some (.inr (.inl a8)), some (.inr (.inl a9)), some (.inr (.inl a10)), some (.inr (.inl a11)), some (.inl 0), some (.inl x13), some (.inl x14), none, some (.inr (.inl a16)), some (.inl x17), some (.inl x18), some (.inl (s0 + s1)), some (.inl x20), none, some (.inl x22), none, none]) rfl rfl ?_
        refine z_iinc (pc := 695) hc dL_law_695 (by decide) rfl (ρ' := [none, some (.inr (.inl a1)), some (.inr (.inl a2)), some (.inr (.inl a3)), some (.inr (.inl a4)), some (.inr (.inl a5)), some (.inr (.inl a6)), some (.inr (.inl a7)), some (.inr (.inl a8)), some (.inr (.inl a9)), some (.inr (.inl a10)), some (.inr (.inl a11)), some (.inl 0), some (.inl x13), some (.inl x14), none, some (.inr (.inl a16)), some (.inl x17), some (.inl x18), some (.inl (s0 + s1)), some (.inl (x20 + 1)), none, some (.inl x22), none, none]) rfl rfl ?_
        refine z_goto (tgt := 393) (pc := 698) hc dL_law_698 rfl ?_
        refine z_mask [false, true, true, true, true, true, true, true, true, true, true, true, true, true, true, false, true, true, true, true, true, false, false, false, false] (ρ' := [none, some (.inr (.inl a1)), some (.inr (.inl a2)), some (.inr (.inl a3)), some (.inr (.inl a4)), some (.inr (.inl a5)), some (.inr (.inl a6)), some (.inr (.inl a7)), some (.inr (.inl a8)), some (.inr (.inl a9)), some (.inr (.inl a10)), some (.inr (.inl a11)), some (.inl 0), some (.inl x13), some (.inl x14), none, some (.inr (.inl a16)), some (.inl x17), some (.inl x18), some (.inl (s0 + s1)), some (.inl (x20 + 1)), none, none, none, none]) rfl ?_
        refine z_cells (cells' := 478 + 1 * ((x20 + 1) : Int).toNat) (slots' := 5712 + 3 * ((x20 + 1) : Int).toNat) (by omega) (by omega) ?_
        exact hX393 _ _ _ _ _ _ ⟨by omega, by omega⟩ H
    · refine z_iconst (pc := 692) hc dL_law_692 ?_
      refine z_istore (pc := 693) hc dL_law_693 (by decide) (ρ' := [none, some (.inr (.inl a1)), some (.inr (.inl a2)), some (.inr (.inl a3)), some (.inr (.inl a4)), some (.inr (.inl a5)), some (.inr (.inl a6)), some (.inr (.inl a7)), some (.inr (.inl a8)), some (.inr (.inl a9)), some (.inr (.inl a10)), some (.inr (.inl a11)), some (.inl 0), some (.inl x13), some (.inl x14), none, some (.inr (.inl a16)), some (.inl x17), some (.inl x18), some (.inl (s0 + s1)), some (.inl x20), none, some (.inl x22), none, none]) rfl rfl ?_
      refine z_iinc (pc := 695) hc dL_law_695 (by decide) rfl (ρ' := [none, some (.inr (.inl a1)), some (.inr (.inl a2)), some (.inr (.inl a3)), some (.inr (.inl a4)), some (.inr (.inl a5)), some (.inr (.inl a6)), some (.inr (.inl a7)), some (.inr (.inl a8)), some (.inr (.inl a9)), some (.inr (.inl a10)), some (.inr (.inl a11)), some (.inl 0), some (.inl x13), some (.inl x14), none, some (.inr (.inl a16)), some (.inl x17), some (.inl x18), some (.inl (s0 + s1)), some (.inl (x20 + 1)), none, some (.inl x22), none, none]) rfl rfl ?_
      refine z_goto (tgt := 393) (pc := 698) hc dL_law_698 rfl ?_
      refine z_mask [false, true, true, true, true, true, true, true, true, true, true, true, true, true, true, false, true, true, true, true, true, false, false, false, false] (ρ' := [none, some (.inr (.inl a1)), some (.inr (.inl a2)), some (.inr (.inl a3)), some (.inr (.inl a4)), some (.inr (.inl a5)), some (.inr (.inl a6)), some (.inr (.inl a7)), some (.inr (.inl a8)), some (.inr (.inl a9)), some (.inr (.inl a10)), some (.inr (.inl a11)), some (.inl 0), some (.inl x13), some (.inl x14), none, some (.inr (.inl a16)), some (.inl x17), some (.inl x18), some (.inl (s0 + s1)), some (.inl (x20 + 1)), none, none, none, none]) rfl ?_
      refine z_cells (cells' := 478 + 1 * ((x20 + 1) : Int).toNat) (slots' := 5712 + 3 * ((x20 + 1) : Int).toNat) (by omega) (by omega) ?_
      exact hX393 _ _ _ _ _ _ ⟨by omega, by omega⟩ H
set_option maxRecDepth 100000 in
set_option maxHeartbeats 4000000 in
theorem rL_law_J634 (hc : zOk p s m args meth c D cL_law 25 RL (some .boolean)) {a0 L : Nat} {sc : Int → Int} {Qf : State → Prop} {Q : Int → Zm → Prop} (hX0 : zScr s base L sc a0) (hR0 : ∀ (pc : Nat) (ρ : List (Option Zv)) (v : Int) (h : Zm), decode cL_law pc = .ok (.ireturn, 1) → Q v h → zW p l e room_1 s m args below meth c D base 25 Qf 622 6144 pc ρ [.inl v] h) {X393 : Int → Int → Int → Int → Int → Zm → Prop} {a1 : Nat} {a2 : Nat} {a3 : Nat} {a4 : Nat} {a5 : Nat} {a6 : Nat} {a7 : Nat} {a8 : Nat} {a9 : Nat} {a10 : Nat} {a11 : Nat} {x12 : Int} {x13 : Int} {x14 : Int} {a16 : Nat} {x17 : Int} {x19 : Int} {x20 : Int} {x22 : Int} {x23 : Int} {s0 : Int} {h : Zm} (hX393 : ∀ (x12 : Int) (x17 : Int) (x18 : Int) (x19 : Int) (x20 : Int) (h : Zm), 0 ≤ x20 ∧ x20 ≤ 144 → X393 x12 x17 x18 x19 x20 h → zW p l e room_1 s m args below meth c D base 25 Qf (478 + 1 * x20.toNat) (5712 + 3 * x20.toNat) 393 [none, some (.inr (.inl a1)), some (.inr (.inl a2)), some (.inr (.inl a3)), some (.inr (.inl a4)), some (.inr (.inl a5)), some (.inr (.inl a6)), some (.inr (.inl a7)), some (.inr (.inl a8)), some (.inr (.inl a9)), some (.inr (.inl a10)), some (.inr (.inl a11)), some (.inl x12), some (.inl x13), some (.inl x14), none, some (.inr (.inl a16)), some (.inl x17), some (.inl x18), some (.inl x19), some (.inl x20), none, none, none, none] [] h) (hg : 0 ≤ x20 ∧ x20 ≤ 143) (H : mL_law_J634 L sc X393 a1 a2 a3 a4 a5 a6 a7 a8 a9 a10 a11 x12 x13 x14 a16 x17 x19 x20 x22 x23 s0 h Q) : zW p l e room_1 s m args below meth c D base 25 Qf (479 + 1 * x20.toNat) (5715 + 3 * x20.toNat) 634 [none, some (.inr (.inl a1)), some (.inr (.inl a2)), some (.inr (.inl a3)), some (.inr (.inl a4)), some (.inr (.inl a5)), some (.inr (.inl a6)), some (.inr (.inl a7)), some (.inr (.inl a8)), some (.inr (.inl a9)), some (.inr (.inl a10)), some (.inr (.inl a11)), some (.inl x12), some (.inl x13), some (.inl x14), none, some (.inr (.inl a16)), some (.inl x17), none, some (.inl x19), some (.inl x20), none, some (.inl x22), some (.inl x23), none] [.inl s0] h := by
  unfold mL_law_J634 at H
  refine z_istore (pc := 634) hc dL_law_634 (by decide) (ρ' := [none, some (.inr (.inl a1)), some (.inr (.inl a2)), some (.inr (.inl a3)), some (.inr (.inl a4)), some (.inr (.inl a5)), some (.inr (.inl a6)), some (.inr (.inl a7)), some (.inr (.inl a8)), some (.inr (.inl a9)), some (.inr (.inl a10)), some (.inr (.inl a11)), some (.inl x12), some (.inl x13), some (.inl x14), none, some (.inr (.inl a16)), some (.inl x17), some (.inl s0), some (.inl x19), some (.inl x20), none, some (.inl x22), some (.inl x23), none]) rfl rfl ?_
  refine z_iload (pc := 636) hc dL_law_636 rfl ?_
  refine z_iload (pc := 638) hc dL_law_638 rfl ?_
  refine z_iload (pc := 640) hc dL_law_640 rfl ?_
  refine z_icmp_ge (tgt := 649) (pc := 642) hc dL_law_642 rfl H (fun H => ?_) (fun H => ?_)
  · refine z_iconst (pc := 645) hc dL_law_645 ?_
    refine z_goto (tgt := 650) (pc := 646) hc dL_law_646 rfl ?_
    refine z_mask [false, true, true, true, true, true, true, true, true, true, true, true, true, true, true, false, true, true, true, false, true, false, true, false, false] (ρ' := [none, some (.inr (.inl a1)), some (.inr (.inl a2)), some (.inr (.inl a3)), some (.inr (.inl a4)), some (.inr (.inl a5)), some (.inr (.inl a6)), some (.inr (.inl a7)), some (.inr (.inl a8)), some (.inr (.inl a9)), some (.inr (.inl a10)), some (.inr (.inl a11)), some (.inl x12), some (.inl x13), some (.inl x14), none, some (.inr (.inl a16)), some (.inl x17), some (.inl s0), none, some (.inl x20), none, some (.inl x22), none, none]) rfl ?_
    refine z_cells (cells' := 479 + 1 * (x20 : Int).toNat) (slots' := 5715 + 3 * (x20 : Int).toNat) (by omega) (by omega) ?_
    exact rL_law_J650 hc hX0 hR0 hX393 ⟨by omega, by omega⟩ H
  · refine z_iconst (pc := 649) hc dL_law_649 ?_
    refine z_mask [false, true, true, true, true, true, true, true, true, true, true, true, true, true, true, false, true, true, true, false, true, false, true, false, false] (ρ' := [none, some (.inr (.inl a1)), some (.inr (.inl a2)), some (.inr (.inl a3)), some (.inr (.inl a4)), some (.inr (.inl a5)), some (.inr (.inl a6)), some (.inr (.inl a7)), some (.inr (.inl a8)), some (.inr (.inl a9)), some (.inr (.inl a10)), some (.inr (.inl a11)), some (.inl x12), some (.inl x13), some (.inl x14), none, some (.inr (.inl a16)), some (.inl x17), some (.inl s0), none, some (.inl x20), none, some (.inl x22), none, none]) rfl ?_
    refine z_cells (cells' := 479 + 1 * (x20 : Int).toNat) (slots' := 5715 + 3 * (x20 : Int).toNat) (by omega) (by omega) ?_
    exact rL_law_J650 hc hX0 hR0 hX393 ⟨by omega, by omega⟩ H
set_option maxRecDepth 100000 in
set_option maxHeartbeats 4000000 in
theorem rL_law_J594 (hc : zOk p s m args meth c D cL_law 25 RL (some .boolean)) {a0 L : Nat} {sc : Int → Int} {Qf : State → Prop} {Q : Int → Zm → Prop} (hX0 : zScr s base L sc a0) (hR0 : ∀ (pc : Nat) (ρ : List (Option Zv)) (v : Int) (h : Zm), decode cL_law pc = .ok (.ireturn, 1) → Q v h → zW p l e room_1 s m args below meth c D base 25 Qf 622 6144 pc ρ [.inl v] h) {X393 : Int → Int → Int → Int → Int → Zm → Prop} {a1 : Nat} {a2 : Nat} {a3 : Nat} {a4 : Nat} {a5 : Nat} {a6 : Nat} {a7 : Nat} {a8 : Nat} {a9 : Nat} {a10 : Nat} {a11 : Nat} {x12 : Int} {x13 : Int} {x14 : Int} {a16 : Nat} {x17 : Int} {x18 : Int} {x19 : Int} {x20 : Int} {x22 : Int} {x23 : Int} {h : Zm} (hX393 : ∀ (x12 : Int) (x17 : Int) (x18 : Int) (x19 : Int) (x20 : Int) (h : Zm), 0 ≤ x20 ∧ x20 ≤ 144 → X393 x12 x17 x18 x19 x20 h → zW p l e room_1 s m args below meth c D base 25 Qf (478 + 1 * x20.toNat) (5712 + 3 * x20.toNat) 393 [none, some (.inr (.inl a1)), some (.inr (.inl a2)), some (.inr (.inl a3)), some (.inr (.inl a4)), some (.inr (.inl a5)), some (.inr (.inl a6)), some (.inr (.inl a7)), some (.inr (.inl a8)), some (.inr (.inl a9)), some (.inr (.inl a10)), some (.inr (.inl a11)), some (.inl x12), some (.inl x13), some (.inl x14), none, some (.inr (.inl a16)), some (.inl x17), some (.inl x18), some (.inl x19), some (.inl x20), none, none, none, none] [] h) (hg : 0 ≤ x20 ∧ x20 ≤ 143) (H : mL_law_J594 L sc X393 a1 a2 a3 a4 a5 a6 a7 a8 a9 a10 a11 x12 x13 x14 a16 x17 x18 x19 x20 x22 x23 h Q) : zW p l e room_1 s m args below meth c D base 25 Qf (479 + 1 * x20.toNat) (5715 + 3 * x20.toNat) 594 [none, some (.inr (.inl a1)), some (.inr (.inl a2)), some (.inr (.inl a3)), some (.inr (.inl a4)), some (.inr (.inl a5)), some (.inr (.inl a6)), some (.inr (.inl a7)), some (.inr (.inl a8)), some (.inr (.inl a9)), some (.inr (.inl a10)), some (.inr (.inl a11)), some (.inl x12), some (.inl x13), some (.inl x14), none, some (.inr (.inl a16)), some (.inl x17), some (.inl x18), some (.inl x19), some (.inl x20), none, some (.inl x22), some (.inl x23), none] [] h := by
  unfold mL_law_J594 at H
  refine z_aload (pc := 594) hc dL_law_594 rfl ?_
  refine z_bipush (pc := 596) hc dL_law_596 (by decide) ?_
  refine z_dup2 (pc := 598) hc dL_law_598 rfl rfl ?_
  refine z_iaload (pc := 599) hc dL_law_599 H (fun v105 H => ?_)
  refine z_iload (pc := 600) hc dL_law_600 rfl ?_
  refine z_iadd (pc := 602) hc dL_law_602 ?_
  refine z_iastore (pc := 603) hc dL_law_603 H (fun h106 H => ?_)
  refine z_iload (pc := 604) hc dL_law_604 rfl ?_
  refine z_iload (pc := 606) hc dL_law_606 rfl ?_
  refine z_icmp_le (tgt := 616) (pc := 608) hc dL_law_608 rfl H (fun H => ?_) (fun H => ?_)
  · refine z_iload (pc := 616) hc dL_law_616 rfl ?_
    refine z_istore (pc := 618) hc dL_law_618 (by decide) (ρ' := [none, some (.inr (.inl a1)), some (.inr (.inl a2)), some (.inr (.inl a3)), some (.inr (.inl a4)), some (.inr (.inl a5)), some (.inr (.inl a6)), some (.inr (.inl a7)), some (.inr (.inl a8)), some (.inr (.inl a9)), some (.inr (.inl a10)), some (.inr (.inl a11)), some (.inl x12), some (.inl x13), some (.inl x14), none, some (.inr (.inl a16)), some (.inl x17), some (.inl x18), some (.inl x19), some (.inl x20), none, some (.inl x22), some (.inl x23), none]) rfl rfl ?_
    refine z_iload (pc := 620) hc dL_law_620 rfl ?_
    refine z_iload (pc := 622) hc dL_law_622 rfl ?_
    refine z_icmp_le (tgt := 632) (pc := 624) hc dL_law_624 rfl H (fun H => ?_) (fun H => ?_)
    · refine z_iload (pc := 632) hc dL_law_632 rfl ?_
      refine z_mask [false, true, true, true, true, true, true, true, true, true, true, true, true, true, true, false, true, true, false, true, true, false, true, true, false] (ρ' := [none, some (.inr (.inl a1)), some (.inr (.inl a2)), some (.inr (.inl a3)), some (.inr (.inl a4)), some (.inr (.inl a5)), some (.inr (.inl a6)), some (.inr (.inl a7)), some (.inr (.inl a8)), some (.inr (.inl a9)), some (.inr (.inl a10)), some (.inr (.inl a11)), some (.inl x12), some (.inl x13), some (.inl x14), none, some (.inr (.inl a16)), some (.inl x17), none, some (.inl x19), some (.inl x20), none, some (.inl x22), some (.inl x23), none]) rfl ?_
      refine z_cells (cells' := 479 + 1 * (x20 : Int).toNat) (slots' := 5715 + 3 * (x20 : Int).toNat) (by omega) (by omega) ?_
      exact rL_law_J634 hc hX0 hR0 hX393 ⟨by omega, by omega⟩ H
    · refine z_iload (pc := 627) hc dL_law_627 rfl ?_
      refine z_goto (tgt := 634) (pc := 629) hc dL_law_629 rfl ?_
      refine z_mask [false, true, true, true, true, true, true, true, true, true, true, true, true, true, true, false, true, true, false, true, true, false, true, true, false] (ρ' := [none, some (.inr (.inl a1)), some (.inr (.inl a2)), some (.inr (.inl a3)), some (.inr (.inl a4)), some (.inr (.inl a5)), some (.inr (.inl a6)), some (.inr (.inl a7)), some (.inr (.inl a8)), some (.inr (.inl a9)), some (.inr (.inl a10)), some (.inr (.inl a11)), some (.inl x12), some (.inl x13), some (.inl x14), none, some (.inr (.inl a16)), some (.inl x17), none, some (.inl x19), some (.inl x20), none, some (.inl x22), some (.inl x23), none]) rfl ?_
      refine z_cells (cells' := 479 + 1 * (x20 : Int).toNat) (slots' := 5715 + 3 * (x20 : Int).toNat) (by omega) (by omega) ?_
      exact rL_law_J634 hc hX0 hR0 hX393 ⟨by omega, by omega⟩ H
  · refine z_iload (pc := 611) hc dL_law_611 rfl ?_
    refine z_goto (tgt := 618) (pc := 613) hc dL_law_613 rfl ?_
    refine z_istore (pc := 618) hc dL_law_618 (by decide) (ρ' := [none, some (.inr (.inl a1)), some (.inr (.inl a2)), some (.inr (.inl a3)), some (.inr (.inl a4)), some (.inr (.inl a5)), some (.inr (.inl a6)), some (.inr (.inl a7)), some (.inr (.inl a8)), some (.inr (.inl a9)), some (.inr (.inl a10)), some (.inr (.inl a11)), some (.inl x12), some (.inl x13), some (.inl x14), none, some (.inr (.inl a16)), some (.inl x22), some (.inl x18), some (.inl x19), some (.inl x20), none, some (.inl x22), some (.inl x23), none]) rfl rfl ?_
    refine z_iload (pc := 620) hc dL_law_620 rfl ?_
    refine z_iload (pc := 622) hc dL_law_622 rfl ?_
    refine z_icmp_le (tgt := 632) (pc := 624) hc dL_law_624 rfl H (fun H => ?_) (fun H => ?_)
    · refine z_iload (pc := 632) hc dL_law_632 rfl ?_
      refine z_mask [false, true, true, true, true, true, true, true, true, true, true, true, true, true, true, false, true, true, false, true, true, false, true, true, false] (ρ' := [none, some (.inr (.inl a1)), some (.inr (.inl a2)), some (.inr (.inl a3)), some (.inr (.inl a4)), some (.inr (.inl a5)), some (.inr (.inl a6)), some (.inr (.inl a7)), some (.inr (.inl a8)), some (.inr (.inl a9)), some (.inr (.inl a10)), some (.inr (.inl a11)), some (.inl x12), some (.inl x13), some (.inl x14), none, some (.inr (.inl a16)), some (.inl x22), none, some (.inl x19), some (.inl x20), none, some (.inl x22), some (.inl x23), none]) rfl ?_
      refine z_cells (cells' := 479 + 1 * (x20 : Int).toNat) (slots' := 5715 + 3 * (x20 : Int).toNat) (by omega) (by omega) ?_
      exact rL_law_J634 hc hX0 hR0 hX393 ⟨by omega, by omega⟩ H
    · refine z_iload (pc := 627) hc dL_law_627 rfl ?_
      refine z_goto (tgt := 634) (pc := 629) hc dL_law_629 rfl ?_
      refine z_mask [false, true, true, true, true, true, true, true, true, true, true, true, true, true, true, false, true, true, false, true, true, false, true, true, false] (ρ' := [none, some (.inr (.inl a1)), some (.inr (.inl a2)), some (.inr (.inl a3)), some (.inr (.inl a4)), some (.inr (.inl a5)), some (.inr (.inl a6)), some (.inr (.inl a7)), some (.inr (.inl a8)), some (.inr (.inl a9)), some (.inr (.inl a10)), some (.inr (.inl a11)), some (.inl x12), some (.inl x13), some (.inl x14), none, some (.inr (.inl a16)), some (.inl x22), none, some (.inl x19), some (.inl x20), none, some (.inl x22), some (.inl x23), none]) rfl ?_
      refine z_cells (cells' := 479 + 1 * (x20 : Int).toNat) (slots' := 5715 + 3 * (x20 : Int).toNat) (by omega) (by omega) ?_
      exact rL_law_J634 hc hX0 hR0 hX393 ⟨by omega, by omega⟩ H
set_option maxRecDepth 100000 in
set_option maxHeartbeats 4000000 in
theorem rL_law_J553 (hc : zOk p s m args meth c D cL_law 25 RL (some .boolean)) {a0 L : Nat} {sc : Int → Int} {Qf : State → Prop} {Q : Int → Zm → Prop} (hX0 : zScr s base L sc a0) (hR0 : ∀ (pc : Nat) (ρ : List (Option Zv)) (v : Int) (h : Zm), decode cL_law pc = .ok (.ireturn, 1) → Q v h → zW p l e room_1 s m args below meth c D base 25 Qf 622 6144 pc ρ [.inl v] h) {X393 : Int → Int → Int → Int → Int → Zm → Prop} {X481 : Int → Int → Int → Int → Zm → Prop} {a1 : Nat} {a2 : Nat} {a3 : Nat} {a4 : Nat} {a5 : Nat} {a6 : Nat} {a7 : Nat} {a8 : Nat} {a9 : Nat} {a10 : Nat} {a11 : Nat} {x13 : Int} {x14 : Int} {a16 : Nat} {x17 : Int} {x18 : Int} {x19 : Int} {x20 : Int} {x22 : Int} {x23 : Int} {x24 : Int} {s0 : Int} {h : Zm} (hX393 : ∀ (x12 : Int) (x17 : Int) (x18 : Int) (x19 : Int) (x20 : Int) (h : Zm), 0 ≤ x20 ∧ x20 ≤ 144 → X393 x12 x17 x18 x19 x20 h → zW p l e room_1 s m args below meth c D base 25 Qf (478 + 1 * x20.toNat) (5712 + 3 * x20.toNat) 393 [none, some (.inr (.inl a1)), some (.inr (.inl a2)), some (.inr (.inl a3)), some (.inr (.inl a4)), some (.inr (.inl a5)), some (.inr (.inl a6)), some (.inr (.inl a7)), some (.inr (.inl a8)), some (.inr (.inl a9)), some (.inr (.inl a10)), some (.inr (.inl a11)), some (.inl x12), some (.inl x13), some (.inl x14), none, some (.inr (.inl a16)), some (.inl x17), some (.inl x18), some (.inl x19), some (.inl x20), none, none, none, none] [] h) (hX481 : ∀ (x12 : Int) (x22 : Int) (x23 : Int) (x24 : Int) (h : Zm), 0 ≤ x20 ∧ x20 ≤ 143 → X481 x12 x22 x23 x24 h → zW p l e room_1 s m args below meth c D base 25 Qf (479 + 1 * x20.toNat) (5715 + 3 * x20.toNat) 481 [none, some (.inr (.inl a1)), some (.inr (.inl a2)), some (.inr (.inl a3)), some (.inr (.inl a4)), some (.inr (.inl a5)), some (.inr (.inl a6)), some (.inr (.inl a7)), some (.inr (.inl a8)), some (.inr (.inl a9)), some (.inr (.inl a10)), some (.inr (.inl a11)), some (.inl x12), some (.inl x13), some (.inl x14), none, some (.inr (.inl a16)), some (.inl x17), some (.inl x18), some (.inl x19), some (.inl x20), none, some (.inl x22), some (.inl x23), some (.inl x24)] [] h) (hg : 0 ≤ x20 ∧ x20 ≤ 143) (H : mL_law_J553 L sc X393 X481 a1 a2 a3 a4 a5 a6 a7 a8 a9 a10 a11 x13 x14 a16 x17 x18 x19 x20 x22 x23 x24 s0 h Q) : zW p l e room_1 s m args below meth c D base 25 Qf (479 + 1 * x20.toNat) (5715 + 3 * x20.toNat) 553 [none, some (.inr (.inl a1)), some (.inr (.inl a2)), some (.inr (.inl a3)), some (.inr (.inl a4)), some (.inr (.inl a5)), some (.inr (.inl a6)), some (.inr (.inl a7)), some (.inr (.inl a8)), some (.inr (.inl a9)), some (.inr (.inl a10)), some (.inr (.inl a11)), none, some (.inl x13), some (.inl x14), none, some (.inr (.inl a16)), some (.inl x17), some (.inl x18), some (.inl x19), some (.inl x20), none, some (.inl x22), some (.inl x23), some (.inl x24)] [.inl s0] h := by
  unfold mL_law_J553 at H
  refine z_istore (pc := 553) hc dL_law_553 (by decide) (ρ' := [none, some (.inr (.inl a1)), some (.inr (.inl a2)), some (.inr (.inl a3)), some (.inr (.inl a4)), some (.inr (.inl a5)), some (.inr (.inl a6)), some (.inr (.inl a7)), some (.inr (.inl a8)), some (.inr (.inl a9)), some (.inr (.inl a10)), some (.inr (.inl a11)), some (.inl s0), some (.inl x13), some (.inl x14), none, some (.inr (.inl a16)), some (.inl x17), some (.inl x18), some (.inl x19), some (.inl x20), none, some (.inl x22), some (.inl x23), some (.inl x24)]) rfl rfl ?_
  refine z_iload (pc := 555) hc dL_law_555 rfl ?_
  refine z_aload (pc := 557) hc dL_law_557 rfl ?_
  refine z_iload (pc := 559) hc dL_law_559 rfl ?_
  refine z_iaload (pc := 561) hc dL_law_561 H (fun v112 H => ?_)
  refine z_iadd (pc := 562) hc dL_law_562 ?_
  refine z_istore (pc := 563) hc dL_law_563 (by decide) (ρ' := [none, some (.inr (.inl a1)), some (.inr (.inl a2)), some (.inr (.inl a3)), some (.inr (.inl a4)), some (.inr (.inl a5)), some (.inr (.inl a6)), some (.inr (.inl a7)), some (.inr (.inl a8)), some (.inr (.inl a9)), some (.inr (.inl a10)), some (.inr (.inl a11)), some (.inl s0), some (.inl x13), some (.inl x14), none, some (.inr (.inl a16)), some (.inl x17), some (.inl x18), some (.inl x19), some (.inl x20), none, some (.inl (x22 + v112)), some (.inl x23), some (.inl x24)]) rfl rfl ?_
  refine z_iload (pc := 565) hc dL_law_565 rfl ?_
  refine z_aload (pc := 567) hc dL_law_567 rfl ?_
  refine z_iload (pc := 569) hc dL_law_569 rfl ?_
  refine z_iaload (pc := 571) hc dL_law_571 H (fun v113 H => ?_)
  refine z_iadd (pc := 572) hc dL_law_572 ?_
  refine z_istore (pc := 573) hc dL_law_573 (by decide) (ρ' := [none, some (.inr (.inl a1)), some (.inr (.inl a2)), some (.inr (.inl a3)), some (.inr (.inl a4)), some (.inr (.inl a5)), some (.inr (.inl a6)), some (.inr (.inl a7)), some (.inr (.inl a8)), some (.inr (.inl a9)), some (.inr (.inl a10)), some (.inr (.inl a11)), some (.inl s0), some (.inl x13), some (.inl x14), none, some (.inr (.inl a16)), some (.inl x17), some (.inl x18), some (.inl x19), some (.inl x20), none, some (.inl (x22 + v112)), some (.inl (x23 + v113)), some (.inl x24)]) rfl rfl ?_
  refine z_aload (pc := 575) hc dL_law_575 rfl ?_
  refine z_iload (pc := 577) hc dL_law_577 rfl ?_
  refine z_dup2 (pc := 579) hc dL_law_579 rfl rfl ?_
  refine z_iaload (pc := 580) hc dL_law_580 H (fun v114 H => ?_)
  refine z_aload (pc := 581) hc dL_law_581 rfl ?_
  refine z_iload (pc := 583) hc dL_law_583 rfl ?_
  refine z_iaload (pc := 585) hc dL_law_585 H (fun v115 H => ?_)
  refine z_iadd (pc := 586) hc dL_law_586 ?_
  refine z_iastore (pc := 587) hc dL_law_587 H (fun h116 H => ?_)
  refine z_iinc (pc := 588) hc dL_law_588 (by decide) rfl (ρ' := [none, some (.inr (.inl a1)), some (.inr (.inl a2)), some (.inr (.inl a3)), some (.inr (.inl a4)), some (.inr (.inl a5)), some (.inr (.inl a6)), some (.inr (.inl a7)), some (.inr (.inl a8)), some (.inr (.inl a9)), some (.inr (.inl a10)), some (.inr (.inl a11)), some (.inl s0), some (.inl x13), some (.inl x14), none, some (.inr (.inl a16)), some (.inl x17), some (.inl x18), some (.inl x19), some (.inl x20), none, some (.inl (x22 + v112)), some (.inl (x23 + v113)), some (.inl (x24 + 1))]) rfl rfl ?_
  refine z_goto (tgt := 481) (pc := 591) hc dL_law_591 rfl ?_
  refine z_cells (cells' := 479 + 1 * (x20 : Int).toNat) (slots' := 5715 + 3 * (x20 : Int).toNat) (by omega) (by omega) ?_
  exact hX481 _ _ _ _ _ ⟨by omega, by omega⟩ H
set_option maxRecDepth 100000 in
set_option maxHeartbeats 4000000 in
theorem rL_law_J524 (hc : zOk p s m args meth c D cL_law 25 RL (some .boolean)) {a0 L : Nat} {sc : Int → Int} {Qf : State → Prop} {Q : Int → Zm → Prop} (hX0 : zScr s base L sc a0) (hR0 : ∀ (pc : Nat) (ρ : List (Option Zv)) (v : Int) (h : Zm), decode cL_law pc = .ok (.ireturn, 1) → Q v h → zW p l e room_1 s m args below meth c D base 25 Qf 622 6144 pc ρ [.inl v] h) {X393 : Int → Int → Int → Int → Int → Zm → Prop} {X481 : Int → Int → Int → Int → Zm → Prop} {a1 : Nat} {a2 : Nat} {a3 : Nat} {a4 : Nat} {a5 : Nat} {a6 : Nat} {a7 : Nat} {a8 : Nat} {a9 : Nat} {a10 : Nat} {a11 : Nat} {x13 : Int} {x14 : Int} {a16 : Nat} {x17 : Int} {x18 : Int} {x19 : Int} {x20 : Int} {x22 : Int} {x23 : Int} {x24 : Int} {h : Zm} (hX393 : ∀ (x12 : Int) (x17 : Int) (x18 : Int) (x19 : Int) (x20 : Int) (h : Zm), 0 ≤ x20 ∧ x20 ≤ 144 → X393 x12 x17 x18 x19 x20 h → zW p l e room_1 s m args below meth c D base 25 Qf (478 + 1 * x20.toNat) (5712 + 3 * x20.toNat) 393 [none, some (.inr (.inl a1)), some (.inr (.inl a2)), some (.inr (.inl a3)), some (.inr (.inl a4)), some (.inr (.inl a5)), some (.inr (.inl a6)), some (.inr (.inl a7)), some (.inr (.inl a8)), some (.inr (.inl a9)), some (.inr (.inl a10)), some (.inr (.inl a11)), some (.inl x12), some (.inl x13), some (.inl x14), none, some (.inr (.inl a16)), some (.inl x17), some (.inl x18), some (.inl x19), some (.inl x20), none, none, none, none] [] h) (hX481 : ∀ (x12 : Int) (x22 : Int) (x23 : Int) (x24 : Int) (h : Zm), 0 ≤ x20 ∧ x20 ≤ 143 → X481 x12 x22 x23 x24 h → zW p l e room_1 s m args below meth c D base 25 Qf (479 + 1 * x20.toNat) (5715 + 3 * x20.toNat) 481 [none, some (.inr (.inl a1)), some (.inr (.inl a2)), some (.inr (.inl a3)), some (.inr (.inl a4)), some (.inr (.inl a5)), some (.inr (.inl a6)), some (.inr (.inl a7)), some (.inr (.inl a8)), some (.inr (.inl a9)), some (.inr (.inl a10)), some (.inr (.inl a11)), some (.inl x12), some (.inl x13), some (.inl x14), none, some (.inr (.inl a16)), some (.inl x17), some (.inl x18), some (.inl x19), some (.inl x20), none, some (.inl x22), some (.inl x23), some (.inl x24)] [] h) (hg : 0 ≤ x20 ∧ x20 ≤ 143) (H : mL_law_J524 L sc X393 X481 a1 a2 a3 a4 a5 a6 a7 a8 a9 a10 a11 x13 x14 a16 x17 x18 x19 x20 x22 x23 x24 h Q) : zW p l e room_1 s m args below meth c D base 25 Qf (479 + 1 * x20.toNat) (5715 + 3 * x20.toNat) 524 [none, some (.inr (.inl a1)), some (.inr (.inl a2)), some (.inr (.inl a3)), some (.inr (.inl a4)), some (.inr (.inl a5)), some (.inr (.inl a6)), some (.inr (.inl a7)), some (.inr (.inl a8)), some (.inr (.inl a9)), some (.inr (.inl a10)), some (.inr (.inl a11)), none, some (.inl x13), some (.inl x14), none, some (.inr (.inl a16)), some (.inl x17), some (.inl x18), some (.inl x19), some (.inl x20), none, some (.inl x22), some (.inl x23), some (.inl x24)] [] h := by
  unfold mL_law_J524 at H
  refine z_aload_n (pc := 524) hc dL_law_524 rfl ?_
  refine z_iload (pc := 525) hc dL_law_525 rfl ?_
  refine z_iload (pc := 527) hc dL_law_527 rfl ?_
  refine z_irem (pc := 529) hc dL_law_529 H (fun v107 H => ?_)
  refine z_iload (pc := 530) hc dL_law_530 rfl ?_
  refine z_iload (pc := 532) hc dL_law_532 rfl ?_
  refine z_idiv (pc := 534) hc dL_law_534 H (fun v108 H => ?_)
  refine z_iload (pc := 535) hc dL_law_535 rfl ?_
  refine z_calI (z_runV (pc := 537) (ci := 6) (T := TX6) (N := 8) hc dL_law_537 zw_RL_67 (metX6_ink _ _ _ H.2) rfl (Nat.le_of_ble_eq_true rfl) ⟨Nat.le_of_ble_eq_true rfl, Nat.le_of_ble_eq_true rfl⟩ ⟨by (show _ + 0 ≤ 1137197; omega), by (show _ + 0 ≤ 5690656; omega)⟩ rfl H.1) rfl ⟨rfl, rfl⟩ (fun v110 h109 H => ?_)
  refine z_aload (pc := 540) hc dL_law_540 rfl ?_
  refine z_iload (pc := 542) hc dL_law_542 rfl ?_
  refine z_iaload (pc := 544) hc dL_law_544 H (fun v111 H => ?_)
  refine z_icmp_ne (tgt := 552) (pc := 545) hc dL_law_545 rfl H (fun H => ?_) (fun H => ?_)
  · refine z_iconst (pc := 548) hc dL_law_548 ?_
    refine z_goto (tgt := 553) (pc := 549) hc dL_law_549 rfl ?_
    refine z_cells (cells' := 479 + 1 * (x20 : Int).toNat) (slots' := 5715 + 3 * (x20 : Int).toNat) (by omega) (by omega) ?_
    exact rL_law_J553 hc hX0 hR0 hX393 hX481 ⟨by omega, by omega⟩ H
  · refine z_iconst (pc := 552) hc dL_law_552 ?_
    refine z_cells (cells' := 479 + 1 * (x20 : Int).toNat) (slots' := 5715 + 3 * (x20 : Int).toNat) (by omega) (by omega) ?_
    exact rL_law_J553 hc hX0 hR0 hX393 hX481 ⟨by omega, by omega⟩ H
set_option maxRecDepth 100000 in
set_option maxHeartbeats 4000000 in
theorem rL_law_B481 (hc : zOk p s m args meth c D cL_law 25 RL (some .boolean)) {a0 L : Nat} {sc : Int → Int} {Qf : State → Prop} {Q : Int → Zm → Prop} (hX0 : zScr s base L sc a0) (hR0 : ∀ (pc : Nat) (ρ : List (Option Zv)) (v : Int) (h : Zm), decode cL_law pc = .ok (.ireturn, 1) → Q v h → zW p l e room_1 s m args below meth c D base 25 Qf 622 6144 pc ρ [.inl v] h) {X393 : Int → Int → Int → Int → Int → Zm → Prop} {X481 : Int → Int → Int → Int → Zm → Prop} {a1 : Nat} {a2 : Nat} {a3 : Nat} {a4 : Nat} {a5 : Nat} {a6 : Nat} {a7 : Nat} {a8 : Nat} {a9 : Nat} {a10 : Nat} {a11 : Nat} {x12 : Int} {x13 : Int} {x14 : Int} {a16 : Nat} {x17 : Int} {x18 : Int} {x19 : Int} {x20 : Int} {x22 : Int} {x23 : Int} {x24 : Int} {h : Zm} (hX393 : ∀ (x12 : Int) (x17 : Int) (x18 : Int) (x19 : Int) (x20 : Int) (h : Zm), 0 ≤ x20 ∧ x20 ≤ 144 → X393 x12 x17 x18 x19 x20 h → zW p l e room_1 s m args below meth c D base 25 Qf (478 + 1 * x20.toNat) (5712 + 3 * x20.toNat) 393 [none, some (.inr (.inl a1)), some (.inr (.inl a2)), some (.inr (.inl a3)), some (.inr (.inl a4)), some (.inr (.inl a5)), some (.inr (.inl a6)), some (.inr (.inl a7)), some (.inr (.inl a8)), some (.inr (.inl a9)), some (.inr (.inl a10)), some (.inr (.inl a11)), some (.inl x12), some (.inl x13), some (.inl x14), none, some (.inr (.inl a16)), some (.inl x17), some (.inl x18), some (.inl x19), some (.inl x20), none, none, none, none] [] h) (hX481 : ∀ (x12 : Int) (x22 : Int) (x23 : Int) (x24 : Int) (h : Zm), 0 ≤ x20 ∧ x20 ≤ 143 → X481 x12 x22 x23 x24 h → zW p l e room_1 s m args below meth c D base 25 Qf (479 + 1 * x20.toNat) (5715 + 3 * x20.toNat) 481 [none, some (.inr (.inl a1)), some (.inr (.inl a2)), some (.inr (.inl a3)), some (.inr (.inl a4)), some (.inr (.inl a5)), some (.inr (.inl a6)), some (.inr (.inl a7)), some (.inr (.inl a8)), some (.inr (.inl a9)), some (.inr (.inl a10)), some (.inr (.inl a11)), some (.inl x12), some (.inl x13), some (.inl x14), none, some (.inr (.inl a16)), some (.inl x17), some (.inl x18), some (.inl x19), some (.inl x20), none, some (.inl x22), some (.inl x23), some (.inl x24)] [] h) (hg : 0 ≤ x20 ∧ x20 ≤ 143) (H : mL_law_B481 L sc X393 X481 a1 a2 a3 a4 a5 a6 a7 a8 a9 a10 a11 x12 x13 x14 a16 x17 x18 x19 x20 x22 x23 x24 h Q) : zW p l e room_1 s m args below meth c D base 25 Qf (479 + 1 * x20.toNat) (5715 + 3 * x20.toNat) 481 [none, some (.inr (.inl a1)), some (.inr (.inl a2)), some (.inr (.inl a3)), some (.inr (.inl a4)), some (.inr (.inl a5)), some (.inr (.inl a6)), some (.inr (.inl a7)), some (.inr (.inl a8)), some (.inr (.inl a9)), some (.inr (.inl a10)), some (.inr (.inl a11)), some (.inl x12), some (.inl x13), some (.inl x14), none, some (.inr (.inl a16)), some (.inl x17), some (.inl x18), some (.inl x19), some (.inl x20), none, some (.inl x22), some (.inl x23), some (.inl x24)] [] h := by
  unfold mL_law_B481 at H
  refine z_iload (pc := 481) hc dL_law_481 rfl ?_
  refine z_bipush (pc := 483) hc dL_law_483 (by decide) ?_
  refine z_icmp_ge (tgt := 594) (pc := 485) hc dL_law_485 rfl H (fun H => ?_) (fun H => ?_)
  · refine z_iload (pc := 488) hc dL_law_488 rfl ?_
    refine z_if_eq (tgt := 594) (pc := 490) hc dL_law_490 rfl H (fun H => ?_) (fun H => ?_)
    · refine z_mask [false, true, true, true, true, true, true, true, true, true, true, true, true, true, true, false, true, true, true, true, true, false, true, true, false] (ρ' := [none, some (.inr (.inl a1)), some (.inr (.inl a2)), some (.inr (.inl a3)), some (.inr (.inl a4)), some (.inr (.inl a5)), some (.inr (.inl a6)), some (.inr (.inl a7)), some (.inr (.inl a8)), some (.inr (.inl a9)), some (.inr (.inl a10)), some (.inr (.inl a11)), some (.inl x12), some (.inl x13), some (.inl x14), none, some (.inr (.inl a16)), some (.inl x17), some (.inl x18), some (.inl x19), some (.inl x20), none, some (.inl x22), some (.inl x23), none]) rfl ?_
      refine z_cells (cells' := 479 + 1 * (x20 : Int).toNat) (slots' := 5715 + 3 * (x20 : Int).toNat) (by omega) (by omega) ?_
      exact rL_law_J594 hc hX0 hR0 hX393 ⟨by omega, by omega⟩ H
    · refine z_iload (pc := 493) hc dL_law_493 rfl ?_
      refine z_bipush (pc := 495) hc dL_law_495 (by decide) ?_
      refine z_icmp_eq (tgt := 524) (pc := 497) hc dL_law_497 rfl H (fun H => ?_) (fun H => ?_)
      · refine z_mask [false, true, true, true, true, true, true, true, true, true, true, true, false, true, true, false, true, true, true, true, true, false, true, true, true] (ρ' := [none, some (.inr (.inl a1)), some (.inr (.inl a2)), some (.inr (.inl a3)), some (.inr (.inl a4)), some (.inr (.inl a5)), some (.inr (.inl a6)), some (.inr (.inl a7)), some (.inr (.inl a8)), some (.inr (.inl a9)), some (.inr (.inl a10)), some (.inr (.inl a11)), none, some (.inl x13), some (.inl x14), none, some (.inr (.inl a16)), some (.inl x17), some (.inl x18), some (.inl x19), some (.inl x20), none, some (.inl x22), some (.inl x23), some (.inl x24)]) rfl ?_
        refine z_cells (cells' := 479 + 1 * (x20 : Int).toNat) (slots' := 5715 + 3 * (x20 : Int).toNat) (by omega) (by omega) ?_
        exact rL_law_J524 hc hX0 hR0 hX393 hX481 ⟨by omega, by omega⟩ H
      · refine z_aload_n (pc := 500) hc dL_law_500 rfl ?_
        refine z_iload (pc := 501) hc dL_law_501 rfl ?_
        refine z_iload (pc := 503) hc dL_law_503 rfl ?_
        refine z_irem (pc := 505) hc dL_law_505 H (fun v100 H => ?_)
        refine z_iload (pc := 506) hc dL_law_506 rfl ?_
        refine z_iload (pc := 508) hc dL_law_508 rfl ?_
        refine z_idiv (pc := 510) hc dL_law_510 H (fun v101 H => ?_)
        refine z_iload (pc := 511) hc dL_law_511 rfl ?_
        refine z_calI (z_runV (pc := 513) (ci := 6) (T := TX6) (N := 8) hc dL_law_513 zw_RL_70 (metX6_rendered _ _ _ H.2) rfl (Nat.le_of_ble_eq_true rfl) ⟨Nat.le_of_ble_eq_true rfl, Nat.le_of_ble_eq_true rfl⟩ ⟨by (show _ + 0 ≤ 1137197; omega), by (show _ + 0 ≤ 5690656; omega)⟩ rfl H.1) rfl ⟨rfl, rfl⟩ (fun v103 h102 H => ?_)
        refine z_aload (pc := 516) hc dL_law_516 rfl ?_
        refine z_iload (pc := 518) hc dL_law_518 rfl ?_
        refine z_iaload (pc := 520) hc dL_law_520 H (fun v104 H => ?_)
        refine z_icmp_ne (tgt := 552) (pc := 521) hc dL_law_521 rfl H (fun H => ?_) (fun H => ?_)
        · refine z_mask [false, true, true, true, true, true, true, true, true, true, true, true, false, true, true, false, true, true, true, true, true, false, true, true, true] (ρ' := [none, some (.inr (.inl a1)), some (.inr (.inl a2)), some (.inr (.inl a3)), some (.inr (.inl a4)), some (.inr (.inl a5)), some (.inr (.inl a6)), some (.inr (.inl a7)), some (.inr (.inl a8)), some (.inr (.inl a9)), some (.inr (.inl a10)), some (.inr (.inl a11)), none, some (.inl x13), some (.inl x14), none, some (.inr (.inl a16)), some (.inl x17), some (.inl x18), some (.inl x19), some (.inl x20), none, some (.inl x22), some (.inl x23), some (.inl x24)]) rfl ?_
          refine z_cells (cells' := 479 + 1 * (x20 : Int).toNat) (slots' := 5715 + 3 * (x20 : Int).toNat) (by omega) (by omega) ?_
          exact rL_law_J524 hc hX0 hR0 hX393 hX481 ⟨by omega, by omega⟩ H
        · refine z_iconst (pc := 552) hc dL_law_552 ?_
          refine z_mask [false, true, true, true, true, true, true, true, true, true, true, true, false, true, true, false, true, true, true, true, true, false, true, true, true] (ρ' := [none, some (.inr (.inl a1)), some (.inr (.inl a2)), some (.inr (.inl a3)), some (.inr (.inl a4)), some (.inr (.inl a5)), some (.inr (.inl a6)), some (.inr (.inl a7)), some (.inr (.inl a8)), some (.inr (.inl a9)), some (.inr (.inl a10)), some (.inr (.inl a11)), none, some (.inl x13), some (.inl x14), none, some (.inr (.inl a16)), some (.inl x17), some (.inl x18), some (.inl x19), some (.inl x20), none, some (.inl x22), some (.inl x23), some (.inl x24)]) rfl ?_
          refine z_cells (cells' := 479 + 1 * (x20 : Int).toNat) (slots' := 5715 + 3 * (x20 : Int).toNat) (by omega) (by omega) ?_
          exact rL_law_J553 hc hX0 hR0 hX393 hX481 ⟨by omega, by omega⟩ H
  · refine z_mask [false, true, true, true, true, true, true, true, true, true, true, true, true, true, true, false, true, true, true, true, true, false, true, true, false] (ρ' := [none, some (.inr (.inl a1)), some (.inr (.inl a2)), some (.inr (.inl a3)), some (.inr (.inl a4)), some (.inr (.inl a5)), some (.inr (.inl a6)), some (.inr (.inl a7)), some (.inr (.inl a8)), some (.inr (.inl a9)), some (.inr (.inl a10)), some (.inr (.inl a11)), some (.inl x12), some (.inl x13), some (.inl x14), none, some (.inr (.inl a16)), some (.inl x17), some (.inl x18), some (.inl x19), some (.inl x20), none, some (.inl x22), some (.inl x23), none]) rfl ?_
    refine z_cells (cells' := 479 + 1 * (x20 : Int).toNat) (slots' := 5715 + 3 * (x20 : Int).toNat) (by omega) (by omega) ?_
    exact rL_law_J594 hc hX0 hR0 hX393 ⟨by omega, by omega⟩ H
theorem rL_law_H481 (hc : zOk p s m args meth c D cL_law 25 RL (some .boolean)) {a0 L : Nat} {sc : Int → Int} {Qf : State → Prop} {Q : Int → Zm → Prop} (hX0 : zScr s base L sc a0) (hR0 : ∀ (pc : Nat) (ρ : List (Option Zv)) (v : Int) (h : Zm), decode cL_law pc = .ok (.ireturn, 1) → Q v h → zW p l e room_1 s m args below meth c D base 25 Qf 622 6144 pc ρ [.inl v] h) {X393 : Int → Int → Int → Int → Int → Zm → Prop} {a1 : Nat} {a2 : Nat} {a3 : Nat} {a4 : Nat} {a5 : Nat} {a6 : Nat} {a7 : Nat} {a8 : Nat} {a9 : Nat} {a10 : Nat} {a11 : Nat} {x12 : Int} {x13 : Int} {x14 : Int} {a16 : Nat} {x17 : Int} {x18 : Int} {x19 : Int} {x20 : Int} {x22 : Int} {x23 : Int} {x24 : Int} {h : Zm} (hX393 : ∀ (x12 : Int) (x17 : Int) (x18 : Int) (x19 : Int) (x20 : Int) (h : Zm), 0 ≤ x20 ∧ x20 ≤ 144 → X393 x12 x17 x18 x19 x20 h → zW p l e room_1 s m args below meth c D base 25 Qf (478 + 1 * x20.toNat) (5712 + 3 * x20.toNat) 393 [none, some (.inr (.inl a1)), some (.inr (.inl a2)), some (.inr (.inl a3)), some (.inr (.inl a4)), some (.inr (.inl a5)), some (.inr (.inl a6)), some (.inr (.inl a7)), some (.inr (.inl a8)), some (.inr (.inl a9)), some (.inr (.inl a10)), some (.inr (.inl a11)), some (.inl x12), some (.inl x13), some (.inl x14), none, some (.inr (.inl a16)), some (.inl x17), some (.inl x18), some (.inl x19), some (.inl x20), none, none, none, none] [] h) (hg : 0 ≤ x20 ∧ x20 ≤ 143) (H : mL_law_H481 L sc X393 a1 a2 a3 a4 a5 a6 a7 a8 a9 a10 a11 x12 x13 x14 a16 x17 x18 x19 x20 x22 x23 x24 h Q) : zW p l e room_1 s m args below meth c D base 25 Qf (479 + 1 * x20.toNat) (5715 + 3 * x20.toNat) 481 [none, some (.inr (.inl a1)), some (.inr (.inl a2)), some (.inr (.inl a3)), some (.inr (.inl a4)), some (.inr (.inl a5)), some (.inr (.inl a6)), some (.inr (.inl a7)), some (.inr (.inl a8)), some (.inr (.inl a9)), some (.inr (.inl a10)), some (.inr (.inl a11)), some (.inl x12), some (.inl x13), some (.inl x14), none, some (.inr (.inl a16)), some (.inl x17), some (.inl x18), some (.inl x19), some (.inl x20), none, some (.inl x22), some (.inl x23), some (.inl x24)] [] h :=
  H (fun x12 x22 x23 x24 h => 0 ≤ x20 ∧ x20 ≤ 143 → zW p l e room_1 s m args below meth c D base 25 Qf (479 + 1 * x20.toNat) (5715 + 3 * x20.toNat) 481 [none, some (.inr (.inl a1)), some (.inr (.inl a2)), some (.inr (.inl a3)), some (.inr (.inl a4)), some (.inr (.inl a5)), some (.inr (.inl a6)), some (.inr (.inl a7)), some (.inr (.inl a8)), some (.inr (.inl a9)), some (.inr (.inl a10)), some (.inr (.inl a11)), some (.inl x12), some (.inl x13), some (.inl x14), none, some (.inr (.inl a16)), some (.inl x17), some (.inl x18), some (.inl x19), some (.inl x20), none, some (.inl x22), some (.inl x23), some (.inl x24)] [] h) (fun x12 x22 x23 x24 h H hg => rL_law_B481 hc hX0 hR0 hX393 (fun _ _ _ _ _ g q => q g) hg H) hg
set_option maxRecDepth 100000 in
set_option maxHeartbeats 4000000 in
theorem rL_law_B393 (hc : zOk p s m args meth c D cL_law 25 RL (some .boolean)) {a0 L : Nat} {sc : Int → Int} {Qf : State → Prop} {Q : Int → Zm → Prop} (hX0 : zScr s base L sc a0) (hR0 : ∀ (pc : Nat) (ρ : List (Option Zv)) (v : Int) (h : Zm), decode cL_law pc = .ok (.ireturn, 1) → Q v h → zW p l e room_1 s m args below meth c D base 25 Qf 622 6144 pc ρ [.inl v] h) {X393 : Int → Int → Int → Int → Int → Zm → Prop} {a1 : Nat} {a2 : Nat} {a3 : Nat} {a4 : Nat} {a5 : Nat} {a6 : Nat} {a7 : Nat} {a8 : Nat} {a9 : Nat} {a10 : Nat} {a11 : Nat} {x12 : Int} {x13 : Int} {x14 : Int} {a16 : Nat} {x17 : Int} {x18 : Int} {x19 : Int} {x20 : Int} {h : Zm} (hX393 : ∀ (x12 : Int) (x17 : Int) (x18 : Int) (x19 : Int) (x20 : Int) (h : Zm), 0 ≤ x20 ∧ x20 ≤ 144 → X393 x12 x17 x18 x19 x20 h → zW p l e room_1 s m args below meth c D base 25 Qf (478 + 1 * x20.toNat) (5712 + 3 * x20.toNat) 393 [none, some (.inr (.inl a1)), some (.inr (.inl a2)), some (.inr (.inl a3)), some (.inr (.inl a4)), some (.inr (.inl a5)), some (.inr (.inl a6)), some (.inr (.inl a7)), some (.inr (.inl a8)), some (.inr (.inl a9)), some (.inr (.inl a10)), some (.inr (.inl a11)), some (.inl x12), some (.inl x13), some (.inl x14), none, some (.inr (.inl a16)), some (.inl x17), some (.inl x18), some (.inl x19), some (.inl x20), none, none, none, none] [] h) (hg : 0 ≤ x20 ∧ x20 ≤ 144) (H : mL_law_B393 L sc X393 a1 a2 a3 a4 a5 a6 a7 a8 a9 a10 a11 x12 x13 x14 a16 x17 x18 x19 x20 h Q) : zW p l e room_1 s m args below meth c D base 25 Qf (478 + 1 * x20.toNat) (5712 + 3 * x20.toNat) 393 [none, some (.inr (.inl a1)), some (.inr (.inl a2)), some (.inr (.inl a3)), some (.inr (.inl a4)), some (.inr (.inl a5)), some (.inr (.inl a6)), some (.inr (.inl a7)), some (.inr (.inl a8)), some (.inr (.inl a9)), some (.inr (.inl a10)), some (.inr (.inl a11)), some (.inl x12), some (.inl x13), some (.inl x14), none, some (.inr (.inl a16)), some (.inl x17), some (.inl x18), some (.inl x19), some (.inl x20), none, none, none, none] [] h := by
  unfold mL_law_B393 at H
  refine z_iload (pc := 393) hc dL_law_393 rfl ?_
  refine z_iload (pc := 395) hc dL_law_395 rfl ?_
  refine z_iload (pc := 397) hc dL_law_397 rfl ?_
  refine z_imul (pc := 399) hc dL_law_399 ?_
  refine z_icmp_ge (tgt := 701) (pc := 400) hc dL_law_400 rfl H (fun H => ?_) (fun H => ?_)
  · refine z_iload (pc := 403) hc dL_law_403 rfl ?_
    refine z_if_eq (tgt := 701) (pc := 405) hc dL_law_405 rfl H (fun H => ?_) (fun H => ?_)
    · refine z_iconst (pc := 701) hc dL_law_701 ?_
      refine z_istore (pc := 702) hc dL_law_702 (by decide) (ρ' := [none, some (.inr (.inl a1)), some (.inr (.inl a2)), some (.inr (.inl a3)), some (.inr (.inl a4)), some (.inr (.inl a5)), some (.inr (.inl a6)), some (.inr (.inl a7)), some (.inr (.inl a8)), some (.inr (.inl a9)), some (.inr (.inl a10)), some (.inr (.inl a11)), some (.inl x12), some (.inl x13), some (.inl x14), none, some (.inr (.inl a16)), some (.inl x17), some (.inl x18), some (.inl x19), some (.inl 0), none, none, none, none]) rfl rfl ?_
      refine z_mask [false, true, false, false, false, false, false, false, false, false, false, false, true, true, true, false, true, true, true, true, true, false, false, false, false] (ρ' := [none, some (.inr (.inl a1)), none, none, none, none, none, none, none, none, none, none, some (.inl x12), some (.inl x13), some (.inl x14), none, some (.inr (.inl a16)), some (.inl x17), some (.inl x18), some (.inl x19), some (.inl 0), none, none, none, none]) rfl ?_
      refine z_widen (cells' := 622) (slots' := 6144) (by omega) (by omega) ?_
      exact rL_law_H704 hc hX0 hR0 H
    · obtain ⟨h144, H⟩ := H
      refine z_aload_n (pc := 408) hc dL_law_408 rfl ?_
      refine z_aload_n (pc := 409) hc dL_law_409 rfl ?_
      refine z_aload (pc := 410) hc dL_law_410 rfl ?_
      refine z_aload (pc := 412) hc dL_law_412 rfl ?_
      refine z_aload (pc := 414) hc dL_law_414 rfl ?_
      refine z_aload (pc := 416) hc dL_law_416 rfl ?_
      refine z_iload (pc := 418) hc dL_law_418 rfl ?_
      refine z_iload (pc := 420) hc dL_law_420 rfl ?_
      refine z_irem (pc := 422) hc dL_law_422 H (fun v70 H => ?_)
      refine z_iload (pc := 423) hc dL_law_423 rfl ?_
      refine z_iload (pc := 425) hc dL_law_425 rfl ?_
      refine z_idiv (pc := 427) hc dL_law_427 H (fun v71 H => ?_)
      refine z_aload (pc := 428) hc dL_law_428 rfl ?_
      refine z_calIc (mc := 1) (ms := 3) (z_runS (pc := 430) hc dL_law_430 zw_RL_92 (metL_renders _ _ _ H) rfl (Nat.le_of_ble_eq_true rfl) ⟨Nat.le_of_ble_eq_true rfl, Nat.le_of_ble_eq_true rfl⟩ ⟨by (show _ + 1 ≤ 1137197; omega), by (show _ + 3 ≤ 5690656; omega)⟩) rfl ⟨rfl, rfl⟩ (fun v73 h72 H => ?_)
      refine z_istore (pc := 433) hc dL_law_433 (by decide) (ρ' := [none, some (.inr (.inl a1)), some (.inr (.inl a2)), some (.inr (.inl a3)), some (.inr (.inl a4)), some (.inr (.inl a5)), some (.inr (.inl a6)), some (.inr (.inl a7)), some (.inr (.inl a8)), some (.inr (.inl a9)), some (.inr (.inl a10)), some (.inr (.inl a11)), some (.inl x12), some (.inl x13), some (.inl x14), none, some (.inr (.inl a16)), some (.inl x17), some (.inl x18), some (.inl x19), some (.inl x20), some (.inl v73), none, none, none]) rfl rfl ?_
      refine z_aload (pc := 435) hc dL_law_435 rfl ?_
      refine z_aload (pc := 437) hc dL_law_437 rfl ?_
      refine z_aload (pc := 439) hc dL_law_439 rfl ?_
      refine z_aload (pc := 441) hc dL_law_441 rfl ?_
      refine z_calV0 (z_runS (pc := 443) hc dL_law_443 zw_RL_96 (metL_separates _ _ _ H) rfl (Nat.le_of_ble_eq_true rfl) ⟨Nat.le_of_ble_eq_true rfl, Nat.le_of_ble_eq_true rfl⟩ ⟨by (show _ + 0 ≤ 1137197; omega), by (show _ + 0 ≤ 5690656; omega)⟩) rfl ⟨rfl, rfl⟩ (fun h74 H => ?_)
      refine z_aload_n (pc := 446) hc dL_law_446 rfl ?_
      refine z_iload (pc := 447) hc dL_law_447 rfl ?_
      refine z_iload (pc := 449) hc dL_law_449 rfl ?_
      refine z_irem (pc := 451) hc dL_law_451 H (fun v75 H => ?_)
      refine z_iload (pc := 452) hc dL_law_452 rfl ?_
      refine z_iload (pc := 454) hc dL_law_454 rfl ?_
      refine z_idiv (pc := 456) hc dL_law_456 H (fun v76 H => ?_)
      refine z_calI (z_runV (pc := 457) (ci := 6) (T := TX6) (N := 8) hc dL_law_457 zw_RL_73 (metX6_touchedBy _ _ _ H.2) rfl (Nat.le_of_ble_eq_true rfl) ⟨Nat.le_of_ble_eq_true rfl, Nat.le_of_ble_eq_true rfl⟩ ⟨by (show _ + 0 ≤ 1137197; omega), by (show _ + 0 ≤ 5690656; omega)⟩ rfl H.1) rfl ⟨rfl, rfl⟩ (fun v78 h77 H => ?_)
      refine z_iload (pc := 460) hc dL_law_460 rfl ?_
      refine z_icmp_ne (tgt := 469) (pc := 462) hc dL_law_462 rfl H (fun H => ?_) (fun H => ?_)
      · refine z_iconst (pc := 465) hc dL_law_465 ?_
        refine z_goto (tgt := 470) (pc := 466) hc dL_law_466 rfl ?_
        refine z_istore (pc := 470) hc dL_law_470 (by decide) (ρ' := [none, some (.inr (.inl a1)), some (.inr (.inl a2)), some (.inr (.inl a3)), some (.inr (.inl a4)), some (.inr (.inl a5)), some (.inr (.inl a6)), some (.inr (.inl a7)), some (.inr (.inl a8)), some (.inr (.inl a9)), some (.inr (.inl a10)), some (.inr (.inl a11)), some (.inl 1), some (.inl x13), some (.inl x14), none, some (.inr (.inl a16)), some (.inl x17), some (.inl x18), some (.inl x19), some (.inl x20), some (.inl v73), none, none, none]) rfl rfl ?_
        refine z_iconst (pc := 472) hc dL_law_472 ?_
        refine z_istore (pc := 473) hc dL_law_473 (by decide) (ρ' := [none, some (.inr (.inl a1)), some (.inr (.inl a2)), some (.inr (.inl a3)), some (.inr (.inl a4)), some (.inr (.inl a5)), some (.inr (.inl a6)), some (.inr (.inl a7)), some (.inr (.inl a8)), some (.inr (.inl a9)), some (.inr (.inl a10)), some (.inr (.inl a11)), some (.inl 1), some (.inl x13), some (.inl x14), none, some (.inr (.inl a16)), some (.inl x17), some (.inl x18), some (.inl x19), some (.inl x20), some (.inl v73), some (.inl 0), none, none]) rfl rfl ?_
        refine z_iconst (pc := 475) hc dL_law_475 ?_
        refine z_istore (pc := 476) hc dL_law_476 (by decide) (ρ' := [none, some (.inr (.inl a1)), some (.inr (.inl a2)), some (.inr (.inl a3)), some (.inr (.inl a4)), some (.inr (.inl a5)), some (.inr (.inl a6)), some (.inr (.inl a7)), some (.inr (.inl a8)), some (.inr (.inl a9)), some (.inr (.inl a10)), some (.inr (.inl a11)), some (.inl 1), some (.inl x13), some (.inl x14), none, some (.inr (.inl a16)), some (.inl x17), some (.inl x18), some (.inl x19), some (.inl x20), some (.inl v73), some (.inl 0), some (.inl 0), none]) rfl rfl ?_
        refine z_iconst (pc := 478) hc dL_law_478 ?_
        refine z_istore (pc := 479) hc dL_law_479 (by decide) (ρ' := [none, some (.inr (.inl a1)), some (.inr (.inl a2)), some (.inr (.inl a3)), some (.inr (.inl a4)), some (.inr (.inl a5)), some (.inr (.inl a6)), some (.inr (.inl a7)), some (.inr (.inl a8)), some (.inr (.inl a9)), some (.inr (.inl a10)), some (.inr (.inl a11)), some (.inl 1), some (.inl x13), some (.inl x14), none, some (.inr (.inl a16)), some (.inl x17), some (.inl x18), some (.inl x19), some (.inl x20), some (.inl v73), some (.inl 0), some (.inl 0), some (.inl 0)]) rfl rfl ?_
        refine z_mask [false, true, true, true, true, true, true, true, true, true, true, true, true, true, true, false, true, true, true, true, true, false, true, true, true] (ρ' := [none, some (.inr (.inl a1)), some (.inr (.inl a2)), some (.inr (.inl a3)), some (.inr (.inl a4)), some (.inr (.inl a5)), some (.inr (.inl a6)), some (.inr (.inl a7)), some (.inr (.inl a8)), some (.inr (.inl a9)), some (.inr (.inl a10)), some (.inr (.inl a11)), some (.inl 1), some (.inl x13), some (.inl x14), none, some (.inr (.inl a16)), some (.inl x17), some (.inl x18), some (.inl x19), some (.inl x20), none, some (.inl 0), some (.inl 0), some (.inl 0)]) rfl ?_
        refine z_cells (cells' := 479 + 1 * (x20 : Int).toNat) (slots' := 5715 + 3 * (x20 : Int).toNat) (by omega) (by omega) ?_
        exact rL_law_H481 hc hX0 hR0 hX393 ⟨by omega, by omega⟩ H
      · refine z_iconst (pc := 469) hc dL_law_469 ?_
        refine z_istore (pc := 470) hc dL_law_470 (by decide) (ρ' := [none, some (.inr (.inl a1)), some (.inr (.inl a2)), some (.inr (.inl a3)), some (.inr (.inl a4)), some (.inr (.inl a5)), some (.inr (.inl a6)), some (.inr (.inl a7)), some (.inr (.inl a8)), some (.inr (.inl a9)), some (.inr (.inl a10)), some (.inr (.inl a11)), some (.inl 0), some (.inl x13), some (.inl x14), none, some (.inr (.inl a16)), some (.inl x17), some (.inl x18), some (.inl x19), some (.inl x20), some (.inl v73), none, none, none]) rfl rfl ?_
        refine z_iconst (pc := 472) hc dL_law_472 ?_
        refine z_istore (pc := 473) hc dL_law_473 (by decide) (ρ' := [none, some (.inr (.inl a1)), some (.inr (.inl a2)), some (.inr (.inl a3)), some (.inr (.inl a4)), some (.inr (.inl a5)), some (.inr (.inl a6)), some (.inr (.inl a7)), some (.inr (.inl a8)), some (.inr (.inl a9)), some (.inr (.inl a10)), some (.inr (.inl a11)), some (.inl 0), some (.inl x13), some (.inl x14), none, some (.inr (.inl a16)), some (.inl x17), some (.inl x18), some (.inl x19), some (.inl x20), some (.inl v73), some (.inl 0), none, none]) rfl rfl ?_
        refine z_iconst (pc := 475) hc dL_law_475 ?_
        refine z_istore (pc := 476) hc dL_law_476 (by decide) (ρ' := [none, some (.inr (.inl a1)), some (.inr (.inl a2)), some (.inr (.inl a3)), some (.inr (.inl a4)), some (.inr (.inl a5)), some (.inr (.inl a6)), some (.inr (.inl a7)), some (.inr (.inl a8)), some (.inr (.inl a9)), some (.inr (.inl a10)), some (.inr (.inl a11)), some (.inl 0), some (.inl x13), some (.inl x14), none, some (.inr (.inl a16)), some (.inl x17), some (.inl x18), some (.inl x19), some (.inl x20), some (.inl v73), some (.inl 0), some (.inl 0), none]) rfl rfl ?_
        refine z_iconst (pc := 478) hc dL_law_478 ?_
        refine z_istore (pc := 479) hc dL_law_479 (by decide) (ρ' := [none, some (.inr (.inl a1)), some (.inr (.inl a2)), some (.inr (.inl a3)), some (.inr (.inl a4)), some (.inr (.inl a5)), some (.inr (.inl a6)), some (.inr (.inl a7)), some (.inr (.inl a8)), some (.inr (.inl a9)), some (.inr (.inl a10)), some (.inr (.inl a11)), some (.inl 0), some (.inl x13), some (.inl x14), none, some (.inr (.inl a16)), some (.inl x17), some (.inl x18), some (.inl x19), some (.inl x20), some (.inl v73), some (.inl 0), some (.inl 0), some (.inl 0)]) rfl rfl ?_
        refine z_mask [false, true, true, true, true, true, true, true, true, true, true, true, true, true, true, false, true, true, true, true, true, false, true, true, true] (ρ' := [none, some (.inr (.inl a1)), some (.inr (.inl a2)), some (.inr (.inl a3)), some (.inr (.inl a4)), some (.inr (.inl a5)), some (.inr (.inl a6)), some (.inr (.inl a7)), some (.inr (.inl a8)), some (.inr (.inl a9)), some (.inr (.inl a10)), some (.inr (.inl a11)), some (.inl 0), some (.inl x13), some (.inl x14), none, some (.inr (.inl a16)), some (.inl x17), some (.inl x18), some (.inl x19), some (.inl x20), none, some (.inl 0), some (.inl 0), some (.inl 0)]) rfl ?_
        refine z_cells (cells' := 479 + 1 * (x20 : Int).toNat) (slots' := 5715 + 3 * (x20 : Int).toNat) (by omega) (by omega) ?_
        exact rL_law_H481 hc hX0 hR0 hX393 ⟨by omega, by omega⟩ H
  · refine z_iconst (pc := 701) hc dL_law_701 ?_
    refine z_istore (pc := 702) hc dL_law_702 (by decide) (ρ' := [none, some (.inr (.inl a1)), some (.inr (.inl a2)), some (.inr (.inl a3)), some (.inr (.inl a4)), some (.inr (.inl a5)), some (.inr (.inl a6)), some (.inr (.inl a7)), some (.inr (.inl a8)), some (.inr (.inl a9)), some (.inr (.inl a10)), some (.inr (.inl a11)), some (.inl x12), some (.inl x13), some (.inl x14), none, some (.inr (.inl a16)), some (.inl x17), some (.inl x18), some (.inl x19), some (.inl 0), none, none, none, none]) rfl rfl ?_
    refine z_mask [false, true, false, false, false, false, false, false, false, false, false, false, true, true, true, false, true, true, true, true, true, false, false, false, false] (ρ' := [none, some (.inr (.inl a1)), none, none, none, none, none, none, none, none, none, none, some (.inl x12), some (.inl x13), some (.inl x14), none, some (.inr (.inl a16)), some (.inl x17), some (.inl x18), some (.inl x19), some (.inl 0), none, none, none, none]) rfl ?_
    refine z_widen (cells' := 622) (slots' := 6144) (by omega) (by omega) ?_
    exact rL_law_H704 hc hX0 hR0 H
theorem rL_law_H393 (hc : zOk p s m args meth c D cL_law 25 RL (some .boolean)) {a0 L : Nat} {sc : Int → Int} {Qf : State → Prop} {Q : Int → Zm → Prop} (hX0 : zScr s base L sc a0) (hR0 : ∀ (pc : Nat) (ρ : List (Option Zv)) (v : Int) (h : Zm), decode cL_law pc = .ok (.ireturn, 1) → Q v h → zW p l e room_1 s m args below meth c D base 25 Qf 622 6144 pc ρ [.inl v] h)  {a1 : Nat} {a2 : Nat} {a3 : Nat} {a4 : Nat} {a5 : Nat} {a6 : Nat} {a7 : Nat} {a8 : Nat} {a9 : Nat} {a10 : Nat} {a11 : Nat} {x12 : Int} {x13 : Int} {x14 : Int} {a16 : Nat} {x17 : Int} {x18 : Int} {x19 : Int} {x20 : Int} {h : Zm}  (hg : 0 ≤ x20 ∧ x20 ≤ 144) (H : mL_law_H393 L sc  a1 a2 a3 a4 a5 a6 a7 a8 a9 a10 a11 x12 x13 x14 a16 x17 x18 x19 x20 h Q) : zW p l e room_1 s m args below meth c D base 25 Qf (478 + 1 * x20.toNat) (5712 + 3 * x20.toNat) 393 [none, some (.inr (.inl a1)), some (.inr (.inl a2)), some (.inr (.inl a3)), some (.inr (.inl a4)), some (.inr (.inl a5)), some (.inr (.inl a6)), some (.inr (.inl a7)), some (.inr (.inl a8)), some (.inr (.inl a9)), some (.inr (.inl a10)), some (.inr (.inl a11)), some (.inl x12), some (.inl x13), some (.inl x14), none, some (.inr (.inl a16)), some (.inl x17), some (.inl x18), some (.inl x19), some (.inl x20), none, none, none, none] [] h :=
  H (fun x12 x17 x18 x19 x20 h => 0 ≤ x20 ∧ x20 ≤ 144 → zW p l e room_1 s m args below meth c D base 25 Qf (478 + 1 * x20.toNat) (5712 + 3 * x20.toNat) 393 [none, some (.inr (.inl a1)), some (.inr (.inl a2)), some (.inr (.inl a3)), some (.inr (.inl a4)), some (.inr (.inl a5)), some (.inr (.inl a6)), some (.inr (.inl a7)), some (.inr (.inl a8)), some (.inr (.inl a9)), some (.inr (.inl a10)), some (.inr (.inl a11)), some (.inl x12), some (.inl x13), some (.inl x14), none, some (.inr (.inl a16)), some (.inl x17), some (.inl x18), some (.inl x19), some (.inl x20), none, none, none, none] [] h) (fun x12 x17 x18 x19 x20 h H hg => rL_law_B393 hc hX0 hR0 (fun _ _ _ _ _ _ g q => q g) hg H) hg
set_option maxRecDepth 100000 in
set_option maxHeartbeats 4000000 in
theorem rL_law_J375 (hc : zOk p s m args meth c D cL_law 25 RL (some .boolean)) {a0 L : Nat} {sc : Int → Int} {Qf : State → Prop} {Q : Int → Zm → Prop} (hX0 : zScr s base L sc a0) (hR0 : ∀ (pc : Nat) (ρ : List (Option Zv)) (v : Int) (h : Zm), decode cL_law pc = .ok (.ireturn, 1) → Q v h → zW p l e room_1 s m args below meth c D base 25 Qf 622 6144 pc ρ [.inl v] h)  {a1 : Nat} {a2 : Nat} {a3 : Nat} {a4 : Nat} {a5 : Nat} {a6 : Nat} {a7 : Nat} {a8 : Nat} {a9 : Nat} {a10 : Nat} {a11 : Nat} {x12 : Int} {x13 : Int} {x14 : Int} {h : Zm}  (H : mL_law_J375 L sc  a1 a2 a3 a4 a5 a6 a7 a8 a9 a10 a11 x12 x13 x14 h Q) : zW p l e room_1 s m args below meth c D base 25 Qf 477 5704 375 [none, some (.inr (.inl a1)), some (.inr (.inl a2)), some (.inr (.inl a3)), some (.inr (.inl a4)), some (.inr (.inl a5)), some (.inr (.inl a6)), some (.inr (.inl a7)), some (.inr (.inl a8)), some (.inr (.inl a9)), some (.inr (.inl a10)), some (.inr (.inl a11)), some (.inl x12), some (.inl x13), some (.inl x14), none, none, none, none, none, none, none, none, none, none] [] h := by
  unfold mL_law_J375 at H
  refine z_bipush (pc := 375) hc dL_law_375 (by decide) ?_
  refine z_newarr (pc := 377) (t := 1) (n := 8) hc dL_law_377 (by decide) rfl (zT_mem 129 (by decide +kernel) rfl) (by decide) (by exact Nat.le_of_ble_eq_true rfl) (by exact Nat.le_of_ble_eq_true rfl) H (fun r68 h69 H => ?_)
  refine z_astore (pc := 379) hc dL_law_379 (by decide) (ρ' := [none, some (.inr (.inl a1)), some (.inr (.inl a2)), some (.inr (.inl a3)), some (.inr (.inl a4)), some (.inr (.inl a5)), some (.inr (.inl a6)), some (.inr (.inl a7)), some (.inr (.inl a8)), some (.inr (.inl a9)), some (.inr (.inl a10)), some (.inr (.inl a11)), some (.inl x12), some (.inl x13), some (.inl x14), none, some (.inr (.inl r68)), none, none, none, none, none, none, none, none]) rfl rfl ?_
  refine z_iconst (pc := 381) hc dL_law_381 ?_
  refine z_istore (pc := 382) hc dL_law_382 (by decide) (ρ' := [none, some (.inr (.inl a1)), some (.inr (.inl a2)), some (.inr (.inl a3)), some (.inr (.inl a4)), some (.inr (.inl a5)), some (.inr (.inl a6)), some (.inr (.inl a7)), some (.inr (.inl a8)), some (.inr (.inl a9)), some (.inr (.inl a10)), some (.inr (.inl a11)), some (.inl x12), some (.inl x13), some (.inl x14), none, some (.inr (.inl r68)), some (.inl 0), none, none, none, none, none, none, none]) rfl rfl ?_
  refine z_iconst (pc := 384) hc dL_law_384 ?_
  refine z_istore (pc := 385) hc dL_law_385 (by decide) (ρ' := [none, some (.inr (.inl a1)), some (.inr (.inl a2)), some (.inr (.inl a3)), some (.inr (.inl a4)), some (.inr (.inl a5)), some (.inr (.inl a6)), some (.inr (.inl a7)), some (.inr (.inl a8)), some (.inr (.inl a9)), some (.inr (.inl a10)), some (.inr (.inl a11)), some (.inl x12), some (.inl x13), some (.inl x14), none, some (.inr (.inl r68)), some (.inl 0), some (.inl 0), none, none, none, none, none, none]) rfl rfl ?_
  refine z_iconst (pc := 387) hc dL_law_387 ?_
  refine z_istore (pc := 388) hc dL_law_388 (by decide) (ρ' := [none, some (.inr (.inl a1)), some (.inr (.inl a2)), some (.inr (.inl a3)), some (.inr (.inl a4)), some (.inr (.inl a5)), some (.inr (.inl a6)), some (.inr (.inl a7)), some (.inr (.inl a8)), some (.inr (.inl a9)), some (.inr (.inl a10)), some (.inr (.inl a11)), some (.inl x12), some (.inl x13), some (.inl x14), none, some (.inr (.inl r68)), some (.inl 0), some (.inl 0), some (.inl 0), none, none, none, none, none]) rfl rfl ?_
  refine z_iconst (pc := 390) hc dL_law_390 ?_
  refine z_istore (pc := 391) hc dL_law_391 (by decide) (ρ' := [none, some (.inr (.inl a1)), some (.inr (.inl a2)), some (.inr (.inl a3)), some (.inr (.inl a4)), some (.inr (.inl a5)), some (.inr (.inl a6)), some (.inr (.inl a7)), some (.inr (.inl a8)), some (.inr (.inl a9)), some (.inr (.inl a10)), some (.inr (.inl a11)), some (.inl x12), some (.inl x13), some (.inl x14), none, some (.inr (.inl r68)), some (.inl 0), some (.inl 0), some (.inl 0), some (.inl 0), none, none, none, none]) rfl rfl ?_
  refine z_cells (cells' := 478 + 1 * (0 : Int).toNat) (slots' := 5712 + 3 * (0 : Int).toNat) (by omega) (by omega) ?_
  exact rL_law_H393 hc hX0 hR0 ⟨by omega, by omega⟩ H
set_option maxRecDepth 100000 in
set_option maxHeartbeats 4000000 in
theorem rL_law_B327 (hc : zOk p s m args meth c D cL_law 25 RL (some .boolean)) {a0 L : Nat} {sc : Int → Int} {Qf : State → Prop} {Q : Int → Zm → Prop} (hX0 : zScr s base L sc a0) (hR0 : ∀ (pc : Nat) (ρ : List (Option Zv)) (v : Int) (h : Zm), decode cL_law pc = .ok (.ireturn, 1) → Q v h → zW p l e room_1 s m args below meth c D base 25 Qf 622 6144 pc ρ [.inl v] h) {X327 : Int → Int → Zm → Prop} {a1 : Nat} {a2 : Nat} {a3 : Nat} {a4 : Nat} {a5 : Nat} {a6 : Nat} {a7 : Nat} {a8 : Nat} {a9 : Nat} {a10 : Nat} {a11 : Nat} {x12 : Int} {x13 : Int} {x14 : Int} {x15 : Int} {x16 : Int} {h : Zm} (hX327 : ∀ (x12 : Int) (x16 : Int) (h : Zm), X327 x12 x16 h → zW p l e room_1 s m args below meth c D base 25 Qf 477 5704 327 [some (.inr (.inl a0)), some (.inr (.inl a1)), some (.inr (.inl a2)), some (.inr (.inl a3)), some (.inr (.inl a4)), some (.inr (.inl a5)), some (.inr (.inl a6)), some (.inr (.inl a7)), some (.inr (.inl a8)), some (.inr (.inl a9)), some (.inr (.inl a10)), some (.inr (.inl a11)), some (.inl x12), some (.inl x13), some (.inl x14), some (.inl x15), some (.inl x16), none, none, none, none, none, none, none, none] [] h) (H : mL_law_B327 L sc X327 a0 a1 a2 a3 a4 a5 a6 a7 a8 a9 a10 a11 x12 x13 x14 x15 x16 h Q) : zW p l e room_1 s m args below meth c D base 25 Qf 477 5704 327 [some (.inr (.inl a0)), some (.inr (.inl a1)), some (.inr (.inl a2)), some (.inr (.inl a3)), some (.inr (.inl a4)), some (.inr (.inl a5)), some (.inr (.inl a6)), some (.inr (.inl a7)), some (.inr (.inl a8)), some (.inr (.inl a9)), some (.inr (.inl a10)), some (.inr (.inl a11)), some (.inl x12), some (.inl x13), some (.inl x14), some (.inl x15), some (.inl x16), none, none, none, none, none, none, none, none] [] h := by
  unfold mL_law_B327 at H
  refine z_iload (pc := 327) hc dL_law_327 rfl ?_
  refine z_iload (pc := 329) hc dL_law_329 rfl ?_
  refine z_icmp_ge (tgt := 375) (pc := 331) hc dL_law_331 rfl H (fun H => ?_) (fun H => ?_)
  · refine z_iload (pc := 334) hc dL_law_334 rfl ?_
    refine z_if_eq (tgt := 375) (pc := 336) hc dL_law_336 rfl H (fun H => ?_) (fun H => ?_)
    · refine z_mask [false, true, true, true, true, true, true, true, true, true, true, true, true, true, true, false, false, false, false, false, false, false, false, false, false] (ρ' := [none, some (.inr (.inl a1)), some (.inr (.inl a2)), some (.inr (.inl a3)), some (.inr (.inl a4)), some (.inr (.inl a5)), some (.inr (.inl a6)), some (.inr (.inl a7)), some (.inr (.inl a8)), some (.inr (.inl a9)), some (.inr (.inl a10)), some (.inr (.inl a11)), some (.inl x12), some (.inl x13), some (.inl x14), none, none, none, none, none, none, none, none, none, none]) rfl ?_
      refine z_cells (cells' := 477) (slots' := 5704) (by omega) (by omega) ?_
      exact rL_law_J375 hc hX0 hR0 H
    · refine z_aload_n (pc := 339) hc dL_law_339 rfl ?_
      refine z_aload_n (pc := 340) hc dL_law_340 rfl ?_
      refine z_aload_n (pc := 341) hc dL_law_341 rfl ?_
      refine z_aload (pc := 342) hc dL_law_342 rfl ?_
      refine z_aload (pc := 344) hc dL_law_344 rfl ?_
      refine z_aload (pc := 346) hc dL_law_346 rfl ?_
      refine z_aload_n (pc := 348) hc dL_law_348 rfl ?_
      refine z_bipush (pc := 349) hc dL_law_349 (by decide) ?_
      refine z_iload (pc := 351) hc dL_law_351 rfl ?_
      refine z_iadd (pc := 353) hc dL_law_353 ?_
      refine z_calIX (z_runX (pc := 354) hc hX0 dL_law_354 zw_RL_76 (metL_cell _ _ _ H) rfl (Nat.le_of_ble_eq_true rfl) ⟨Nat.le_of_ble_eq_true rfl, Nat.le_of_ble_eq_true rfl⟩ ⟨by exact Nat.le_of_ble_eq_true rfl, by exact Nat.le_of_ble_eq_true rfl⟩) rfl ⟨rfl, rfl⟩ (fun v64 h63 H => ?_)
      refine z_sipush (pc := 357) hc dL_law_357 (by decide) ?_
      refine z_iload (pc := 360) hc dL_law_360 rfl ?_
      refine z_imul (pc := 362) hc dL_law_362 ?_
      refine z_ixor (pc := 363) hc dL_law_363 H (fun v65 H => ?_)
      refine z_calI (z_runS (pc := 364) hc dL_law_364 zw_RL_88 (metL_isAdded _ _ _ H) rfl (Nat.le_of_ble_eq_true rfl) ⟨Nat.le_of_ble_eq_true rfl, Nat.le_of_ble_eq_true rfl⟩ ⟨by exact Nat.le_of_ble_eq_true rfl, by exact Nat.le_of_ble_eq_true rfl⟩) rfl ⟨rfl, rfl⟩ (fun v67 h66 H => ?_)
      refine z_istore (pc := 367) hc dL_law_367 (by decide) (ρ' := [some (.inr (.inl a0)), some (.inr (.inl a1)), some (.inr (.inl a2)), some (.inr (.inl a3)), some (.inr (.inl a4)), some (.inr (.inl a5)), some (.inr (.inl a6)), some (.inr (.inl a7)), some (.inr (.inl a8)), some (.inr (.inl a9)), some (.inr (.inl a10)), some (.inr (.inl a11)), some (.inl v67), some (.inl x13), some (.inl x14), some (.inl x15), some (.inl x16), none, none, none, none, none, none, none, none]) rfl rfl ?_
      refine z_iinc (pc := 369) hc dL_law_369 (by decide) rfl (ρ' := [some (.inr (.inl a0)), some (.inr (.inl a1)), some (.inr (.inl a2)), some (.inr (.inl a3)), some (.inr (.inl a4)), some (.inr (.inl a5)), some (.inr (.inl a6)), some (.inr (.inl a7)), some (.inr (.inl a8)), some (.inr (.inl a9)), some (.inr (.inl a10)), some (.inr (.inl a11)), some (.inl v67), some (.inl x13), some (.inl x14), some (.inl x15), some (.inl (x16 + 1)), none, none, none, none, none, none, none, none]) rfl rfl ?_
      refine z_goto (tgt := 327) (pc := 372) hc dL_law_372 rfl ?_
      refine z_cells (cells' := 477) (slots' := 5704) (by omega) (by omega) ?_
      exact hX327 _ _ _ H
  · refine z_mask [false, true, true, true, true, true, true, true, true, true, true, true, true, true, true, false, false, false, false, false, false, false, false, false, false] (ρ' := [none, some (.inr (.inl a1)), some (.inr (.inl a2)), some (.inr (.inl a3)), some (.inr (.inl a4)), some (.inr (.inl a5)), some (.inr (.inl a6)), some (.inr (.inl a7)), some (.inr (.inl a8)), some (.inr (.inl a9)), some (.inr (.inl a10)), some (.inr (.inl a11)), some (.inl x12), some (.inl x13), some (.inl x14), none, none, none, none, none, none, none, none, none, none]) rfl ?_
    refine z_cells (cells' := 477) (slots' := 5704) (by omega) (by omega) ?_
    exact rL_law_J375 hc hX0 hR0 H
theorem rL_law_H327 (hc : zOk p s m args meth c D cL_law 25 RL (some .boolean)) {a0 L : Nat} {sc : Int → Int} {Qf : State → Prop} {Q : Int → Zm → Prop} (hX0 : zScr s base L sc a0) (hR0 : ∀ (pc : Nat) (ρ : List (Option Zv)) (v : Int) (h : Zm), decode cL_law pc = .ok (.ireturn, 1) → Q v h → zW p l e room_1 s m args below meth c D base 25 Qf 622 6144 pc ρ [.inl v] h)  {a1 : Nat} {a2 : Nat} {a3 : Nat} {a4 : Nat} {a5 : Nat} {a6 : Nat} {a7 : Nat} {a8 : Nat} {a9 : Nat} {a10 : Nat} {a11 : Nat} {x12 : Int} {x13 : Int} {x14 : Int} {x15 : Int} {x16 : Int} {h : Zm}  (H : mL_law_H327 L sc  a0 a1 a2 a3 a4 a5 a6 a7 a8 a9 a10 a11 x12 x13 x14 x15 x16 h Q) : zW p l e room_1 s m args below meth c D base 25 Qf 477 5704 327 [some (.inr (.inl a0)), some (.inr (.inl a1)), some (.inr (.inl a2)), some (.inr (.inl a3)), some (.inr (.inl a4)), some (.inr (.inl a5)), some (.inr (.inl a6)), some (.inr (.inl a7)), some (.inr (.inl a8)), some (.inr (.inl a9)), some (.inr (.inl a10)), some (.inr (.inl a11)), some (.inl x12), some (.inl x13), some (.inl x14), some (.inl x15), some (.inl x16), none, none, none, none, none, none, none, none] [] h :=
  H (fun x12 x16 h => zW p l e room_1 s m args below meth c D base 25 Qf 477 5704 327 [some (.inr (.inl a0)), some (.inr (.inl a1)), some (.inr (.inl a2)), some (.inr (.inl a3)), some (.inr (.inl a4)), some (.inr (.inl a5)), some (.inr (.inl a6)), some (.inr (.inl a7)), some (.inr (.inl a8)), some (.inr (.inl a9)), some (.inr (.inl a10)), some (.inr (.inl a11)), some (.inl x12), some (.inl x13), some (.inl x14), some (.inl x15), some (.inl x16), none, none, none, none, none, none, none, none] [] h) (fun x12 x16 h H => rL_law_B327 hc hX0 hR0 (fun _ _ _ q => q) H)
set_option maxRecDepth 100000 in
set_option maxHeartbeats 4000000 in
theorem rL_law_J310 (hc : zOk p s m args meth c D cL_law 25 RL (some .boolean)) {a0 L : Nat} {sc : Int → Int} {Qf : State → Prop} {Q : Int → Zm → Prop} (hX0 : zScr s base L sc a0) (hR0 : ∀ (pc : Nat) (ρ : List (Option Zv)) (v : Int) (h : Zm), decode cL_law pc = .ok (.ireturn, 1) → Q v h → zW p l e room_1 s m args below meth c D base 25 Qf 622 6144 pc ρ [.inl v] h)  {a1 : Nat} {a2 : Nat} {a3 : Nat} {a4 : Nat} {a5 : Nat} {a6 : Nat} {a7 : Nat} {a8 : Nat} {a9 : Nat} {a10 : Nat} {a11 : Nat} {x13 : Int} {x14 : Int} {s0 : Int} {h : Zm}  (H : mL_law_J310 L sc  a0 a1 a2 a3 a4 a5 a6 a7 a8 a9 a10 a11 x13 x14 s0 h Q) : zW p l e room_1 s m args below meth c D base 25 Qf 477 5704 310 [some (.inr (.inl a0)), some (.inr (.inl a1)), some (.inr (.inl a2)), some (.inr (.inl a3)), some (.inr (.inl a4)), some (.inr (.inl a5)), some (.inr (.inl a6)), some (.inr (.inl a7)), some (.inr (.inl a8)), some (.inr (.inl a9)), some (.inr (.inl a10)), some (.inr (.inl a11)), none, some (.inl x13), some (.inl x14), none, none, none, none, none, none, none, none, none, none] [.inl s0] h := by
  unfold mL_law_J310 at H
  refine z_istore (pc := 310) hc dL_law_310 (by decide) (ρ' := [some (.inr (.inl a0)), some (.inr (.inl a1)), some (.inr (.inl a2)), some (.inr (.inl a3)), some (.inr (.inl a4)), some (.inr (.inl a5)), some (.inr (.inl a6)), some (.inr (.inl a7)), some (.inr (.inl a8)), some (.inr (.inl a9)), some (.inr (.inl a10)), some (.inr (.inl a11)), some (.inl s0), some (.inl x13), some (.inl x14), none, none, none, none, none, none, none, none, none, none]) rfl rfl ?_
  refine z_aload_n (pc := 312) hc dL_law_312 rfl ?_
  refine z_iconst (pc := 313) hc dL_law_313 ?_
  refine z_calIX (z_runX (pc := 314) hc hX0 dL_law_314 zw_RL_76 (metL_cell _ _ _ H) rfl (Nat.le_of_ble_eq_true rfl) ⟨Nat.le_of_ble_eq_true rfl, Nat.le_of_ble_eq_true rfl⟩ ⟨by exact Nat.le_of_ble_eq_true rfl, by exact Nat.le_of_ble_eq_true rfl⟩) rfl ⟨rfl, rfl⟩ (fun v60 h59 H => ?_)
  refine z_bipush (pc := 317) hc dL_law_317 (by decide) ?_
  refine z_calI (z_runS (pc := 319) hc dL_law_319 zw_RL_10 (metL_low _ _ _ H) rfl (Nat.le_of_ble_eq_true rfl) ⟨Nat.le_of_ble_eq_true rfl, Nat.le_of_ble_eq_true rfl⟩ ⟨by exact Nat.le_of_ble_eq_true rfl, by exact Nat.le_of_ble_eq_true rfl⟩) rfl ⟨rfl, rfl⟩ (fun v62 h61 H => ?_)
  refine z_istore (pc := 322) hc dL_law_322 (by decide) (ρ' := [some (.inr (.inl a0)), some (.inr (.inl a1)), some (.inr (.inl a2)), some (.inr (.inl a3)), some (.inr (.inl a4)), some (.inr (.inl a5)), some (.inr (.inl a6)), some (.inr (.inl a7)), some (.inr (.inl a8)), some (.inr (.inl a9)), some (.inr (.inl a10)), some (.inr (.inl a11)), some (.inl s0), some (.inl x13), some (.inl x14), some (.inl v62), none, none, none, none, none, none, none, none, none]) rfl rfl ?_
  refine z_iconst (pc := 324) hc dL_law_324 ?_
  refine z_istore (pc := 325) hc dL_law_325 (by decide) (ρ' := [some (.inr (.inl a0)), some (.inr (.inl a1)), some (.inr (.inl a2)), some (.inr (.inl a3)), some (.inr (.inl a4)), some (.inr (.inl a5)), some (.inr (.inl a6)), some (.inr (.inl a7)), some (.inr (.inl a8)), some (.inr (.inl a9)), some (.inr (.inl a10)), some (.inr (.inl a11)), some (.inl s0), some (.inl x13), some (.inl x14), some (.inl v62), some (.inl 0), none, none, none, none, none, none, none, none]) rfl rfl ?_
  refine z_cells (cells' := 477) (slots' := 5704) (by omega) (by omega) ?_
  exact rL_law_H327 hc hX0 hR0 H
set_option maxRecDepth 100000 in
set_option maxHeartbeats 4000000 in
theorem rL_law_J256 (hc : zOk p s m args meth c D cL_law 25 RL (some .boolean)) {a0 L : Nat} {sc : Int → Int} {Qf : State → Prop} {Q : Int → Zm → Prop} (hX0 : zScr s base L sc a0) (hR0 : ∀ (pc : Nat) (ρ : List (Option Zv)) (v : Int) (h : Zm), decode cL_law pc = .ok (.ireturn, 1) → Q v h → zW p l e room_1 s m args below meth c D base 25 Qf 622 6144 pc ρ [.inl v] h)  {a1 : Nat} {a2 : Nat} {a3 : Nat} {a4 : Nat} {a5 : Nat} {a6 : Nat} {a7 : Nat} {a8 : Nat} {a9 : Nat} {a10 : Nat} {a11 : Nat} {x12 : Int} {h : Zm}  (H : mL_law_J256 L sc  a0 a1 a2 a3 a4 a5 a6 a7 a8 a9 a10 a11 x12 h Q) : zW p l e room_1 s m args below meth c D base 25 Qf 477 5704 256 [some (.inr (.inl a0)), some (.inr (.inl a1)), some (.inr (.inl a2)), some (.inr (.inl a3)), some (.inr (.inl a4)), some (.inr (.inl a5)), some (.inr (.inl a6)), some (.inr (.inl a7)), some (.inr (.inl a8)), some (.inr (.inl a9)), some (.inr (.inl a10)), some (.inr (.inl a11)), some (.inl x12), none, none, none, none, none, none, none, none, none, none, none, none] [] h := by
  unfold mL_law_J256 at H
  refine z_iconst (pc := 256) hc dL_law_256 ?_
  refine z_aload_n (pc := 257) hc dL_law_257 rfl ?_
  refine z_iconst (pc := 258) hc dL_law_258 ?_
  refine z_calIX (z_runX (pc := 259) hc hX0 dL_law_259 zw_RL_76 (metL_cell _ _ _ H) rfl (Nat.le_of_ble_eq_true rfl) ⟨Nat.le_of_ble_eq_true rfl, Nat.le_of_ble_eq_true rfl⟩ ⟨by exact Nat.le_of_ble_eq_true rfl, by exact Nat.le_of_ble_eq_true rfl⟩) rfl ⟨rfl, rfl⟩ (fun v40 h39 H => ?_)
  refine z_bipush (pc := 262) hc dL_law_262 (by decide) ?_
  refine z_calI (z_runS (pc := 264) hc dL_law_264 zw_RL_10 (metL_low _ _ _ H) rfl (Nat.le_of_ble_eq_true rfl) ⟨Nat.le_of_ble_eq_true rfl, Nat.le_of_ble_eq_true rfl⟩ ⟨by exact Nat.le_of_ble_eq_true rfl, by exact Nat.le_of_ble_eq_true rfl⟩) rfl ⟨rfl, rfl⟩ (fun v42 h41 H => ?_)
  refine z_iadd (pc := 267) hc dL_law_267 ?_
  refine z_istore (pc := 268) hc dL_law_268 (by decide) (ρ' := [some (.inr (.inl a0)), some (.inr (.inl a1)), some (.inr (.inl a2)), some (.inr (.inl a3)), some (.inr (.inl a4)), some (.inr (.inl a5)), some (.inr (.inl a6)), some (.inr (.inl a7)), some (.inr (.inl a8)), some (.inr (.inl a9)), some (.inr (.inl a10)), some (.inr (.inl a11)), some (.inl x12), some (.inl (1 + v42)), none, none, none, none, none, none, none, none, none, none, none]) rfl rfl ?_
  refine z_iconst (pc := 270) hc dL_law_270 ?_
  refine z_aload_n (pc := 271) hc dL_law_271 rfl ?_
  refine z_iconst (pc := 272) hc dL_law_272 ?_
  refine z_calIX (z_runX (pc := 273) hc hX0 dL_law_273 zw_RL_76 (metL_cell _ _ _ H) rfl (Nat.le_of_ble_eq_true rfl) ⟨Nat.le_of_ble_eq_true rfl, Nat.le_of_ble_eq_true rfl⟩ ⟨by exact Nat.le_of_ble_eq_true rfl, by exact Nat.le_of_ble_eq_true rfl⟩) rfl ⟨rfl, rfl⟩ (fun v44 h43 H => ?_)
  refine z_iconst (pc := 276) hc dL_law_276 ?_
  refine z_ishr (n := 32) (pc := 277) hc 5 rfl (by decide) dL_law_277 H (fun v45 H => ?_)
  refine z_bipush (pc := 278) hc dL_law_278 (by decide) ?_
  refine z_calI (z_runS (pc := 280) hc dL_law_280 zw_RL_10 (metL_low _ _ _ H) rfl (Nat.le_of_ble_eq_true rfl) ⟨Nat.le_of_ble_eq_true rfl, Nat.le_of_ble_eq_true rfl⟩ ⟨by exact Nat.le_of_ble_eq_true rfl, by exact Nat.le_of_ble_eq_true rfl⟩) rfl ⟨rfl, rfl⟩ (fun v47 h46 H => ?_)
  refine z_iadd (pc := 283) hc dL_law_283 ?_
  refine z_istore (pc := 284) hc dL_law_284 (by decide) (ρ' := [some (.inr (.inl a0)), some (.inr (.inl a1)), some (.inr (.inl a2)), some (.inr (.inl a3)), some (.inr (.inl a4)), some (.inr (.inl a5)), some (.inr (.inl a6)), some (.inr (.inl a7)), some (.inr (.inl a8)), some (.inr (.inl a9)), some (.inr (.inl a10)), some (.inr (.inl a11)), some (.inl x12), some (.inl (1 + v42)), some (.inl (1 + v47)), none, none, none, none, none, none, none, none, none, none]) rfl rfl ?_
  refine z_iload (pc := 286) hc dL_law_286 rfl ?_
  refine z_if_eq (tgt := 309) (pc := 288) hc dL_law_288 rfl H (fun H => ?_) (fun H => ?_)
  · refine z_iconst (pc := 309) hc dL_law_309 ?_
    refine z_mask [true, true, true, true, true, true, true, true, true, true, true, true, false, true, true, false, false, false, false, false, false, false, false, false, false] (ρ' := [some (.inr (.inl a0)), some (.inr (.inl a1)), some (.inr (.inl a2)), some (.inr (.inl a3)), some (.inr (.inl a4)), some (.inr (.inl a5)), some (.inr (.inl a6)), some (.inr (.inl a7)), some (.inr (.inl a8)), some (.inr (.inl a9)), some (.inr (.inl a10)), some (.inr (.inl a11)), none, some (.inl (1 + v42)), some (.inl (1 + v47)), none, none, none, none, none, none, none, none, none, none]) rfl ?_
    refine z_cells (cells' := 477) (slots' := 5704) (by omega) (by omega) ?_
    exact rL_law_J310 hc hX0 hR0 H
  · refine z_aload_n (pc := 291) hc dL_law_291 rfl ?_
    refine z_iload (pc := 292) hc dL_law_292 rfl ?_
    refine z_iload (pc := 294) hc dL_law_294 rfl ?_
    refine z_calI (z_runV (pc := 296) (ci := 6) (T := TX6) (N := 8) hc dL_law_296 zw_RL_85 (metX6_setSize _ _ _ H.2) rfl (Nat.le_of_ble_eq_true rfl) ⟨Nat.le_of_ble_eq_true rfl, Nat.le_of_ble_eq_true rfl⟩ ⟨by exact Nat.le_of_ble_eq_true rfl, by exact Nat.le_of_ble_eq_true rfl⟩ rfl H.1) rfl ⟨rfl, rfl⟩ (fun v49 h48 H => ?_)
    refine z_sipush (pc := 299) hc dL_law_299 (by decide) ?_
    refine z_icmp_ne (tgt := 309) (pc := 302) hc dL_law_302 rfl H (fun H => ?_) (fun H => ?_)
    · refine z_iconst (pc := 305) hc dL_law_305 ?_
      refine z_goto (tgt := 310) (pc := 306) hc dL_law_306 rfl ?_
      refine z_mask [true, true, true, true, true, true, true, true, true, true, true, true, false, true, true, false, false, false, false, false, false, false, false, false, false] (ρ' := [some (.inr (.inl a0)), some (.inr (.inl a1)), some (.inr (.inl a2)), some (.inr (.inl a3)), some (.inr (.inl a4)), some (.inr (.inl a5)), some (.inr (.inl a6)), some (.inr (.inl a7)), some (.inr (.inl a8)), some (.inr (.inl a9)), some (.inr (.inl a10)), some (.inr (.inl a11)), none, some (.inl (1 + v42)), some (.inl (1 + v47)), none, none, none, none, none, none, none, none, none, none]) rfl ?_
      refine z_cells (cells' := 477) (slots' := 5704) (by omega) (by omega) ?_
      exact rL_law_J310 hc hX0 hR0 H
    · refine z_iconst (pc := 309) hc dL_law_309 ?_
      refine z_mask [true, true, true, true, true, true, true, true, true, true, true, true, false, true, true, false, false, false, false, false, false, false, false, false, false] (ρ' := [some (.inr (.inl a0)), some (.inr (.inl a1)), some (.inr (.inl a2)), some (.inr (.inl a3)), some (.inr (.inl a4)), some (.inr (.inl a5)), some (.inr (.inl a6)), some (.inr (.inl a7)), some (.inr (.inl a8)), some (.inr (.inl a9)), some (.inr (.inl a10)), some (.inr (.inl a11)), none, some (.inl (1 + v42)), some (.inl (1 + v47)), none, none, none, none, none, none, none, none, none, none]) rfl ?_
      refine z_cells (cells' := 477) (slots' := 5704) (by omega) (by omega) ?_
      exact rL_law_J310 hc hX0 hR0 H
set_option maxRecDepth 100000 in
set_option maxHeartbeats 4000000 in
theorem rL_law_J240 (hc : zOk p s m args meth c D cL_law 25 RL (some .boolean)) {a0 L : Nat} {sc : Int → Int} {Qf : State → Prop} {Q : Int → Zm → Prop} (hX0 : zScr s base L sc a0) (hR0 : ∀ (pc : Nat) (ρ : List (Option Zv)) (v : Int) (h : Zm), decode cL_law pc = .ok (.ireturn, 1) → Q v h → zW p l e room_1 s m args below meth c D base 25 Qf 622 6144 pc ρ [.inl v] h) {X121 : Int → Int → Zm → Prop} {a1 : Nat} {a2 : Nat} {a3 : Nat} {a4 : Nat} {a5 : Nat} {a6 : Nat} {a7 : Nat} {a8 : Nat} {a9 : Nat} {a10 : Nat} {a11 : Nat} {x13 : Int} {s0 : Int} {s1 : Int} {h : Zm} (hX121 : ∀ (x12 : Int) (x13 : Int) (h : Zm), X121 x12 x13 h → zW p l e room_1 s m args below meth c D base 25 Qf 477 5704 121 [some (.inr (.inl a0)), some (.inr (.inl a1)), some (.inr (.inl a2)), some (.inr (.inl a3)), some (.inr (.inl a4)), some (.inr (.inl a5)), some (.inr (.inl a6)), some (.inr (.inl a7)), some (.inr (.inl a8)), some (.inr (.inl a9)), some (.inr (.inl a10)), some (.inr (.inl a11)), some (.inl x12), some (.inl x13), none, none, none, none, none, none, none, none, none, none, none] [] h) (H : mL_law_J240 L sc X121 a0 a1 a2 a3 a4 a5 a6 a7 a8 a9 a10 a11 x13 s0 s1 h Q) : zW p l e room_1 s m args below meth c D base 25 Qf 477 5704 240 [some (.inr (.inl a0)), some (.inr (.inl a1)), some (.inr (.inl a2)), some (.inr (.inl a3)), some (.inr (.inl a4)), some (.inr (.inl a5)), some (.inr (.inl a6)), some (.inr (.inl a7)), some (.inr (.inl a8)), some (.inr (.inl a9)), some (.inr (.inl a10)), some (.inr (.inl a11)), none, some (.inl x13), none, none, none, none, none, none, none, none, none, none, none] [.inl s1, .inl s0] h := by
  unfold mL_law_J240 at H
  refine z_icmp_ne (tgt := 247) (pc := 240) hc dL_law_240 rfl H (fun H => ?_) (fun H => ?_)
  · refine z_iconst (pc := 243) hc dL_law_243 ?_
    refine z_goto (tgt := 248) (pc := 244) hc dL_law_244 rfl ?_
    refine z_istore (pc := 248) hc dL_law_248 (by decide) (ρ' := [some (.inr (.inl a0)), some (.inr (.inl a1)), some (.inr (.inl a2)), some (.inr (.inl a3)), some (.inr (.inl a4)), some (.inr (.inl a5)), some (.inr (.inl a6)), some (.inr (.inl a7)), some (.inr (.inl a8)), some (.inr (.inl a9)), some (.inr (.inl a10)), some (.inr (.inl a11)), some (.inl 1), some (.inl x13), none, none, none, none, none, none, none, none, none, none, none]) rfl rfl ?_
    refine z_iinc (pc := 250) hc dL_law_250 (by decide) rfl (ρ' := [some (.inr (.inl a0)), some (.inr (.inl a1)), some (.inr (.inl a2)), some (.inr (.inl a3)), some (.inr (.inl a4)), some (.inr (.inl a5)), some (.inr (.inl a6)), some (.inr (.inl a7)), some (.inr (.inl a8)), some (.inr (.inl a9)), some (.inr (.inl a10)), some (.inr (.inl a11)), some (.inl 1), some (.inl (x13 + 1)), none, none, none, none, none, none, none, none, none, none, none]) rfl rfl ?_
    refine z_goto (tgt := 121) (pc := 253) hc dL_law_253 rfl ?_
    refine z_cells (cells' := 477) (slots' := 5704) (by omega) (by omega) ?_
    exact hX121 _ _ _ H
  · refine z_iconst (pc := 247) hc dL_law_247 ?_
    refine z_istore (pc := 248) hc dL_law_248 (by decide) (ρ' := [some (.inr (.inl a0)), some (.inr (.inl a1)), some (.inr (.inl a2)), some (.inr (.inl a3)), some (.inr (.inl a4)), some (.inr (.inl a5)), some (.inr (.inl a6)), some (.inr (.inl a7)), some (.inr (.inl a8)), some (.inr (.inl a9)), some (.inr (.inl a10)), some (.inr (.inl a11)), some (.inl 0), some (.inl x13), none, none, none, none, none, none, none, none, none, none, none]) rfl rfl ?_
    refine z_iinc (pc := 250) hc dL_law_250 (by decide) rfl (ρ' := [some (.inr (.inl a0)), some (.inr (.inl a1)), some (.inr (.inl a2)), some (.inr (.inl a3)), some (.inr (.inl a4)), some (.inr (.inl a5)), some (.inr (.inl a6)), some (.inr (.inl a7)), some (.inr (.inl a8)), some (.inr (.inl a9)), some (.inr (.inl a10)), some (.inr (.inl a11)), some (.inl 0), some (.inl (x13 + 1)), none, none, none, none, none, none, none, none, none, none, none]) rfl rfl ?_
    refine z_goto (tgt := 121) (pc := 253) hc dL_law_253 rfl ?_
    refine z_cells (cells' := 477) (slots' := 5704) (by omega) (by omega) ?_
    exact hX121 _ _ _ H
set_option maxRecDepth 100000 in
set_option maxHeartbeats 4000000 in
theorem rL_law_J186 (hc : zOk p s m args meth c D cL_law 25 RL (some .boolean)) {a0 L : Nat} {sc : Int → Int} {Qf : State → Prop} {Q : Int → Zm → Prop} (hX0 : zScr s base L sc a0) (hR0 : ∀ (pc : Nat) (ρ : List (Option Zv)) (v : Int) (h : Zm), decode cL_law pc = .ok (.ireturn, 1) → Q v h → zW p l e room_1 s m args below meth c D base 25 Qf 622 6144 pc ρ [.inl v] h) {X121 : Int → Int → Zm → Prop} {a1 : Nat} {a2 : Nat} {a3 : Nat} {a4 : Nat} {a5 : Nat} {a6 : Nat} {a7 : Nat} {a8 : Nat} {a9 : Nat} {a10 : Nat} {a11 : Nat} {x13 : Int} {q0 : Nat} {s1 : Int} {s2 : Int} {s3 : Int} {h : Zm} (hX121 : ∀ (x12 : Int) (x13 : Int) (h : Zm), X121 x12 x13 h → zW p l e room_1 s m args below meth c D base 25 Qf 477 5704 121 [some (.inr (.inl a0)), some (.inr (.inl a1)), some (.inr (.inl a2)), some (.inr (.inl a3)), some (.inr (.inl a4)), some (.inr (.inl a5)), some (.inr (.inl a6)), some (.inr (.inl a7)), some (.inr (.inl a8)), some (.inr (.inl a9)), some (.inr (.inl a10)), some (.inr (.inl a11)), some (.inl x12), some (.inl x13), none, none, none, none, none, none, none, none, none, none, none] [] h) (H : mL_law_J186 L sc X121 a0 a1 a2 a3 a4 a5 a6 a7 a8 a9 a10 a11 x13 q0 s1 s2 s3 h Q) : zW p l e room_1 s m args below meth c D base 25 Qf 477 5704 186 [some (.inr (.inl a0)), some (.inr (.inl a1)), some (.inr (.inl a2)), some (.inr (.inl a3)), some (.inr (.inl a4)), some (.inr (.inl a5)), some (.inr (.inl a6)), some (.inr (.inl a7)), some (.inr (.inl a8)), some (.inr (.inl a9)), some (.inr (.inl a10)), some (.inr (.inl a11)), none, some (.inl x13), none, none, none, none, none, none, none, none, none, none, none] [.inl s3, .inl s2, .inl s1, .inr (.inl q0)] h := by
  unfold mL_law_J186 at H
  refine z_calI (z_runS (pc := 186) hc dL_law_186 zw_RL_10 (metL_low _ _ _ H) rfl (Nat.le_of_ble_eq_true rfl) ⟨Nat.le_of_ble_eq_true rfl, Nat.le_of_ble_eq_true rfl⟩ ⟨by exact Nat.le_of_ble_eq_true rfl, by exact Nat.le_of_ble_eq_true rfl⟩) rfl ⟨rfl, rfl⟩ (fun v51 h50 H => ?_)
  refine z_iastore (pc := 189) hc dL_law_189 H (fun h52 H => ?_)
  refine z_aload_n (pc := 190) hc dL_law_190 rfl ?_
  refine z_iload (pc := 191) hc dL_law_191 rfl ?_
  refine z_aload (pc := 193) hc dL_law_193 rfl ?_
  refine z_iload (pc := 195) hc dL_law_195 rfl ?_
  refine z_iaload (pc := 197) hc dL_law_197 H (fun v53 H => ?_)
  refine z_calI (z_runV (pc := 198) (ci := 6) (T := TX6) (N := 8) hc dL_law_198 zw_RL_79 (metX6_setKnockout _ _ _ H.2) rfl (Nat.le_of_ble_eq_true rfl) ⟨Nat.le_of_ble_eq_true rfl, Nat.le_of_ble_eq_true rfl⟩ ⟨by exact Nat.le_of_ble_eq_true rfl, by exact Nat.le_of_ble_eq_true rfl⟩ rfl H.1) rfl ⟨rfl, rfl⟩ (fun v55 h54 H => ?_)
  refine z_iconst (pc := 201) hc dL_law_201 ?_
  refine z_icmp_ne (tgt := 247) (pc := 202) hc dL_law_202 rfl H (fun H => ?_) (fun H => ?_)
  · refine z_aload_n (pc := 205) hc dL_law_205 rfl ?_
    refine z_iload (pc := 206) hc dL_law_206 rfl ?_
    refine z_aload (pc := 208) hc dL_law_208 rfl ?_
    refine z_iload (pc := 210) hc dL_law_210 rfl ?_
    refine z_iaload (pc := 212) hc dL_law_212 H (fun v56 H => ?_)
    refine z_calI (z_runV (pc := 213) (ci := 6) (T := TX6) (N := 8) hc dL_law_213 zw_RL_82 (metX6_set _ _ _ H.2) rfl (Nat.le_of_ble_eq_true rfl) ⟨Nat.le_of_ble_eq_true rfl, Nat.le_of_ble_eq_true rfl⟩ ⟨by exact Nat.le_of_ble_eq_true rfl, by exact Nat.le_of_ble_eq_true rfl⟩ rfl H.1) rfl ⟨rfl, rfl⟩ (fun v58 h57 H => ?_)
    refine z_iload (pc := 216) hc dL_law_216 rfl ?_
    refine z_if_ne (tgt := 226) (pc := 218) hc dL_law_218 rfl H (fun H => ?_) (fun H => ?_)
    · refine z_bipush (pc := 221) hc dL_law_221 (by decide) ?_
      refine z_goto (tgt := 240) (pc := 223) hc dL_law_223 rfl ?_
      refine z_cells (cells' := 477) (slots' := 5704) (by omega) (by omega) ?_
      exact rL_law_J240 hc hX0 hR0 hX121 H
    · refine z_iload (pc := 226) hc dL_law_226 rfl ?_
      refine z_iconst (pc := 228) hc dL_law_228 ?_
      refine z_icmp_ne (tgt := 237) (pc := 229) hc dL_law_229 rfl H (fun H => ?_) (fun H => ?_)
      · refine z_bipush (pc := 232) hc dL_law_232 (by decide) ?_
        refine z_goto (tgt := 240) (pc := 234) hc dL_law_234 rfl ?_
        refine z_cells (cells' := 477) (slots' := 5704) (by omega) (by omega) ?_
        exact rL_law_J240 hc hX0 hR0 hX121 H
      · refine z_sipush (pc := 237) hc dL_law_237 (by decide) ?_
        refine z_cells (cells' := 477) (slots' := 5704) (by omega) (by omega) ?_
        exact rL_law_J240 hc hX0 hR0 hX121 H
  · refine z_iconst (pc := 247) hc dL_law_247 ?_
    refine z_istore (pc := 248) hc dL_law_248 (by decide) (ρ' := [some (.inr (.inl a0)), some (.inr (.inl a1)), some (.inr (.inl a2)), some (.inr (.inl a3)), some (.inr (.inl a4)), some (.inr (.inl a5)), some (.inr (.inl a6)), some (.inr (.inl a7)), some (.inr (.inl a8)), some (.inr (.inl a9)), some (.inr (.inl a10)), some (.inr (.inl a11)), some (.inl 0), some (.inl x13), none, none, none, none, none, none, none, none, none, none, none]) rfl rfl ?_
    refine z_iinc (pc := 250) hc dL_law_250 (by decide) rfl (ρ' := [some (.inr (.inl a0)), some (.inr (.inl a1)), some (.inr (.inl a2)), some (.inr (.inl a3)), some (.inr (.inl a4)), some (.inr (.inl a5)), some (.inr (.inl a6)), some (.inr (.inl a7)), some (.inr (.inl a8)), some (.inr (.inl a9)), some (.inr (.inl a10)), some (.inr (.inl a11)), some (.inl 0), some (.inl (x13 + 1)), none, none, none, none, none, none, none, none, none, none, none]) rfl rfl ?_
    refine z_goto (tgt := 121) (pc := 253) hc dL_law_253 rfl ?_
    refine z_cells (cells' := 477) (slots' := 5704) (by omega) (by omega) ?_
    exact hX121 _ _ _ H
set_option maxRecDepth 100000 in
set_option maxHeartbeats 4000000 in
theorem rL_law_B121 (hc : zOk p s m args meth c D cL_law 25 RL (some .boolean)) {a0 L : Nat} {sc : Int → Int} {Qf : State → Prop} {Q : Int → Zm → Prop} (hX0 : zScr s base L sc a0) (hR0 : ∀ (pc : Nat) (ρ : List (Option Zv)) (v : Int) (h : Zm), decode cL_law pc = .ok (.ireturn, 1) → Q v h → zW p l e room_1 s m args below meth c D base 25 Qf 622 6144 pc ρ [.inl v] h) {X121 : Int → Int → Zm → Prop} {a1 : Nat} {a2 : Nat} {a3 : Nat} {a4 : Nat} {a5 : Nat} {a6 : Nat} {a7 : Nat} {a8 : Nat} {a9 : Nat} {a10 : Nat} {a11 : Nat} {x12 : Int} {x13 : Int} {h : Zm} (hX121 : ∀ (x12 : Int) (x13 : Int) (h : Zm), X121 x12 x13 h → zW p l e room_1 s m args below meth c D base 25 Qf 477 5704 121 [some (.inr (.inl a0)), some (.inr (.inl a1)), some (.inr (.inl a2)), some (.inr (.inl a3)), some (.inr (.inl a4)), some (.inr (.inl a5)), some (.inr (.inl a6)), some (.inr (.inl a7)), some (.inr (.inl a8)), some (.inr (.inl a9)), some (.inr (.inl a10)), some (.inr (.inl a11)), some (.inl x12), some (.inl x13), none, none, none, none, none, none, none, none, none, none, none] [] h) (H : mL_law_B121 L sc X121 a0 a1 a2 a3 a4 a5 a6 a7 a8 a9 a10 a11 x12 x13 h Q) : zW p l e room_1 s m args below meth c D base 25 Qf 477 5704 121 [some (.inr (.inl a0)), some (.inr (.inl a1)), some (.inr (.inl a2)), some (.inr (.inl a3)), some (.inr (.inl a4)), some (.inr (.inl a5)), some (.inr (.inl a6)), some (.inr (.inl a7)), some (.inr (.inl a8)), some (.inr (.inl a9)), some (.inr (.inl a10)), some (.inr (.inl a11)), some (.inl x12), some (.inl x13), none, none, none, none, none, none, none, none, none, none, none] [] h := by
  unfold mL_law_B121 at H
  refine z_iload (pc := 121) hc dL_law_121 rfl ?_
  refine z_iconst (pc := 123) hc dL_law_123 ?_
  refine z_icmp_ge (tgt := 256) (pc := 124) hc dL_law_124 rfl H (fun H => ?_) (fun H => ?_)
  · refine z_iload (pc := 127) hc dL_law_127 rfl ?_
    refine z_if_eq (tgt := 256) (pc := 129) hc dL_law_129 rfl H (fun H => ?_) (fun H => ?_)
    · refine z_mask [true, true, true, true, true, true, true, true, true, true, true, true, true, false, false, false, false, false, false, false, false, false, false, false, false] (ρ' := [some (.inr (.inl a0)), some (.inr (.inl a1)), some (.inr (.inl a2)), some (.inr (.inl a3)), some (.inr (.inl a4)), some (.inr (.inl a5)), some (.inr (.inl a6)), some (.inr (.inl a7)), some (.inr (.inl a8)), some (.inr (.inl a9)), some (.inr (.inl a10)), some (.inr (.inl a11)), some (.inl x12), none, none, none, none, none, none, none, none, none, none, none, none]) rfl ?_
      refine z_cells (cells' := 477) (slots' := 5704) (by omega) (by omega) ?_
      exact rL_law_J256 hc hX0 hR0 H
    · refine z_aload (pc := 132) hc dL_law_132 rfl ?_
      refine z_iload (pc := 134) hc dL_law_134 rfl ?_
      refine z_aload_n (pc := 136) hc dL_law_136 rfl ?_
      refine z_iconst (pc := 137) hc dL_law_137 ?_
      refine z_calIX (z_runX (pc := 138) hc hX0 dL_law_138 zw_RL_76 (metL_cell _ _ _ H) rfl (Nat.le_of_ble_eq_true rfl) ⟨Nat.le_of_ble_eq_true rfl, Nat.le_of_ble_eq_true rfl⟩ ⟨by exact Nat.le_of_ble_eq_true rfl, by exact Nat.le_of_ble_eq_true rfl⟩) rfl ⟨rfl, rfl⟩ (fun v32 h31 H => ?_)
      refine z_iload (pc := 141) hc dL_law_141 rfl ?_
      refine z_ishrv (pc := 143) hc dL_law_143 H (fun v33 H => ?_)
      refine z_iconst (pc := 144) hc dL_law_144 ?_
      refine z_calI (z_runS (pc := 145) hc dL_law_145 zw_RL_10 (metL_low _ _ _ H) rfl (Nat.le_of_ble_eq_true rfl) ⟨Nat.le_of_ble_eq_true rfl, Nat.le_of_ble_eq_true rfl⟩ ⟨by exact Nat.le_of_ble_eq_true rfl, by exact Nat.le_of_ble_eq_true rfl⟩) rfl ⟨rfl, rfl⟩ (fun v35 h34 H => ?_)
      refine z_iastore (pc := 148) hc dL_law_148 H (fun h36 H => ?_)
      refine z_aload (pc := 149) hc dL_law_149 rfl ?_
      refine z_iload (pc := 151) hc dL_law_151 rfl ?_
      refine z_aload_n (pc := 153) hc dL_law_153 rfl ?_
      refine z_iconst (pc := 154) hc dL_law_154 ?_
      refine z_iload (pc := 155) hc dL_law_155 rfl ?_
      refine z_iadd (pc := 157) hc dL_law_157 ?_
      refine z_calIX (z_runX (pc := 158) hc hX0 dL_law_158 zw_RL_76 (metL_cell _ _ _ H) rfl (Nat.le_of_ble_eq_true rfl) ⟨Nat.le_of_ble_eq_true rfl, Nat.le_of_ble_eq_true rfl⟩ ⟨by exact Nat.le_of_ble_eq_true rfl, by exact Nat.le_of_ble_eq_true rfl⟩) rfl ⟨rfl, rfl⟩ (fun v38 h37 H => ?_)
      refine z_iload (pc := 161) hc dL_law_161 rfl ?_
      refine z_if_ne (tgt := 171) (pc := 163) hc dL_law_163 rfl H (fun H => ?_) (fun H => ?_)
      · refine z_bipush (pc := 166) hc dL_law_166 (by decide) ?_
        refine z_goto (tgt := 186) (pc := 168) hc dL_law_168 rfl ?_
        refine z_mask [true, true, true, true, true, true, true, true, true, true, true, true, false, true, false, false, false, false, false, false, false, false, false, false, false] (ρ' := [some (.inr (.inl a0)), some (.inr (.inl a1)), some (.inr (.inl a2)), some (.inr (.inl a3)), some (.inr (.inl a4)), some (.inr (.inl a5)), some (.inr (.inl a6)), some (.inr (.inl a7)), some (.inr (.inl a8)), some (.inr (.inl a9)), some (.inr (.inl a10)), some (.inr (.inl a11)), none, some (.inl x13), none, none, none, none, none, none, none, none, none, none, none]) rfl ?_
        refine z_cells (cells' := 477) (slots' := 5704) (by omega) (by omega) ?_
        exact rL_law_J186 hc hX0 hR0 hX121 H
      · refine z_iload (pc := 171) hc dL_law_171 rfl ?_
        refine z_iconst (pc := 173) hc dL_law_173 ?_
        refine z_icmp_ne (tgt := 183) (pc := 174) hc dL_law_174 rfl H (fun H => ?_) (fun H => ?_)
        · refine z_sipush (pc := 177) hc dL_law_177 (by decide) ?_
          refine z_goto (tgt := 186) (pc := 180) hc dL_law_180 rfl ?_
          refine z_mask [true, true, true, true, true, true, true, true, true, true, true, true, false, true, false, false, false, false, false, false, false, false, false, false, false] (ρ' := [some (.inr (.inl a0)), some (.inr (.inl a1)), some (.inr (.inl a2)), some (.inr (.inl a3)), some (.inr (.inl a4)), some (.inr (.inl a5)), some (.inr (.inl a6)), some (.inr (.inl a7)), some (.inr (.inl a8)), some (.inr (.inl a9)), some (.inr (.inl a10)), some (.inr (.inl a11)), none, some (.inl x13), none, none, none, none, none, none, none, none, none, none, none]) rfl ?_
          refine z_cells (cells' := 477) (slots' := 5704) (by omega) (by omega) ?_
          exact rL_law_J186 hc hX0 hR0 hX121 H
        · refine z_sipush (pc := 183) hc dL_law_183 (by decide) ?_
          refine z_mask [true, true, true, true, true, true, true, true, true, true, true, true, false, true, false, false, false, false, false, false, false, false, false, false, false] (ρ' := [some (.inr (.inl a0)), some (.inr (.inl a1)), some (.inr (.inl a2)), some (.inr (.inl a3)), some (.inr (.inl a4)), some (.inr (.inl a5)), some (.inr (.inl a6)), some (.inr (.inl a7)), some (.inr (.inl a8)), some (.inr (.inl a9)), some (.inr (.inl a10)), some (.inr (.inl a11)), none, some (.inl x13), none, none, none, none, none, none, none, none, none, none, none]) rfl ?_
          refine z_cells (cells' := 477) (slots' := 5704) (by omega) (by omega) ?_
          exact rL_law_J186 hc hX0 hR0 hX121 H
  · refine z_mask [true, true, true, true, true, true, true, true, true, true, true, true, true, false, false, false, false, false, false, false, false, false, false, false, false] (ρ' := [some (.inr (.inl a0)), some (.inr (.inl a1)), some (.inr (.inl a2)), some (.inr (.inl a3)), some (.inr (.inl a4)), some (.inr (.inl a5)), some (.inr (.inl a6)), some (.inr (.inl a7)), some (.inr (.inl a8)), some (.inr (.inl a9)), some (.inr (.inl a10)), some (.inr (.inl a11)), some (.inl x12), none, none, none, none, none, none, none, none, none, none, none, none]) rfl ?_
    refine z_cells (cells' := 477) (slots' := 5704) (by omega) (by omega) ?_
    exact rL_law_J256 hc hX0 hR0 H
theorem rL_law_H121 (hc : zOk p s m args meth c D cL_law 25 RL (some .boolean)) {a0 L : Nat} {sc : Int → Int} {Qf : State → Prop} {Q : Int → Zm → Prop} (hX0 : zScr s base L sc a0) (hR0 : ∀ (pc : Nat) (ρ : List (Option Zv)) (v : Int) (h : Zm), decode cL_law pc = .ok (.ireturn, 1) → Q v h → zW p l e room_1 s m args below meth c D base 25 Qf 622 6144 pc ρ [.inl v] h)  {a1 : Nat} {a2 : Nat} {a3 : Nat} {a4 : Nat} {a5 : Nat} {a6 : Nat} {a7 : Nat} {a8 : Nat} {a9 : Nat} {a10 : Nat} {a11 : Nat} {x12 : Int} {x13 : Int} {h : Zm}  (H : mL_law_H121 L sc  a0 a1 a2 a3 a4 a5 a6 a7 a8 a9 a10 a11 x12 x13 h Q) : zW p l e room_1 s m args below meth c D base 25 Qf 477 5704 121 [some (.inr (.inl a0)), some (.inr (.inl a1)), some (.inr (.inl a2)), some (.inr (.inl a3)), some (.inr (.inl a4)), some (.inr (.inl a5)), some (.inr (.inl a6)), some (.inr (.inl a7)), some (.inr (.inl a8)), some (.inr (.inl a9)), some (.inr (.inl a10)), some (.inr (.inl a11)), some (.inl x12), some (.inl x13), none, none, none, none, none, none, none, none, none, none, none] [] h :=
  H (fun x12 x13 h => zW p l e room_1 s m args below meth c D base 25 Qf 477 5704 121 [some (.inr (.inl a0)), some (.inr (.inl a1)), some (.inr (.inl a2)), some (.inr (.inl a3)), some (.inr (.inl a4)), some (.inr (.inl a5)), some (.inr (.inl a6)), some (.inr (.inl a7)), some (.inr (.inl a8)), some (.inr (.inl a9)), some (.inr (.inl a10)), some (.inr (.inl a11)), some (.inl x12), some (.inl x13), none, none, none, none, none, none, none, none, none, none, none] [] h) (fun x12 x13 h H => rL_law_B121 hc hX0 hR0 (fun _ _ _ q => q) H)
set_option maxRecDepth 100000 in
set_option maxHeartbeats 4000000 in
theorem rL_law (hc : zOk p s m args meth c D cL_law 25 RL (some .boolean)) {a0 L : Nat} {sc : Int → Int} {Qf : State → Prop} {Q : Int → Zm → Prop} (hX0 : zScr s base L sc a0) (hR0 : ∀ (pc : Nat) (ρ : List (Option Zv)) (v : Int) (h : Zm), decode cL_law pc = .ok (.ireturn, 1) → Q v h → zW p l e room_1 s m args below meth c D base 25 Qf 622 6144 pc ρ [.inl v] h) {h : Zm} (H : mL_law L sc a0 h Q) : zW p l e room_1 s m args below meth c D base 25 Qf 0 0 0 [some (.inr (.inl a0)), none, none, none, none, none, none, none, none, none, none, none, none, none, none, none, none, none, none, none, none, none, none, none, none] [] h := by
  unfold mL_law at H
  refine z_new (pc := 0) (ci := 6) hc dL_law_0 zc6 (by decide +kernel) (zT_mem 14 (by decide +kernel) rfl) (zT_mem 15 (by decide +kernel) rfl) (zT_mem 6 (by decide +kernel) rfl) (by exact Nat.le_of_ble_eq_true rfl) (by exact Nat.le_of_ble_eq_true rfl) H (fun r1 h2 H => ?_)
  refine z_dup (pc := 3) hc dL_law_3 rfl ?_
  refine z_calV (mc := 466) (ms := 5550) (z_runI (pc := 4) hc dL_law_4 zw_RL_62 (metX6_init _ _ _ H.2) rfl (Nat.le_of_ble_eq_true rfl) ⟨Nat.le_of_ble_eq_true rfl, Nat.le_of_ble_eq_true rfl⟩ ⟨by exact Nat.le_of_ble_eq_true rfl, by exact Nat.le_of_ble_eq_true rfl⟩ (d := 16) (by decide) H.1) rfl ⟨rfl, rfl⟩ (fun h3 H => ?_)
  refine z_astore_n (pc := 7) hc dL_law_7 (by decide) (ρ' := [some (.inr (.inl a0)), some (.inr (.inl r1)), none, none, none, none, none, none, none, none, none, none, none, none, none, none, none, none, none, none, none, none, none, none, none]) rfl rfl ?_
  refine z_bipush (pc := 8) hc dL_law_8 (by decide) ?_
  refine z_newarr (pc := 10) (t := 1) (n := 24) hc dL_law_10 (by decide) rfl (zT_mem 129 (by decide +kernel) rfl) (by decide) (by exact Nat.le_of_ble_eq_true rfl) (by exact Nat.le_of_ble_eq_true rfl) H (fun r4 h5 H => ?_)
  refine z_astore_n (pc := 12) hc dL_law_12 (by decide) (ρ' := [some (.inr (.inl a0)), some (.inr (.inl r1)), some (.inr (.inl r4)), none, none, none, none, none, none, none, none, none, none, none, none, none, none, none, none, none, none, none, none, none, none]) rfl rfl ?_
  refine z_bipush (pc := 13) hc dL_law_13 (by decide) ?_
  refine z_newarr (pc := 15) (t := 1) (n := 24) hc dL_law_15 (by decide) rfl (zT_mem 129 (by decide +kernel) rfl) (by decide) (by exact Nat.le_of_ble_eq_true rfl) (by exact Nat.le_of_ble_eq_true rfl) H (fun r6 h7 H => ?_)
  refine z_astore_n (pc := 17) hc dL_law_17 (by decide) (ρ' := [some (.inr (.inl a0)), some (.inr (.inl r1)), some (.inr (.inl r4)), some (.inr (.inl r6)), none, none, none, none, none, none, none, none, none, none, none, none, none, none, none, none, none, none, none, none, none]) rfl rfl ?_
  refine z_bipush (pc := 18) hc dL_law_18 (by decide) ?_
  refine z_newarr (pc := 20) (t := 1) (n := 24) hc dL_law_20 (by decide) rfl (zT_mem 129 (by decide +kernel) rfl) (by decide) (by exact Nat.le_of_ble_eq_true rfl) (by exact Nat.le_of_ble_eq_true rfl) H (fun r8 h9 H => ?_)
  refine z_astore (pc := 22) hc dL_law_22 (by decide) (ρ' := [some (.inr (.inl a0)), some (.inr (.inl r1)), some (.inr (.inl r4)), some (.inr (.inl r6)), some (.inr (.inl r8)), none, none, none, none, none, none, none, none, none, none, none, none, none, none, none, none, none, none, none, none]) rfl rfl ?_
  refine z_bipush (pc := 24) hc dL_law_24 (by decide) ?_
  refine z_newarr (pc := 26) (t := 1) (n := 24) hc dL_law_26 (by decide) rfl (zT_mem 129 (by decide +kernel) rfl) (by decide) (by exact Nat.le_of_ble_eq_true rfl) (by exact Nat.le_of_ble_eq_true rfl) H (fun r10 h11 H => ?_)
  refine z_astore (pc := 28) hc dL_law_28 (by decide) (ρ' := [some (.inr (.inl a0)), some (.inr (.inl r1)), some (.inr (.inl r4)), some (.inr (.inl r6)), some (.inr (.inl r8)), some (.inr (.inl r10)), none, none, none, none, none, none, none, none, none, none, none, none, none, none, none, none, none, none, none]) rfl rfl ?_
  refine z_bipush (pc := 30) hc dL_law_30 (by decide) ?_
  refine z_newarr (pc := 32) (t := 1) (n := 24) hc dL_law_32 (by decide) rfl (zT_mem 129 (by decide +kernel) rfl) (by decide) (by exact Nat.le_of_ble_eq_true rfl) (by exact Nat.le_of_ble_eq_true rfl) H (fun r12 h13 H => ?_)
  refine z_astore (pc := 34) hc dL_law_34 (by decide) (ρ' := [some (.inr (.inl a0)), some (.inr (.inl r1)), some (.inr (.inl r4)), some (.inr (.inl r6)), some (.inr (.inl r8)), some (.inr (.inl r10)), some (.inr (.inl r12)), none, none, none, none, none, none, none, none, none, none, none, none, none, none, none, none, none, none]) rfl rfl ?_
  refine z_iconst (pc := 36) hc dL_law_36 ?_
  refine z_newarr (pc := 37) (t := 1) (n := 3) hc dL_law_37 (by decide) rfl (zT_mem 129 (by decide +kernel) rfl) (by decide) (by exact Nat.le_of_ble_eq_true rfl) (by exact Nat.le_of_ble_eq_true rfl) H (fun r14 h15 H => ?_)
  refine z_astore (pc := 39) hc dL_law_39 (by decide) (ρ' := [some (.inr (.inl a0)), some (.inr (.inl r1)), some (.inr (.inl r4)), some (.inr (.inl r6)), some (.inr (.inl r8)), some (.inr (.inl r10)), some (.inr (.inl r12)), some (.inr (.inl r14)), none, none, none, none, none, none, none, none, none, none, none, none, none, none, none, none, none]) rfl rfl ?_
  refine z_iconst (pc := 41) hc dL_law_41 ?_
  refine z_newarr (pc := 42) (t := 1) (n := 3) hc dL_law_42 (by decide) rfl (zT_mem 129 (by decide +kernel) rfl) (by decide) (by exact Nat.le_of_ble_eq_true rfl) (by exact Nat.le_of_ble_eq_true rfl) H (fun r16 h17 H => ?_)
  refine z_astore (pc := 44) hc dL_law_44 (by decide) (ρ' := [some (.inr (.inl a0)), some (.inr (.inl r1)), some (.inr (.inl r4)), some (.inr (.inl r6)), some (.inr (.inl r8)), some (.inr (.inl r10)), some (.inr (.inl r12)), some (.inr (.inl r14)), some (.inr (.inl r16)), none, none, none, none, none, none, none, none, none, none, none, none, none, none, none, none]) rfl rfl ?_
  refine z_bipush (pc := 46) hc dL_law_46 (by decide) ?_
  refine z_newarr (pc := 48) (t := 1) (n := 6) hc dL_law_48 (by decide) rfl (zT_mem 129 (by decide +kernel) rfl) (by decide) (by exact Nat.le_of_ble_eq_true rfl) (by exact Nat.le_of_ble_eq_true rfl) H (fun r18 h19 H => ?_)
  refine z_astore (pc := 50) hc dL_law_50 (by decide) (ρ' := [some (.inr (.inl a0)), some (.inr (.inl r1)), some (.inr (.inl r4)), some (.inr (.inl r6)), some (.inr (.inl r8)), some (.inr (.inl r10)), some (.inr (.inl r12)), some (.inr (.inl r14)), some (.inr (.inl r16)), some (.inr (.inl r18)), none, none, none, none, none, none, none, none, none, none, none, none, none, none, none]) rfl rfl ?_
  refine z_bipush (pc := 52) hc dL_law_52 (by decide) ?_
  refine z_newarr (pc := 54) (t := 1) (n := 7) hc dL_law_54 (by decide) rfl (zT_mem 129 (by decide +kernel) rfl) (by decide) (by exact Nat.le_of_ble_eq_true rfl) (by exact Nat.le_of_ble_eq_true rfl) H (fun r20 h21 H => ?_)
  refine z_astore (pc := 56) hc dL_law_56 (by decide) (ρ' := [some (.inr (.inl a0)), some (.inr (.inl r1)), some (.inr (.inl r4)), some (.inr (.inl r6)), some (.inr (.inl r8)), some (.inr (.inl r10)), some (.inr (.inl r12)), some (.inr (.inl r14)), some (.inr (.inl r16)), some (.inr (.inl r18)), some (.inr (.inl r20)), none, none, none, none, none, none, none, none, none, none, none, none, none, none]) rfl rfl ?_
  refine z_bipush (pc := 58) hc dL_law_58 (by decide) ?_
  refine z_newarr (pc := 60) (t := 1) (n := 7) hc dL_law_60 (by decide) rfl (zT_mem 129 (by decide +kernel) rfl) (by decide) (by exact Nat.le_of_ble_eq_true rfl) (by exact Nat.le_of_ble_eq_true rfl) H (fun r22 h23 H => ?_)
  refine z_astore (pc := 62) hc dL_law_62 (by decide) (ρ' := [some (.inr (.inl a0)), some (.inr (.inl r1)), some (.inr (.inl r4)), some (.inr (.inl r6)), some (.inr (.inl r8)), some (.inr (.inl r10)), some (.inr (.inl r12)), some (.inr (.inl r14)), some (.inr (.inl r16)), some (.inr (.inl r18)), some (.inr (.inl r20)), some (.inr (.inl r22)), none, none, none, none, none, none, none, none, none, none, none, none, none]) rfl rfl ?_
  refine z_aload_n (pc := 64) hc dL_law_64 rfl ?_
  refine z_aload_n (pc := 65) hc dL_law_65 rfl ?_
  refine z_aload (pc := 66) hc dL_law_66 rfl ?_
  refine z_aload (pc := 68) hc dL_law_68 rfl ?_
  refine z_aload (pc := 70) hc dL_law_70 rfl ?_
  refine z_calV0 (z_runS (pc := 72) hc dL_law_72 zw_RL_63 (metL_begins _ _ _ H) rfl (Nat.le_of_ble_eq_true rfl) ⟨Nat.le_of_ble_eq_true rfl, Nat.le_of_ble_eq_true rfl⟩ ⟨by exact Nat.le_of_ble_eq_true rfl, by exact Nat.le_of_ble_eq_true rfl⟩) rfl ⟨rfl, rfl⟩ (fun h24 H => ?_)
  refine z_aload_n (pc := 75) hc dL_law_75 rfl ?_
  refine z_iconst (pc := 76) hc dL_law_76 ?_
  refine z_iconst (pc := 77) hc dL_law_77 ?_
  refine z_bipush (pc := 78) hc dL_law_78 (by decide) ?_
  refine z_calI (z_runV (pc := 80) (ci := 6) (T := TX6) (N := 8) hc dL_law_80 zw_RL_67 (metX6_ink _ _ _ H.2) rfl (Nat.le_of_ble_eq_true rfl) ⟨Nat.le_of_ble_eq_true rfl, Nat.le_of_ble_eq_true rfl⟩ ⟨by exact Nat.le_of_ble_eq_true rfl, by exact Nat.le_of_ble_eq_true rfl⟩ rfl H.1) rfl ⟨rfl, rfl⟩ (fun v26 h25 H => ?_)
  refine z_if_ne (tgt := 115) (pc := 83) hc dL_law_83 rfl H (fun H => ?_) (fun H => ?_)
  · refine z_aload_n (pc := 86) hc dL_law_86 rfl ?_
    refine z_bipush (pc := 87) hc dL_law_87 (by decide) ?_
    refine z_iconst (pc := 89) hc dL_law_89 ?_
    refine z_iconst (pc := 90) hc dL_law_90 ?_
    refine z_calI (z_runV (pc := 91) (ci := 6) (T := TX6) (N := 8) hc dL_law_91 zw_RL_70 (metX6_rendered _ _ _ H.2) rfl (Nat.le_of_ble_eq_true rfl) ⟨Nat.le_of_ble_eq_true rfl, Nat.le_of_ble_eq_true rfl⟩ ⟨by exact Nat.le_of_ble_eq_true rfl, by exact Nat.le_of_ble_eq_true rfl⟩ rfl H.1) rfl ⟨rfl, rfl⟩ (fun v28 h27 H => ?_)
    refine z_sipush (pc := 94) hc dL_law_94 (by decide) ?_
    refine z_icmp_ne (tgt := 115) (pc := 97) hc dL_law_97 rfl H (fun H => ?_) (fun H => ?_)
    · refine z_aload_n (pc := 100) hc dL_law_100 rfl ?_
      refine z_iconst (pc := 101) hc dL_law_101 ?_
      refine z_iconst (pc := 102) hc dL_law_102 ?_
      refine z_calI (z_runV (pc := 103) (ci := 6) (T := TX6) (N := 8) hc dL_law_103 zw_RL_73 (metX6_touchedBy _ _ _ H.2) rfl (Nat.le_of_ble_eq_true rfl) ⟨Nat.le_of_ble_eq_true rfl, Nat.le_of_ble_eq_true rfl⟩ ⟨by exact Nat.le_of_ble_eq_true rfl, by exact Nat.le_of_ble_eq_true rfl⟩ rfl H.1) rfl ⟨rfl, rfl⟩ (fun v30 h29 H => ?_)
      refine z_bipush (pc := 106) hc dL_law_106 (by decide) ?_
      refine z_icmp_ne (tgt := 115) (pc := 108) hc dL_law_108 rfl H (fun H => ?_) (fun H => ?_)
      · refine z_iconst (pc := 111) hc dL_law_111 ?_
        refine z_goto (tgt := 116) (pc := 112) hc dL_law_112 rfl ?_
        refine z_istore (pc := 116) hc dL_law_116 (by decide) (ρ' := [some (.inr (.inl a0)), some (.inr (.inl r1)), some (.inr (.inl r4)), some (.inr (.inl r6)), some (.inr (.inl r8)), some (.inr (.inl r10)), some (.inr (.inl r12)), some (.inr (.inl r14)), some (.inr (.inl r16)), some (.inr (.inl r18)), some (.inr (.inl r20)), some (.inr (.inl r22)), some (.inl 1), none, none, none, none, none, none, none, none, none, none, none, none]) rfl rfl ?_
        refine z_iconst (pc := 118) hc dL_law_118 ?_
        refine z_istore (pc := 119) hc dL_law_119 (by decide) (ρ' := [some (.inr (.inl a0)), some (.inr (.inl r1)), some (.inr (.inl r4)), some (.inr (.inl r6)), some (.inr (.inl r8)), some (.inr (.inl r10)), some (.inr (.inl r12)), some (.inr (.inl r14)), some (.inr (.inl r16)), some (.inr (.inl r18)), some (.inr (.inl r20)), some (.inr (.inl r22)), some (.inl 1), some (.inl 0), none, none, none, none, none, none, none, none, none, none, none]) rfl rfl ?_
        refine z_cells (cells' := 477) (slots' := 5704) (by omega) (by omega) ?_
        exact rL_law_H121 hc hX0 hR0 H
      · refine z_iconst (pc := 115) hc dL_law_115 ?_
        refine z_istore (pc := 116) hc dL_law_116 (by decide) (ρ' := [some (.inr (.inl a0)), some (.inr (.inl r1)), some (.inr (.inl r4)), some (.inr (.inl r6)), some (.inr (.inl r8)), some (.inr (.inl r10)), some (.inr (.inl r12)), some (.inr (.inl r14)), some (.inr (.inl r16)), some (.inr (.inl r18)), some (.inr (.inl r20)), some (.inr (.inl r22)), some (.inl 0), none, none, none, none, none, none, none, none, none, none, none, none]) rfl rfl ?_
        refine z_iconst (pc := 118) hc dL_law_118 ?_
        refine z_istore (pc := 119) hc dL_law_119 (by decide) (ρ' := [some (.inr (.inl a0)), some (.inr (.inl r1)), some (.inr (.inl r4)), some (.inr (.inl r6)), some (.inr (.inl r8)), some (.inr (.inl r10)), some (.inr (.inl r12)), some (.inr (.inl r14)), some (.inr (.inl r16)), some (.inr (.inl r18)), some (.inr (.inl r20)), some (.inr (.inl r22)), some (.inl 0), some (.inl 0), none, none, none, none, none, none, none, none, none, none, none]) rfl rfl ?_
        refine z_cells (cells' := 477) (slots' := 5704) (by omega) (by omega) ?_
        exact rL_law_H121 hc hX0 hR0 H
    · refine z_iconst (pc := 115) hc dL_law_115 ?_
      refine z_istore (pc := 116) hc dL_law_116 (by decide) (ρ' := [some (.inr (.inl a0)), some (.inr (.inl r1)), some (.inr (.inl r4)), some (.inr (.inl r6)), some (.inr (.inl r8)), some (.inr (.inl r10)), some (.inr (.inl r12)), some (.inr (.inl r14)), some (.inr (.inl r16)), some (.inr (.inl r18)), some (.inr (.inl r20)), some (.inr (.inl r22)), some (.inl 0), none, none, none, none, none, none, none, none, none, none, none, none]) rfl rfl ?_
      refine z_iconst (pc := 118) hc dL_law_118 ?_
      refine z_istore (pc := 119) hc dL_law_119 (by decide) (ρ' := [some (.inr (.inl a0)), some (.inr (.inl r1)), some (.inr (.inl r4)), some (.inr (.inl r6)), some (.inr (.inl r8)), some (.inr (.inl r10)), some (.inr (.inl r12)), some (.inr (.inl r14)), some (.inr (.inl r16)), some (.inr (.inl r18)), some (.inr (.inl r20)), some (.inr (.inl r22)), some (.inl 0), some (.inl 0), none, none, none, none, none, none, none, none, none, none, none]) rfl rfl ?_
      refine z_cells (cells' := 477) (slots' := 5704) (by omega) (by omega) ?_
      exact rL_law_H121 hc hX0 hR0 H
  · refine z_iconst (pc := 115) hc dL_law_115 ?_
    refine z_istore (pc := 116) hc dL_law_116 (by decide) (ρ' := [some (.inr (.inl a0)), some (.inr (.inl r1)), some (.inr (.inl r4)), some (.inr (.inl r6)), some (.inr (.inl r8)), some (.inr (.inl r10)), some (.inr (.inl r12)), some (.inr (.inl r14)), some (.inr (.inl r16)), some (.inr (.inl r18)), some (.inr (.inl r20)), some (.inr (.inl r22)), some (.inl 0), none, none, none, none, none, none, none, none, none, none, none, none]) rfl rfl ?_
    refine z_iconst (pc := 118) hc dL_law_118 ?_
    refine z_istore (pc := 119) hc dL_law_119 (by decide) (ρ' := [some (.inr (.inl a0)), some (.inr (.inl r1)), some (.inr (.inl r4)), some (.inr (.inl r6)), some (.inr (.inl r8)), some (.inr (.inl r10)), some (.inr (.inl r12)), some (.inr (.inl r14)), some (.inr (.inl r16)), some (.inr (.inl r18)), some (.inr (.inl r20)), some (.inr (.inl r22)), some (.inl 0), some (.inl 0), none, none, none, none, none, none, none, none, none, none, none]) rfl rfl ?_
    refine z_cells (cells' := 477) (slots' := 5704) (by omega) (by omega) ?_
    exact rL_law_H121 hc hX0 hR0 H
end
