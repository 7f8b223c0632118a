/-! printed by gen.py: the law -/
def mL_law_B18 (L : Nat) (sc : Int → Int) (X18 : Int → Zm → Prop) (a0 : Nat) (a1 : Nat) (a2 : Nat) (x3 : Int) (h : Zm) (Q : Int → Zm → Prop) : Prop :=
  cLe x3 ((L : Int) - 5)
  (cSld L sc x3 fun v7 => cAnd v7 32 fun v8 => InR v8 ∧ 
    (v8 = 0 → (cSld L sc (x3 + 1) fun v9 => cSld L sc (x3 + 2) fun v10 => cRc h 16 a1 <| mX6_setSize a1 v9 v10 h fun v12 h11 => cSld L sc (x3 + 1) fun v13 => cSld L sc (x3 + 2) fun v14 => cRc h11 17 a2 <| mX7_setSize a2 v13 v14 h11 fun v16 h15 => cEq v12 v16
        (X18 (x3 + 5) h15)
        (Q 0 h15))) ∧ 
    (v8 = 1 → (cSld L sc (x3 + 1) fun v17 => cSld L sc (x3 + 2) fun v18 => cSld L sc (x3 + 3) fun v19 => cSld L sc (x3 + 4) fun v20 => cRc h 16 a1 <| mX6_addGroup a1 v17 v18 v19 v20 h fun v22 h21 => cSld L sc (x3 + 1) fun v23 => cSld L sc (x3 + 2) fun v24 => cSld L sc (x3 + 3) fun v25 => cSld L sc (x3 + 4) fun v26 => cRc h21 17 a2 <| mX7_addGroup a2 v23 v24 v25 v26 h21 fun v28 h27 => cEq v22 v28
        (X18 (x3 + 5) h27)
        (Q 0 h27))) ∧ 
    (v8 = 2 → (cSld L sc (x3 + 1) fun v29 => cRc h 16 a1 <| mX6_addRect a1 v29 h fun v31 h30 => cSld L sc (x3 + 1) fun v32 => cRc h30 17 a2 <| mX7_addRect a2 v32 h30 fun v34 h33 => cEq v31 v34
        (X18 (x3 + 5) h33)
        (Q 0 h33))) ∧ 
    (v8 = 3 → (cSld L sc (x3 + 1) fun v35 => cSld L sc (x3 + 2) fun v36 => cSld L sc (x3 + 3) fun v37 => cRc h 16 a1 <| mX6_addSpot a1 v35 v36 v37 h fun v39 h38 => cSld L sc (x3 + 1) fun v40 => cSld L sc (x3 + 2) fun v41 => cSld L sc (x3 + 3) fun v42 => cRc h38 17 a2 <| mX7_addSpot a2 v40 v41 v42 h38 fun v44 h43 => cEq v39 v44
        (X18 (x3 + 5) h43)
        (Q 0 h43))) ∧ 
    (v8 = 4 → (cSld L sc (x3 + 1) fun v45 => cSld L sc (x3 + 2) fun v46 => cSld L sc (x3 + 3) fun v47 => cSld L sc (x3 + 4) fun v48 => cRc h 16 a1 <| mX6_setBox a1 v45 v46 v47 v48 h fun v50 h49 => cSld L sc (x3 + 1) fun v51 => cSld L sc (x3 + 2) fun v52 => cSld L sc (x3 + 3) fun v53 => cSld L sc (x3 + 4) fun v54 => cRc h49 17 a2 <| mX7_setBox a2 v51 v52 v53 v54 h49 fun v56 h55 => cEq v50 v56
        (X18 (x3 + 5) h55)
        (Q 0 h55))) ∧ 
    (v8 = 5 → (cSld L sc (x3 + 1) fun v57 => cSld L sc (x3 + 2) fun v58 => cSld L sc (x3 + 3) fun v59 => cRc h 16 a1 <| mX6_setInk a1 v57 v58 v59 h fun v61 h60 => cSld L sc (x3 + 1) fun v62 => cSld L sc (x3 + 2) fun v63 => cSld L sc (x3 + 3) fun v64 => cRc h60 17 a2 <| mX7_setInk a2 v62 v63 v64 h60 fun v66 h65 => cEq v61 v66
        (X18 (x3 + 5) h65)
        (Q 0 h65))) ∧ 
    (v8 = 6 → (cSld L sc (x3 + 1) fun v67 => cRc h 16 a1 <| mX6_remove a1 v67 h fun v69 h68 => cSld L sc (x3 + 1) fun v70 => cRc h68 17 a2 <| mX7_remove a2 v70 h68 fun v72 h71 => cEq v69 v72
        (X18 (x3 + 5) h71)
        (Q 0 h71))) ∧ 
    (v8 = 7 → (cSld L sc (x3 + 1) fun v73 => cSld L sc (x3 + 2) fun v74 => cRc h 16 a1 <| mX6_move a1 v73 v74 h fun v76 h75 => cSld L sc (x3 + 1) fun v77 => cSld L sc (x3 + 2) fun v78 => cRc h75 17 a2 <| mX7_move a2 v77 v78 h75 fun v80 h79 => cEq v76 v80
        (X18 (x3 + 5) h79)
        (Q 0 h79))) ∧ 
    (v8 = 8 → (cSld L sc (x3 + 1) fun v81 => cSld L sc (x3 + 2) fun v82 => cRc h 16 a1 <| mX6_nodeInfo a1 v81 v82 h fun v84 h83 => cSld L sc (x3 + 1) fun v85 => cSld L sc (x3 + 2) fun v86 => cRc h83 17 a2 <| mX7_nodeInfo a2 v85 v86 h83 fun v88 h87 => cEq v84 v88
        (X18 (x3 + 5) h87)
        (Q 0 h87))) ∧ 
    (v8 = 9 → (cRc h 16 a1 <| mX6_nodeCount a1 h fun v90 h89 => cRc h89 17 a2 <| mX7_nodeCount a2 h89 fun v92 h91 => cEq v90 v92
        (X18 (x3 + 5) h91)
        (Q 0 h91))) ∧ 
    (v8 = 10 → (cSld L sc (x3 + 1) fun v93 => cSld L sc (x3 + 2) fun v94 => cRc h 16 a1 <| mX6_set a1 v93 v94 h fun v96 h95 => cSld L sc (x3 + 1) fun v97 => cSld L sc (x3 + 2) fun v98 => cRc h95 17 a2 <| mX7_set a2 v97 v98 h95 fun v100 h99 => cEq v96 v100
        (X18 (x3 + 5) h99)
        (Q 0 h99))) ∧ 
    (v8 = 11 → (cSld L sc (x3 + 1) fun v101 => cSld L sc (x3 + 2) fun v102 => cRc h 16 a1 <| mX6_setKnockout a1 v101 v102 h fun v104 h103 => cSld L sc (x3 + 1) fun v105 => cSld L sc (x3 + 2) fun v106 => cRc h103 17 a2 <| mX7_setKnockout a2 v105 v106 h103 fun v108 h107 => cEq v104 v108
        (X18 (x3 + 5) h107)
        (Q 0 h107))) ∧ 
    (v8 = 12 → (cSld L sc (x3 + 1) fun v109 => cSld L sc (x3 + 2) fun v110 => cSld L sc (x3 + 3) fun v111 => cRc h 16 a1 <| mX6_setPoint a1 v109 v110 v111 h fun v113 h112 => cSld L sc (x3 + 1) fun v114 => cSld L sc (x3 + 2) fun v115 => cSld L sc (x3 + 3) fun v116 => cRc h112 17 a2 <| mX7_setPoint a2 v114 v115 v116 h112 fun v118 h117 => cEq v113 v118
        (X18 (x3 + 5) h117)
        (Q 0 h117))) ∧ 
    (v8 = 13 → (cSld L sc (x3 + 1) fun v119 => cSld L sc (x3 + 2) fun v120 => cRc h 16 a1 <| mX6_removePoint a1 v119 v120 h fun v122 h121 => cSld L sc (x3 + 1) fun v123 => cSld L sc (x3 + 2) fun v124 => cRc h121 17 a2 <| mX7_removePoint a2 v123 v124 h121 fun v126 h125 => cEq v122 v126
        (X18 (x3 + 5) h125)
        (Q 0 h125))) ∧ 
    (v8 = 14 → (cSld L sc (x3 + 1) fun v127 => cSld L sc (x3 + 2) fun v128 => cRc h 16 a1 <| mX6_curve a1 v127 v128 h fun v130 h129 => cSld L sc (x3 + 1) fun v131 => cSld L sc (x3 + 2) fun v132 => cRc h129 17 a2 <| mX7_curve a2 v131 v132 h129 fun v134 h133 => cEq v130 v134
        (X18 (x3 + 5) h133)
        (Q 0 h133))) ∧ 
    (v8 = 15 → (cSld L sc (x3 + 1) fun v135 => cSld L sc (x3 + 2) fun v136 => cRc h 16 a1 <| mX6_inverse a1 v135 v136 h fun v138 h137 => cSld L sc (x3 + 1) fun v139 => cSld L sc (x3 + 2) fun v140 => cRc h137 17 a2 <| mX7_inverse a2 v139 v140 h137 fun v142 h141 => cEq v138 v142
        (X18 (x3 + 5) h141)
        (Q 0 h141))) ∧ 
    (v8 = 16 → (cSld L sc (x3 + 1) fun v143 => cRc h 16 a1 <| mX6_simplify a1 v143 h fun v145 h144 => cSld L sc (x3 + 1) fun v146 => cRc h144 17 a2 <| mX7_simplify a2 v146 h144 fun v148 h147 => cEq v145 v148
        (X18 (x3 + 5) h147)
        (Q 0 h147))) ∧ 
    (v8 = 17 → (cSld L sc (x3 + 1) fun v149 => cSld L sc (x3 + 2) fun v150 => cSld L sc (x3 + 3) fun v151 => cRc h 16 a1 <| mX6_rendered a1 v149 v150 v151 h fun v153 h152 => cSld L sc (x3 + 1) fun v154 => cSld L sc (x3 + 2) fun v155 => cSld L sc (x3 + 3) fun v156 => cRc h152 17 a2 <| mX7_rendered a2 v154 v155 v156 h152 fun v158 h157 => cEq v153 v158
        (X18 (x3 + 5) h157)
        (Q 0 h157))) ∧ 
    (v8 = 18 → (cSld L sc (x3 + 1) fun v159 => cSld L sc (x3 + 2) fun v160 => cSld L sc (x3 + 3) fun v161 => cRc h 16 a1 <| mX6_ink a1 v159 v160 v161 h fun v163 h162 => cSld L sc (x3 + 1) fun v164 => cSld L sc (x3 + 2) fun v165 => cSld L sc (x3 + 3) fun v166 => cRc h162 17 a2 <| mX7_ink a2 v164 v165 v166 h162 fun v168 h167 => cEq v163 v168
        (X18 (x3 + 5) h167)
        (Q 0 h167))) ∧ 
    (v8 = 19 → (cSld L sc (x3 + 1) fun v169 => cSld L sc (x3 + 2) fun v170 => cRc h 16 a1 <| mX6_inkOf a1 v169 v170 h fun v172 h171 => cSld L sc (x3 + 1) fun v173 => cSld L sc (x3 + 2) fun v174 => cRc h171 17 a2 <| mX7_inkOf a2 v173 v174 h171 fun v176 h175 => cEq v172 v176
        (X18 (x3 + 5) h175)
        (Q 0 h175))) ∧ 
    (v8 = 20 → (cSld L sc (x3 + 1) fun v177 => cSld L sc (x3 + 2) fun v178 => cRc h 16 a1 <| mX6_touchedBy a1 v177 v178 h fun v180 h179 => cSld L sc (x3 + 1) fun v181 => cSld L sc (x3 + 2) fun v182 => cRc h179 17 a2 <| mX7_touchedBy a2 v181 v182 h179 fun v184 h183 => cEq v180 v184
        (X18 (x3 + 5) h183)
        (Q 0 h183))) ∧ 
    (v8 = 21 → (cSld L sc (x3 + 1) fun v185 => cRc h 16 a1 <| mX6_coverage a1 v185 h fun v187 h186 => cSld L sc (x3 + 1) fun v188 => cRc h186 17 a2 <| mX7_coverage a2 v188 h186 fun v190 h189 => cEq v187 v190
        (X18 (x3 + 5) h189)
        (Q 0 h189))) ∧ 
    (v8 = 22 → (cSld L sc (x3 + 1) fun v191 => cRc h 16 a1 <| mX6_plateAt a1 v191 h fun v193 h192 => cSld L sc (x3 + 1) fun v194 => cRc h192 17 a2 <| mX7_plateAt a2 v194 h192 fun v196 h195 => cEq v193 v196
        (X18 (x3 + 5) h195)
        (Q 0 h195))) ∧ 
    (v8 = 23 → (cRc h 16 a1 <| mX6_greatestSum a1 h fun v198 h197 => cRc h197 17 a2 <| mX7_greatestSum a2 h197 fun v200 h199 => cEq v198 v200
        (X18 (x3 + 5) h199)
        (Q 0 h199))) ∧ 
    (v8 = 24 → (cRc h 16 a1 <| mX6_limitedPixels a1 h fun v202 h201 => cRc h201 17 a2 <| mX7_limitedPixels a2 h201 fun v204 h203 => cEq v202 v204
        (X18 (x3 + 5) h203)
        (Q 0 h203))) ∧ 
    (v8 = 25 → (cRc h 16 a1 <| mX6_inkCount a1 h fun v206 h205 => cRc h205 17 a2 <| mX7_inkCount a2 h205 fun v208 h207 => cEq v206 v208
        (X18 (x3 + 5) h207)
        (Q 0 h207))) ∧ 
    (v8 = 26 → (cSld L sc (x3 + 1) fun v209 => cSld L sc (x3 + 2) fun v210 => cRc h 16 a1 <| mX6_inkAt a1 v209 v210 h fun v212 h211 => cSld L sc (x3 + 1) fun v213 => cSld L sc (x3 + 2) fun v214 => cRc h211 17 a2 <| mX7_inkAt a2 v213 v214 h211 fun v216 h215 => cEq v212 v216
        (X18 (x3 + 5) h215)
        (Q 0 h215))) ∧ 
    (v8 = 27 → (cRc h 16 a1 <| mX6_neededLimit a1 h fun v218 h217 => cRc h217 17 a2 <| mX7_neededLimit a2 h217 fun v220 h219 => cEq v218 v220
        (X18 (x3 + 5) h219)
        (Q 0 h219))) ∧ 
    (v8 = 28 → (cRc h 16 a1 <| mX6_thriftiestAmount a1 h fun v222 h221 => cRc h221 17 a2 <| mX7_thriftiestAmount a2 h221 fun v224 h223 => cEq v222 v224
        (X18 (x3 + 5) h223)
        (Q 0 h223))) ∧ 
    (v8 = 29 → (cRc h 16 a1 <| mX6_disorderedPixels a1 h fun v226 h225 => cRc h225 17 a2 <| mX7_disorderedPixels a2 h225 fun v228 h227 => cEq v226 v228
        (X18 (x3 + 5) h227)
        (Q 0 h227))) ∧ 
    (v8 = 30 → (cRc h 16 a1 <| mX6_undo a1 h fun v230 h229 => cRc h229 17 a2 <| mX7_undo a2 h229 fun v232 h231 => cEq v230 v232
        (X18 (x3 + 5) h231)
        (Q 0 h231))) ∧
    ((v8 < 0 ∨ 30 < v8) → (X18 (x3 + 5) h)))
  (Q 1 h)
def mL_law_H18 (L : Nat) (sc : Int → Int)  (a0 : Nat) (a1 : Nat) (a2 : Nat) (x3 : Int) (h : Zm) (Q : Int → Zm → Prop) : Prop :=
  lfp1 (fun X18 x3 h => mL_law_B18 L sc X18 a0 a1 a2 x3 h Q) x3 h
def mL_law (L : Nat) (sc : Int → Int) (a0 : Nat) (h : Zm) (Q : Int → Zm → Prop) : Prop :=
  cNw h 16 8 fun r1 h2 => cRc h2 16 r1 <| mX6_init r1 h2 fun h3 => cNw h3 17 20 fun r4 h5 => cRc h5 17 r4 <| mX7_init r4 h5 fun h6 => mL_law_H18 L sc  a0 r1 r4 0 h6 Q
section
variable {p : Program} {l : Launch} {e : Env} {s : State} {m : MethodId} {args : Array Value} {below : List Frame} {meth : Method} {c : Code} {D : Zd} {base : Nat}
set_option maxRecDepth 100000 in
set_option maxHeartbeats 4000000 in
theorem rL_law_B18 (hc : zOk p s m args meth c D cL_law 4 RL (some .boolean)) {a0 L : Nat} {sc : Int → Int} {Qf : State → Prop} {Q : Int → Zm → Prop} (hX0 : zScr s base L sc a0) (hR0 : ∀ (pc : Nat) (ρ : List (Option Zv)) (v : Int) (h : Zm), decode cL_law pc = .ok (.ireturn, 1) → Q v h → zW p l e room_1 s m args below meth c D base 4 Qf 485 9884 pc ρ [.inl v] h) {X18 : Int → Zm → Prop} {a1 : Nat} {a2 : Nat} {x3 : Int} {h : Zm} (hX18 : ∀ (x3 : Int) (h : Zm), X18 x3 h → zW p l e room_1 s m args below meth c D base 4 Qf 485 9884 18 [some (.inr a0), some (.inr a1), some (.inr a2), some (.inl x3)] [] h) (H : mL_law_B18 L sc X18 a0 a1 a2 x3 h Q) : zW p l e room_1 s m args below meth c D base 4 Qf 485 9884 18 [some (.inr a0), some (.inr a1), some (.inr a2), some (.inl x3)] [] h := by
  unfold mL_law_B18 at H
  refine z_iload_n (pc := 18) hc dL_law_18 rfl ?_
  refine z_aload_n (pc := 19) hc dL_law_19 rfl ?_
  refine z_slen (pc := 20) hc hX0 dL_law_20 ?_
  refine z_iconst (pc := 21) hc dL_law_21 ?_
  refine z_isub (pc := 22) hc dL_law_22 ?_
  refine z_icmp_gt (tgt := 1081) (pc := 23) hc dL_law_23 rfl H (fun H => ?_) (fun H => ?_)
  · refine z_aload_n (pc := 26) hc dL_law_26 rfl ?_
    refine z_iload_n (pc := 27) hc dL_law_27 rfl ?_
    refine z_sld (pc := 28) hc hX0 dL_law_28 H (fun v7 H => ?_)
    refine z_bipush (pc := 29) hc dL_law_29 (by decide) ?_
    refine z_iand (n := 32) (pc := 31) hc 5 (by decide) rfl (by decide) dL_law_31 H (fun v8 H => ?_)
    obtain ⟨Hx, Hs0, Hs1, Hs2, Hs3, Hs4, Hs5, Hs6, Hs7, Hs8, Hs9, Hs10, Hs11, Hs12, Hs13, Hs14, Hs15, Hs16, Hs17, Hs18, Hs19, Hs20, Hs21, Hs22, Hs23, Hs24, Hs25, Hs26, Hs27, Hs28, Hs29, Hs30, Hd⟩ := H
    refine z_switch (td := 1075) (tgts := [172, 205, 258, 281, 324, 377, 420, 443, 476, 509, 522, 555, 588, 631, 664, 697, 730, 753, 796, 839, 872, 905, 928, 951, 964, 977, 990, 1023, 1036, 1049, 1062]) (pc := 32) hc dL_law_32 Hx rfl rfl rfl (fun e => ?_) (And.intro (fun e => ?_) (And.intro (fun e => ?_) (And.intro (fun e => ?_) (And.intro (fun e => ?_) (And.intro (fun e => ?_) (And.intro (fun e => ?_) (And.intro (fun e => ?_) (And.intro (fun e => ?_) (And.intro (fun e => ?_) (And.intro (fun e => ?_) (And.intro (fun e => ?_) (And.intro (fun e => ?_) (And.intro (fun e => ?_) (And.intro (fun e => ?_) (And.intro (fun e => ?_) (And.intro (fun e => ?_) (And.intro (fun e => ?_) (And.intro (fun e => ?_) (And.intro (fun e => ?_) (And.intro (fun e => ?_) (And.intro (fun e => ?_) (And.intro (fun e => ?_) (And.intro (fun e => ?_) (And.intro (fun e => ?_) (And.intro (fun e => ?_) (And.intro (fun e => ?_) (And.intro (fun e => ?_) (And.intro (fun e => ?_) (And.intro (fun e => ?_) (And.intro (fun e => ?_) (And.intro (fun e => ?_) trivial)))))))))))))))))))))))))))))))
    · have H := Hd e
      refine z_iinc (pc := 1075) hc dL_law_1075 (by decide) rfl (ρ' := [some (.inr a0), some (.inr a1), some (.inr a2), some (.inl (x3 + 5))]) rfl ?_
      refine z_goto (tgt := 18) (pc := 1078) hc dL_law_1078 rfl ?_
      refine z_cells (cells' := 485) (slots' := 9884) (by omega) (by omega) ?_
      exact hX18 _ _ H
    · have H := Hs0 (by omega)
      refine z_aload_n (pc := 172) hc dL_law_172 rfl ?_
      refine z_aload_n (pc := 173) hc dL_law_173 rfl ?_
      refine z_iload_n (pc := 174) hc dL_law_174 rfl ?_
      refine z_iconst (pc := 175) hc dL_law_175 ?_
      refine z_iadd (pc := 176) hc dL_law_176 ?_
      refine z_sld (pc := 177) hc hX0 dL_law_177 H (fun v9 H => ?_)
      refine z_aload_n (pc := 178) hc dL_law_178 rfl ?_
      refine z_iload_n (pc := 179) hc dL_law_179 rfl ?_
      refine z_iconst (pc := 180) hc dL_law_180 ?_
      refine z_iadd (pc := 181) hc dL_law_181 ?_
      refine z_sld (pc := 182) hc hX0 dL_law_182 H (fun v10 H => ?_)
      refine z_calI (z_runV (pc := 183) (ci := 6) (T := TX6) (N := 8) hc dL_law_183 zw_RL_13 (metX6_setSize _ _ _ H.2) rfl (Nat.le_of_ble_eq_true rfl) ⟨Nat.le_of_ble_eq_true rfl, Nat.le_of_ble_eq_true rfl⟩ ⟨by exact Nat.le_of_ble_eq_true rfl, by exact Nat.le_of_ble_eq_true rfl⟩ rfl H.1) rfl ⟨rfl, rfl⟩ (fun v12 h11 H => ?_)
      refine z_aload_n (pc := 186) hc dL_law_186 rfl ?_
      refine z_aload_n (pc := 187) hc dL_law_187 rfl ?_
      refine z_iload_n (pc := 188) hc dL_law_188 rfl ?_
      refine z_iconst (pc := 189) hc dL_law_189 ?_
      refine z_iadd (pc := 190) hc dL_law_190 ?_
      refine z_sld (pc := 191) hc hX0 dL_law_191 H (fun v13 H => ?_)
      refine z_aload_n (pc := 192) hc dL_law_192 rfl ?_
      refine z_iload_n (pc := 193) hc dL_law_193 rfl ?_
      refine z_iconst (pc := 194) hc dL_law_194 ?_
      refine z_iadd (pc := 195) hc dL_law_195 ?_
      refine z_sld (pc := 196) hc hX0 dL_law_196 H (fun v14 H => ?_)
      refine z_calI (z_runV (pc := 197) (ci := 7) (T := TX7) (N := 20) hc dL_law_197 zw_RL_17 (metX7_setSize _ _ _ H.2) rfl (Nat.le_of_ble_eq_true rfl) ⟨Nat.le_of_ble_eq_true rfl, Nat.le_of_ble_eq_true rfl⟩ ⟨by exact Nat.le_of_ble_eq_true rfl, by exact Nat.le_of_ble_eq_true rfl⟩ rfl H.1) rfl ⟨rfl, rfl⟩ (fun v16 h15 H => ?_)
      refine z_icmp_eq (tgt := 1075) (pc := 200) hc dL_law_200 rfl H (fun H => ?_) (fun H => ?_)
      · refine z_iinc (pc := 1075) hc dL_law_1075 (by decide) rfl (ρ' := [some (.inr a0), some (.inr a1), some (.inr a2), some (.inl (x3 + 5))]) rfl ?_
        refine z_goto (tgt := 18) (pc := 1078) hc dL_law_1078 rfl ?_
        refine z_cells (cells' := 485) (slots' := 9884) (by omega) (by omega) ?_
        exact hX18 _ _ H
      · refine z_iconst (pc := 203) hc dL_law_203 ?_
        exact hR0 _ _ _ _ dL_law_204 H
    · have H := Hs1 (by omega)
      refine z_aload_n (pc := 205) hc dL_law_205 rfl ?_
      refine z_aload_n (pc := 206) hc dL_law_206 rfl ?_
      refine z_iload_n (pc := 207) hc dL_law_207 rfl ?_
      refine z_iconst (pc := 208) hc dL_law_208 ?_
      refine z_iadd (pc := 209) hc dL_law_209 ?_
      refine z_sld (pc := 210) hc hX0 dL_law_210 H (fun v17 H => ?_)
      refine z_aload_n (pc := 211) hc dL_law_211 rfl ?_
      refine z_iload_n (pc := 212) hc dL_law_212 rfl ?_
      refine z_iconst (pc := 213) hc dL_law_213 ?_
      refine z_iadd (pc := 214) hc dL_law_214 ?_
      refine z_sld (pc := 215) hc hX0 dL_law_215 H (fun v18 H => ?_)
      refine z_aload_n (pc := 216) hc dL_law_216 rfl ?_
      refine z_iload_n (pc := 217) hc dL_law_217 rfl ?_
      refine z_iconst (pc := 218) hc dL_law_218 ?_
      refine z_iadd (pc := 219) hc dL_law_219 ?_
      refine z_sld (pc := 220) hc hX0 dL_law_220 H (fun v19 H => ?_)
      refine z_aload_n (pc := 221) hc dL_law_221 rfl ?_
      refine z_iload_n (pc := 222) hc dL_law_222 rfl ?_
      refine z_iconst (pc := 223) hc dL_law_223 ?_
      refine z_iadd (pc := 224) hc dL_law_224 ?_
      refine z_sld (pc := 225) hc hX0 dL_law_225 H (fun v20 H => ?_)
      refine z_calI (z_runV (pc := 226) (ci := 6) (T := TX6) (N := 8) hc dL_law_226 zw_RL_18 (metX6_addGroup _ _ _ H.2) rfl (Nat.le_of_ble_eq_true rfl) ⟨Nat.le_of_ble_eq_true rfl, Nat.le_of_ble_eq_true rfl⟩ ⟨by exact Nat.le_of_ble_eq_true rfl, by exact Nat.le_of_ble_eq_true rfl⟩ rfl H.1) rfl ⟨rfl, rfl⟩ (fun v22 h21 H => ?_)
      refine z_aload_n (pc := 229) hc dL_law_229 rfl ?_
      refine z_aload_n (pc := 230) hc dL_law_230 rfl ?_
      refine z_iload_n (pc := 231) hc dL_law_231 rfl ?_
      refine z_iconst (pc := 232) hc dL_law_232 ?_
      refine z_iadd (pc := 233) hc dL_law_233 ?_
      refine z_sld (pc := 234) hc hX0 dL_law_234 H (fun v23 H => ?_)
      refine z_aload_n (pc := 235) hc dL_law_235 rfl ?_
      refine z_iload_n (pc := 236) hc dL_law_236 rfl ?_
      refine z_iconst (pc := 237) hc dL_law_237 ?_
      refine z_iadd (pc := 238) hc dL_law_238 ?_
      refine z_sld (pc := 239) hc hX0 dL_law_239 H (fun v24 H => ?_)
      refine z_aload_n (pc := 240) hc dL_law_240 rfl ?_
      refine z_iload_n (pc := 241) hc dL_law_241 rfl ?_
      refine z_iconst (pc := 242) hc dL_law_242 ?_
      refine z_iadd (pc := 243) hc dL_law_243 ?_
      refine z_sld (pc := 244) hc hX0 dL_law_244 H (fun v25 H => ?_)
      refine z_aload_n (pc := 245) hc dL_law_245 rfl ?_
      refine z_iload_n (pc := 246) hc dL_law_246 rfl ?_
      refine z_iconst (pc := 247) hc dL_law_247 ?_
      refine z_iadd (pc := 248) hc dL_law_248 ?_
      refine z_sld (pc := 249) hc hX0 dL_law_249 H (fun v26 H => ?_)
      refine z_calI (z_runV (pc := 250) (ci := 7) (T := TX7) (N := 20) hc dL_law_250 zw_RL_22 (metX7_addGroup _ _ _ H.2) rfl (Nat.le_of_ble_eq_true rfl) ⟨Nat.le_of_ble_eq_true rfl, Nat.le_of_ble_eq_true rfl⟩ ⟨by exact Nat.le_of_ble_eq_true rfl, by exact Nat.le_of_ble_eq_true rfl⟩ rfl H.1) rfl ⟨rfl, rfl⟩ (fun v28 h27 H => ?_)
      refine z_icmp_eq (tgt := 1075) (pc := 253) hc dL_law_253 rfl H (fun H => ?_) (fun H => ?_)
      · refine z_iinc (pc := 1075) hc dL_law_1075 (by decide) rfl (ρ' := [some (.inr a0), some (.inr a1), some (.inr a2), some (.inl (x3 + 5))]) rfl ?_
        refine z_goto (tgt := 18) (pc := 1078) hc dL_law_1078 rfl ?_
        refine z_cells (cells' := 485) (slots' := 9884) (by omega) (by omega) ?_
        exact hX18 _ _ H
      · refine z_iconst (pc := 256) hc dL_law_256 ?_
        exact hR0 _ _ _ _ dL_law_257 H
    · have H := Hs2 (by omega)
      refine z_aload_n (pc := 258) hc dL_law_258 rfl ?_
      refine z_aload_n (pc := 259) hc dL_law_259 rfl ?_
      refine z_iload_n (pc := 260) hc dL_law_260 rfl ?_
      refine z_iconst (pc := 261) hc dL_law_261 ?_
      refine z_iadd (pc := 262) hc dL_law_262 ?_
      refine z_sld (pc := 263) hc hX0 dL_law_263 H (fun v29 H => ?_)
      refine z_calI (z_runV (pc := 264) (ci := 6) (T := TX6) (N := 8) hc dL_law_264 zw_RL_23 (metX6_addRect _ _ _ H.2) rfl (Nat.le_of_ble_eq_true rfl) ⟨Nat.le_of_ble_eq_true rfl, Nat.le_of_ble_eq_true rfl⟩ ⟨by exact Nat.le_of_ble_eq_true rfl, by exact Nat.le_of_ble_eq_true rfl⟩ rfl H.1) rfl ⟨rfl, rfl⟩ (fun v31 h30 H => ?_)
      refine z_aload_n (pc := 267) hc dL_law_267 rfl ?_
      refine z_aload_n (pc := 268) hc dL_law_268 rfl ?_
      refine z_iload_n (pc := 269) hc dL_law_269 rfl ?_
      refine z_iconst (pc := 270) hc dL_law_270 ?_
      refine z_iadd (pc := 271) hc dL_law_271 ?_
      refine z_sld (pc := 272) hc hX0 dL_law_272 H (fun v32 H => ?_)
      refine z_calI (z_runV (pc := 273) (ci := 7) (T := TX7) (N := 20) hc dL_law_273 zw_RL_27 (metX7_addRect _ _ _ H.2) rfl (Nat.le_of_ble_eq_true rfl) ⟨Nat.le_of_ble_eq_true rfl, Nat.le_of_ble_eq_true rfl⟩ ⟨by exact Nat.le_of_ble_eq_true rfl, by exact Nat.le_of_ble_eq_true rfl⟩ rfl H.1) rfl ⟨rfl, rfl⟩ (fun v34 h33 H => ?_)
      refine z_icmp_eq (tgt := 1075) (pc := 276) hc dL_law_276 rfl H (fun H => ?_) (fun H => ?_)
      · refine z_iinc (pc := 1075) hc dL_law_1075 (by decide) rfl (ρ' := [some (.inr a0), some (.inr a1), some (.inr a2), some (.inl (x3 + 5))]) rfl ?_
        refine z_goto (tgt := 18) (pc := 1078) hc dL_law_1078 rfl ?_
        refine z_cells (cells' := 485) (slots' := 9884) (by omega) (by omega) ?_
        exact hX18 _ _ H
      · refine z_iconst (pc := 279) hc dL_law_279 ?_
        exact hR0 _ _ _ _ dL_law_280 H
    · have H := Hs3 (by omega)
      refine z_aload_n (pc := 281) hc dL_law_281 rfl ?_
      refine z_aload_n (pc := 282) hc dL_law_282 rfl ?_
      refine z_iload_n (pc := 283) hc dL_law_283 rfl ?_
      refine z_iconst (pc := 284) hc dL_law_284 ?_
      refine z_iadd (pc := 285) hc dL_law_285 ?_
      refine z_sld (pc := 286) hc hX0 dL_law_286 H (fun v35 H => ?_)
      refine z_aload_n (pc := 287) hc dL_law_287 rfl ?_
      refine z_iload_n (pc := 288) hc dL_law_288 rfl ?_
      refine z_iconst (pc := 289) hc dL_law_289 ?_
      refine z_iadd (pc := 290) hc dL_law_290 ?_
      refine z_sld (pc := 291) hc hX0 dL_law_291 H (fun v36 H => ?_)
      refine z_aload_n (pc := 292) hc dL_law_292 rfl ?_
      refine z_iload_n (pc := 293) hc dL_law_293 rfl ?_
      refine z_iconst (pc := 294) hc dL_law_294 ?_
      refine z_iadd (pc := 295) hc dL_law_295 ?_
      refine z_sld (pc := 296) hc hX0 dL_law_296 H (fun v37 H => ?_)
      refine z_calI (z_runV (pc := 297) (ci := 6) (T := TX6) (N := 8) hc dL_law_297 zw_RL_28 (metX6_addSpot _ _ _ H.2) rfl (Nat.le_of_ble_eq_true rfl) ⟨Nat.le_of_ble_eq_true rfl, Nat.le_of_ble_eq_true rfl⟩ ⟨by exact Nat.le_of_ble_eq_true rfl, by exact Nat.le_of_ble_eq_true rfl⟩ rfl H.1) rfl ⟨rfl, rfl⟩ (fun v39 h38 H => ?_)
      refine z_aload_n (pc := 300) hc dL_law_300 rfl ?_
      refine z_aload_n (pc := 301) hc dL_law_301 rfl ?_
      refine z_iload_n (pc := 302) hc dL_law_302 rfl ?_
      refine z_iconst (pc := 303) hc dL_law_303 ?_
      refine z_iadd (pc := 304) hc dL_law_304 ?_
      refine z_sld (pc := 305) hc hX0 dL_law_305 H (fun v40 H => ?_)
      refine z_aload_n (pc := 306) hc dL_law_306 rfl ?_
      refine z_iload_n (pc := 307) hc dL_law_307 rfl ?_
      refine z_iconst (pc := 308) hc dL_law_308 ?_
      refine z_iadd (pc := 309) hc dL_law_309 ?_
      refine z_sld (pc := 310) hc hX0 dL_law_310 H (fun v41 H => ?_)
      refine z_aload_n (pc := 311) hc dL_law_311 rfl ?_
      refine z_iload_n (pc := 312) hc dL_law_312 rfl ?_
      refine z_iconst (pc := 313) hc dL_law_313 ?_
      refine z_iadd (pc := 314) hc dL_law_314 ?_
      refine z_sld (pc := 315) hc hX0 dL_law_315 H (fun v42 H => ?_)
      refine z_calI (z_runV (pc := 316) (ci := 7) (T := TX7) (N := 20) hc dL_law_316 zw_RL_32 (metX7_addSpot _ _ _ H.2) rfl (Nat.le_of_ble_eq_true rfl) ⟨Nat.le_of_ble_eq_true rfl, Nat.le_of_ble_eq_true rfl⟩ ⟨by exact Nat.le_of_ble_eq_true rfl, by exact Nat.le_of_ble_eq_true rfl⟩ rfl H.1) rfl ⟨rfl, rfl⟩ (fun v44 h43 H => ?_)
      refine z_icmp_eq (tgt := 1075) (pc := 319) hc dL_law_319 rfl H (fun H => ?_) (fun H => ?_)
      · refine z_iinc (pc := 1075) hc dL_law_1075 (by decide) rfl (ρ' := [some (.inr a0), some (.inr a1), some (.inr a2), some (.inl (x3 + 5))]) rfl ?_
        refine z_goto (tgt := 18) (pc := 1078) hc dL_law_1078 rfl ?_
        refine z_cells (cells' := 485) (slots' := 9884) (by omega) (by omega) ?_
        exact hX18 _ _ H
      · refine z_iconst (pc := 322) hc dL_law_322 ?_
        exact hR0 _ _ _ _ dL_law_323 H
    · have H := Hs4 (by omega)
      refine z_aload_n (pc := 324) hc dL_law_324 rfl ?_
      refine z_aload_n (pc := 325) hc dL_law_325 rfl ?_
      refine z_iload_n (pc := 326) hc dL_law_326 rfl ?_
      refine z_iconst (pc := 327) hc dL_law_327 ?_
      refine z_iadd (pc := 328) hc dL_law_328 ?_
      refine z_sld (pc := 329) hc hX0 dL_law_329 H (fun v45 H => ?_)
      refine z_aload_n (pc := 330) hc dL_law_330 rfl ?_
      refine z_iload_n (pc := 331) hc dL_law_331 rfl ?_
      refine z_iconst (pc := 332) hc dL_law_332 ?_
      refine z_iadd (pc := 333) hc dL_law_333 ?_
      refine z_sld (pc := 334) hc hX0 dL_law_334 H (fun v46 H => ?_)
      refine z_aload_n (pc := 335) hc dL_law_335 rfl ?_
      refine z_iload_n (pc := 336) hc dL_law_336 rfl ?_
      refine z_iconst (pc := 337) hc dL_law_337 ?_
      refine z_iadd (pc := 338) hc dL_law_338 ?_
      refine z_sld (pc := 339) hc hX0 dL_law_339 H (fun v47 H => ?_)
      refine z_aload_n (pc := 340) hc dL_law_340 rfl ?_
      refine z_iload_n (pc := 341) hc dL_law_341 rfl ?_
      refine z_iconst (pc := 342) hc dL_law_342 ?_
      refine z_iadd (pc := 343) hc dL_law_343 ?_
      refine z_sld (pc := 344) hc hX0 dL_law_344 H (fun v48 H => ?_)
      refine z_calI (z_runV (pc := 345) (ci := 6) (T := TX6) (N := 8) hc dL_law_345 zw_RL_33 (metX6_setBox _ _ _ H.2) rfl (Nat.le_of_ble_eq_true rfl) ⟨Nat.le_of_ble_eq_true rfl, Nat.le_of_ble_eq_true rfl⟩ ⟨by exact Nat.le_of_ble_eq_true rfl, by exact Nat.le_of_ble_eq_true rfl⟩ rfl H.1) rfl ⟨rfl, rfl⟩ (fun v50 h49 H => ?_)
      refine z_aload_n (pc := 348) hc dL_law_348 rfl ?_
      refine z_aload_n (pc := 349) hc dL_law_349 rfl ?_
      refine z_iload_n (pc := 350) hc dL_law_350 rfl ?_
      refine z_iconst (pc := 351) hc dL_law_351 ?_
      refine z_iadd (pc := 352) hc dL_law_352 ?_
      refine z_sld (pc := 353) hc hX0 dL_law_353 H (fun v51 H => ?_)
      refine z_aload_n (pc := 354) hc dL_law_354 rfl ?_
      refine z_iload_n (pc := 355) hc dL_law_355 rfl ?_
      refine z_iconst (pc := 356) hc dL_law_356 ?_
      refine z_iadd (pc := 357) hc dL_law_357 ?_
      refine z_sld (pc := 358) hc hX0 dL_law_358 H (fun v52 H => ?_)
      refine z_aload_n (pc := 359) hc dL_law_359 rfl ?_
      refine z_iload_n (pc := 360) hc dL_law_360 rfl ?_
      refine z_iconst (pc := 361) hc dL_law_361 ?_
      refine z_iadd (pc := 362) hc dL_law_362 ?_
      refine z_sld (pc := 363) hc hX0 dL_law_363 H (fun v53 H => ?_)
      refine z_aload_n (pc := 364) hc dL_law_364 rfl ?_
      refine z_iload_n (pc := 365) hc dL_law_365 rfl ?_
      refine z_iconst (pc := 366) hc dL_law_366 ?_
      refine z_iadd (pc := 367) hc dL_law_367 ?_
      refine z_sld (pc := 368) hc hX0 dL_law_368 H (fun v54 H => ?_)
      refine z_calI (z_runV (pc := 369) (ci := 7) (T := TX7) (N := 20) hc dL_law_369 zw_RL_36 (metX7_setBox _ _ _ H.2) rfl (Nat.le_of_ble_eq_true rfl) ⟨Nat.le_of_ble_eq_true rfl, Nat.le_of_ble_eq_true rfl⟩ ⟨by exact Nat.le_of_ble_eq_true rfl, by exact Nat.le_of_ble_eq_true rfl⟩ rfl H.1) rfl ⟨rfl, rfl⟩ (fun v56 h55 H => ?_)
      refine z_icmp_eq (tgt := 1075) (pc := 372) hc dL_law_372 rfl H (fun H => ?_) (fun H => ?_)
      · refine z_iinc (pc := 1075) hc dL_law_1075 (by decide) rfl (ρ' := [some (.inr a0), some (.inr a1), some (.inr a2), some (.inl (x3 + 5))]) rfl ?_
        refine z_goto (tgt := 18) (pc := 1078) hc dL_law_1078 rfl ?_
        refine z_cells (cells' := 485) (slots' := 9884) (by omega) (by omega) ?_
        exact hX18 _ _ H
      · refine z_iconst (pc := 375) hc dL_law_375 ?_
        exact hR0 _ _ _ _ dL_law_376 H
    · have H := Hs5 (by omega)
      refine z_aload_n (pc := 377) hc dL_law_377 rfl ?_
      refine z_aload_n (pc := 378) hc dL_law_378 rfl ?_
      refine z_iload_n (pc := 379) hc dL_law_379 rfl ?_
      refine z_iconst (pc := 380) hc dL_law_380 ?_
      refine z_iadd (pc := 381) hc dL_law_381 ?_
      refine z_sld (pc := 382) hc hX0 dL_law_382 H (fun v57 H => ?_)
      refine z_aload_n (pc := 383) hc dL_law_383 rfl ?_
      refine z_iload_n (pc := 384) hc dL_law_384 rfl ?_
      refine z_iconst (pc := 385) hc dL_law_385 ?_
      refine z_iadd (pc := 386) hc dL_law_386 ?_
      refine z_sld (pc := 387) hc hX0 dL_law_387 H (fun v58 H => ?_)
      refine z_aload_n (pc := 388) hc dL_law_388 rfl ?_
      refine z_iload_n (pc := 389) hc dL_law_389 rfl ?_
      refine z_iconst (pc := 390) hc dL_law_390 ?_
      refine z_iadd (pc := 391) hc dL_law_391 ?_
      refine z_sld (pc := 392) hc hX0 dL_law_392 H (fun v59 H => ?_)
      refine z_calI (z_runV (pc := 393) (ci := 6) (T := TX6) (N := 8) hc dL_law_393 zw_RL_37 (metX6_setInk _ _ _ H.2) rfl (Nat.le_of_ble_eq_true rfl) ⟨Nat.le_of_ble_eq_true rfl, Nat.le_of_ble_eq_true rfl⟩ ⟨by exact Nat.le_of_ble_eq_true rfl, by exact Nat.le_of_ble_eq_true rfl⟩ rfl H.1) rfl ⟨rfl, rfl⟩ (fun v61 h60 H => ?_)
      refine z_aload_n (pc := 396) hc dL_law_396 rfl ?_
      refine z_aload_n (pc := 397) hc dL_law_397 rfl ?_
      refine z_iload_n (pc := 398) hc dL_law_398 rfl ?_
      refine z_iconst (pc := 399) hc dL_law_399 ?_
      refine z_iadd (pc := 400) hc dL_law_400 ?_
      refine z_sld (pc := 401) hc hX0 dL_law_401 H (fun v62 H => ?_)
      refine z_aload_n (pc := 402) hc dL_law_402 rfl ?_
      refine z_iload_n (pc := 403) hc dL_law_403 rfl ?_
      refine z_iconst (pc := 404) hc dL_law_404 ?_
      refine z_iadd (pc := 405) hc dL_law_405 ?_
      refine z_sld (pc := 406) hc hX0 dL_law_406 H (fun v63 H => ?_)
      refine z_aload_n (pc := 407) hc dL_law_407 rfl ?_
      refine z_iload_n (pc := 408) hc dL_law_408 rfl ?_
      refine z_iconst (pc := 409) hc dL_law_409 ?_
      refine z_iadd (pc := 410) hc dL_law_410 ?_
      refine z_sld (pc := 411) hc hX0 dL_law_411 H (fun v64 H => ?_)
      refine z_calI (z_runV (pc := 412) (ci := 7) (T := TX7) (N := 20) hc dL_law_412 zw_RL_40 (metX7_setInk _ _ _ H.2) rfl (Nat.le_of_ble_eq_true rfl) ⟨Nat.le_of_ble_eq_true rfl, Nat.le_of_ble_eq_true rfl⟩ ⟨by exact Nat.le_of_ble_eq_true rfl, by exact Nat.le_of_ble_eq_true rfl⟩ rfl H.1) rfl ⟨rfl, rfl⟩ (fun v66 h65 H => ?_)
      refine z_icmp_eq (tgt := 1075) (pc := 415) hc dL_law_415 rfl H (fun H => ?_) (fun H => ?_)
      · refine z_iinc (pc := 1075) hc dL_law_1075 (by decide) rfl (ρ' := [some (.inr a0), some (.inr a1), some (.inr a2), some (.inl (x3 + 5))]) rfl ?_
        refine z_goto (tgt := 18) (pc := 1078) hc dL_law_1078 rfl ?_
        refine z_cells (cells' := 485) (slots' := 9884) (by omega) (by omega) ?_
        exact hX18 _ _ H
      · refine z_iconst (pc := 418) hc dL_law_418 ?_
        exact hR0 _ _ _ _ dL_law_419 H
    · have H := Hs6 (by omega)
      refine z_aload_n (pc := 420) hc dL_law_420 rfl ?_
      refine z_aload_n (pc := 421) hc dL_law_421 rfl ?_
      refine z_iload_n (pc := 422) hc dL_law_422 rfl ?_
      refine z_iconst (pc := 423) hc dL_law_423 ?_
      refine z_iadd (pc := 424) hc dL_law_424 ?_
      refine z_sld (pc := 425) hc hX0 dL_law_425 H (fun v67 H => ?_)
      refine z_calI (z_runV (pc := 426) (ci := 6) (T := TX6) (N := 8) hc dL_law_426 zw_RL_41 (metX6_remove _ _ _ H.2) rfl (Nat.le_of_ble_eq_true rfl) ⟨Nat.le_of_ble_eq_true rfl, Nat.le_of_ble_eq_true rfl⟩ ⟨by exact Nat.le_of_ble_eq_true rfl, by exact Nat.le_of_ble_eq_true rfl⟩ rfl H.1) rfl ⟨rfl, rfl⟩ (fun v69 h68 H => ?_)
      refine z_aload_n (pc := 429) hc dL_law_429 rfl ?_
      refine z_aload_n (pc := 430) hc dL_law_430 rfl ?_
      refine z_iload_n (pc := 431) hc dL_law_431 rfl ?_
      refine z_iconst (pc := 432) hc dL_law_432 ?_
      refine z_iadd (pc := 433) hc dL_law_433 ?_
      refine z_sld (pc := 434) hc hX0 dL_law_434 H (fun v70 H => ?_)
      refine z_calI (z_runV (pc := 435) (ci := 7) (T := TX7) (N := 20) hc dL_law_435 zw_RL_44 (metX7_remove _ _ _ H.2) rfl (Nat.le_of_ble_eq_true rfl) ⟨Nat.le_of_ble_eq_true rfl, Nat.le_of_ble_eq_true rfl⟩ ⟨by exact Nat.le_of_ble_eq_true rfl, by exact Nat.le_of_ble_eq_true rfl⟩ rfl H.1) rfl ⟨rfl, rfl⟩ (fun v72 h71 H => ?_)
      refine z_icmp_eq (tgt := 1075) (pc := 438) hc dL_law_438 rfl H (fun H => ?_) (fun H => ?_)
      · refine z_iinc (pc := 1075) hc dL_law_1075 (by decide) rfl (ρ' := [some (.inr a0), some (.inr a1), some (.inr a2), some (.inl (x3 + 5))]) rfl ?_
        refine z_goto (tgt := 18) (pc := 1078) hc dL_law_1078 rfl ?_
        refine z_cells (cells' := 485) (slots' := 9884) (by omega) (by omega) ?_
        exact hX18 _ _ H
      · refine z_iconst (pc := 441) hc dL_law_441 ?_
        exact hR0 _ _ _ _ dL_law_442 H
    · have H := Hs7 (by omega)
      refine z_aload_n (pc := 443) hc dL_law_443 rfl ?_
      refine z_aload_n (pc := 444) hc dL_law_444 rfl ?_
      refine z_iload_n (pc := 445) hc dL_law_445 rfl ?_
      refine z_iconst (pc := 446) hc dL_law_446 ?_
      refine z_iadd (pc := 447) hc dL_law_447 ?_
      refine z_sld (pc := 448) hc hX0 dL_law_448 H (fun v73 H => ?_)
      refine z_aload_n (pc := 449) hc dL_law_449 rfl ?_
      refine z_iload_n (pc := 450) hc dL_law_450 rfl ?_
      refine z_iconst (pc := 451) hc dL_law_451 ?_
      refine z_iadd (pc := 452) hc dL_law_452 ?_
      refine z_sld (pc := 453) hc hX0 dL_law_453 H (fun v74 H => ?_)
      refine z_calI (z_runV (pc := 454) (ci := 6) (T := TX6) (N := 8) hc dL_law_454 zw_RL_45 (metX6_move _ _ _ H.2) rfl (Nat.le_of_ble_eq_true rfl) ⟨Nat.le_of_ble_eq_true rfl, Nat.le_of_ble_eq_true rfl⟩ ⟨by exact Nat.le_of_ble_eq_true rfl, by exact Nat.le_of_ble_eq_true rfl⟩ rfl H.1) rfl ⟨rfl, rfl⟩ (fun v76 h75 H => ?_)
      refine z_aload_n (pc := 457) hc dL_law_457 rfl ?_
      refine z_aload_n (pc := 458) hc dL_law_458 rfl ?_
      refine z_iload_n (pc := 459) hc dL_law_459 rfl ?_
      refine z_iconst (pc := 460) hc dL_law_460 ?_
      refine z_iadd (pc := 461) hc dL_law_461 ?_
      refine z_sld (pc := 462) hc hX0 dL_law_462 H (fun v77 H => ?_)
      refine z_aload_n (pc := 463) hc dL_law_463 rfl ?_
      refine z_iload_n (pc := 464) hc dL_law_464 rfl ?_
      refine z_iconst (pc := 465) hc dL_law_465 ?_
      refine z_iadd (pc := 466) hc dL_law_466 ?_
      refine z_sld (pc := 467) hc hX0 dL_law_467 H (fun v78 H => ?_)
      refine z_calI (z_runV (pc := 468) (ci := 7) (T := TX7) (N := 20) hc dL_law_468 zw_RL_48 (metX7_move _ _ _ H.2) rfl (Nat.le_of_ble_eq_true rfl) ⟨Nat.le_of_ble_eq_true rfl, Nat.le_of_ble_eq_true rfl⟩ ⟨by exact Nat.le_of_ble_eq_true rfl, by exact Nat.le_of_ble_eq_true rfl⟩ rfl H.1) rfl ⟨rfl, rfl⟩ (fun v80 h79 H => ?_)
      refine z_icmp_eq (tgt := 1075) (pc := 471) hc dL_law_471 rfl H (fun H => ?_) (fun H => ?_)
      · refine z_iinc (pc := 1075) hc dL_law_1075 (by decide) rfl (ρ' := [some (.inr a0), some (.inr a1), some (.inr a2), some (.inl (x3 + 5))]) rfl ?_
        refine z_goto (tgt := 18) (pc := 1078) hc dL_law_1078 rfl ?_
        refine z_cells (cells' := 485) (slots' := 9884) (by omega) (by omega) ?_
        exact hX18 _ _ H
      · refine z_iconst (pc := 474) hc dL_law_474 ?_
        exact hR0 _ _ _ _ dL_law_475 H
    · have H := Hs8 (by omega)
      refine z_aload_n (pc := 476) hc dL_law_476 rfl ?_
      refine z_aload_n (pc := 477) hc dL_law_477 rfl ?_
      refine z_iload_n (pc := 478) hc dL_law_478 rfl ?_
      refine z_iconst (pc := 479) hc dL_law_479 ?_
      refine z_iadd (pc := 480) hc dL_law_480 ?_
      refine z_sld (pc := 481) hc hX0 dL_law_481 H (fun v81 H => ?_)
      refine z_aload_n (pc := 482) hc dL_law_482 rfl ?_
      refine z_iload_n (pc := 483) hc dL_law_483 rfl ?_
      refine z_iconst (pc := 484) hc dL_law_484 ?_
      refine z_iadd (pc := 485) hc dL_law_485 ?_
      refine z_sld (pc := 486) hc hX0 dL_law_486 H (fun v82 H => ?_)
      refine z_calI (z_runV (pc := 487) (ci := 6) (T := TX6) (N := 8) hc dL_law_487 zw_RL_49 (metX6_nodeInfo _ _ _ H.2) rfl (Nat.le_of_ble_eq_true rfl) ⟨Nat.le_of_ble_eq_true rfl, Nat.le_of_ble_eq_true rfl⟩ ⟨by exact Nat.le_of_ble_eq_true rfl, by exact Nat.le_of_ble_eq_true rfl⟩ rfl H.1) rfl ⟨rfl, rfl⟩ (fun v84 h83 H => ?_)
      refine z_aload_n (pc := 490) hc dL_law_490 rfl ?_
      refine z_aload_n (pc := 491) hc dL_law_491 rfl ?_
      refine z_iload_n (pc := 492) hc dL_law_492 rfl ?_
      refine z_iconst (pc := 493) hc dL_law_493 ?_
      refine z_iadd (pc := 494) hc dL_law_494 ?_
      refine z_sld (pc := 495) hc hX0 dL_law_495 H (fun v85 H => ?_)
      refine z_aload_n (pc := 496) hc dL_law_496 rfl ?_
      refine z_iload_n (pc := 497) hc dL_law_497 rfl ?_
      refine z_iconst (pc := 498) hc dL_law_498 ?_
      refine z_iadd (pc := 499) hc dL_law_499 ?_
      refine z_sld (pc := 500) hc hX0 dL_law_500 H (fun v86 H => ?_)
      refine z_calI (z_runV (pc := 501) (ci := 7) (T := TX7) (N := 20) hc dL_law_501 zw_RL_52 (metX7_nodeInfo _ _ _ H.2) rfl (Nat.le_of_ble_eq_true rfl) ⟨Nat.le_of_ble_eq_true rfl, Nat.le_of_ble_eq_true rfl⟩ ⟨by exact Nat.le_of_ble_eq_true rfl, by exact Nat.le_of_ble_eq_true rfl⟩ rfl H.1) rfl ⟨rfl, rfl⟩ (fun v88 h87 H => ?_)
      refine z_icmp_eq (tgt := 1075) (pc := 504) hc dL_law_504 rfl H (fun H => ?_) (fun H => ?_)
      · refine z_iinc (pc := 1075) hc dL_law_1075 (by decide) rfl (ρ' := [some (.inr a0), some (.inr a1), some (.inr a2), some (.inl (x3 + 5))]) rfl ?_
        refine z_goto (tgt := 18) (pc := 1078) hc dL_law_1078 rfl ?_
        refine z_cells (cells' := 485) (slots' := 9884) (by omega) (by omega) ?_
        exact hX18 _ _ H
      · refine z_iconst (pc := 507) hc dL_law_507 ?_
        exact hR0 _ _ _ _ dL_law_508 H
    · have H := Hs9 (by omega)
      refine z_aload_n (pc := 509) hc dL_law_509 rfl ?_
      refine z_calI (z_runV (pc := 510) (ci := 6) (T := TX6) (N := 8) hc dL_law_510 zw_RL_53 (metX6_nodeCount _ _ _ H.2) rfl (Nat.le_of_ble_eq_true rfl) ⟨Nat.le_of_ble_eq_true rfl, Nat.le_of_ble_eq_true rfl⟩ ⟨by exact Nat.le_of_ble_eq_true rfl, by exact Nat.le_of_ble_eq_true rfl⟩ rfl H.1) rfl ⟨rfl, rfl⟩ (fun v90 h89 H => ?_)
      refine z_aload_n (pc := 513) hc dL_law_513 rfl ?_
      refine z_calI (z_runV (pc := 514) (ci := 7) (T := TX7) (N := 20) hc dL_law_514 zw_RL_57 (metX7_nodeCount _ _ _ H.2) rfl (Nat.le_of_ble_eq_true rfl) ⟨Nat.le_of_ble_eq_true rfl, Nat.le_of_ble_eq_true rfl⟩ ⟨by exact Nat.le_of_ble_eq_true rfl, by exact Nat.le_of_ble_eq_true rfl⟩ rfl H.1) rfl ⟨rfl, rfl⟩ (fun v92 h91 H => ?_)
      refine z_icmp_eq (tgt := 1075) (pc := 517) hc dL_law_517 rfl H (fun H => ?_) (fun H => ?_)
      · refine z_iinc (pc := 1075) hc dL_law_1075 (by decide) rfl (ρ' := [some (.inr a0), some (.inr a1), some (.inr a2), some (.inl (x3 + 5))]) rfl ?_
        refine z_goto (tgt := 18) (pc := 1078) hc dL_law_1078 rfl ?_
        refine z_cells (cells' := 485) (slots' := 9884) (by omega) (by omega) ?_
        exact hX18 _ _ H
      · refine z_iconst (pc := 520) hc dL_law_520 ?_
        exact hR0 _ _ _ _ dL_law_521 H
    · have H := Hs10 (by omega)
      refine z_aload_n (pc := 522) hc dL_law_522 rfl ?_
      refine z_aload_n (pc := 523) hc dL_law_523 rfl ?_
      refine z_iload_n (pc := 524) hc dL_law_524 rfl ?_
      refine z_iconst (pc := 525) hc dL_law_525 ?_
      refine z_iadd (pc := 526) hc dL_law_526 ?_
      refine z_sld (pc := 527) hc hX0 dL_law_527 H (fun v93 H => ?_)
      refine z_aload_n (pc := 528) hc dL_law_528 rfl ?_
      refine z_iload_n (pc := 529) hc dL_law_529 rfl ?_
      refine z_iconst (pc := 530) hc dL_law_530 ?_
      refine z_iadd (pc := 531) hc dL_law_531 ?_
      refine z_sld (pc := 532) hc hX0 dL_law_532 H (fun v94 H => ?_)
      refine z_calI (z_runV (pc := 533) (ci := 6) (T := TX6) (N := 8) hc dL_law_533 zw_RL_58 (metX6_set _ _ _ H.2) rfl (Nat.le_of_ble_eq_true rfl) ⟨Nat.le_of_ble_eq_true rfl, Nat.le_of_ble_eq_true rfl⟩ ⟨by exact Nat.le_of_ble_eq_true rfl, by exact Nat.le_of_ble_eq_true rfl⟩ rfl H.1) rfl ⟨rfl, rfl⟩ (fun v96 h95 H => ?_)
      refine z_aload_n (pc := 536) hc dL_law_536 rfl ?_
      refine z_aload_n (pc := 537) hc dL_law_537 rfl ?_
      refine z_iload_n (pc := 538) hc dL_law_538 rfl ?_
      refine z_iconst (pc := 539) hc dL_law_539 ?_
      refine z_iadd (pc := 540) hc dL_law_540 ?_
      refine z_sld (pc := 541) hc hX0 dL_law_541 H (fun v97 H => ?_)
      refine z_aload_n (pc := 542) hc dL_law_542 rfl ?_
      refine z_iload_n (pc := 543) hc dL_law_543 rfl ?_
      refine z_iconst (pc := 544) hc dL_law_544 ?_
      refine z_iadd (pc := 545) hc dL_law_545 ?_
      refine z_sld (pc := 546) hc hX0 dL_law_546 H (fun v98 H => ?_)
      refine z_calI (z_runV (pc := 547) (ci := 7) (T := TX7) (N := 20) hc dL_law_547 zw_RL_61 (metX7_set _ _ _ H.2) rfl (Nat.le_of_ble_eq_true rfl) ⟨Nat.le_of_ble_eq_true rfl, Nat.le_of_ble_eq_true rfl⟩ ⟨by exact Nat.le_of_ble_eq_true rfl, by exact Nat.le_of_ble_eq_true rfl⟩ rfl H.1) rfl ⟨rfl, rfl⟩ (fun v100 h99 H => ?_)
      refine z_icmp_eq (tgt := 1075) (pc := 550) hc dL_law_550 rfl H (fun H => ?_) (fun H => ?_)
      · refine z_iinc (pc := 1075) hc dL_law_1075 (by decide) rfl (ρ' := [some (.inr a0), some (.inr a1), some (.inr a2), some (.inl (x3 + 5))]) rfl ?_
        refine z_goto (tgt := 18) (pc := 1078) hc dL_law_1078 rfl ?_
        refine z_cells (cells' := 485) (slots' := 9884) (by omega) (by omega) ?_
        exact hX18 _ _ H
      · refine z_iconst (pc := 553) hc dL_law_553 ?_
        exact hR0 _ _ _ _ dL_law_554 H
    · have H := Hs11 (by omega)
      refine z_aload_n (pc := 555) hc dL_law_555 rfl ?_
      refine z_aload_n (pc := 556) hc dL_law_556 rfl ?_
      refine z_iload_n (pc := 557) hc dL_law_557 rfl ?_
      refine z_iconst (pc := 558) hc dL_law_558 ?_
      refine z_iadd (pc := 559) hc dL_law_559 ?_
      refine z_sld (pc := 560) hc hX0 dL_law_560 H (fun v101 H => ?_)
      refine z_aload_n (pc := 561) hc dL_law_561 rfl ?_
      refine z_iload_n (pc := 562) hc dL_law_562 rfl ?_
      refine z_iconst (pc := 563) hc dL_law_563 ?_
      refine z_iadd (pc := 564) hc dL_law_564 ?_
      refine z_sld (pc := 565) hc hX0 dL_law_565 H (fun v102 H => ?_)
      refine z_calI (z_runV (pc := 566) (ci := 6) (T := TX6) (N := 8) hc dL_law_566 zw_RL_62 (metX6_setKnockout _ _ _ H.2) rfl (Nat.le_of_ble_eq_true rfl) ⟨Nat.le_of_ble_eq_true rfl, Nat.le_of_ble_eq_true rfl⟩ ⟨by exact Nat.le_of_ble_eq_true rfl, by exact Nat.le_of_ble_eq_true rfl⟩ rfl H.1) rfl ⟨rfl, rfl⟩ (fun v104 h103 H => ?_)
      refine z_aload_n (pc := 569) hc dL_law_569 rfl ?_
      refine z_aload_n (pc := 570) hc dL_law_570 rfl ?_
      refine z_iload_n (pc := 571) hc dL_law_571 rfl ?_
      refine z_iconst (pc := 572) hc dL_law_572 ?_
      refine z_iadd (pc := 573) hc dL_law_573 ?_
      refine z_sld (pc := 574) hc hX0 dL_law_574 H (fun v105 H => ?_)
      refine z_aload_n (pc := 575) hc dL_law_575 rfl ?_
      refine z_iload_n (pc := 576) hc dL_law_576 rfl ?_
      refine z_iconst (pc := 577) hc dL_law_577 ?_
      refine z_iadd (pc := 578) hc dL_law_578 ?_
      refine z_sld (pc := 579) hc hX0 dL_law_579 H (fun v106 H => ?_)
      refine z_calI (z_runV (pc := 580) (ci := 7) (T := TX7) (N := 20) hc dL_law_580 zw_RL_65 (metX7_setKnockout _ _ _ H.2) rfl (Nat.le_of_ble_eq_true rfl) ⟨Nat.le_of_ble_eq_true rfl, Nat.le_of_ble_eq_true rfl⟩ ⟨by exact Nat.le_of_ble_eq_true rfl, by exact Nat.le_of_ble_eq_true rfl⟩ rfl H.1) rfl ⟨rfl, rfl⟩ (fun v108 h107 H => ?_)
      refine z_icmp_eq (tgt := 1075) (pc := 583) hc dL_law_583 rfl H (fun H => ?_) (fun H => ?_)
      · refine z_iinc (pc := 1075) hc dL_law_1075 (by decide) rfl (ρ' := [some (.inr a0), some (.inr a1), some (.inr a2), some (.inl (x3 + 5))]) rfl ?_
        refine z_goto (tgt := 18) (pc := 1078) hc dL_law_1078 rfl ?_
        refine z_cells (cells' := 485) (slots' := 9884) (by omega) (by omega) ?_
        exact hX18 _ _ H
      · refine z_iconst (pc := 586) hc dL_law_586 ?_
        exact hR0 _ _ _ _ dL_law_587 H
    · have H := Hs12 (by omega)
      refine z_aload_n (pc := 588) hc dL_law_588 rfl ?_
      refine z_aload_n (pc := 589) hc dL_law_589 rfl ?_
      refine z_iload_n (pc := 590) hc dL_law_590 rfl ?_
      refine z_iconst (pc := 591) hc dL_law_591 ?_
      refine z_iadd (pc := 592) hc dL_law_592 ?_
      refine z_sld (pc := 593) hc hX0 dL_law_593 H (fun v109 H => ?_)
      refine z_aload_n (pc := 594) hc dL_law_594 rfl ?_
      refine z_iload_n (pc := 595) hc dL_law_595 rfl ?_
      refine z_iconst (pc := 596) hc dL_law_596 ?_
      refine z_iadd (pc := 597) hc dL_law_597 ?_
      refine z_sld (pc := 598) hc hX0 dL_law_598 H (fun v110 H => ?_)
      refine z_aload_n (pc := 599) hc dL_law_599 rfl ?_
      refine z_iload_n (pc := 600) hc dL_law_600 rfl ?_
      refine z_iconst (pc := 601) hc dL_law_601 ?_
      refine z_iadd (pc := 602) hc dL_law_602 ?_
      refine z_sld (pc := 603) hc hX0 dL_law_603 H (fun v111 H => ?_)
      refine z_calI (z_runV (pc := 604) (ci := 6) (T := TX6) (N := 8) hc dL_law_604 zw_RL_66 (metX6_setPoint _ _ _ H.2) rfl (Nat.le_of_ble_eq_true rfl) ⟨Nat.le_of_ble_eq_true rfl, Nat.le_of_ble_eq_true rfl⟩ ⟨by exact Nat.le_of_ble_eq_true rfl, by exact Nat.le_of_ble_eq_true rfl⟩ rfl H.1) rfl ⟨rfl, rfl⟩ (fun v113 h112 H => ?_)
      refine z_aload_n (pc := 607) hc dL_law_607 rfl ?_
      refine z_aload_n (pc := 608) hc dL_law_608 rfl ?_
      refine z_iload_n (pc := 609) hc dL_law_609 rfl ?_
      refine z_iconst (pc := 610) hc dL_law_610 ?_
      refine z_iadd (pc := 611) hc dL_law_611 ?_
      refine z_sld (pc := 612) hc hX0 dL_law_612 H (fun v114 H => ?_)
      refine z_aload_n (pc := 613) hc dL_law_613 rfl ?_
      refine z_iload_n (pc := 614) hc dL_law_614 rfl ?_
      refine z_iconst (pc := 615) hc dL_law_615 ?_
      refine z_iadd (pc := 616) hc dL_law_616 ?_
      refine z_sld (pc := 617) hc hX0 dL_law_617 H (fun v115 H => ?_)
      refine z_aload_n (pc := 618) hc dL_law_618 rfl ?_
      refine z_iload_n (pc := 619) hc dL_law_619 rfl ?_
      refine z_iconst (pc := 620) hc dL_law_620 ?_
      refine z_iadd (pc := 621) hc dL_law_621 ?_
      refine z_sld (pc := 622) hc hX0 dL_law_622 H (fun v116 H => ?_)
      refine z_calI (z_runV (pc := 623) (ci := 7) (T := TX7) (N := 20) hc dL_law_623 zw_RL_69 (metX7_setPoint _ _ _ H.2) rfl (Nat.le_of_ble_eq_true rfl) ⟨Nat.le_of_ble_eq_true rfl, Nat.le_of_ble_eq_true rfl⟩ ⟨by exact Nat.le_of_ble_eq_true rfl, by exact Nat.le_of_ble_eq_true rfl⟩ rfl H.1) rfl ⟨rfl, rfl⟩ (fun v118 h117 H => ?_)
      refine z_icmp_eq (tgt := 1075) (pc := 626) hc dL_law_626 rfl H (fun H => ?_) (fun H => ?_)
      · refine z_iinc (pc := 1075) hc dL_law_1075 (by decide) rfl (ρ' := [some (.inr a0), some (.inr a1), some (.inr a2), some (.inl (x3 + 5))]) rfl ?_
        refine z_goto (tgt := 18) (pc := 1078) hc dL_law_1078 rfl ?_
        refine z_cells (cells' := 485) (slots' := 9884) (by omega) (by omega) ?_
        exact hX18 _ _ H
      · refine z_iconst (pc := 629) hc dL_law_629 ?_
        exact hR0 _ _ _ _ dL_law_630 H
    · have H := Hs13 (by omega)
      refine z_aload_n (pc := 631) hc dL_law_631 rfl ?_
      refine z_aload_n (pc := 632) hc dL_law_632 rfl ?_
      refine z_iload_n (pc := 633) hc dL_law_633 rfl ?_
      refine z_iconst (pc := 634) hc dL_law_634 ?_
      refine z_iadd (pc := 635) hc dL_law_635 ?_
      refine z_sld (pc := 636) hc hX0 dL_law_636 H (fun v119 H => ?_)
      refine z_aload_n (pc := 637) hc dL_law_637 rfl ?_
      refine z_iload_n (pc := 638) hc dL_law_638 rfl ?_
      refine z_iconst (pc := 639) hc dL_law_639 ?_
      refine z_iadd (pc := 640) hc dL_law_640 ?_
      refine z_sld (pc := 641) hc hX0 dL_law_641 H (fun v120 H => ?_)
      refine z_calI (z_runV (pc := 642) (ci := 6) (T := TX6) (N := 8) hc dL_law_642 zw_RL_70 (metX6_removePoint _ _ _ H.2) rfl (Nat.le_of_ble_eq_true rfl) ⟨Nat.le_of_ble_eq_true rfl, Nat.le_of_ble_eq_true rfl⟩ ⟨by exact Nat.le_of_ble_eq_true rfl, by exact Nat.le_of_ble_eq_true rfl⟩ rfl H.1) rfl ⟨rfl, rfl⟩ (fun v122 h121 H => ?_)
      refine z_aload_n (pc := 645) hc dL_law_645 rfl ?_
      refine z_aload_n (pc := 646) hc dL_law_646 rfl ?_
      refine z_iload_n (pc := 647) hc dL_law_647 rfl ?_
      refine z_iconst (pc := 648) hc dL_law_648 ?_
      refine z_iadd (pc := 649) hc dL_law_649 ?_
      refine z_sld (pc := 650) hc hX0 dL_law_650 H (fun v123 H => ?_)
      refine z_aload_n (pc := 651) hc dL_law_651 rfl ?_
      refine z_iload_n (pc := 652) hc dL_law_652 rfl ?_
      refine z_iconst (pc := 653) hc dL_law_653 ?_
      refine z_iadd (pc := 654) hc dL_law_654 ?_
      refine z_sld (pc := 655) hc hX0 dL_law_655 H (fun v124 H => ?_)
      refine z_calI (z_runV (pc := 656) (ci := 7) (T := TX7) (N := 20) hc dL_law_656 zw_RL_73 (metX7_removePoint _ _ _ H.2) rfl (Nat.le_of_ble_eq_true rfl) ⟨Nat.le_of_ble_eq_true rfl, Nat.le_of_ble_eq_true rfl⟩ ⟨by exact Nat.le_of_ble_eq_true rfl, by exact Nat.le_of_ble_eq_true rfl⟩ rfl H.1) rfl ⟨rfl, rfl⟩ (fun v126 h125 H => ?_)
      refine z_icmp_eq (tgt := 1075) (pc := 659) hc dL_law_659 rfl H (fun H => ?_) (fun H => ?_)
      · refine z_iinc (pc := 1075) hc dL_law_1075 (by decide) rfl (ρ' := [some (.inr a0), some (.inr a1), some (.inr a2), some (.inl (x3 + 5))]) rfl ?_
        refine z_goto (tgt := 18) (pc := 1078) hc dL_law_1078 rfl ?_
        refine z_cells (cells' := 485) (slots' := 9884) (by omega) (by omega) ?_
        exact hX18 _ _ H
      · refine z_iconst (pc := 662) hc dL_law_662 ?_
        exact hR0 _ _ _ _ dL_law_663 H
    · have H := Hs14 (by omega)
      refine z_aload_n (pc := 664) hc dL_law_664 rfl ?_
      refine z_aload_n (pc := 665) hc dL_law_665 rfl ?_
      refine z_iload_n (pc := 666) hc dL_law_666 rfl ?_
      refine z_iconst (pc := 667) hc dL_law_667 ?_
      refine z_iadd (pc := 668) hc dL_law_668 ?_
      refine z_sld (pc := 669) hc hX0 dL_law_669 H (fun v127 H => ?_)
      refine z_aload_n (pc := 670) hc dL_law_670 rfl ?_
      refine z_iload_n (pc := 671) hc dL_law_671 rfl ?_
      refine z_iconst (pc := 672) hc dL_law_672 ?_
      refine z_iadd (pc := 673) hc dL_law_673 ?_
      refine z_sld (pc := 674) hc hX0 dL_law_674 H (fun v128 H => ?_)
      refine z_calI (z_runV (pc := 675) (ci := 6) (T := TX6) (N := 8) hc dL_law_675 zw_RL_74 (metX6_curve _ _ _ H.2) rfl (Nat.le_of_ble_eq_true rfl) ⟨Nat.le_of_ble_eq_true rfl, Nat.le_of_ble_eq_true rfl⟩ ⟨by exact Nat.le_of_ble_eq_true rfl, by exact Nat.le_of_ble_eq_true rfl⟩ rfl H.1) rfl ⟨rfl, rfl⟩ (fun v130 h129 H => ?_)
      refine z_aload_n (pc := 678) hc dL_law_678 rfl ?_
      refine z_aload_n (pc := 679) hc dL_law_679 rfl ?_
      refine z_iload_n (pc := 680) hc dL_law_680 rfl ?_
      refine z_iconst (pc := 681) hc dL_law_681 ?_
      refine z_iadd (pc := 682) hc dL_law_682 ?_
      refine z_sld (pc := 683) hc hX0 dL_law_683 H (fun v131 H => ?_)
      refine z_aload_n (pc := 684) hc dL_law_684 rfl ?_
      refine z_iload_n (pc := 685) hc dL_law_685 rfl ?_
      refine z_iconst (pc := 686) hc dL_law_686 ?_
      refine z_iadd (pc := 687) hc dL_law_687 ?_
      refine z_sld (pc := 688) hc hX0 dL_law_688 H (fun v132 H => ?_)
      refine z_calI (z_runV (pc := 689) (ci := 7) (T := TX7) (N := 20) hc dL_law_689 zw_RL_77 (metX7_curve _ _ _ H.2) rfl (Nat.le_of_ble_eq_true rfl) ⟨Nat.le_of_ble_eq_true rfl, Nat.le_of_ble_eq_true rfl⟩ ⟨by exact Nat.le_of_ble_eq_true rfl, by exact Nat.le_of_ble_eq_true rfl⟩ rfl H.1) rfl ⟨rfl, rfl⟩ (fun v134 h133 H => ?_)
      refine z_icmp_eq (tgt := 1075) (pc := 692) hc dL_law_692 rfl H (fun H => ?_) (fun H => ?_)
      · refine z_iinc (pc := 1075) hc dL_law_1075 (by decide) rfl (ρ' := [some (.inr a0), some (.inr a1), some (.inr a2), some (.inl (x3 + 5))]) rfl ?_
        refine z_goto (tgt := 18) (pc := 1078) hc dL_law_1078 rfl ?_
        refine z_cells (cells' := 485) (slots' := 9884) (by omega) (by omega) ?_
        exact hX18 _ _ H
      · refine z_iconst (pc := 695) hc dL_law_695 ?_
        exact hR0 _ _ _ _ dL_law_696 H
    · have H := Hs15 (by omega)
      refine z_aload_n (pc := 697) hc dL_law_697 rfl ?_
      refine z_aload_n (pc := 698) hc dL_law_698 rfl ?_
      refine z_iload_n (pc := 699) hc dL_law_699 rfl ?_
      refine z_iconst (pc := 700) hc dL_law_700 ?_
      refine z_iadd (pc := 701) hc dL_law_701 ?_
      refine z_sld (pc := 702) hc hX0 dL_law_702 H (fun v135 H => ?_)
      refine z_aload_n (pc := 703) hc dL_law_703 rfl ?_
      refine z_iload_n (pc := 704) hc dL_law_704 rfl ?_
      refine z_iconst (pc := 705) hc dL_law_705 ?_
      refine z_iadd (pc := 706) hc dL_law_706 ?_
      refine z_sld (pc := 707) hc hX0 dL_law_707 H (fun v136 H => ?_)
      refine z_calI (z_runV (pc := 708) (ci := 6) (T := TX6) (N := 8) hc dL_law_708 zw_RL_78 (metX6_inverse _ _ _ H.2) rfl (Nat.le_of_ble_eq_true rfl) ⟨Nat.le_of_ble_eq_true rfl, Nat.le_of_ble_eq_true rfl⟩ ⟨by exact Nat.le_of_ble_eq_true rfl, by exact Nat.le_of_ble_eq_true rfl⟩ rfl H.1) rfl ⟨rfl, rfl⟩ (fun v138 h137 H => ?_)
      refine z_aload_n (pc := 711) hc dL_law_711 rfl ?_
      refine z_aload_n (pc := 712) hc dL_law_712 rfl ?_
      refine z_iload_n (pc := 713) hc dL_law_713 rfl ?_
      refine z_iconst (pc := 714) hc dL_law_714 ?_
      refine z_iadd (pc := 715) hc dL_law_715 ?_
      refine z_sld (pc := 716) hc hX0 dL_law_716 H (fun v139 H => ?_)
      refine z_aload_n (pc := 717) hc dL_law_717 rfl ?_
      refine z_iload_n (pc := 718) hc dL_law_718 rfl ?_
      refine z_iconst (pc := 719) hc dL_law_719 ?_
      refine z_iadd (pc := 720) hc dL_law_720 ?_
      refine z_sld (pc := 721) hc hX0 dL_law_721 H (fun v140 H => ?_)
      refine z_calI (z_runV (pc := 722) (ci := 7) (T := TX7) (N := 20) hc dL_law_722 zw_RL_81 (metX7_inverse _ _ _ H.2) rfl (Nat.le_of_ble_eq_true rfl) ⟨Nat.le_of_ble_eq_true rfl, Nat.le_of_ble_eq_true rfl⟩ ⟨by exact Nat.le_of_ble_eq_true rfl, by exact Nat.le_of_ble_eq_true rfl⟩ rfl H.1) rfl ⟨rfl, rfl⟩ (fun v142 h141 H => ?_)
      refine z_icmp_eq (tgt := 1075) (pc := 725) hc dL_law_725 rfl H (fun H => ?_) (fun H => ?_)
      · refine z_iinc (pc := 1075) hc dL_law_1075 (by decide) rfl (ρ' := [some (.inr a0), some (.inr a1), some (.inr a2), some (.inl (x3 + 5))]) rfl ?_
        refine z_goto (tgt := 18) (pc := 1078) hc dL_law_1078 rfl ?_
        refine z_cells (cells' := 485) (slots' := 9884) (by omega) (by omega) ?_
        exact hX18 _ _ H
      · refine z_iconst (pc := 728) hc dL_law_728 ?_
        exact hR0 _ _ _ _ dL_law_729 H
    · have H := Hs16 (by omega)
      refine z_aload_n (pc := 730) hc dL_law_730 rfl ?_
      refine z_aload_n (pc := 731) hc dL_law_731 rfl ?_
      refine z_iload_n (pc := 732) hc dL_law_732 rfl ?_
      refine z_iconst (pc := 733) hc dL_law_733 ?_
      refine z_iadd (pc := 734) hc dL_law_734 ?_
      refine z_sld (pc := 735) hc hX0 dL_law_735 H (fun v143 H => ?_)
      refine z_calI (z_runV (pc := 736) (ci := 6) (T := TX6) (N := 8) hc dL_law_736 zw_RL_82 (metX6_simplify _ _ _ H.2) rfl (Nat.le_of_ble_eq_true rfl) ⟨Nat.le_of_ble_eq_true rfl, Nat.le_of_ble_eq_true rfl⟩ ⟨by exact Nat.le_of_ble_eq_true rfl, by exact Nat.le_of_ble_eq_true rfl⟩ rfl H.1) rfl ⟨rfl, rfl⟩ (fun v145 h144 H => ?_)
      refine z_aload_n (pc := 739) hc dL_law_739 rfl ?_
      refine z_aload_n (pc := 740) hc dL_law_740 rfl ?_
      refine z_iload_n (pc := 741) hc dL_law_741 rfl ?_
      refine z_iconst (pc := 742) hc dL_law_742 ?_
      refine z_iadd (pc := 743) hc dL_law_743 ?_
      refine z_sld (pc := 744) hc hX0 dL_law_744 H (fun v146 H => ?_)
      refine z_calI (z_runV (pc := 745) (ci := 7) (T := TX7) (N := 20) hc dL_law_745 zw_RL_85 (metX7_simplify _ _ _ H.2) rfl (Nat.le_of_ble_eq_true rfl) ⟨Nat.le_of_ble_eq_true rfl, Nat.le_of_ble_eq_true rfl⟩ ⟨by exact Nat.le_of_ble_eq_true rfl, by exact Nat.le_of_ble_eq_true rfl⟩ rfl H.1) rfl ⟨rfl, rfl⟩ (fun v148 h147 H => ?_)
      refine z_icmp_eq (tgt := 1075) (pc := 748) hc dL_law_748 rfl H (fun H => ?_) (fun H => ?_)
      · refine z_iinc (pc := 1075) hc dL_law_1075 (by decide) rfl (ρ' := [some (.inr a0), some (.inr a1), some (.inr a2), some (.inl (x3 + 5))]) rfl ?_
        refine z_goto (tgt := 18) (pc := 1078) hc dL_law_1078 rfl ?_
        refine z_cells (cells' := 485) (slots' := 9884) (by omega) (by omega) ?_
        exact hX18 _ _ H
      · refine z_iconst (pc := 751) hc dL_law_751 ?_
        exact hR0 _ _ _ _ dL_law_752 H
    · have H := Hs17 (by omega)
      refine z_aload_n (pc := 753) hc dL_law_753 rfl ?_
      refine z_aload_n (pc := 754) hc dL_law_754 rfl ?_
      refine z_iload_n (pc := 755) hc dL_law_755 rfl ?_
      refine z_iconst (pc := 756) hc dL_law_756 ?_
      refine z_iadd (pc := 757) hc dL_law_757 ?_
      refine z_sld (pc := 758) hc hX0 dL_law_758 H (fun v149 H => ?_)
      refine z_aload_n (pc := 759) hc dL_law_759 rfl ?_
      refine z_iload_n (pc := 760) hc dL_law_760 rfl ?_
      refine z_iconst (pc := 761) hc dL_law_761 ?_
      refine z_iadd (pc := 762) hc dL_law_762 ?_
      refine z_sld (pc := 763) hc hX0 dL_law_763 H (fun v150 H => ?_)
      refine z_aload_n (pc := 764) hc dL_law_764 rfl ?_
      refine z_iload_n (pc := 765) hc dL_law_765 rfl ?_
      refine z_iconst (pc := 766) hc dL_law_766 ?_
      refine z_iadd (pc := 767) hc dL_law_767 ?_
      refine z_sld (pc := 768) hc hX0 dL_law_768 H (fun v151 H => ?_)
      refine z_calI (z_runV (pc := 769) (ci := 6) (T := TX6) (N := 8) hc dL_law_769 zw_RL_86 (metX6_rendered _ _ _ H.2) rfl (Nat.le_of_ble_eq_true rfl) ⟨Nat.le_of_ble_eq_true rfl, Nat.le_of_ble_eq_true rfl⟩ ⟨by exact Nat.le_of_ble_eq_true rfl, by exact Nat.le_of_ble_eq_true rfl⟩ rfl H.1) rfl ⟨rfl, rfl⟩ (fun v153 h152 H => ?_)
      refine z_aload_n (pc := 772) hc dL_law_772 rfl ?_
      refine z_aload_n (pc := 773) hc dL_law_773 rfl ?_
      refine z_iload_n (pc := 774) hc dL_law_774 rfl ?_
      refine z_iconst (pc := 775) hc dL_law_775 ?_
      refine z_iadd (pc := 776) hc dL_law_776 ?_
      refine z_sld (pc := 777) hc hX0 dL_law_777 H (fun v154 H => ?_)
      refine z_aload_n (pc := 778) hc dL_law_778 rfl ?_
      refine z_iload_n (pc := 779) hc dL_law_779 rfl ?_
      refine z_iconst (pc := 780) hc dL_law_780 ?_
      refine z_iadd (pc := 781) hc dL_law_781 ?_
      refine z_sld (pc := 782) hc hX0 dL_law_782 H (fun v155 H => ?_)
      refine z_aload_n (pc := 783) hc dL_law_783 rfl ?_
      refine z_iload_n (pc := 784) hc dL_law_784 rfl ?_
      refine z_iconst (pc := 785) hc dL_law_785 ?_
      refine z_iadd (pc := 786) hc dL_law_786 ?_
      refine z_sld (pc := 787) hc hX0 dL_law_787 H (fun v156 H => ?_)
      refine z_calI (z_runV (pc := 788) (ci := 7) (T := TX7) (N := 20) hc dL_law_788 zw_RL_89 (metX7_rendered _ _ _ H.2) rfl (Nat.le_of_ble_eq_true rfl) ⟨Nat.le_of_ble_eq_true rfl, Nat.le_of_ble_eq_true rfl⟩ ⟨by exact Nat.le_of_ble_eq_true rfl, by exact Nat.le_of_ble_eq_true rfl⟩ rfl H.1) rfl ⟨rfl, rfl⟩ (fun v158 h157 H => ?_)
      refine z_icmp_eq (tgt := 1075) (pc := 791) hc dL_law_791 rfl H (fun H => ?_) (fun H => ?_)
      · refine z_iinc (pc := 1075) hc dL_law_1075 (by decide) rfl (ρ' := [some (.inr a0), some (.inr a1), some (.inr a2), some (.inl (x3 + 5))]) rfl ?_
        refine z_goto (tgt := 18) (pc := 1078) hc dL_law_1078 rfl ?_
        refine z_cells (cells' := 485) (slots' := 9884) (by omega) (by omega) ?_
        exact hX18 _ _ H
      · refine z_iconst (pc := 794) hc dL_law_794 ?_
        exact hR0 _ _ _ _ dL_law_795 H
    · have H := Hs18 (by omega)
      refine z_aload_n (pc := 796) hc dL_law_796 rfl ?_
      refine z_aload_n (pc := 797) hc dL_law_797 rfl ?_
      refine z_iload_n (pc := 798) hc dL_law_798 rfl ?_
      refine z_iconst (pc := 799) hc dL_law_799 ?_
      refine z_iadd (pc := 800) hc dL_law_800 ?_
      refine z_sld (pc := 801) hc hX0 dL_law_801 H (fun v159 H => ?_)
      refine z_aload_n (pc := 802) hc dL_law_802 rfl ?_
      refine z_iload_n (pc := 803) hc dL_law_803 rfl ?_
      refine z_iconst (pc := 804) hc dL_law_804 ?_
      refine z_iadd (pc := 805) hc dL_law_805 ?_
      refine z_sld (pc := 806) hc hX0 dL_law_806 H (fun v160 H => ?_)
      refine z_aload_n (pc := 807) hc dL_law_807 rfl ?_
      refine z_iload_n (pc := 808) hc dL_law_808 rfl ?_
      refine z_iconst (pc := 809) hc dL_law_809 ?_
      refine z_iadd (pc := 810) hc dL_law_810 ?_
      refine z_sld (pc := 811) hc hX0 dL_law_811 H (fun v161 H => ?_)
      refine z_calI (z_runV (pc := 812) (ci := 6) (T := TX6) (N := 8) hc dL_law_812 zw_RL_90 (metX6_ink _ _ _ H.2) rfl (Nat.le_of_ble_eq_true rfl) ⟨Nat.le_of_ble_eq_true rfl, Nat.le_of_ble_eq_true rfl⟩ ⟨by exact Nat.le_of_ble_eq_true rfl, by exact Nat.le_of_ble_eq_true rfl⟩ rfl H.1) rfl ⟨rfl, rfl⟩ (fun v163 h162 H => ?_)
      refine z_aload_n (pc := 815) hc dL_law_815 rfl ?_
      refine z_aload_n (pc := 816) hc dL_law_816 rfl ?_
      refine z_iload_n (pc := 817) hc dL_law_817 rfl ?_
      refine z_iconst (pc := 818) hc dL_law_818 ?_
      refine z_iadd (pc := 819) hc dL_law_819 ?_
      refine z_sld (pc := 820) hc hX0 dL_law_820 H (fun v164 H => ?_)
      refine z_aload_n (pc := 821) hc dL_law_821 rfl ?_
      refine z_iload_n (pc := 822) hc dL_law_822 rfl ?_
      refine z_iconst (pc := 823) hc dL_law_823 ?_
      refine z_iadd (pc := 824) hc dL_law_824 ?_
      refine z_sld (pc := 825) hc hX0 dL_law_825 H (fun v165 H => ?_)
      refine z_aload_n (pc := 826) hc dL_law_826 rfl ?_
      refine z_iload_n (pc := 827) hc dL_law_827 rfl ?_
      refine z_iconst (pc := 828) hc dL_law_828 ?_
      refine z_iadd (pc := 829) hc dL_law_829 ?_
      refine z_sld (pc := 830) hc hX0 dL_law_830 H (fun v166 H => ?_)
      refine z_calI (z_runV (pc := 831) (ci := 7) (T := TX7) (N := 20) hc dL_law_831 zw_RL_93 (metX7_ink _ _ _ H.2) rfl (Nat.le_of_ble_eq_true rfl) ⟨Nat.le_of_ble_eq_true rfl, Nat.le_of_ble_eq_true rfl⟩ ⟨by exact Nat.le_of_ble_eq_true rfl, by exact Nat.le_of_ble_eq_true rfl⟩ rfl H.1) rfl ⟨rfl, rfl⟩ (fun v168 h167 H => ?_)
      refine z_icmp_eq (tgt := 1075) (pc := 834) hc dL_law_834 rfl H (fun H => ?_) (fun H => ?_)
      · refine z_iinc (pc := 1075) hc dL_law_1075 (by decide) rfl (ρ' := [some (.inr a0), some (.inr a1), some (.inr a2), some (.inl (x3 + 5))]) rfl ?_
        refine z_goto (tgt := 18) (pc := 1078) hc dL_law_1078 rfl ?_
        refine z_cells (cells' := 485) (slots' := 9884) (by omega) (by omega) ?_
        exact hX18 _ _ H
      · refine z_iconst (pc := 837) hc dL_law_837 ?_
        exact hR0 _ _ _ _ dL_law_838 H
    · have H := Hs19 (by omega)
      refine z_aload_n (pc := 839) hc dL_law_839 rfl ?_
      refine z_aload_n (pc := 840) hc dL_law_840 rfl ?_
      refine z_iload_n (pc := 841) hc dL_law_841 rfl ?_
      refine z_iconst (pc := 842) hc dL_law_842 ?_
      refine z_iadd (pc := 843) hc dL_law_843 ?_
      refine z_sld (pc := 844) hc hX0 dL_law_844 H (fun v169 H => ?_)
      refine z_aload_n (pc := 845) hc dL_law_845 rfl ?_
      refine z_iload_n (pc := 846) hc dL_law_846 rfl ?_
      refine z_iconst (pc := 847) hc dL_law_847 ?_
      refine z_iadd (pc := 848) hc dL_law_848 ?_
      refine z_sld (pc := 849) hc hX0 dL_law_849 H (fun v170 H => ?_)
      refine z_calI (z_runV (pc := 850) (ci := 6) (T := TX6) (N := 8) hc dL_law_850 zw_RL_94 (metX6_inkOf _ _ _ H.2) rfl (Nat.le_of_ble_eq_true rfl) ⟨Nat.le_of_ble_eq_true rfl, Nat.le_of_ble_eq_true rfl⟩ ⟨by exact Nat.le_of_ble_eq_true rfl, by exact Nat.le_of_ble_eq_true rfl⟩ rfl H.1) rfl ⟨rfl, rfl⟩ (fun v172 h171 H => ?_)
      refine z_aload_n (pc := 853) hc dL_law_853 rfl ?_
      refine z_aload_n (pc := 854) hc dL_law_854 rfl ?_
      refine z_iload_n (pc := 855) hc dL_law_855 rfl ?_
      refine z_iconst (pc := 856) hc dL_law_856 ?_
      refine z_iadd (pc := 857) hc dL_law_857 ?_
      refine z_sld (pc := 858) hc hX0 dL_law_858 H (fun v173 H => ?_)
      refine z_aload_n (pc := 859) hc dL_law_859 rfl ?_
      refine z_iload_n (pc := 860) hc dL_law_860 rfl ?_
      refine z_iconst (pc := 861) hc dL_law_861 ?_
      refine z_iadd (pc := 862) hc dL_law_862 ?_
      refine z_sld (pc := 863) hc hX0 dL_law_863 H (fun v174 H => ?_)
      refine z_calI (z_runV (pc := 864) (ci := 7) (T := TX7) (N := 20) hc dL_law_864 zw_RL_97 (metX7_inkOf _ _ _ H.2) rfl (Nat.le_of_ble_eq_true rfl) ⟨Nat.le_of_ble_eq_true rfl, Nat.le_of_ble_eq_true rfl⟩ ⟨by exact Nat.le_of_ble_eq_true rfl, by exact Nat.le_of_ble_eq_true rfl⟩ rfl H.1) rfl ⟨rfl, rfl⟩ (fun v176 h175 H => ?_)
      refine z_icmp_eq (tgt := 1075) (pc := 867) hc dL_law_867 rfl H (fun H => ?_) (fun H => ?_)
      · refine z_iinc (pc := 1075) hc dL_law_1075 (by decide) rfl (ρ' := [some (.inr a0), some (.inr a1), some (.inr a2), some (.inl (x3 + 5))]) rfl ?_
        refine z_goto (tgt := 18) (pc := 1078) hc dL_law_1078 rfl ?_
        refine z_cells (cells' := 485) (slots' := 9884) (by omega) (by omega) ?_
        exact hX18 _ _ H
      · refine z_iconst (pc := 870) hc dL_law_870 ?_
        exact hR0 _ _ _ _ dL_law_871 H
    · have H := Hs20 (by omega)
      refine z_aload_n (pc := 872) hc dL_law_872 rfl ?_
      refine z_aload_n (pc := 873) hc dL_law_873 rfl ?_
      refine z_iload_n (pc := 874) hc dL_law_874 rfl ?_
      refine z_iconst (pc := 875) hc dL_law_875 ?_
      refine z_iadd (pc := 876) hc dL_law_876 ?_
      refine z_sld (pc := 877) hc hX0 dL_law_877 H (fun v177 H => ?_)
      refine z_aload_n (pc := 878) hc dL_law_878 rfl ?_
      refine z_iload_n (pc := 879) hc dL_law_879 rfl ?_
      refine z_iconst (pc := 880) hc dL_law_880 ?_
      refine z_iadd (pc := 881) hc dL_law_881 ?_
      refine z_sld (pc := 882) hc hX0 dL_law_882 H (fun v178 H => ?_)
      refine z_calI (z_runV (pc := 883) (ci := 6) (T := TX6) (N := 8) hc dL_law_883 zw_RL_98 (metX6_touchedBy _ _ _ H.2) rfl (Nat.le_of_ble_eq_true rfl) ⟨Nat.le_of_ble_eq_true rfl, Nat.le_of_ble_eq_true rfl⟩ ⟨by exact Nat.le_of_ble_eq_true rfl, by exact Nat.le_of_ble_eq_true rfl⟩ rfl H.1) rfl ⟨rfl, rfl⟩ (fun v180 h179 H => ?_)
      refine z_aload_n (pc := 886) hc dL_law_886 rfl ?_
      refine z_aload_n (pc := 887) hc dL_law_887 rfl ?_
      refine z_iload_n (pc := 888) hc dL_law_888 rfl ?_
      refine z_iconst (pc := 889) hc dL_law_889 ?_
      refine z_iadd (pc := 890) hc dL_law_890 ?_
      refine z_sld (pc := 891) hc hX0 dL_law_891 H (fun v181 H => ?_)
      refine z_aload_n (pc := 892) hc dL_law_892 rfl ?_
      refine z_iload_n (pc := 893) hc dL_law_893 rfl ?_
      refine z_iconst (pc := 894) hc dL_law_894 ?_
      refine z_iadd (pc := 895) hc dL_law_895 ?_
      refine z_sld (pc := 896) hc hX0 dL_law_896 H (fun v182 H => ?_)
      refine z_calI (z_runV (pc := 897) (ci := 7) (T := TX7) (N := 20) hc dL_law_897 zw_RL_101 (metX7_touchedBy _ _ _ H.2) rfl (Nat.le_of_ble_eq_true rfl) ⟨Nat.le_of_ble_eq_true rfl, Nat.le_of_ble_eq_true rfl⟩ ⟨by exact Nat.le_of_ble_eq_true rfl, by exact Nat.le_of_ble_eq_true rfl⟩ rfl H.1) rfl ⟨rfl, rfl⟩ (fun v184 h183 H => ?_)
      refine z_icmp_eq (tgt := 1075) (pc := 900) hc dL_law_900 rfl H (fun H => ?_) (fun H => ?_)
      · refine z_iinc (pc := 1075) hc dL_law_1075 (by decide) rfl (ρ' := [some (.inr a0), some (.inr a1), some (.inr a2), some (.inl (x3 + 5))]) rfl ?_
        refine z_goto (tgt := 18) (pc := 1078) hc dL_law_1078 rfl ?_
        refine z_cells (cells' := 485) (slots' := 9884) (by omega) (by omega) ?_
        exact hX18 _ _ H
      · refine z_iconst (pc := 903) hc dL_law_903 ?_
        exact hR0 _ _ _ _ dL_law_904 H
    · have H := Hs21 (by omega)
      refine z_aload_n (pc := 905) hc dL_law_905 rfl ?_
      refine z_aload_n (pc := 906) hc dL_law_906 rfl ?_
      refine z_iload_n (pc := 907) hc dL_law_907 rfl ?_
      refine z_iconst (pc := 908) hc dL_law_908 ?_
      refine z_iadd (pc := 909) hc dL_law_909 ?_
      refine z_sld (pc := 910) hc hX0 dL_law_910 H (fun v185 H => ?_)
      refine z_calI (z_runV (pc := 911) (ci := 6) (T := TX6) (N := 8) hc dL_law_911 zw_RL_102 (metX6_coverage _ _ _ H.2) rfl (Nat.le_of_ble_eq_true rfl) ⟨Nat.le_of_ble_eq_true rfl, Nat.le_of_ble_eq_true rfl⟩ ⟨by exact Nat.le_of_ble_eq_true rfl, by exact Nat.le_of_ble_eq_true rfl⟩ rfl H.1) rfl ⟨rfl, rfl⟩ (fun v187 h186 H => ?_)
      refine z_aload_n (pc := 914) hc dL_law_914 rfl ?_
      refine z_aload_n (pc := 915) hc dL_law_915 rfl ?_
      refine z_iload_n (pc := 916) hc dL_law_916 rfl ?_
      refine z_iconst (pc := 917) hc dL_law_917 ?_
      refine z_iadd (pc := 918) hc dL_law_918 ?_
      refine z_sld (pc := 919) hc hX0 dL_law_919 H (fun v188 H => ?_)
      refine z_calI (z_runV (pc := 920) (ci := 7) (T := TX7) (N := 20) hc dL_law_920 zw_RL_105 (metX7_coverage _ _ _ H.2) rfl (Nat.le_of_ble_eq_true rfl) ⟨Nat.le_of_ble_eq_true rfl, Nat.le_of_ble_eq_true rfl⟩ ⟨by exact Nat.le_of_ble_eq_true rfl, by exact Nat.le_of_ble_eq_true rfl⟩ rfl H.1) rfl ⟨rfl, rfl⟩ (fun v190 h189 H => ?_)
      refine z_icmp_eq (tgt := 1075) (pc := 923) hc dL_law_923 rfl H (fun H => ?_) (fun H => ?_)
      · refine z_iinc (pc := 1075) hc dL_law_1075 (by decide) rfl (ρ' := [some (.inr a0), some (.inr a1), some (.inr a2), some (.inl (x3 + 5))]) rfl ?_
        refine z_goto (tgt := 18) (pc := 1078) hc dL_law_1078 rfl ?_
        refine z_cells (cells' := 485) (slots' := 9884) (by omega) (by omega) ?_
        exact hX18 _ _ H
      · refine z_iconst (pc := 926) hc dL_law_926 ?_
        exact hR0 _ _ _ _ dL_law_927 H
    · have H := Hs22 (by omega)
      refine z_aload_n (pc := 928) hc dL_law_928 rfl ?_
      refine z_aload_n (pc := 929) hc dL_law_929 rfl ?_
      refine z_iload_n (pc := 930) hc dL_law_930 rfl ?_
      refine z_iconst (pc := 931) hc dL_law_931 ?_
      refine z_iadd (pc := 932) hc dL_law_932 ?_
      refine z_sld (pc := 933) hc hX0 dL_law_933 H (fun v191 H => ?_)
      refine z_calI (z_runV (pc := 934) (ci := 6) (T := TX6) (N := 8) hc dL_law_934 zw_RL_106 (metX6_plateAt _ _ _ H.2) rfl (Nat.le_of_ble_eq_true rfl) ⟨Nat.le_of_ble_eq_true rfl, Nat.le_of_ble_eq_true rfl⟩ ⟨by exact Nat.le_of_ble_eq_true rfl, by exact Nat.le_of_ble_eq_true rfl⟩ rfl H.1) rfl ⟨rfl, rfl⟩ (fun v193 h192 H => ?_)
      refine z_aload_n (pc := 937) hc dL_law_937 rfl ?_
      refine z_aload_n (pc := 938) hc dL_law_938 rfl ?_
      refine z_iload_n (pc := 939) hc dL_law_939 rfl ?_
      refine z_iconst (pc := 940) hc dL_law_940 ?_
      refine z_iadd (pc := 941) hc dL_law_941 ?_
      refine z_sld (pc := 942) hc hX0 dL_law_942 H (fun v194 H => ?_)
      refine z_calI (z_runV (pc := 943) (ci := 7) (T := TX7) (N := 20) hc dL_law_943 zw_RL_109 (metX7_plateAt _ _ _ H.2) rfl (Nat.le_of_ble_eq_true rfl) ⟨Nat.le_of_ble_eq_true rfl, Nat.le_of_ble_eq_true rfl⟩ ⟨by exact Nat.le_of_ble_eq_true rfl, by exact Nat.le_of_ble_eq_true rfl⟩ rfl H.1) rfl ⟨rfl, rfl⟩ (fun v196 h195 H => ?_)
      refine z_icmp_eq (tgt := 1075) (pc := 946) hc dL_law_946 rfl H (fun H => ?_) (fun H => ?_)
      · refine z_iinc (pc := 1075) hc dL_law_1075 (by decide) rfl (ρ' := [some (.inr a0), some (.inr a1), some (.inr a2), some (.inl (x3 + 5))]) rfl ?_
        refine z_goto (tgt := 18) (pc := 1078) hc dL_law_1078 rfl ?_
        refine z_cells (cells' := 485) (slots' := 9884) (by omega) (by omega) ?_
        exact hX18 _ _ H
      · refine z_iconst (pc := 949) hc dL_law_949 ?_
        exact hR0 _ _ _ _ dL_law_950 H
    · have H := Hs23 (by omega)
      refine z_aload_n (pc := 951) hc dL_law_951 rfl ?_
      refine z_calI (z_runV (pc := 952) (ci := 6) (T := TX6) (N := 8) hc dL_law_952 zw_RL_110 (metX6_greatestSum _ _ _ H.2) rfl (Nat.le_of_ble_eq_true rfl) ⟨Nat.le_of_ble_eq_true rfl, Nat.le_of_ble_eq_true rfl⟩ ⟨by exact Nat.le_of_ble_eq_true rfl, by exact Nat.le_of_ble_eq_true rfl⟩ rfl H.1) rfl ⟨rfl, rfl⟩ (fun v198 h197 H => ?_)
      refine z_aload_n (pc := 955) hc dL_law_955 rfl ?_
      refine z_calI (z_runV (pc := 956) (ci := 7) (T := TX7) (N := 20) hc dL_law_956 zw_RL_113 (metX7_greatestSum _ _ _ H.2) rfl (Nat.le_of_ble_eq_true rfl) ⟨Nat.le_of_ble_eq_true rfl, Nat.le_of_ble_eq_true rfl⟩ ⟨by exact Nat.le_of_ble_eq_true rfl, by exact Nat.le_of_ble_eq_true rfl⟩ rfl H.1) rfl ⟨rfl, rfl⟩ (fun v200 h199 H => ?_)
      refine z_icmp_eq (tgt := 1075) (pc := 959) hc dL_law_959 rfl H (fun H => ?_) (fun H => ?_)
      · refine z_iinc (pc := 1075) hc dL_law_1075 (by decide) rfl (ρ' := [some (.inr a0), some (.inr a1), some (.inr a2), some (.inl (x3 + 5))]) rfl ?_
        refine z_goto (tgt := 18) (pc := 1078) hc dL_law_1078 rfl ?_
        refine z_cells (cells' := 485) (slots' := 9884) (by omega) (by omega) ?_
        exact hX18 _ _ H
      · refine z_iconst (pc := 962) hc dL_law_962 ?_
        exact hR0 _ _ _ _ dL_law_963 H
    · have H := Hs24 (by omega)
      refine z_aload_n (pc := 964) hc dL_law_964 rfl ?_
      refine z_calI (z_runV (pc := 965) (ci := 6) (T := TX6) (N := 8) hc dL_law_965 zw_RL_114 (metX6_limitedPixels _ _ _ H.2) rfl (Nat.le_of_ble_eq_true rfl) ⟨Nat.le_of_ble_eq_true rfl, Nat.le_of_ble_eq_true rfl⟩ ⟨by exact Nat.le_of_ble_eq_true rfl, by exact Nat.le_of_ble_eq_true rfl⟩ rfl H.1) rfl ⟨rfl, rfl⟩ (fun v202 h201 H => ?_)
      refine z_aload_n (pc := 968) hc dL_law_968 rfl ?_
      refine z_calI (z_runV (pc := 969) (ci := 7) (T := TX7) (N := 20) hc dL_law_969 zw_RL_117 (metX7_limitedPixels _ _ _ H.2) rfl (Nat.le_of_ble_eq_true rfl) ⟨Nat.le_of_ble_eq_true rfl, Nat.le_of_ble_eq_true rfl⟩ ⟨by exact Nat.le_of_ble_eq_true rfl, by exact Nat.le_of_ble_eq_true rfl⟩ rfl H.1) rfl ⟨rfl, rfl⟩ (fun v204 h203 H => ?_)
      refine z_icmp_eq (tgt := 1075) (pc := 972) hc dL_law_972 rfl H (fun H => ?_) (fun H => ?_)
      · refine z_iinc (pc := 1075) hc dL_law_1075 (by decide) rfl (ρ' := [some (.inr a0), some (.inr a1), some (.inr a2), some (.inl (x3 + 5))]) rfl ?_
        refine z_goto (tgt := 18) (pc := 1078) hc dL_law_1078 rfl ?_
        refine z_cells (cells' := 485) (slots' := 9884) (by omega) (by omega) ?_
        exact hX18 _ _ H
      · refine z_iconst (pc := 975) hc dL_law_975 ?_
        exact hR0 _ _ _ _ dL_law_976 H
    · have H := Hs25 (by omega)
      refine z_aload_n (pc := 977) hc dL_law_977 rfl ?_
      refine z_calI (z_runV (pc := 978) (ci := 6) (T := TX6) (N := 8) hc dL_law_978 zw_RL_118 (metX6_inkCount _ _ _ H.2) rfl (Nat.le_of_ble_eq_true rfl) ⟨Nat.le_of_ble_eq_true rfl, Nat.le_of_ble_eq_true rfl⟩ ⟨by exact Nat.le_of_ble_eq_true rfl, by exact Nat.le_of_ble_eq_true rfl⟩ rfl H.1) rfl ⟨rfl, rfl⟩ (fun v206 h205 H => ?_)
      refine z_aload_n (pc := 981) hc dL_law_981 rfl ?_
      refine z_calI (z_runV (pc := 982) (ci := 7) (T := TX7) (N := 20) hc dL_law_982 zw_RL_121 (metX7_inkCount _ _ _ H.2) rfl (Nat.le_of_ble_eq_true rfl) ⟨Nat.le_of_ble_eq_true rfl, Nat.le_of_ble_eq_true rfl⟩ ⟨by exact Nat.le_of_ble_eq_true rfl, by exact Nat.le_of_ble_eq_true rfl⟩ rfl H.1) rfl ⟨rfl, rfl⟩ (fun v208 h207 H => ?_)
      refine z_icmp_eq (tgt := 1075) (pc := 985) hc dL_law_985 rfl H (fun H => ?_) (fun H => ?_)
      · refine z_iinc (pc := 1075) hc dL_law_1075 (by decide) rfl (ρ' := [some (.inr a0), some (.inr a1), some (.inr a2), some (.inl (x3 + 5))]) rfl ?_
        refine z_goto (tgt := 18) (pc := 1078) hc dL_law_1078 rfl ?_
        refine z_cells (cells' := 485) (slots' := 9884) (by omega) (by omega) ?_
        exact hX18 _ _ H
      · refine z_iconst (pc := 988) hc dL_law_988 ?_
        exact hR0 _ _ _ _ dL_law_989 H
    · have H := Hs26 (by omega)
      refine z_aload_n (pc := 990) hc dL_law_990 rfl ?_
      refine z_aload_n (pc := 991) hc dL_law_991 rfl ?_
      refine z_iload_n (pc := 992) hc dL_law_992 rfl ?_
      refine z_iconst (pc := 993) hc dL_law_993 ?_
      refine z_iadd (pc := 994) hc dL_law_994 ?_
      refine z_sld (pc := 995) hc hX0 dL_law_995 H (fun v209 H => ?_)
      refine z_aload_n (pc := 996) hc dL_law_996 rfl ?_
      refine z_iload_n (pc := 997) hc dL_law_997 rfl ?_
      refine z_iconst (pc := 998) hc dL_law_998 ?_
      refine z_iadd (pc := 999) hc dL_law_999 ?_
      refine z_sld (pc := 1000) hc hX0 dL_law_1000 H (fun v210 H => ?_)
      refine z_calI (z_runV (pc := 1001) (ci := 6) (T := TX6) (N := 8) hc dL_law_1001 zw_RL_122 (metX6_inkAt _ _ _ H.2) rfl (Nat.le_of_ble_eq_true rfl) ⟨Nat.le_of_ble_eq_true rfl, Nat.le_of_ble_eq_true rfl⟩ ⟨by exact Nat.le_of_ble_eq_true rfl, by exact Nat.le_of_ble_eq_true rfl⟩ rfl H.1) rfl ⟨rfl, rfl⟩ (fun v212 h211 H => ?_)
      refine z_aload_n (pc := 1004) hc dL_law_1004 rfl ?_
      refine z_aload_n (pc := 1005) hc dL_law_1005 rfl ?_
      refine z_iload_n (pc := 1006) hc dL_law_1006 rfl ?_
      refine z_iconst (pc := 1007) hc dL_law_1007 ?_
      refine z_iadd (pc := 1008) hc dL_law_1008 ?_
      refine z_sld (pc := 1009) hc hX0 dL_law_1009 H (fun v213 H => ?_)
      refine z_aload_n (pc := 1010) hc dL_law_1010 rfl ?_
      refine z_iload_n (pc := 1011) hc dL_law_1011 rfl ?_
      refine z_iconst (pc := 1012) hc dL_law_1012 ?_
      refine z_iadd (pc := 1013) hc dL_law_1013 ?_
      refine z_sld (pc := 1014) hc hX0 dL_law_1014 H (fun v214 H => ?_)
      refine z_calI (z_runV (pc := 1015) (ci := 7) (T := TX7) (N := 20) hc dL_law_1015 zw_RL_125 (metX7_inkAt _ _ _ H.2) rfl (Nat.le_of_ble_eq_true rfl) ⟨Nat.le_of_ble_eq_true rfl, Nat.le_of_ble_eq_true rfl⟩ ⟨by exact Nat.le_of_ble_eq_true rfl, by exact Nat.le_of_ble_eq_true rfl⟩ rfl H.1) rfl ⟨rfl, rfl⟩ (fun v216 h215 H => ?_)
      refine z_icmp_eq (tgt := 1075) (pc := 1018) hc dL_law_1018 rfl H (fun H => ?_) (fun H => ?_)
      · refine z_iinc (pc := 1075) hc dL_law_1075 (by decide) rfl (ρ' := [some (.inr a0), some (.inr a1), some (.inr a2), some (.inl (x3 + 5))]) rfl ?_
        refine z_goto (tgt := 18) (pc := 1078) hc dL_law_1078 rfl ?_
        refine z_cells (cells' := 485) (slots' := 9884) (by omega) (by omega) ?_
        exact hX18 _ _ H
      · refine z_iconst (pc := 1021) hc dL_law_1021 ?_
        exact hR0 _ _ _ _ dL_law_1022 H
    · have H := Hs27 (by omega)
      refine z_aload_n (pc := 1023) hc dL_law_1023 rfl ?_
      refine z_calI (z_runV (pc := 1024) (ci := 6) (T := TX6) (N := 8) hc dL_law_1024 zw_RL_126 (metX6_neededLimit _ _ _ H.2) rfl (Nat.le_of_ble_eq_true rfl) ⟨Nat.le_of_ble_eq_true rfl, Nat.le_of_ble_eq_true rfl⟩ ⟨by exact Nat.le_of_ble_eq_true rfl, by exact Nat.le_of_ble_eq_true rfl⟩ rfl H.1) rfl ⟨rfl, rfl⟩ (fun v218 h217 H => ?_)
      refine z_aload_n (pc := 1027) hc dL_law_1027 rfl ?_
      refine z_calI (z_runV (pc := 1028) (ci := 7) (T := TX7) (N := 20) hc dL_law_1028 zw_RL_129 (metX7_neededLimit _ _ _ H.2) rfl (Nat.le_of_ble_eq_true rfl) ⟨Nat.le_of_ble_eq_true rfl, Nat.le_of_ble_eq_true rfl⟩ ⟨by exact Nat.le_of_ble_eq_true rfl, by exact Nat.le_of_ble_eq_true rfl⟩ rfl H.1) rfl ⟨rfl, rfl⟩ (fun v220 h219 H => ?_)
      refine z_icmp_eq (tgt := 1075) (pc := 1031) hc dL_law_1031 rfl H (fun H => ?_) (fun H => ?_)
      · refine z_iinc (pc := 1075) hc dL_law_1075 (by decide) rfl (ρ' := [some (.inr a0), some (.inr a1), some (.inr a2), some (.inl (x3 + 5))]) rfl ?_
        refine z_goto (tgt := 18) (pc := 1078) hc dL_law_1078 rfl ?_
        refine z_cells (cells' := 485) (slots' := 9884) (by omega) (by omega) ?_
        exact hX18 _ _ H
      · refine z_iconst (pc := 1034) hc dL_law_1034 ?_
        exact hR0 _ _ _ _ dL_law_1035 H
    · have H := Hs28 (by omega)
      refine z_aload_n (pc := 1036) hc dL_law_1036 rfl ?_
      refine z_calI (z_runV (pc := 1037) (ci := 6) (T := TX6) (N := 8) hc dL_law_1037 zw_RL_130 (metX6_thriftiestAmount _ _ _ H.2) rfl (Nat.le_of_ble_eq_true rfl) ⟨Nat.le_of_ble_eq_true rfl, Nat.le_of_ble_eq_true rfl⟩ ⟨by exact Nat.le_of_ble_eq_true rfl, by exact Nat.le_of_ble_eq_true rfl⟩ rfl H.1) rfl ⟨rfl, rfl⟩ (fun v222 h221 H => ?_)
      refine z_aload_n (pc := 1040) hc dL_law_1040 rfl ?_
      refine z_calI (z_runV (pc := 1041) (ci := 7) (T := TX7) (N := 20) hc dL_law_1041 zw_RL_133 (metX7_thriftiestAmount _ _ _ H.2) rfl (Nat.le_of_ble_eq_true rfl) ⟨Nat.le_of_ble_eq_true rfl, Nat.le_of_ble_eq_true rfl⟩ ⟨by exact Nat.le_of_ble_eq_true rfl, by exact Nat.le_of_ble_eq_true rfl⟩ rfl H.1) rfl ⟨rfl, rfl⟩ (fun v224 h223 H => ?_)
      refine z_icmp_eq (tgt := 1075) (pc := 1044) hc dL_law_1044 rfl H (fun H => ?_) (fun H => ?_)
      · refine z_iinc (pc := 1075) hc dL_law_1075 (by decide) rfl (ρ' := [some (.inr a0), some (.inr a1), some (.inr a2), some (.inl (x3 + 5))]) rfl ?_
        refine z_goto (tgt := 18) (pc := 1078) hc dL_law_1078 rfl ?_
        refine z_cells (cells' := 485) (slots' := 9884) (by omega) (by omega) ?_
        exact hX18 _ _ H
      · refine z_iconst (pc := 1047) hc dL_law_1047 ?_
        exact hR0 _ _ _ _ dL_law_1048 H
    · have H := Hs29 (by omega)
      refine z_aload_n (pc := 1049) hc dL_law_1049 rfl ?_
      refine z_calI (z_runV (pc := 1050) (ci := 6) (T := TX6) (N := 8) hc dL_law_1050 zw_RL_134 (metX6_disorderedPixels _ _ _ H.2) rfl (Nat.le_of_ble_eq_true rfl) ⟨Nat.le_of_ble_eq_true rfl, Nat.le_of_ble_eq_true rfl⟩ ⟨by exact Nat.le_of_ble_eq_true rfl, by exact Nat.le_of_ble_eq_true rfl⟩ rfl H.1) rfl ⟨rfl, rfl⟩ (fun v226 h225 H => ?_)
      refine z_aload_n (pc := 1053) hc dL_law_1053 rfl ?_
      refine z_calI (z_runV (pc := 1054) (ci := 7) (T := TX7) (N := 20) hc dL_law_1054 zw_RL_137 (metX7_disorderedPixels _ _ _ H.2) rfl (Nat.le_of_ble_eq_true rfl) ⟨Nat.le_of_ble_eq_true rfl, Nat.le_of_ble_eq_true rfl⟩ ⟨by exact Nat.le_of_ble_eq_true rfl, by exact Nat.le_of_ble_eq_true rfl⟩ rfl H.1) rfl ⟨rfl, rfl⟩ (fun v228 h227 H => ?_)
      refine z_icmp_eq (tgt := 1075) (pc := 1057) hc dL_law_1057 rfl H (fun H => ?_) (fun H => ?_)
      · refine z_iinc (pc := 1075) hc dL_law_1075 (by decide) rfl (ρ' := [some (.inr a0), some (.inr a1), some (.inr a2), some (.inl (x3 + 5))]) rfl ?_
        refine z_goto (tgt := 18) (pc := 1078) hc dL_law_1078 rfl ?_
        refine z_cells (cells' := 485) (slots' := 9884) (by omega) (by omega) ?_
        exact hX18 _ _ H
      · refine z_iconst (pc := 1060) hc dL_law_1060 ?_
        exact hR0 _ _ _ _ dL_law_1061 H
    · have H := Hs30 (by omega)
      refine z_aload_n (pc := 1062) hc dL_law_1062 rfl ?_
      refine z_calI (z_runV (pc := 1063) (ci := 6) (T := TX6) (N := 8) hc dL_law_1063 zw_RL_138 (metX6_undo _ _ _ H.2) rfl (Nat.le_of_ble_eq_true rfl) ⟨Nat.le_of_ble_eq_true rfl, Nat.le_of_ble_eq_true rfl⟩ ⟨by exact Nat.le_of_ble_eq_true rfl, by exact Nat.le_of_ble_eq_true rfl⟩ rfl H.1) rfl ⟨rfl, rfl⟩ (fun v230 h229 H => ?_)
      refine z_aload_n (pc := 1066) hc dL_law_1066 rfl ?_
      refine z_calI (z_runV (pc := 1067) (ci := 7) (T := TX7) (N := 20) hc dL_law_1067 zw_RL_141 (metX7_undo _ _ _ H.2) rfl (Nat.le_of_ble_eq_true rfl) ⟨Nat.le_of_ble_eq_true rfl, Nat.le_of_ble_eq_true rfl⟩ ⟨by exact Nat.le_of_ble_eq_true rfl, by exact Nat.le_of_ble_eq_true rfl⟩ rfl H.1) rfl ⟨rfl, rfl⟩ (fun v232 h231 H => ?_)
      refine z_icmp_eq (tgt := 1075) (pc := 1070) hc dL_law_1070 rfl H (fun H => ?_) (fun H => ?_)
      · refine z_iinc (pc := 1075) hc dL_law_1075 (by decide) rfl (ρ' := [some (.inr a0), some (.inr a1), some (.inr a2), some (.inl (x3 + 5))]) rfl ?_
        refine z_goto (tgt := 18) (pc := 1078) hc dL_law_1078 rfl ?_
        refine z_cells (cells' := 485) (slots' := 9884) (by omega) (by omega) ?_
        exact hX18 _ _ H
      · refine z_iconst (pc := 1073) hc dL_law_1073 ?_
        exact hR0 _ _ _ _ dL_law_1074 H
  · refine z_iconst (pc := 1081) hc dL_law_1081 ?_
    exact hR0 _ _ _ _ dL_law_1082 H
theorem rL_law_H18 (hc : zOk p s m args meth c D cL_law 4 RL (some .boolean)) {a0 L : Nat} {sc : Int → Int} {Qf : State → Prop} {Q : Int → Zm → Prop} (hX0 : zScr s base L sc a0) (hR0 : ∀ (pc : Nat) (ρ : List (Option Zv)) (v : Int) (h : Zm), decode cL_law pc = .ok (.ireturn, 1) → Q v h → zW p l e room_1 s m args below meth c D base 4 Qf 485 9884 pc ρ [.inl v] h)  {a1 : Nat} {a2 : Nat} {x3 : Int} {h : Zm}  (H : mL_law_H18 L sc  a0 a1 a2 x3 h Q) : zW p l e room_1 s m args below meth c D base 4 Qf 485 9884 18 [some (.inr a0), some (.inr a1), some (.inr a2), some (.inl x3)] [] h :=
  H (fun x3 h => zW p l e room_1 s m args below meth c D base 4 Qf 485 9884 18 [some (.inr a0), some (.inr a1), some (.inr a2), some (.inl x3)] [] h) (fun x3 h H => rL_law_B18 hc hX0 hR0 (fun _ _ q => q) H)
set_option maxRecDepth 100000 in
set_option maxHeartbeats 4000000 in
theorem rL_law (hc : zOk p s m args meth c D cL_law 4 RL (some .boolean)) {a0 L : Nat} {sc : Int → Int} {Qf : State → Prop} {Q : Int → Zm → Prop} (hX0 : zScr s base L sc a0) (hR0 : ∀ (pc : Nat) (ρ : List (Option Zv)) (v : Int) (h : Zm), decode cL_law pc = .ok (.ireturn, 1) → Q v h → zW p l e room_1 s m args below meth c D base 4 Qf 485 9884 pc ρ [.inl v] h) {h : Zm} (H : mL_law L sc a0 h Q) : zW p l e room_1 s m args below meth c D base 4 Qf 0 0 0 [some (.inr a0), none, none, none] [] h := by
  unfold mL_law at H
  refine z_new (pc := 0) (ci := 6) hc dL_law_0 zc6 (by decide +kernel) (zT_mem 50 (by decide +kernel) rfl) (zT_mem 51 (by decide +kernel) rfl) (zT_mem 41 (by decide +kernel) rfl) (by exact Nat.le_of_ble_eq_true rfl) (by exact Nat.le_of_ble_eq_true rfl) H (fun r1 h2 H => ?_)
  refine z_dup (pc := 3) hc dL_law_3 ?_
  refine z_calV (mc := 466) (ms := 5550) (z_runI (pc := 4) hc dL_law_4 zw_RL_9 (metX6_init _ _ _ H.2) rfl (Nat.le_of_ble_eq_true rfl) ⟨Nat.le_of_ble_eq_true rfl, Nat.le_of_ble_eq_true rfl⟩ ⟨by exact Nat.le_of_ble_eq_true rfl, by exact Nat.le_of_ble_eq_true rfl⟩ (d := 16) (by decide) H.1) rfl ⟨rfl, rfl⟩ (fun h3 H => ?_)
  refine z_astore_n (pc := 7) hc dL_law_7 (by decide) (ρ' := [some (.inr a0), some (.inr r1), none, none]) rfl ?_
  refine z_new (pc := 8) (ci := 7) hc dL_law_8 zc7 (by decide +kernel) (zT_mem 700 (by decide +kernel) rfl) (zT_mem 701 (by decide +kernel) rfl) (zT_mem 48 (by decide +kernel) rfl) (by exact Nat.le_of_ble_eq_true rfl) (by exact Nat.le_of_ble_eq_true rfl) H (fun r4 h5 H => ?_)
  refine z_dup (pc := 11) hc dL_law_11 ?_
  refine z_calV (mc := 17) (ms := 4306) (z_runI (pc := 12) hc dL_law_12 zw_RL_12 (metX7_init _ _ _ H.2) rfl (Nat.le_of_ble_eq_true rfl) ⟨Nat.le_of_ble_eq_true rfl, Nat.le_of_ble_eq_true rfl⟩ ⟨by exact Nat.le_of_ble_eq_true rfl, by exact Nat.le_of_ble_eq_true rfl⟩ (d := 17) (by decide) H.1) rfl ⟨rfl, rfl⟩ (fun h6 H => ?_)
  refine z_astore_n (pc := 15) hc dL_law_15 (by decide) (ρ' := [some (.inr a0), some (.inr r1), some (.inr r4), none]) rfl ?_
  refine z_iconst (pc := 16) hc dL_law_16 ?_
  refine z_istore_n (pc := 17) hc dL_law_17 (by decide) (ρ' := [some (.inr a0), some (.inr r1), some (.inr r4), some (.inl 0)]) rfl ?_
  refine z_cells (cells' := 485) (slots' := 9884) (by omega) (by omega) ?_
  exact rL_law_H18 hc hX0 hR0 H
end
