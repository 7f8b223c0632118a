section
-- ===== PART A: goes FIRST, ahead of the names: the tables' words, and 'selects' of the private methods out of them =====
/-- a private method of a class that the tables say can be made, by its rows of tables_1 -/
def lw_okq (q : MethodName × Nat) : Prop := (q.1.cls ≠ "java/lang/invoke/MethodHandle" ∧ q.1.cls ≠ "java/lang/invoke/VarHandle") ∧ Cond.instantiable q.1.cls q.2 ∈ tables_1 ∧ Cond.privateMethod q.1 ∈ tables_1 ∧ Cond.instanceMethod q.1 ∈ tables_1
theorem lw_p0 : lw_okq (⟨"SeparationDesk", "remember", "()V"⟩, 8) := ⟨⟨by decide +kernel, by decide +kernel⟩, List.mem_of_getElem? (i := 11) (by decide +kernel), List.mem_of_getElem? (i := 270) (by decide +kernel), List.mem_of_getElem? (i := 271) (by decide +kernel)⟩
theorem lw_p1 : lw_okq (⟨"SeparationDesk", "numberBelow", "(I)I"⟩, 8) := ⟨⟨by decide +kernel, by decide +kernel⟩, List.mem_of_getElem? (i := 11) (by decide +kernel), List.mem_of_getElem? (i := 305) (by decide +kernel), List.mem_of_getElem? (i := 306) (by decide +kernel)⟩
theorem lw_p2 : lw_okq (⟨"SeparationDesk", "isPixel", "(II)Z"⟩, 8) := ⟨⟨by decide +kernel, by decide +kernel⟩, List.mem_of_getElem? (i := 11) (by decide +kernel), List.mem_of_getElem? (i := 497) (by decide +kernel), List.mem_of_getElem? (i := 498) (by decide +kernel)⟩
theorem lw_p3 : lw_okq (⟨"SeparationDesk", "separateAt", "(II)V"⟩, 8) := ⟨⟨by decide +kernel, by decide +kernel⟩, List.mem_of_getElem? (i := 11) (by decide +kernel), List.mem_of_getElem? (i := 539) (by decide +kernel), List.mem_of_getElem? (i := 540) (by decide +kernel)⟩
theorem lw_p4 : lw_okq (⟨"SeparationDesk", "addUpPlates", "()V"⟩, 8) := ⟨⟨by decide +kernel, by decide +kernel⟩, List.mem_of_getElem? (i := 11) (by decide +kernel), List.mem_of_getElem? (i := 579) (by decide +kernel), List.mem_of_getElem? (i := 580) (by decide +kernel)⟩
theorem lw_p5 : lw_okq (⟨"SeparationDesk", "platesBefore", "(I)I"⟩, 8) := ⟨⟨by decide +kernel, by decide +kernel⟩, List.mem_of_getElem? (i := 11) (by decide +kernel), List.mem_of_getElem? (i := 588) (by decide +kernel), List.mem_of_getElem? (i := 589) (by decide +kernel)⟩
theorem lw_p6 : lw_okq (⟨"SeparationDesk", "countInks", "()V"⟩, 8) := ⟨⟨by decide +kernel, by decide +kernel⟩, List.mem_of_getElem? (i := 11) (by decide +kernel), List.mem_of_getElem? (i := 607) (by decide +kernel), List.mem_of_getElem? (i := 608) (by decide +kernel)⟩
theorem lw_p7 : lw_okq (⟨"SeparationDesk", "addUpNeeds", "()V"⟩, 8) := ⟨⟨by decide +kernel, by decide +kernel⟩, List.mem_of_getElem? (i := 11) (by decide +kernel), List.mem_of_getElem? (i := 645) (by decide +kernel), List.mem_of_getElem? (i := 646) (by decide +kernel)⟩
theorem lw_p8 : lw_okq (⟨"SeparationDeskModel", "hold", "()V"⟩, 20) := ⟨⟨by decide +kernel, by decide +kernel⟩, List.mem_of_getElem? (i := 661) (by decide +kernel), List.mem_of_getElem? (i := 736) (by decide +kernel), List.mem_of_getElem? (i := 737) (by decide +kernel)⟩
theorem lw_p9 : lw_okq (⟨"SeparationDeskModel", "ends", "(I)I"⟩, 20) := ⟨⟨by decide +kernel, by decide +kernel⟩, List.mem_of_getElem? (i := 661) (by decide +kernel), List.mem_of_getElem? (i := 740) (by decide +kernel), List.mem_of_getElem? (i := 741) (by decide +kernel)⟩
theorem lw_p10 : lw_okq (⟨"SeparationDeskModel", "isNode", "(I)Z"⟩, 20) := ⟨⟨by decide +kernel, by decide +kernel⟩, List.mem_of_getElem? (i := 661) (by decide +kernel), List.mem_of_getElem? (i := 748) (by decide +kernel), List.mem_of_getElem? (i := 749) (by decide +kernel)⟩
theorem lw_p11 : lw_okq (⟨"SeparationDeskModel", "of", "(II)I"⟩, 20) := ⟨⟨by decide +kernel, by decide +kernel⟩, List.mem_of_getElem? (i := 661) (by decide +kernel), List.mem_of_getElem? (i := 752) (by decide +kernel), List.mem_of_getElem? (i := 753) (by decide +kernel)⟩
theorem lw_p12 : lw_okq (⟨"SeparationDeskModel", "comes", "(II)I"⟩, 20) := ⟨⟨by decide +kernel, by decide +kernel⟩, List.mem_of_getElem? (i := 661) (by decide +kernel), List.mem_of_getElem? (i := 759) (by decide +kernel), List.mem_of_getElem? (i := 760) (by decide +kernel)⟩
theorem lw_p13 : lw_okq (⟨"SeparationDeskModel", "depth", "(I)I"⟩, 20) := ⟨⟨by decide +kernel, by decide +kernel⟩, List.mem_of_getElem? (i := 661) (by decide +kernel), List.mem_of_getElem? (i := 763) (by decide +kernel), List.mem_of_getElem? (i := 764) (by decide +kernel)⟩
theorem lw_p14 : lw_okq (⟨"SeparationDeskModel", "free", "()I"⟩, 20) := ⟨⟨by decide +kernel, by decide +kernel⟩, List.mem_of_getElem? (i := 661) (by decide +kernel), List.mem_of_getElem? (i := 767) (by decide +kernel), List.mem_of_getElem? (i := 768) (by decide +kernel)⟩
theorem lw_p15 : lw_okq (⟨"SeparationDeskModel", "isBelow", "(II)Z"⟩, 20) := ⟨⟨by decide +kernel, by decide +kernel⟩, List.mem_of_getElem? (i := 661) (by decide +kernel), List.mem_of_getElem? (i := 791) (by decide +kernel), List.mem_of_getElem? (i := 792) (by decide +kernel)⟩
def lw_privs_1 : List (MethodName × Nat) := [(⟨"SeparationDesk", "remember", "()V"⟩, 8), (⟨"SeparationDesk", "numberBelow", "(I)I"⟩, 8), (⟨"SeparationDesk", "isPixel", "(II)Z"⟩, 8), (⟨"SeparationDesk", "separateAt", "(II)V"⟩, 8), (⟨"SeparationDesk", "addUpPlates", "()V"⟩, 8), (⟨"SeparationDesk", "platesBefore", "(I)I"⟩, 8), (⟨"SeparationDesk", "countInks", "()V"⟩, 8), (⟨"SeparationDesk", "addUpNeeds", "()V"⟩, 8), (⟨"SeparationDeskModel", "hold", "()V"⟩, 20), (⟨"SeparationDeskModel", "ends", "(I)I"⟩, 20), (⟨"SeparationDeskModel", "isNode", "(I)Z"⟩, 20), (⟨"SeparationDeskModel", "of", "(II)I"⟩, 20), (⟨"SeparationDeskModel", "comes", "(II)I"⟩, 20), (⟨"SeparationDeskModel", "depth", "(I)I"⟩, 20), (⟨"SeparationDeskModel", "free", "()I"⟩, 20), (⟨"SeparationDeskModel", "isBelow", "(II)Z"⟩, 20)]
theorem lw_r1 : ∀ q ∈ lw_privs_1, lw_okq q := List.forall_mem_cons.mpr ⟨lw_p0, List.forall_mem_cons.mpr ⟨lw_p1, List.forall_mem_cons.mpr ⟨lw_p2, List.forall_mem_cons.mpr ⟨lw_p3, List.forall_mem_cons.mpr ⟨lw_p4, List.forall_mem_cons.mpr ⟨lw_p5, List.forall_mem_cons.mpr ⟨lw_p6, List.forall_mem_cons.mpr ⟨lw_p7, List.forall_mem_cons.mpr ⟨lw_p8, List.forall_mem_cons.mpr ⟨lw_p9, List.forall_mem_cons.mpr ⟨lw_p10, List.forall_mem_cons.mpr ⟨lw_p11, List.forall_mem_cons.mpr ⟨lw_p12, List.forall_mem_cons.mpr ⟨lw_p13, List.forall_mem_cons.mpr ⟨lw_p14, List.forall_mem_cons.mpr ⟨lw_p15, fun _ h => absurd h List.not_mem_nil⟩⟩⟩⟩⟩⟩⟩⟩⟩⟩⟩⟩⟩⟩⟩⟩
theorem lw_p16 : lw_okq (⟨"SeparationDeskModel", "children", "(II)I"⟩, 20) := ⟨⟨by decide +kernel, by decide +kernel⟩, List.mem_of_getElem? (i := 661) (by decide +kernel), List.mem_of_getElem? (i := 803) (by decide +kernel), List.mem_of_getElem? (i := 804) (by decide +kernel)⟩
theorem lw_p17 : lw_okq (⟨"SeparationDeskModel", "isChild", "(II)Z"⟩, 20) := ⟨⟨by decide +kernel, by decide +kernel⟩, List.mem_of_getElem? (i := 661) (by decide +kernel), List.mem_of_getElem? (i := 807) (by decide +kernel), List.mem_of_getElem? (i := 808) (by decide +kernel)⟩
theorem lw_p18 : lw_okq (⟨"SeparationDeskModel", "countBelow", "(I)I"⟩, 20) := ⟨⟨by decide +kernel, by decide +kernel⟩, List.mem_of_getElem? (i := 661) (by decide +kernel), List.mem_of_getElem? (i := 811) (by decide +kernel), List.mem_of_getElem? (i := 812) (by decide +kernel)⟩
theorem lw_p19 : lw_okq (⟨"SeparationDeskModel", "becomes", "(II)I"⟩, 20) := ⟨⟨by decide +kernel, by decide +kernel⟩, List.mem_of_getElem? (i := 661) (by decide +kernel), List.mem_of_getElem? (i := 823) (by decide +kernel), List.mem_of_getElem? (i := 824) (by decide +kernel)⟩
theorem lw_p20 : lw_okq (⟨"SeparationDeskModel", "pointAt", "(II)I"⟩, 20) := ⟨⟨by decide +kernel, by decide +kernel⟩, List.mem_of_getElem? (i := 661) (by decide +kernel), List.mem_of_getElem? (i := 841) (by decide +kernel), List.mem_of_getElem? (i := 842) (by decide +kernel)⟩
theorem lw_p21 : lw_okq (⟨"SeparationDeskModel", "valueOf", "(II)I"⟩, 20) := ⟨⟨by decide +kernel, by decide +kernel⟩, List.mem_of_getElem? (i := 661) (by decide +kernel), List.mem_of_getElem? (i := 853) (by decide +kernel), List.mem_of_getElem? (i := 854) (by decide +kernel)⟩
theorem lw_p22 : lw_okq (⟨"SeparationDeskModel", "isPixel", "(II)Z"⟩, 20) := ⟨⟨by decide +kernel, by decide +kernel⟩, List.mem_of_getElem? (i := 661) (by decide +kernel), List.mem_of_getElem? (i := 869) (by decide +kernel), List.mem_of_getElem? (i := 870) (by decide +kernel)⟩
theorem lw_p23 : lw_okq (⟨"SeparationDeskModel", "lays", "()V"⟩, 20) := ⟨⟨by decide +kernel, by decide +kernel⟩, List.mem_of_getElem? (i := 661) (by decide +kernel), List.mem_of_getElem? (i := 873) (by decide +kernel), List.mem_of_getElem? (i := 874) (by decide +kernel)⟩
theorem lw_p24 : lw_okq (⟨"SeparationDeskModel", "lastChild", "(II)I"⟩, 20) := ⟨⟨by decide +kernel, by decide +kernel⟩, List.mem_of_getElem? (i := 661) (by decide +kernel), List.mem_of_getElem? (i := 877) (by decide +kernel), List.mem_of_getElem? (i := 878) (by decide +kernel)⟩
theorem lw_p25 : lw_okq (⟨"SeparationDeskModel", "renders", "(II)V"⟩, 20) := ⟨⟨by decide +kernel, by decide +kernel⟩, List.mem_of_getElem? (i := 661) (by decide +kernel), List.mem_of_getElem? (i := 881) (by decide +kernel), List.mem_of_getElem? (i := 882) (by decide +kernel)⟩
theorem lw_p26 : lw_okq (⟨"SeparationDeskModel", "isIn", "(III)Z"⟩, 20) := ⟨⟨by decide +kernel, by decide +kernel⟩, List.mem_of_getElem? (i := 661) (by decide +kernel), List.mem_of_getElem? (i := 885) (by decide +kernel), List.mem_of_getElem? (i := 886) (by decide +kernel)⟩
theorem lw_p27 : lw_okq (⟨"SeparationDeskModel", "touches", "(I)V"⟩, 20) := ⟨⟨by decide +kernel, by decide +kernel⟩, List.mem_of_getElem? (i := 661) (by decide +kernel), List.mem_of_getElem? (i := 889) (by decide +kernel), List.mem_of_getElem? (i := 890) (by decide +kernel)⟩
theorem lw_p28 : lw_okq (⟨"SeparationDeskModel", "moves", "(III)V"⟩, 20) := ⟨⟨by decide +kernel, by decide +kernel⟩, List.mem_of_getElem? (i := 661) (by decide +kernel), List.mem_of_getElem? (i := 893) (by decide +kernel), List.mem_of_getElem? (i := 894) (by decide +kernel)⟩
theorem lw_p29 : lw_okq (⟨"SeparationDeskModel", "separates", "(I)V"⟩, 20) := ⟨⟨by decide +kernel, by decide +kernel⟩, List.mem_of_getElem? (i := 661) (by decide +kernel), List.mem_of_getElem? (i := 904) (by decide +kernel), List.mem_of_getElem? (i := 905) (by decide +kernel)⟩
theorem lw_p30 : lw_okq (⟨"SeparationDeskModel", "limits", "()V"⟩, 20) := ⟨⟨by decide +kernel, by decide +kernel⟩, List.mem_of_getElem? (i := 661) (by decide +kernel), List.mem_of_getElem? (i := 908) (by decide +kernel), List.mem_of_getElem? (i := 909) (by decide +kernel)⟩
theorem lw_p31 : lw_okq (⟨"SeparationDeskModel", "told", "(I)I"⟩, 20) := ⟨⟨by decide +kernel, by decide +kernel⟩, List.mem_of_getElem? (i := 661) (by decide +kernel), List.mem_of_getElem? (i := 912) (by decide +kernel), List.mem_of_getElem? (i := 913) (by decide +kernel)⟩
def lw_privs_2 : List (MethodName × Nat) := [(⟨"SeparationDeskModel", "children", "(II)I"⟩, 20), (⟨"SeparationDeskModel", "isChild", "(II)Z"⟩, 20), (⟨"SeparationDeskModel", "countBelow", "(I)I"⟩, 20), (⟨"SeparationDeskModel", "becomes", "(II)I"⟩, 20), (⟨"SeparationDeskModel", "pointAt", "(II)I"⟩, 20), (⟨"SeparationDeskModel", "valueOf", "(II)I"⟩, 20), (⟨"SeparationDeskModel", "isPixel", "(II)Z"⟩, 20), (⟨"SeparationDeskModel", "lays", "()V"⟩, 20), (⟨"SeparationDeskModel", "lastChild", "(II)I"⟩, 20), (⟨"SeparationDeskModel", "renders", "(II)V"⟩, 20), (⟨"SeparationDeskModel", "isIn", "(III)Z"⟩, 20), (⟨"SeparationDeskModel", "touches", "(I)V"⟩, 20), (⟨"SeparationDeskModel", "moves", "(III)V"⟩, 20), (⟨"SeparationDeskModel", "separates", "(I)V"⟩, 20), (⟨"SeparationDeskModel", "limits", "()V"⟩, 20), (⟨"SeparationDeskModel", "told", "(I)I"⟩, 20)]
theorem lw_r2 : ∀ q ∈ lw_privs_2, lw_okq q := List.forall_mem_cons.mpr ⟨lw_p16, List.forall_mem_cons.mpr ⟨lw_p17, List.forall_mem_cons.mpr ⟨lw_p18, List.forall_mem_cons.mpr ⟨lw_p19, List.forall_mem_cons.mpr ⟨lw_p20, List.forall_mem_cons.mpr ⟨lw_p21, List.forall_mem_cons.mpr ⟨lw_p22, List.forall_mem_cons.mpr ⟨lw_p23, List.forall_mem_cons.mpr ⟨lw_p24, List.forall_mem_cons.mpr ⟨lw_p25, List.forall_mem_cons.mpr ⟨lw_p26, List.forall_mem_cons.mpr ⟨lw_p27, List.forall_mem_cons.mpr ⟨lw_p28, List.forall_mem_cons.mpr ⟨lw_p29, List.forall_mem_cons.mpr ⟨lw_p30, List.forall_mem_cons.mpr ⟨lw_p31, fun _ h => absurd h List.not_mem_nil⟩⟩⟩⟩⟩⟩⟩⟩⟩⟩⟩⟩⟩⟩⟩⟩
theorem lw_p32 : lw_okq (⟨"SeparationDeskModel", "covered", "(II)I"⟩, 20) := ⟨⟨by decide +kernel, by decide +kernel⟩, List.mem_of_getElem? (i := 661) (by decide +kernel), List.mem_of_getElem? (i := 930) (by decide +kernel), List.mem_of_getElem? (i := 931) (by decide +kernel)⟩
theorem lw_p33 : lw_okq (⟨"SeparationDeskModel", "pixels", "()I"⟩, 20) := ⟨⟨by decide +kernel, by decide +kernel⟩, List.mem_of_getElem? (i := 661) (by decide +kernel), List.mem_of_getElem? (i := 934) (by decide +kernel), List.mem_of_getElem? (i := 935) (by decide +kernel)⟩
theorem lw_p34 : lw_okq (⟨"SeparationDeskModel", "pixelAt", "(II)V"⟩, 20) := ⟨⟨by decide +kernel, by decide +kernel⟩, List.mem_of_getElem? (i := 661) (by decide +kernel), List.mem_of_getElem? (i := 938) (by decide +kernel), List.mem_of_getElem? (i := 939) (by decide +kernel)⟩
theorem lw_p35 : lw_okq (⟨"SeparationDeskModel", "counts", "()V"⟩, 20) := ⟨⟨by decide +kernel, by decide +kernel⟩, List.mem_of_getElem? (i := 661) (by decide +kernel), List.mem_of_getElem? (i := 958) (by decide +kernel), List.mem_of_getElem? (i := 959) (by decide +kernel)⟩
theorem lw_p36 : lw_okq (⟨"SeparationDeskModel", "isInk", "(I)Z"⟩, 20) := ⟨⟨by decide +kernel, by decide +kernel⟩, List.mem_of_getElem? (i := 661) (by decide +kernel), List.mem_of_getElem? (i := 962) (by decide +kernel), List.mem_of_getElem? (i := 963) (by decide +kernel)⟩
theorem lw_p37 : lw_okq (⟨"SeparationDeskModel", "isAhead", "(II)Z"⟩, 20) := ⟨⟨by decide +kernel, by decide +kernel⟩, List.mem_of_getElem? (i := 661) (by decide +kernel), List.mem_of_getElem? (i := 970) (by decide +kernel), List.mem_of_getElem? (i := 971) (by decide +kernel)⟩
theorem lw_p38 : lw_okq (⟨"SeparationDeskModel", "sumEarly", "()I"⟩, 20) := ⟨⟨by decide +kernel, by decide +kernel⟩, List.mem_of_getElem? (i := 661) (by decide +kernel), List.mem_of_getElem? (i := 978) (by decide +kernel), List.mem_of_getElem? (i := 979) (by decide +kernel)⟩
theorem lw_p39 : lw_okq (⟨"SeparationDeskModel", "isDisordered", "()Z"⟩, 20) := ⟨⟨by decide +kernel, by decide +kernel⟩, List.mem_of_getElem? (i := 661) (by decide +kernel), List.mem_of_getElem? (i := 990) (by decide +kernel), List.mem_of_getElem? (i := 991) (by decide +kernel)⟩
def lw_privs_3 : List (MethodName × Nat) := [(⟨"SeparationDeskModel", "covered", "(II)I"⟩, 20), (⟨"SeparationDeskModel", "pixels", "()I"⟩, 20), (⟨"SeparationDeskModel", "pixelAt", "(II)V"⟩, 20), (⟨"SeparationDeskModel", "counts", "()V"⟩, 20), (⟨"SeparationDeskModel", "isInk", "(I)Z"⟩, 20), (⟨"SeparationDeskModel", "isAhead", "(II)Z"⟩, 20), (⟨"SeparationDeskModel", "sumEarly", "()I"⟩, 20), (⟨"SeparationDeskModel", "isDisordered", "()Z"⟩, 20)]
theorem lw_r3 : ∀ q ∈ lw_privs_3, lw_okq q := List.forall_mem_cons.mpr ⟨lw_p32, List.forall_mem_cons.mpr ⟨lw_p33, List.forall_mem_cons.mpr ⟨lw_p34, List.forall_mem_cons.mpr ⟨lw_p35, List.forall_mem_cons.mpr ⟨lw_p36, List.forall_mem_cons.mpr ⟨lw_p37, List.forall_mem_cons.mpr ⟨lw_p38, List.forall_mem_cons.mpr ⟨lw_p39, fun _ h => absurd h List.not_mem_nil⟩⟩⟩⟩⟩⟩⟩⟩
def lw_privs : List (MethodName × Nat) := lw_privs_1 ++ (lw_privs_2 ++ (lw_privs_3))
def lw_tbl : List Cond := k2_sels lw_privs ++ tables_1
theorem lw_privs_ok : ∀ q ∈ lw_privs, lw_okq q := by
  show ∀ q ∈ lw_privs_1 ++ (lw_privs_2 ++ (lw_privs_3)), lw_okq q
  exact List.forall_mem_append.mpr ⟨lw_r1, List.forall_mem_append.mpr ⟨lw_r2, lw_r3⟩⟩
end
section
def RX0 : String := "SeparationDesk$Curve"
def TX0 : u_T := fun k => match k with
  | 0 => ("SeparationDesk$Curve", "inputs", "[I", true)
  | 1 => ("SeparationDesk$Curve", "outputs", "[I", true)
  | _ => ("SeparationDesk$Curve", "count", "I", false)
def tyX0 : Nat → FieldType := fun k => match k with
  | 0 => .array .int
  | 1 => .array .int
  | _ => .int
abbrev wsX00 : List Cond := u_ws RX0 TX0 3
theorem nmX0 : ∀ a, a < 3 → ∀ b, b < 3 → a ≠ b → (TX0 a).2.1 ≠ (TX0 b).2.1 := by decide +kernel
theorem tyX0_ok : ∀ k, k < 3 → parseFieldDescriptor (TX0 k).2.2.1 = some (tyX0 k) := by decide +kernel
abbrev cX0_init : ByteArray := prog_2_method_1_code
def yX0_init : MethodName := ⟨RX0, "<init>", "()V"⟩
abbrev cX0_copyFrom : ByteArray := prog_2_method_2_code
def yX0_copyFrom : MethodName := ⟨RX0, "copyFrom", "(LSeparationDesk$Curve;)V"⟩
abbrev cX0_indexOf : ByteArray := prog_2_method_3_code
def yX0_indexOf : MethodName := ⟨RX0, "indexOf", "(I)I"⟩
abbrev cX0_keepsRising : ByteArray := prog_2_method_4_code
def yX0_keepsRising : MethodName := ⟨RX0, "keepsRising", "(II)Z"⟩
abbrev cX0_put : ByteArray := prog_2_method_5_code
def yX0_put : MethodName := ⟨RX0, "put", "(II)V"⟩
abbrev cX0_openGap : ByteArray := prog_2_method_6_code
def yX0_openGap : MethodName := ⟨RX0, "openGap", "(I)I"⟩
abbrev cX0_drop : ByteArray := prog_2_method_7_code
def yX0_drop : MethodName := ⟨RX0, "drop", "(I)I"⟩
abbrev cX0_valueAt : ByteArray := prog_2_method_8_code
def yX0_valueAt : MethodName := ⟨RX0, "valueAt", "(I)I"⟩
abbrev cX0_between : ByteArray := prog_2_method_9_code
def yX0_between : MethodName := ⟨RX0, "between", "(II)I"⟩
abbrev cX0_straighten : ByteArray := prog_2_method_10_code
def yX0_straighten : MethodName := ⟨RX0, "straighten", "()V"⟩
def RX1 : String := "SeparationDesk$InkTable"
def TX1 : u_T := fun k => match k with
  | 0 => ("SeparationDesk$InkTable", "rows", "[[I", true)
  | _ => ("SeparationDesk$InkTable", "size", "I", false)
def tyX1 : Nat → FieldType := fun k => match k with
  | 0 => .array (.array .int)
  | _ => .int
abbrev wsX10 : List Cond := u_ws RX1 TX1 2
theorem nmX1 : ∀ a, a < 2 → ∀ b, b < 2 → a ≠ b → (TX1 a).2.1 ≠ (TX1 b).2.1 := by decide +kernel
theorem tyX1_ok : ∀ k, k < 2 → parseFieldDescriptor (TX1 k).2.2.1 = some (tyX1 k) := by decide +kernel
abbrev cX1_init : ByteArray := prog_3_method_1_code
def yX1_init : MethodName := ⟨RX1, "<init>", "()V"⟩
abbrev cX1_add : ByteArray := prog_3_method_2_code
def yX1_add : MethodName := ⟨RX1, "add", "([I)V"⟩
abbrev cX1_rowAt : ByteArray := prog_3_method_3_code
def yX1_rowAt : MethodName := ⟨RX1, "rowAt", "(I)I"⟩
abbrev cX1_valueOf : ByteArray := prog_3_method_4_code
def yX1_valueOf : MethodName := ⟨RX1, "valueOf", "(II)I"⟩
abbrev cX1_inksBefore : ByteArray := prog_3_method_5_code
def yX1_inksBefore : MethodName := ⟨RX1, "inksBefore", "(I)I"⟩
abbrev cX1_comesBefore : ByteArray := prog_3_method_6_code
def yX1_comesBefore : MethodName := ⟨RX1, "comesBefore", "([I[I)Z"⟩
def RX2 : String := "SeparationDesk$Node"
def TX2 : u_T := fun k => match k with
  | 0 => ("SeparationDesk$Node", "kind", "I", false)
  | 1 => ("SeparationDesk$Node", "parent", "I", false)
  | 2 => ("SeparationDesk$Node", "depth", "I", false)
  | 3 => ("SeparationDesk$Node", "opacity", "I", false)
  | 4 => ("SeparationDesk$Node", "dx", "I", false)
  | 5 => ("SeparationDesk$Node", "dy", "I", false)
  | 6 => ("SeparationDesk$Node", "effective", "I", false)
  | 7 => ("SeparationDesk$Node", "offsetX", "I", false)
  | 8 => ("SeparationDesk$Node", "offsetY", "I", false)
  | 9 => ("SeparationDesk$Node", "x", "I", false)
  | 10 => ("SeparationDesk$Node", "y", "I", false)
  | 11 => ("SeparationDesk$Node", "w", "I", false)
  | 12 => ("SeparationDesk$Node", "h", "I", false)
  | 13 => ("SeparationDesk$Node", "red", "I", false)
  | 14 => ("SeparationDesk$Node", "green", "I", false)
  | 15 => ("SeparationDesk$Node", "blue", "I", false)
  | 16 => ("SeparationDesk$Node", "plate", "I", false)
  | _ => ("SeparationDesk$Node", "tint", "I", false)
def tyX2 : Nat → FieldType := fun k => match k with
  | 0 => .int
  | 1 => .int
  | 2 => .int
  | 3 => .int
  | 4 => .int
  | 5 => .int
  | 6 => .int
  | 7 => .int
  | 8 => .int
  | 9 => .int
  | 10 => .int
  | 11 => .int
  | 12 => .int
  | 13 => .int
  | 14 => .int
  | 15 => .int
  | 16 => .int
  | _ => .int
abbrev wsX20 : List Cond := u_ws RX2 TX2 18
theorem nmX2 : ∀ a, a < 18 → ∀ b, b < 18 → a ≠ b → (TX2 a).2.1 ≠ (TX2 b).2.1 := by decide +kernel
theorem tyX2_ok : ∀ k, k < 18 → parseFieldDescriptor (TX2 k).2.2.1 = some (tyX2 k) := by decide +kernel
abbrev cX2_init : ByteArray := prog_4_method_1_code
def yX2_init : MethodName := ⟨RX2, "<init>", "()V"⟩
abbrev cX2_takeBox : ByteArray := prog_4_method_2_code
def yX2_takeBox : MethodName := ⟨RX2, "takeBox", "(LSeparationDesk$Node;)V"⟩
abbrev cX2_takeColor : ByteArray := prog_4_method_3_code
def yX2_takeColor : MethodName := ⟨RX2, "takeColor", "(LSeparationDesk$Node;)V"⟩
abbrev cX2_copyFrom : ByteArray := prog_4_method_4_code
def yX2_copyFrom : MethodName := ⟨RX2, "copyFrom", "(LSeparationDesk$Node;)V"⟩
abbrev cX2_settleBelow : ByteArray := prog_4_method_5_code
def yX2_settleBelow : MethodName := ⟨RX2, "settleBelow", "(LSeparationDesk$Node;)V"⟩
abbrev cX2_contains : ByteArray := prog_4_method_6_code
def yX2_contains : MethodName := ⟨RX2, "contains", "(II)Z"⟩
def RX3 : String := "SeparationDesk$Pixel"
def TX3 : u_T := fun k => match k with
  | 0 => ("SeparationDesk$Pixel", "tones", "[I", true)
  | 1 => ("SeparationDesk$Pixel", "before", "[I", true)
  | _ => ("SeparationDesk$Pixel", "after", "[I", true)
def tyX3 : Nat → FieldType := fun k => match k with
  | 0 => .array .int
  | 1 => .array .int
  | _ => .array .int
abbrev wsX30 : List Cond := u_ws RX3 TX3 3
theorem nmX3 : ∀ a, a < 3 → ∀ b, b < 3 → a ≠ b → (TX3 a).2.1 ≠ (TX3 b).2.1 := by decide +kernel
theorem tyX3_ok : ∀ k, k < 3 → parseFieldDescriptor (TX3 k).2.2.1 = some (tyX3 k) := by decide +kernel
abbrev cX3_init : ByteArray := prog_5_method_1_code
def yX3_init : MethodName := ⟨RX3, "<init>", "()V"⟩
abbrev cX3_clear : ByteArray := prog_5_method_2_code
def yX3_clear : MethodName := ⟨RX3, "clear", "()V"⟩
abbrev cX3_render : ByteArray := prog_5_method_3_code
def yX3_render : MethodName := ⟨RX3, "render", "(LSeparationDesk$State;II)V"⟩
abbrev cX3_paint : ByteArray := prog_5_method_4_code
def yX3_paint : MethodName := ⟨RX3, "paint", "(LSeparationDesk$Node;LSeparationDesk$State;I)V"⟩
abbrev cX3_pullColors : ByteArray := prog_5_method_5_code
def yX3_pullColors : MethodName := ⟨RX3, "pullColors", "(IIII)V"⟩
abbrev cX3_pullTints : ByteArray := prog_5_method_6_code
def yX3_pullTints : MethodName := ⟨RX3, "pullTints", "(II)V"⟩
abbrev cX3_pull : ByteArray := prog_5_method_7_code
def yX3_pull : MethodName := ⟨RX3, "pull", "(III)V"⟩
abbrev cX3_separate : ByteArray := prog_5_method_8_code
def yX3_separate : MethodName := ⟨RX3, "separate", "(LSeparationDesk$State;I)V"⟩
abbrev cX3_limitSum : ByteArray := prog_5_method_9_code
def yX3_limitSum : MethodName := ⟨RX3, "limitSum", "(I)V"⟩
abbrev cX3_shrink : ByteArray := prog_5_method_10_code
def yX3_shrink : MethodName := ⟨RX3, "shrink", "(III)V"⟩
abbrev cX3_valueOf : ByteArray := prog_5_method_11_code
def yX3_valueOf : MethodName := ⟨RX3, "valueOf", "(I)I"⟩
abbrev cX3_isDisordered : ByteArray := prog_5_method_12_code
def yX3_isDisordered : MethodName := ⟨RX3, "isDisordered", "()Z"⟩
def RX4 : String := "SeparationDesk$State"
def TX4 : u_T := fun k => match k with
  | 0 => ("SeparationDesk$State", "width", "I", false)
  | 1 => ("SeparationDesk$State", "height", "I", false)
  | 2 => ("SeparationDesk$State", "amount", "I", false)
  | 3 => ("SeparationDesk$State", "start", "I", false)
  | 4 => ("SeparationDesk$State", "limit", "I", false)
  | 5 => ("SeparationDesk$State", "knockouts", "[I", true)
  | 6 => ("SeparationDesk$State", "tree", "LSeparationDesk$Tree;", true)
  | _ => ("SeparationDesk$State", "curves", "[LSeparationDesk$Curve;", true)
def tyX4 : Nat → FieldType := fun k => match k with
  | 0 => .int
  | 1 => .int
  | 2 => .int
  | 3 => .int
  | 4 => .int
  | 5 => .array .int
  | 6 => .object "SeparationDesk$Tree"
  | _ => .array (.object "SeparationDesk$Curve")
abbrev wsX40 : List Cond := u_ws RX4 TX4 8
theorem nmX4 : ∀ a, a < 8 → ∀ b, b < 8 → a ≠ b → (TX4 a).2.1 ≠ (TX4 b).2.1 := by decide +kernel
theorem tyX4_ok : ∀ k, k < 8 → parseFieldDescriptor (TX4 k).2.2.1 = some (tyX4 k) := by decide +kernel
abbrev cX4_init : ByteArray := prog_6_method_1_code
def yX4_init : MethodName := ⟨RX4, "<init>", "()V"⟩
abbrev cX4_copyFrom : ByteArray := prog_6_method_2_code
def yX4_copyFrom : MethodName := ⟨RX4, "copyFrom", "(LSeparationDesk$State;)V"⟩
def RX5 : String := "SeparationDesk$Tree"
def TX5 : u_T := fun k => match k with
  | 0 => ("SeparationDesk$Tree", "nodes", "[LSeparationDesk$Node;", true)
  | 1 => ("SeparationDesk$Tree", "order", "[I", true)
  | 2 => ("SeparationDesk$Tree", "carried", "[I", true)
  | _ => ("SeparationDesk$Tree", "count", "I", false)
def tyX5 : Nat → FieldType := fun k => match k with
  | 0 => .array (.object "SeparationDesk$Node")
  | 1 => .array .int
  | 2 => .array .int
  | _ => .int
abbrev wsX50 : List Cond := u_ws RX5 TX5 4
theorem nmX5 : ∀ a, a < 4 → ∀ b, b < 4 → a ≠ b → (TX5 a).2.1 ≠ (TX5 b).2.1 := by decide +kernel
theorem tyX5_ok : ∀ k, k < 4 → parseFieldDescriptor (TX5 k).2.2.1 = some (tyX5 k) := by decide +kernel
abbrev cX5_init : ByteArray := prog_7_method_1_code
def yX5_init : MethodName := ⟨RX5, "<init>", "()V"⟩
abbrev cX5_copyFrom : ByteArray := prog_7_method_2_code
def yX5_copyFrom : MethodName := ⟨RX5, "copyFrom", "(LSeparationDesk$Tree;)V"⟩
abbrev cX5_has : ByteArray := prog_7_method_3_code
def yX5_has : MethodName := ⟨RX5, "has", "(I)Z"⟩
abbrev cX5_nodeAt : ByteArray := prog_7_method_4_code
def yX5_nodeAt : MethodName := ⟨RX5, "nodeAt", "(I)LSeparationDesk$Node;"⟩
abbrev cX5_freeNumber : ByteArray := prog_7_method_5_code
def yX5_freeNumber : MethodName := ⟨RX5, "freeNumber", "()I"⟩
abbrev cX5_startOf : ByteArray := prog_7_method_6_code
def yX5_startOf : MethodName := ⟨RX5, "startOf", "(I)I"⟩
abbrev cX5_endOf : ByteArray := prog_7_method_7_code
def yX5_endOf : MethodName := ⟨RX5, "endOf", "(I)I"⟩
abbrev cX5_belowOf : ByteArray := prog_7_method_8_code
def yX5_belowOf : MethodName := ⟨RX5, "belowOf", "(I)I"⟩
abbrev cX5_childrenOf : ByteArray := prog_7_method_9_code
def yX5_childrenOf : MethodName := ⟨RX5, "childrenOf", "(I)I"⟩
abbrev cX5_placeOf : ByteArray := prog_7_method_10_code
def yX5_placeOf : MethodName := ⟨RX5, "placeOf", "(I)I"⟩
abbrev cX5_append : ByteArray := prog_7_method_11_code
def yX5_append : MethodName := ⟨RX5, "append", "(III)V"⟩
abbrev cX5_cutAndFree : ByteArray := prog_7_method_12_code
def yX5_cutAndFree : MethodName := ⟨RX5, "cutAndFree", "(I)I"⟩
abbrev cX5_canHang : ByteArray := prog_7_method_13_code
def yX5_canHang : MethodName := ⟨RX5, "canHang", "(II)Z"⟩
abbrev cX5_hang : ByteArray := prog_7_method_14_code
def yX5_hang : MethodName := ⟨RX5, "hang", "(II)V"⟩
abbrev cX5_cutOut : ByteArray := prog_7_method_15_code
def yX5_cutOut : MethodName := ⟨RX5, "cutOut", "(I)I"⟩
abbrev cX5_putIn : ByteArray := prog_7_method_16_code
def yX5_putIn : MethodName := ⟨RX5, "putIn", "(II)V"⟩
abbrev cX5_settle : ByteArray := prog_7_method_17_code
def yX5_settle : MethodName := ⟨RX5, "settle", "()V"⟩
def RX6 : String := "SeparationDesk"
def TX6 : u_T := fun k => match k with
  | 0 => ("SeparationDesk", "page", "LSeparationDesk$State;", true)
  | 1 => ("SeparationDesk", "history", "[LSeparationDesk$State;", true)
  | 2 => ("SeparationDesk", "changes", "I", false)
  | 3 => ("SeparationDesk", "draft", "LSeparationDesk$Node;", true)
  | 4 => ("SeparationDesk", "pixel", "LSeparationDesk$Pixel;", true)
  | 5 => ("SeparationDesk", "inks", "LSeparationDesk$InkTable;", true)
  | 6 => ("SeparationDesk", "totals", "[I", true)
  | _ => ("SeparationDesk", "needs", "[I", true)
def tyX6 : Nat → FieldType := fun k => match k with
  | 0 => .object "SeparationDesk$State"
  | 1 => .array (.object "SeparationDesk$State")
  | 2 => .int
  | 3 => .object "SeparationDesk$Node"
  | 4 => .object "SeparationDesk$Pixel"
  | 5 => .object "SeparationDesk$InkTable"
  | 6 => .array .int
  | _ => .array .int
abbrev wsX60 : List Cond := u_ws RX6 TX6 8
theorem nmX6 : ∀ a, a < 8 → ∀ b, b < 8 → a ≠ b → (TX6 a).2.1 ≠ (TX6 b).2.1 := by decide +kernel
theorem tyX6_ok : ∀ k, k < 8 → parseFieldDescriptor (TX6 k).2.2.1 = some (tyX6 k) := by decide +kernel
abbrev cX6_init : ByteArray := prog_1_method_1_code
def yX6_init : MethodName := ⟨RX6, "<init>", "()V"⟩
abbrev cX6_setSize : ByteArray := prog_1_method_2_code
def yX6_setSize : MethodName := ⟨RX6, "setSize", "(II)I"⟩
abbrev cX6_addGroup : ByteArray := prog_1_method_3_code
def yX6_addGroup : MethodName := ⟨RX6, "addGroup", "(IIII)I"⟩
abbrev cX6_addRect : ByteArray := prog_1_method_4_code
def yX6_addRect : MethodName := ⟨RX6, "addRect", "(I)I"⟩
abbrev cX6_addSpot : ByteArray := prog_1_method_5_code
def yX6_addSpot : MethodName := ⟨RX6, "addSpot", "(III)I"⟩
abbrev cX6_setBox : ByteArray := prog_1_method_6_code
def yX6_setBox : MethodName := ⟨RX6, "setBox", "(IIII)I"⟩
abbrev cX6_setInk : ByteArray := prog_1_method_7_code
def yX6_setInk : MethodName := ⟨RX6, "setInk", "(III)I"⟩
abbrev cX6_remove : ByteArray := prog_1_method_8_code
def yX6_remove : MethodName := ⟨RX6, "remove", "(I)I"⟩
abbrev cX6_move : ByteArray := prog_1_method_9_code
def yX6_move : MethodName := ⟨RX6, "move", "(II)I"⟩
abbrev cX6_nodeInfo : ByteArray := prog_1_method_10_code
def yX6_nodeInfo : MethodName := ⟨RX6, "nodeInfo", "(II)I"⟩
abbrev cX6_nodeCount : ByteArray := prog_1_method_11_code
def yX6_nodeCount : MethodName := ⟨RX6, "nodeCount", "()I"⟩
abbrev cX6_set : ByteArray := prog_1_method_12_code
def yX6_set : MethodName := ⟨RX6, "set", "(II)I"⟩
abbrev cX6_setKnockout : ByteArray := prog_1_method_13_code
def yX6_setKnockout : MethodName := ⟨RX6, "setKnockout", "(II)I"⟩
abbrev cX6_setPoint : ByteArray := prog_1_method_14_code
def yX6_setPoint : MethodName := ⟨RX6, "setPoint", "(III)I"⟩
abbrev cX6_removePoint : ByteArray := prog_1_method_15_code
def yX6_removePoint : MethodName := ⟨RX6, "removePoint", "(II)I"⟩
abbrev cX6_curve : ByteArray := prog_1_method_16_code
def yX6_curve : MethodName := ⟨RX6, "curve", "(II)I"⟩
abbrev cX6_inverse : ByteArray := prog_1_method_17_code
def yX6_inverse : MethodName := ⟨RX6, "inverse", "(II)I"⟩
abbrev cX6_simplify : ByteArray := prog_1_method_18_code
def yX6_simplify : MethodName := ⟨RX6, "simplify", "(I)I"⟩
abbrev cX6_rendered : ByteArray := prog_1_method_19_code
def yX6_rendered : MethodName := ⟨RX6, "rendered", "(III)I"⟩
abbrev cX6_ink : ByteArray := prog_1_method_20_code
def yX6_ink : MethodName := ⟨RX6, "ink", "(III)I"⟩
abbrev cX6_inkOf : ByteArray := prog_1_method_21_code
def yX6_inkOf : MethodName := ⟨RX6, "inkOf", "(II)I"⟩
abbrev cX6_touchedBy : ByteArray := prog_1_method_22_code
def yX6_touchedBy : MethodName := ⟨RX6, "touchedBy", "(II)I"⟩
abbrev cX6_coverage : ByteArray := prog_1_method_23_code
def yX6_coverage : MethodName := ⟨RX6, "coverage", "(I)I"⟩
abbrev cX6_plateAt : ByteArray := prog_1_method_24_code
def yX6_plateAt : MethodName := ⟨RX6, "plateAt", "(I)I"⟩
abbrev cX6_greatestSum : ByteArray := prog_1_method_25_code
def yX6_greatestSum : MethodName := ⟨RX6, "greatestSum", "()I"⟩
abbrev cX6_limitedPixels : ByteArray := prog_1_method_26_code
def yX6_limitedPixels : MethodName := ⟨RX6, "limitedPixels", "()I"⟩
abbrev cX6_inkCount : ByteArray := prog_1_method_27_code
def yX6_inkCount : MethodName := ⟨RX6, "inkCount", "()I"⟩
abbrev cX6_inkAt : ByteArray := prog_1_method_28_code
def yX6_inkAt : MethodName := ⟨RX6, "inkAt", "(II)I"⟩
abbrev cX6_neededLimit : ByteArray := prog_1_method_29_code
def yX6_neededLimit : MethodName := ⟨RX6, "neededLimit", "()I"⟩
abbrev cX6_thriftiestAmount : ByteArray := prog_1_method_30_code
def yX6_thriftiestAmount : MethodName := ⟨RX6, "thriftiestAmount", "()I"⟩
abbrev cX6_disorderedPixels : ByteArray := prog_1_method_31_code
def yX6_disorderedPixels : MethodName := ⟨RX6, "disorderedPixels", "()I"⟩
abbrev cX6_undo : ByteArray := prog_1_method_32_code
def yX6_undo : MethodName := ⟨RX6, "undo", "()I"⟩
abbrev cX6_within : ByteArray := prog_1_method_33_code
def yX6_within : MethodName := ⟨RX6, "within", "(III)Z"⟩
abbrev cX6_isPart : ByteArray := prog_1_method_34_code
def yX6_isPart : MethodName := ⟨RX6, "isPart", "(I)Z"⟩
abbrev cX6_isOffset : ByteArray := prog_1_method_35_code
def yX6_isOffset : MethodName := ⟨RX6, "isOffset", "(I)Z"⟩
abbrev cX6_isPlate : ByteArray := prog_1_method_36_code
def yX6_isPlate : MethodName := ⟨RX6, "isPlate", "(I)Z"⟩
abbrev cX6_isPixel : ByteArray := prog_1_method_37_code
def yX6_isPixel : MethodName := ⟨RX6, "isPixel", "(II)Z"⟩
abbrev cX6_greatestSetting : ByteArray := prog_1_method_38_code
def yX6_greatestSetting : MethodName := ⟨RX6, "greatestSetting", "(I)I"⟩
abbrev cX6_numberBelow : ByteArray := prog_1_method_39_code
def yX6_numberBelow : MethodName := ⟨RX6, "numberBelow", "(I)I"⟩
abbrev cX6_remember : ByteArray := prog_1_method_40_code
def yX6_remember : MethodName := ⟨RX6, "remember", "()V"⟩
abbrev cX6_separateAt : ByteArray := prog_1_method_41_code
def yX6_separateAt : MethodName := ⟨RX6, "separateAt", "(II)V"⟩
abbrev cX6_addUpPlates : ByteArray := prog_1_method_42_code
def yX6_addUpPlates : MethodName := ⟨RX6, "addUpPlates", "()V"⟩
abbrev cX6_platesBefore : ByteArray := prog_1_method_43_code
def yX6_platesBefore : MethodName := ⟨RX6, "platesBefore", "(I)I"⟩
abbrev cX6_countInks : ByteArray := prog_1_method_44_code
def yX6_countInks : MethodName := ⟨RX6, "countInks", "()V"⟩
abbrev cX6_addUpNeeds : ByteArray := prog_1_method_45_code
def yX6_addUpNeeds : MethodName := ⟨RX6, "addUpNeeds", "()V"⟩
abbrev cX6_greatestDifference : ByteArray := prog_1_method_46_code
def yX6_greatestDifference : MethodName := ⟨RX6, "greatestDifference", "(LSeparationDesk$Curve;LSeparationDesk$Curve;)I"⟩
abbrev cX6_sumOf : ByteArray := prog_1_method_47_code
def yX6_sumOf : MethodName := ⟨RX6, "sumOf", "([I)I"⟩
abbrev cX6_sameValues : ByteArray := prog_1_method_48_code
def yX6_sameValues : MethodName := ⟨RX6, "sameValues", "([I[I)Z"⟩
def RX7 : String := "SeparationDeskModel"
def TX7 : u_T := fun k => match k with
  | 0 => ("SeparationDeskModel", "s", "[I", true)
  | 1 => ("SeparationDeskModel", "past", "[I", true)
  | 2 => ("SeparationDeskModel", "aside", "[I", true)
  | 3 => ("SeparationDeskModel", "pasts", "I", false)
  | 4 => ("SeparationDeskModel", "box", "[I", true)
  | 5 => ("SeparationDeskModel", "color", "[I", true)
  | 6 => ("SeparationDeskModel", "goes", "[Z", true)
  | 7 => ("SeparationDeskModel", "before", "[I", true)
  | 8 => ("SeparationDeskModel", "visits", "[I", true)
  | 9 => ("SeparationDeskModel", "visited", "I", false)
  | 10 => ("SeparationDeskModel", "waiting", "[I", true)
  | 11 => ("SeparationDeskModel", "opacity", "[I", true)
  | 12 => ("SeparationDeskModel", "offX", "[I", true)
  | 13 => ("SeparationDeskModel", "offY", "[I", true)
  | 14 => ("SeparationDeskModel", "pixel", "[I", true)
  | 15 => ("SeparationDeskModel", "early", "[I", true)
  | 16 => ("SeparationDeskModel", "late", "[I", true)
  | 17 => ("SeparationDeskModel", "sums", "[I", true)
  | 18 => ("SeparationDeskModel", "inks", "[I", true)
  | _ => ("SeparationDeskModel", "inkMany", "I", false)
def tyX7 : Nat → FieldType := fun k => match k with
  | 0 => .array .int
  | 1 => .array .int
  | 2 => .array .int
  | 3 => .int
  | 4 => .array .int
  | 5 => .array .int
  | 6 => .array .boolean
  | 7 => .array .int
  | 8 => .array .int
  | 9 => .int
  | 10 => .array .int
  | 11 => .array .int
  | 12 => .array .int
  | 13 => .array .int
  | 14 => .array .int
  | 15 => .array .int
  | 16 => .array .int
  | 17 => .array .int
  | 18 => .array .int
  | _ => .int
abbrev wsX70 : List Cond := u_ws RX7 TX7 20
theorem nmX7 : ∀ a, a < 20 → ∀ b, b < 20 → a ≠ b → (TX7 a).2.1 ≠ (TX7 b).2.1 := by decide +kernel
theorem tyX7_ok : ∀ k, k < 20 → parseFieldDescriptor (TX7 k).2.2.1 = some (tyX7 k) := by decide +kernel
abbrev cX7_init : ByteArray := prog_9_method_1_code
def yX7_init : MethodName := ⟨RX7, "<init>", "()V"⟩
abbrev cX7_in : ByteArray := prog_9_method_3_code
def yX7_in : MethodName := ⟨RX7, "in", "(III)Z"⟩
abbrev cX7_floor : ByteArray := prog_9_method_4_code
def yX7_floor : MethodName := ⟨RX7, "floor", "(II)I"⟩
abbrev cX7_hold : ByteArray := prog_9_method_5_code
def yX7_hold : MethodName := ⟨RX7, "hold", "()V"⟩
abbrev cX7_ends : ByteArray := prog_9_method_6_code
def yX7_ends : MethodName := ⟨RX7, "ends", "(I)I"⟩
abbrev cX7_becomes : ByteArray := prog_9_method_7_code
def yX7_becomes : MethodName := ⟨RX7, "becomes", "(II)I"⟩
abbrev cX7_setSize : ByteArray := prog_9_method_8_code
def yX7_setSize : MethodName := ⟨RX7, "setSize", "(II)I"⟩
abbrev cX7_of : ByteArray := prog_9_method_9_code
def yX7_of : MethodName := ⟨RX7, "of", "(II)I"⟩
abbrev cX7_isNode : ByteArray := prog_9_method_10_code
def yX7_isNode : MethodName := ⟨RX7, "isNode", "(I)Z"⟩
abbrev cX7_depth : ByteArray := prog_9_method_11_code
def yX7_depth : MethodName := ⟨RX7, "depth", "(I)I"⟩
abbrev cX7_isBelow : ByteArray := prog_9_method_12_code
def yX7_isBelow : MethodName := ⟨RX7, "isBelow", "(II)Z"⟩
abbrev cX7_free : ByteArray := prog_9_method_13_code
def yX7_free : MethodName := ⟨RX7, "free", "()I"⟩
abbrev cX7_comes : ByteArray := prog_9_method_14_code
def yX7_comes : MethodName := ⟨RX7, "comes", "(II)I"⟩
abbrev cX7_isOffset : ByteArray := prog_9_method_15_code
def yX7_isOffset : MethodName := ⟨RX7, "isOffset", "(I)Z"⟩
abbrev cX7_addGroup : ByteArray := prog_9_method_16_code
def yX7_addGroup : MethodName := ⟨RX7, "addGroup", "(IIII)I"⟩
abbrev cX7_addRect : ByteArray := prog_9_method_17_code
def yX7_addRect : MethodName := ⟨RX7, "addRect", "(I)I"⟩
abbrev cX7_addSpot : ByteArray := prog_9_method_18_code
def yX7_addSpot : MethodName := ⟨RX7, "addSpot", "(III)I"⟩
abbrev cX7_setBox : ByteArray := prog_9_method_19_code
def yX7_setBox : MethodName := ⟨RX7, "setBox", "(IIII)I"⟩
abbrev cX7_setInk : ByteArray := prog_9_method_20_code
def yX7_setInk : MethodName := ⟨RX7, "setInk", "(III)I"⟩
abbrev cX7_countBelow : ByteArray := prog_9_method_21_code
def yX7_countBelow : MethodName := ⟨RX7, "countBelow", "(I)I"⟩
abbrev cX7_remove : ByteArray := prog_9_method_22_code
def yX7_remove : MethodName := ⟨RX7, "remove", "(I)I"⟩
abbrev cX7_move : ByteArray := prog_9_method_23_code
def yX7_move : MethodName := ⟨RX7, "move", "(II)I"⟩
abbrev cX7_isChild : ByteArray := prog_9_method_24_code
def yX7_isChild : MethodName := ⟨RX7, "isChild", "(II)Z"⟩
abbrev cX7_children : ByteArray := prog_9_method_25_code
def yX7_children : MethodName := ⟨RX7, "children", "(II)I"⟩
abbrev cX7_nodeInfo : ByteArray := prog_9_method_26_code
def yX7_nodeInfo : MethodName := ⟨RX7, "nodeInfo", "(II)I"⟩
abbrev cX7_nodeCount : ByteArray := prog_9_method_27_code
def yX7_nodeCount : MethodName := ⟨RX7, "nodeCount", "()I"⟩
abbrev cX7_set : ByteArray := prog_9_method_28_code
def yX7_set : MethodName := ⟨RX7, "set", "(II)I"⟩
abbrev cX7_setKnockout : ByteArray := prog_9_method_29_code
def yX7_setKnockout : MethodName := ⟨RX7, "setKnockout", "(II)I"⟩
abbrev cX7_isPlate : ByteArray := prog_9_method_30_code
def yX7_isPlate : MethodName := ⟨RX7, "isPlate", "(I)Z"⟩
abbrev cX7_isValue : ByteArray := prog_9_method_31_code
def yX7_isValue : MethodName := ⟨RX7, "isValue", "(I)Z"⟩
abbrev cX7_pointAt : ByteArray := prog_9_method_32_code
def yX7_pointAt : MethodName := ⟨RX7, "pointAt", "(II)I"⟩
abbrev cX7_valueOf : ByteArray := prog_9_method_33_code
def yX7_valueOf : MethodName := ⟨RX7, "valueOf", "(II)I"⟩
abbrev cX7_setPoint : ByteArray := prog_9_method_34_code
def yX7_setPoint : MethodName := ⟨RX7, "setPoint", "(III)I"⟩
abbrev cX7_removePoint : ByteArray := prog_9_method_35_code
def yX7_removePoint : MethodName := ⟨RX7, "removePoint", "(II)I"⟩
abbrev cX7_curve : ByteArray := prog_9_method_36_code
def yX7_curve : MethodName := ⟨RX7, "curve", "(II)I"⟩
abbrev cX7_inverse : ByteArray := prog_9_method_37_code
def yX7_inverse : MethodName := ⟨RX7, "inverse", "(II)I"⟩
abbrev cX7_simplify : ByteArray := prog_9_method_38_code
def yX7_simplify : MethodName := ⟨RX7, "simplify", "(I)I"⟩
abbrev cX7_lastChild : ByteArray := prog_9_method_39_code
def yX7_lastChild : MethodName := ⟨RX7, "lastChild", "(II)I"⟩
abbrev cX7_lays : ByteArray := prog_9_method_40_code
def yX7_lays : MethodName := ⟨RX7, "lays", "()V"⟩
abbrev cX7_isIn : ByteArray := prog_9_method_41_code
def yX7_isIn : MethodName := ⟨RX7, "isIn", "(III)Z"⟩
abbrev cX7_moves : ByteArray := prog_9_method_42_code
def yX7_moves : MethodName := ⟨RX7, "moves", "(III)V"⟩
abbrev cX7_touches : ByteArray := prog_9_method_43_code
def yX7_touches : MethodName := ⟨RX7, "touches", "(I)V"⟩
abbrev cX7_renders : ByteArray := prog_9_method_44_code
def yX7_renders : MethodName := ⟨RX7, "renders", "(II)V"⟩
abbrev cX7_separates : ByteArray := prog_9_method_45_code
def yX7_separates : MethodName := ⟨RX7, "separates", "(I)V"⟩
abbrev cX7_limits : ByteArray := prog_9_method_46_code
def yX7_limits : MethodName := ⟨RX7, "limits", "()V"⟩
abbrev cX7_told : ByteArray := prog_9_method_47_code
def yX7_told : MethodName := ⟨RX7, "told", "(I)I"⟩
abbrev cX7_sumEarly : ByteArray := prog_9_method_48_code
def yX7_sumEarly : MethodName := ⟨RX7, "sumEarly", "()I"⟩
abbrev cX7_isPixel : ByteArray := prog_9_method_49_code
def yX7_isPixel : MethodName := ⟨RX7, "isPixel", "(II)Z"⟩
abbrev cX7_rendered : ByteArray := prog_9_method_50_code
def yX7_rendered : MethodName := ⟨RX7, "rendered", "(III)I"⟩
abbrev cX7_ink : ByteArray := prog_9_method_51_code
def yX7_ink : MethodName := ⟨RX7, "ink", "(III)I"⟩
abbrev cX7_inkOf : ByteArray := prog_9_method_52_code
def yX7_inkOf : MethodName := ⟨RX7, "inkOf", "(II)I"⟩
abbrev cX7_touchedBy : ByteArray := prog_9_method_53_code
def yX7_touchedBy : MethodName := ⟨RX7, "touchedBy", "(II)I"⟩
abbrev cX7_pixelAt : ByteArray := prog_9_method_54_code
def yX7_pixelAt : MethodName := ⟨RX7, "pixelAt", "(II)V"⟩
abbrev cX7_pixels : ByteArray := prog_9_method_55_code
def yX7_pixels : MethodName := ⟨RX7, "pixels", "()I"⟩
abbrev cX7_covered : ByteArray := prog_9_method_56_code
def yX7_covered : MethodName := ⟨RX7, "covered", "(II)I"⟩
abbrev cX7_coverage : ByteArray := prog_9_method_57_code
def yX7_coverage : MethodName := ⟨RX7, "coverage", "(I)I"⟩
abbrev cX7_plateAt : ByteArray := prog_9_method_58_code
def yX7_plateAt : MethodName := ⟨RX7, "plateAt", "(I)I"⟩
abbrev cX7_greatestSum : ByteArray := prog_9_method_59_code
def yX7_greatestSum : MethodName := ⟨RX7, "greatestSum", "()I"⟩
abbrev cX7_limitedPixels : ByteArray := prog_9_method_60_code
def yX7_limitedPixels : MethodName := ⟨RX7, "limitedPixels", "()I"⟩
abbrev cX7_isInk : ByteArray := prog_9_method_61_code
def yX7_isInk : MethodName := ⟨RX7, "isInk", "(I)Z"⟩
abbrev cX7_counts : ByteArray := prog_9_method_62_code
def yX7_counts : MethodName := ⟨RX7, "counts", "()V"⟩
abbrev cX7_isAhead : ByteArray := prog_9_method_63_code
def yX7_isAhead : MethodName := ⟨RX7, "isAhead", "(II)Z"⟩
abbrev cX7_inkCount : ByteArray := prog_9_method_64_code
def yX7_inkCount : MethodName := ⟨RX7, "inkCount", "()I"⟩
abbrev cX7_inkAt : ByteArray := prog_9_method_65_code
def yX7_inkAt : MethodName := ⟨RX7, "inkAt", "(II)I"⟩
abbrev cX7_neededLimit : ByteArray := prog_9_method_66_code
def yX7_neededLimit : MethodName := ⟨RX7, "neededLimit", "()I"⟩
abbrev cX7_thriftiestAmount : ByteArray := prog_9_method_67_code
def yX7_thriftiestAmount : MethodName := ⟨RX7, "thriftiestAmount", "()I"⟩
abbrev cX7_isDisordered : ByteArray := prog_9_method_68_code
def yX7_isDisordered : MethodName := ⟨RX7, "isDisordered", "()Z"⟩
abbrev cX7_disorderedPixels : ByteArray := prog_9_method_69_code
def yX7_disorderedPixels : MethodName := ⟨RX7, "disorderedPixels", "()I"⟩
abbrev cX7_undo : ByteArray := prog_9_method_70_code
def yX7_undo : MethodName := ⟨RX7, "undo", "()I"⟩
def RJ9 : String := "java/lang/Math"
abbrev cJ9_floorDiv_7cf53 : ByteArray := prog_10_method_47_code
def yJ9_floorDiv_7cf53 : MethodName := ⟨RJ9, "floorDiv", "(II)I"⟩
abbrev cJ9_abs_0f7a4 : ByteArray := prog_10_method_59_code
def yJ9_abs_0f7a4 : MethodName := ⟨RJ9, "abs", "(I)I"⟩
abbrev cJ9_max_7cf53 : ByteArray := prog_10_method_65_code
def yJ9_max_7cf53 : MethodName := ⟨RJ9, "max", "(II)I"⟩
abbrev cJ9_min_7cf53 : ByteArray := prog_10_method_69_code
def yJ9_min_7cf53 : MethodName := ⟨RJ9, "min", "(II)I"⟩
def RL : String := "SeparationDeskLaw"
abbrev cL_law : ByteArray := code
def yL_law : MethodName := ⟨RL, "law", "([I)Z"⟩
theorem dX0_init_0 : decode cX0_init 0 = .ok (.aload_n 0, 1) := by decide +kernel
theorem dX0_init_1 : decode cX0_init 1 = .ok (.invokespecial 3, 3) := by decide +kernel
theorem dX0_init_4 : decode cX0_init 4 = .ok (.aload_n 0, 1) := by decide +kernel
theorem dX0_init_5 : decode cX0_init 5 = .ok (.bipush 8, 2) := by decide +kernel
theorem dX0_init_7 : decode cX0_init 7 = .ok (.newarray .int, 2) := by decide +kernel
theorem dX0_init_9 : decode cX0_init 9 = .ok (.putfield 9, 3) := by decide +kernel
theorem dX0_init_12 : decode cX0_init 12 = .ok (.aload_n 0, 1) := by decide +kernel
theorem dX0_init_13 : decode cX0_init 13 = .ok (.bipush 8, 2) := by decide +kernel
theorem dX0_init_15 : decode cX0_init 15 = .ok (.newarray .int, 2) := by decide +kernel
theorem dX0_init_17 : decode cX0_init 17 = .ok (.putfield 15, 3) := by decide +kernel
theorem dX0_init_20 : decode cX0_init 20 = .ok (.aload_n 0, 1) := by decide +kernel
theorem dX0_init_21 : decode cX0_init 21 = .ok (.getfield 9, 3) := by decide +kernel
theorem dX0_init_24 : decode cX0_init 24 = .ok (.iconst 1, 1) := by decide +kernel
theorem dX0_init_25 : decode cX0_init 25 = .ok (.sipush 255, 3) := by decide +kernel
theorem dX0_init_28 : decode cX0_init 28 = .ok (.iastore, 1) := by decide +kernel
theorem dX0_init_29 : decode cX0_init 29 = .ok (.aload_n 0, 1) := by decide +kernel
theorem dX0_init_30 : decode cX0_init 30 = .ok (.getfield 15, 3) := by decide +kernel
theorem dX0_init_33 : decode cX0_init 33 = .ok (.iconst 1, 1) := by decide +kernel
theorem dX0_init_34 : decode cX0_init 34 = .ok (.sipush 255, 3) := by decide +kernel
theorem dX0_init_37 : decode cX0_init 37 = .ok (.iastore, 1) := by decide +kernel
theorem dX0_init_38 : decode cX0_init 38 = .ok (.aload_n 0, 1) := by decide +kernel
theorem dX0_init_39 : decode cX0_init 39 = .ok (.iconst 2, 1) := by decide +kernel
theorem dX0_init_40 : decode cX0_init 40 = .ok (.putfield 18, 3) := by decide +kernel
theorem dX0_init_43 : decode cX0_init 43 = .ok (.return_, 1) := by decide +kernel
theorem dX0_copyFrom_0 : decode cX0_copyFrom 0 = .ok (.iconst 0, 1) := by decide +kernel
theorem dX0_copyFrom_1 : decode cX0_copyFrom 1 = .ok (.istore_n 2, 1) := by decide +kernel
theorem dX0_copyFrom_2 : decode cX0_copyFrom 2 = .ok (.iload_n 2, 1) := by decide +kernel
theorem dX0_copyFrom_3 : decode cX0_copyFrom 3 = .ok (.bipush 8, 2) := by decide +kernel
theorem dX0_copyFrom_5 : decode cX0_copyFrom 5 = .ok (.if_icmp .ge 33, 3) := by decide +kernel
theorem dX0_copyFrom_8 : decode cX0_copyFrom 8 = .ok (.aload_n 0, 1) := by decide +kernel
theorem dX0_copyFrom_9 : decode cX0_copyFrom 9 = .ok (.getfield 9, 3) := by decide +kernel
theorem dX0_copyFrom_12 : decode cX0_copyFrom 12 = .ok (.iload_n 2, 1) := by decide +kernel
theorem dX0_copyFrom_13 : decode cX0_copyFrom 13 = .ok (.aload_n 1, 1) := by decide +kernel
theorem dX0_copyFrom_14 : decode cX0_copyFrom 14 = .ok (.getfield 9, 3) := by decide +kernel
theorem dX0_copyFrom_17 : decode cX0_copyFrom 17 = .ok (.iload_n 2, 1) := by decide +kernel
theorem dX0_copyFrom_18 : decode cX0_copyFrom 18 = .ok (.iaload, 1) := by decide +kernel
theorem dX0_copyFrom_19 : decode cX0_copyFrom 19 = .ok (.iastore, 1) := by decide +kernel
theorem dX0_copyFrom_20 : decode cX0_copyFrom 20 = .ok (.aload_n 0, 1) := by decide +kernel
theorem dX0_copyFrom_21 : decode cX0_copyFrom 21 = .ok (.getfield 15, 3) := by decide +kernel
theorem dX0_copyFrom_24 : decode cX0_copyFrom 24 = .ok (.iload_n 2, 1) := by decide +kernel
theorem dX0_copyFrom_25 : decode cX0_copyFrom 25 = .ok (.aload_n 1, 1) := by decide +kernel
theorem dX0_copyFrom_26 : decode cX0_copyFrom 26 = .ok (.getfield 15, 3) := by decide +kernel
theorem dX0_copyFrom_29 : decode cX0_copyFrom 29 = .ok (.iload_n 2, 1) := by decide +kernel
theorem dX0_copyFrom_30 : decode cX0_copyFrom 30 = .ok (.iaload, 1) := by decide +kernel
theorem dX0_copyFrom_31 : decode cX0_copyFrom 31 = .ok (.iastore, 1) := by decide +kernel
theorem dX0_copyFrom_32 : decode cX0_copyFrom 32 = .ok (.iinc 2 1, 3) := by decide +kernel
theorem dX0_copyFrom_35 : decode cX0_copyFrom 35 = .ok (.goto (-33), 3) := by decide +kernel
theorem dX0_copyFrom_38 : decode cX0_copyFrom 38 = .ok (.aload_n 0, 1) := by decide +kernel
theorem dX0_copyFrom_39 : decode cX0_copyFrom 39 = .ok (.aload_n 1, 1) := by decide +kernel
theorem dX0_copyFrom_40 : decode cX0_copyFrom 40 = .ok (.getfield 18, 3) := by decide +kernel
theorem dX0_copyFrom_43 : decode cX0_copyFrom 43 = .ok (.putfield 18, 3) := by decide +kernel
theorem dX0_copyFrom_46 : decode cX0_copyFrom 46 = .ok (.return_, 1) := by decide +kernel
theorem dX0_indexOf_0 : decode cX0_indexOf 0 = .ok (.iconst 0, 1) := by decide +kernel
theorem dX0_indexOf_1 : decode cX0_indexOf 1 = .ok (.istore_n 2, 1) := by decide +kernel
theorem dX0_indexOf_2 : decode cX0_indexOf 2 = .ok (.iload_n 2, 1) := by decide +kernel
theorem dX0_indexOf_3 : decode cX0_indexOf 3 = .ok (.aload_n 0, 1) := by decide +kernel
theorem dX0_indexOf_4 : decode cX0_indexOf 4 = .ok (.getfield 18, 3) := by decide +kernel
theorem dX0_indexOf_7 : decode cX0_indexOf 7 = .ok (.if_icmp .ge 21, 3) := by decide +kernel
theorem dX0_indexOf_10 : decode cX0_indexOf 10 = .ok (.aload_n 0, 1) := by decide +kernel
theorem dX0_indexOf_11 : decode cX0_indexOf 11 = .ok (.getfield 9, 3) := by decide +kernel
theorem dX0_indexOf_14 : decode cX0_indexOf 14 = .ok (.iload_n 2, 1) := by decide +kernel
theorem dX0_indexOf_15 : decode cX0_indexOf 15 = .ok (.iaload, 1) := by decide +kernel
theorem dX0_indexOf_16 : decode cX0_indexOf 16 = .ok (.iload_n 1, 1) := by decide +kernel
theorem dX0_indexOf_17 : decode cX0_indexOf 17 = .ok (.if_icmp .ne 5, 3) := by decide +kernel
theorem dX0_indexOf_20 : decode cX0_indexOf 20 = .ok (.iload_n 2, 1) := by decide +kernel
theorem dX0_indexOf_21 : decode cX0_indexOf 21 = .ok (.ireturn, 1) := by decide +kernel
theorem dX0_indexOf_22 : decode cX0_indexOf 22 = .ok (.iinc 2 1, 3) := by decide +kernel
theorem dX0_indexOf_25 : decode cX0_indexOf 25 = .ok (.goto (-23), 3) := by decide +kernel
theorem dX0_indexOf_28 : decode cX0_indexOf 28 = .ok (.iconst (-1), 1) := by decide +kernel
theorem dX0_indexOf_29 : decode cX0_indexOf 29 = .ok (.ireturn, 1) := by decide +kernel
theorem dX0_keepsRising_0 : decode cX0_keepsRising 0 = .ok (.iconst 0, 1) := by decide +kernel
theorem dX0_keepsRising_1 : decode cX0_keepsRising 1 = .ok (.istore_n 3, 1) := by decide +kernel
theorem dX0_keepsRising_2 : decode cX0_keepsRising 2 = .ok (.iload_n 3, 1) := by decide +kernel
theorem dX0_keepsRising_3 : decode cX0_keepsRising 3 = .ok (.aload_n 0, 1) := by decide +kernel
theorem dX0_keepsRising_4 : decode cX0_keepsRising 4 = .ok (.getfield 18, 3) := by decide +kernel
theorem dX0_keepsRising_7 : decode cX0_keepsRising 7 = .ok (.if_icmp .ge 53, 3) := by decide +kernel
theorem dX0_keepsRising_10 : decode cX0_keepsRising 10 = .ok (.aload_n 0, 1) := by decide +kernel
theorem dX0_keepsRising_11 : decode cX0_keepsRising 11 = .ok (.getfield 9, 3) := by decide +kernel
theorem dX0_keepsRising_14 : decode cX0_keepsRising 14 = .ok (.iload_n 3, 1) := by decide +kernel
theorem dX0_keepsRising_15 : decode cX0_keepsRising 15 = .ok (.iaload, 1) := by decide +kernel
theorem dX0_keepsRising_16 : decode cX0_keepsRising 16 = .ok (.iload_n 1, 1) := by decide +kernel
theorem dX0_keepsRising_17 : decode cX0_keepsRising 17 = .ok (.if_icmp .ge 15, 3) := by decide +kernel
theorem dX0_keepsRising_20 : decode cX0_keepsRising 20 = .ok (.aload_n 0, 1) := by decide +kernel
theorem dX0_keepsRising_21 : decode cX0_keepsRising 21 = .ok (.getfield 15, 3) := by decide +kernel
theorem dX0_keepsRising_24 : decode cX0_keepsRising 24 = .ok (.iload_n 3, 1) := by decide +kernel
theorem dX0_keepsRising_25 : decode cX0_keepsRising 25 = .ok (.iaload, 1) := by decide +kernel
theorem dX0_keepsRising_26 : decode cX0_keepsRising 26 = .ok (.iload_n 2, 1) := by decide +kernel
theorem dX0_keepsRising_27 : decode cX0_keepsRising 27 = .ok (.if_icmp .le 5, 3) := by decide +kernel
theorem dX0_keepsRising_30 : decode cX0_keepsRising 30 = .ok (.iconst 0, 1) := by decide +kernel
theorem dX0_keepsRising_31 : decode cX0_keepsRising 31 = .ok (.ireturn, 1) := by decide +kernel
theorem dX0_keepsRising_32 : decode cX0_keepsRising 32 = .ok (.aload_n 0, 1) := by decide +kernel
theorem dX0_keepsRising_33 : decode cX0_keepsRising 33 = .ok (.getfield 9, 3) := by decide +kernel
theorem dX0_keepsRising_36 : decode cX0_keepsRising 36 = .ok (.iload_n 3, 1) := by decide +kernel
theorem dX0_keepsRising_37 : decode cX0_keepsRising 37 = .ok (.iaload, 1) := by decide +kernel
theorem dX0_keepsRising_38 : decode cX0_keepsRising 38 = .ok (.iload_n 1, 1) := by decide +kernel
theorem dX0_keepsRising_39 : decode cX0_keepsRising 39 = .ok (.if_icmp .le 15, 3) := by decide +kernel
theorem dX0_keepsRising_42 : decode cX0_keepsRising 42 = .ok (.aload_n 0, 1) := by decide +kernel
theorem dX0_keepsRising_43 : decode cX0_keepsRising 43 = .ok (.getfield 15, 3) := by decide +kernel
theorem dX0_keepsRising_46 : decode cX0_keepsRising 46 = .ok (.iload_n 3, 1) := by decide +kernel
theorem dX0_keepsRising_47 : decode cX0_keepsRising 47 = .ok (.iaload, 1) := by decide +kernel
theorem dX0_keepsRising_48 : decode cX0_keepsRising 48 = .ok (.iload_n 2, 1) := by decide +kernel
theorem dX0_keepsRising_49 : decode cX0_keepsRising 49 = .ok (.if_icmp .ge 5, 3) := by decide +kernel
theorem dX0_keepsRising_52 : decode cX0_keepsRising 52 = .ok (.iconst 0, 1) := by decide +kernel
theorem dX0_keepsRising_53 : decode cX0_keepsRising 53 = .ok (.ireturn, 1) := by decide +kernel
theorem dX0_keepsRising_54 : decode cX0_keepsRising 54 = .ok (.iinc 3 1, 3) := by decide +kernel
theorem dX0_keepsRising_57 : decode cX0_keepsRising 57 = .ok (.goto (-55), 3) := by decide +kernel
theorem dX0_keepsRising_60 : decode cX0_keepsRising 60 = .ok (.iconst 1, 1) := by decide +kernel
theorem dX0_keepsRising_61 : decode cX0_keepsRising 61 = .ok (.ireturn, 1) := by decide +kernel
theorem dX0_put_0 : decode cX0_put 0 = .ok (.aload_n 0, 1) := by decide +kernel
theorem dX0_put_1 : decode cX0_put 1 = .ok (.iload_n 1, 1) := by decide +kernel
theorem dX0_put_2 : decode cX0_put 2 = .ok (.invokevirtual 22, 3) := by decide +kernel
theorem dX0_put_5 : decode cX0_put 5 = .ok (.istore_n 3, 1) := by decide +kernel
theorem dX0_put_6 : decode cX0_put 6 = .ok (.iload_n 3, 1) := by decide +kernel
theorem dX0_put_7 : decode cX0_put 7 = .ok (.iconst (-1), 1) := by decide +kernel
theorem dX0_put_8 : decode cX0_put 8 = .ok (.if_icmp .ne 9, 3) := by decide +kernel
theorem dX0_put_11 : decode cX0_put 11 = .ok (.aload_n 0, 1) := by decide +kernel
theorem dX0_put_12 : decode cX0_put 12 = .ok (.iload_n 1, 1) := by decide +kernel
theorem dX0_put_13 : decode cX0_put 13 = .ok (.invokevirtual 26, 3) := by decide +kernel
theorem dX0_put_16 : decode cX0_put 16 = .ok (.istore_n 3, 1) := by decide +kernel
theorem dX0_put_17 : decode cX0_put 17 = .ok (.iload_n 3, 1) := by decide +kernel
theorem dX0_put_18 : decode cX0_put 18 = .ok (.bipush 8, 2) := by decide +kernel
theorem dX0_put_20 : decode cX0_put 20 = .ok (.if_icmp .ge 17, 3) := by decide +kernel
theorem dX0_put_23 : decode cX0_put 23 = .ok (.aload_n 0, 1) := by decide +kernel
theorem dX0_put_24 : decode cX0_put 24 = .ok (.getfield 9, 3) := by decide +kernel
theorem dX0_put_27 : decode cX0_put 27 = .ok (.iload_n 3, 1) := by decide +kernel
theorem dX0_put_28 : decode cX0_put 28 = .ok (.iload_n 1, 1) := by decide +kernel
theorem dX0_put_29 : decode cX0_put 29 = .ok (.iastore, 1) := by decide +kernel
theorem dX0_put_30 : decode cX0_put 30 = .ok (.aload_n 0, 1) := by decide +kernel
theorem dX0_put_31 : decode cX0_put 31 = .ok (.getfield 15, 3) := by decide +kernel
theorem dX0_put_34 : decode cX0_put 34 = .ok (.iload_n 3, 1) := by decide +kernel
theorem dX0_put_35 : decode cX0_put 35 = .ok (.iload_n 2, 1) := by decide +kernel
theorem dX0_put_36 : decode cX0_put 36 = .ok (.iastore, 1) := by decide +kernel
theorem dX0_put_37 : decode cX0_put 37 = .ok (.return_, 1) := by decide +kernel
theorem dX0_openGap_0 : decode cX0_openGap 0 = .ok (.aload_n 0, 1) := by decide +kernel
theorem dX0_openGap_1 : decode cX0_openGap 1 = .ok (.getfield 18, 3) := by decide +kernel
theorem dX0_openGap_4 : decode cX0_openGap 4 = .ok (.bipush 8, 2) := by decide +kernel
theorem dX0_openGap_6 : decode cX0_openGap 6 = .ok (.if_icmp .lt 6, 3) := by decide +kernel
theorem dX0_openGap_9 : decode cX0_openGap 9 = .ok (.bipush 8, 2) := by decide +kernel
theorem dX0_openGap_11 : decode cX0_openGap 11 = .ok (.ireturn, 1) := by decide +kernel
theorem dX0_openGap_12 : decode cX0_openGap 12 = .ok (.aload_n 0, 1) := by decide +kernel
theorem dX0_openGap_13 : decode cX0_openGap 13 = .ok (.getfield 18, 3) := by decide +kernel
theorem dX0_openGap_16 : decode cX0_openGap 16 = .ok (.istore_n 2, 1) := by decide +kernel
theorem dX0_openGap_17 : decode cX0_openGap 17 = .ok (.iload_n 2, 1) := by decide +kernel
theorem dX0_openGap_18 : decode cX0_openGap 18 = .ok (.ifCond .le 49, 3) := by decide +kernel
theorem dX0_openGap_21 : decode cX0_openGap 21 = .ok (.aload_n 0, 1) := by decide +kernel
theorem dX0_openGap_22 : decode cX0_openGap 22 = .ok (.getfield 9, 3) := by decide +kernel
theorem dX0_openGap_25 : decode cX0_openGap 25 = .ok (.iload_n 2, 1) := by decide +kernel
theorem dX0_openGap_26 : decode cX0_openGap 26 = .ok (.iconst 1, 1) := by decide +kernel
theorem dX0_openGap_27 : decode cX0_openGap 27 = .ok (.isub, 1) := by decide +kernel
theorem dX0_openGap_28 : decode cX0_openGap 28 = .ok (.iaload, 1) := by decide +kernel
theorem dX0_openGap_29 : decode cX0_openGap 29 = .ok (.iload_n 1, 1) := by decide +kernel
theorem dX0_openGap_30 : decode cX0_openGap 30 = .ok (.if_icmp .le 37, 3) := by decide +kernel
theorem dX0_openGap_33 : decode cX0_openGap 33 = .ok (.aload_n 0, 1) := by decide +kernel
theorem dX0_openGap_34 : decode cX0_openGap 34 = .ok (.getfield 9, 3) := by decide +kernel
theorem dX0_openGap_37 : decode cX0_openGap 37 = .ok (.iload_n 2, 1) := by decide +kernel
theorem dX0_openGap_38 : decode cX0_openGap 38 = .ok (.aload_n 0, 1) := by decide +kernel
theorem dX0_openGap_39 : decode cX0_openGap 39 = .ok (.getfield 9, 3) := by decide +kernel
theorem dX0_openGap_42 : decode cX0_openGap 42 = .ok (.iload_n 2, 1) := by decide +kernel
theorem dX0_openGap_43 : decode cX0_openGap 43 = .ok (.iconst 1, 1) := by decide +kernel
theorem dX0_openGap_44 : decode cX0_openGap 44 = .ok (.isub, 1) := by decide +kernel
theorem dX0_openGap_45 : decode cX0_openGap 45 = .ok (.iaload, 1) := by decide +kernel
theorem dX0_openGap_46 : decode cX0_openGap 46 = .ok (.iastore, 1) := by decide +kernel
theorem dX0_openGap_47 : decode cX0_openGap 47 = .ok (.aload_n 0, 1) := by decide +kernel
theorem dX0_openGap_48 : decode cX0_openGap 48 = .ok (.getfield 15, 3) := by decide +kernel
theorem dX0_openGap_51 : decode cX0_openGap 51 = .ok (.iload_n 2, 1) := by decide +kernel
theorem dX0_openGap_52 : decode cX0_openGap 52 = .ok (.aload_n 0, 1) := by decide +kernel
theorem dX0_openGap_53 : decode cX0_openGap 53 = .ok (.getfield 15, 3) := by decide +kernel
theorem dX0_openGap_56 : decode cX0_openGap 56 = .ok (.iload_n 2, 1) := by decide +kernel
theorem dX0_openGap_57 : decode cX0_openGap 57 = .ok (.iconst 1, 1) := by decide +kernel
theorem dX0_openGap_58 : decode cX0_openGap 58 = .ok (.isub, 1) := by decide +kernel
theorem dX0_openGap_59 : decode cX0_openGap 59 = .ok (.iaload, 1) := by decide +kernel
theorem dX0_openGap_60 : decode cX0_openGap 60 = .ok (.iastore, 1) := by decide +kernel
theorem dX0_openGap_61 : decode cX0_openGap 61 = .ok (.iinc 2 (-1), 3) := by decide +kernel
theorem dX0_openGap_64 : decode cX0_openGap 64 = .ok (.goto (-47), 3) := by decide +kernel
theorem dX0_openGap_67 : decode cX0_openGap 67 = .ok (.aload_n 0, 1) := by decide +kernel
theorem dX0_openGap_68 : decode cX0_openGap 68 = .ok (.dup, 1) := by decide +kernel
theorem dX0_openGap_69 : decode cX0_openGap 69 = .ok (.getfield 18, 3) := by decide +kernel
theorem dX0_openGap_72 : decode cX0_openGap 72 = .ok (.iconst 1, 1) := by decide +kernel
theorem dX0_openGap_73 : decode cX0_openGap 73 = .ok (.iadd, 1) := by decide +kernel
theorem dX0_openGap_74 : decode cX0_openGap 74 = .ok (.putfield 18, 3) := by decide +kernel
theorem dX0_openGap_77 : decode cX0_openGap 77 = .ok (.iload_n 2, 1) := by decide +kernel
theorem dX0_openGap_78 : decode cX0_openGap 78 = .ok (.ireturn, 1) := by decide +kernel
theorem dX0_drop_0 : decode cX0_drop 0 = .ok (.aload_n 0, 1) := by decide +kernel
theorem dX0_drop_1 : decode cX0_drop 1 = .ok (.getfield 15, 3) := by decide +kernel
theorem dX0_drop_4 : decode cX0_drop 4 = .ok (.iload_n 1, 1) := by decide +kernel
theorem dX0_drop_5 : decode cX0_drop 5 = .ok (.iaload, 1) := by decide +kernel
theorem dX0_drop_6 : decode cX0_drop 6 = .ok (.istore_n 2, 1) := by decide +kernel
theorem dX0_drop_7 : decode cX0_drop 7 = .ok (.iload_n 1, 1) := by decide +kernel
theorem dX0_drop_8 : decode cX0_drop 8 = .ok (.iconst 1, 1) := by decide +kernel
theorem dX0_drop_9 : decode cX0_drop 9 = .ok (.iadd, 1) := by decide +kernel
theorem dX0_drop_10 : decode cX0_drop 10 = .ok (.istore_n 3, 1) := by decide +kernel
theorem dX0_drop_11 : decode cX0_drop 11 = .ok (.iload_n 3, 1) := by decide +kernel
theorem dX0_drop_12 : decode cX0_drop 12 = .ok (.aload_n 0, 1) := by decide +kernel
theorem dX0_drop_13 : decode cX0_drop 13 = .ok (.getfield 18, 3) := by decide +kernel
theorem dX0_drop_16 : decode cX0_drop 16 = .ok (.if_icmp .ge 37, 3) := by decide +kernel
theorem dX0_drop_19 : decode cX0_drop 19 = .ok (.aload_n 0, 1) := by decide +kernel
theorem dX0_drop_20 : decode cX0_drop 20 = .ok (.getfield 9, 3) := by decide +kernel
theorem dX0_drop_23 : decode cX0_drop 23 = .ok (.iload_n 3, 1) := by decide +kernel
theorem dX0_drop_24 : decode cX0_drop 24 = .ok (.iconst 1, 1) := by decide +kernel
theorem dX0_drop_25 : decode cX0_drop 25 = .ok (.isub, 1) := by decide +kernel
theorem dX0_drop_26 : decode cX0_drop 26 = .ok (.aload_n 0, 1) := by decide +kernel
theorem dX0_drop_27 : decode cX0_drop 27 = .ok (.getfield 9, 3) := by decide +kernel
theorem dX0_drop_30 : decode cX0_drop 30 = .ok (.iload_n 3, 1) := by decide +kernel
theorem dX0_drop_31 : decode cX0_drop 31 = .ok (.iaload, 1) := by decide +kernel
theorem dX0_drop_32 : decode cX0_drop 32 = .ok (.iastore, 1) := by decide +kernel
theorem dX0_drop_33 : decode cX0_drop 33 = .ok (.aload_n 0, 1) := by decide +kernel
theorem dX0_drop_34 : decode cX0_drop 34 = .ok (.getfield 15, 3) := by decide +kernel
theorem dX0_drop_37 : decode cX0_drop 37 = .ok (.iload_n 3, 1) := by decide +kernel
theorem dX0_drop_38 : decode cX0_drop 38 = .ok (.iconst 1, 1) := by decide +kernel
theorem dX0_drop_39 : decode cX0_drop 39 = .ok (.isub, 1) := by decide +kernel
theorem dX0_drop_40 : decode cX0_drop 40 = .ok (.aload_n 0, 1) := by decide +kernel
theorem dX0_drop_41 : decode cX0_drop 41 = .ok (.getfield 15, 3) := by decide +kernel
theorem dX0_drop_44 : decode cX0_drop 44 = .ok (.iload_n 3, 1) := by decide +kernel
theorem dX0_drop_45 : decode cX0_drop 45 = .ok (.iaload, 1) := by decide +kernel
theorem dX0_drop_46 : decode cX0_drop 46 = .ok (.iastore, 1) := by decide +kernel
theorem dX0_drop_47 : decode cX0_drop 47 = .ok (.iinc 3 1, 3) := by decide +kernel
theorem dX0_drop_50 : decode cX0_drop 50 = .ok (.goto (-39), 3) := by decide +kernel
theorem dX0_drop_53 : decode cX0_drop 53 = .ok (.aload_n 0, 1) := by decide +kernel
theorem dX0_drop_54 : decode cX0_drop 54 = .ok (.dup, 1) := by decide +kernel
theorem dX0_drop_55 : decode cX0_drop 55 = .ok (.getfield 18, 3) := by decide +kernel
theorem dX0_drop_58 : decode cX0_drop 58 = .ok (.iconst 1, 1) := by decide +kernel
theorem dX0_drop_59 : decode cX0_drop 59 = .ok (.isub, 1) := by decide +kernel
theorem dX0_drop_60 : decode cX0_drop 60 = .ok (.putfield 18, 3) := by decide +kernel
theorem dX0_drop_63 : decode cX0_drop 63 = .ok (.iload_n 2, 1) := by decide +kernel
theorem dX0_drop_64 : decode cX0_drop 64 = .ok (.ireturn, 1) := by decide +kernel
theorem dX0_valueAt_0 : decode cX0_valueAt 0 = .ok (.iconst 1, 1) := by decide +kernel
theorem dX0_valueAt_1 : decode cX0_valueAt 1 = .ok (.istore_n 2, 1) := by decide +kernel
theorem dX0_valueAt_2 : decode cX0_valueAt 2 = .ok (.iload_n 2, 1) := by decide +kernel
theorem dX0_valueAt_3 : decode cX0_valueAt 3 = .ok (.aload_n 0, 1) := by decide +kernel
theorem dX0_valueAt_4 : decode cX0_valueAt 4 = .ok (.getfield 18, 3) := by decide +kernel
theorem dX0_valueAt_7 : decode cX0_valueAt 7 = .ok (.if_icmp .ge 26, 3) := by decide +kernel
theorem dX0_valueAt_10 : decode cX0_valueAt 10 = .ok (.iload_n 1, 1) := by decide +kernel
theorem dX0_valueAt_11 : decode cX0_valueAt 11 = .ok (.aload_n 0, 1) := by decide +kernel
theorem dX0_valueAt_12 : decode cX0_valueAt 12 = .ok (.getfield 9, 3) := by decide +kernel
theorem dX0_valueAt_15 : decode cX0_valueAt 15 = .ok (.iload_n 2, 1) := by decide +kernel
theorem dX0_valueAt_16 : decode cX0_valueAt 16 = .ok (.iaload, 1) := by decide +kernel
theorem dX0_valueAt_17 : decode cX0_valueAt 17 = .ok (.if_icmp .gt 10, 3) := by decide +kernel
theorem dX0_valueAt_20 : decode cX0_valueAt 20 = .ok (.aload_n 0, 1) := by decide +kernel
theorem dX0_valueAt_21 : decode cX0_valueAt 21 = .ok (.iload_n 2, 1) := by decide +kernel
theorem dX0_valueAt_22 : decode cX0_valueAt 22 = .ok (.iload_n 1, 1) := by decide +kernel
theorem dX0_valueAt_23 : decode cX0_valueAt 23 = .ok (.invokevirtual 29, 3) := by decide +kernel
theorem dX0_valueAt_26 : decode cX0_valueAt 26 = .ok (.ireturn, 1) := by decide +kernel
theorem dX0_valueAt_27 : decode cX0_valueAt 27 = .ok (.iinc 2 1, 3) := by decide +kernel
theorem dX0_valueAt_30 : decode cX0_valueAt 30 = .ok (.goto (-28), 3) := by decide +kernel
theorem dX0_valueAt_33 : decode cX0_valueAt 33 = .ok (.aload_n 0, 1) := by decide +kernel
theorem dX0_valueAt_34 : decode cX0_valueAt 34 = .ok (.getfield 15, 3) := by decide +kernel
theorem dX0_valueAt_37 : decode cX0_valueAt 37 = .ok (.aload_n 0, 1) := by decide +kernel
theorem dX0_valueAt_38 : decode cX0_valueAt 38 = .ok (.getfield 18, 3) := by decide +kernel
theorem dX0_valueAt_41 : decode cX0_valueAt 41 = .ok (.iconst 1, 1) := by decide +kernel
theorem dX0_valueAt_42 : decode cX0_valueAt 42 = .ok (.isub, 1) := by decide +kernel
theorem dX0_valueAt_43 : decode cX0_valueAt 43 = .ok (.iaload, 1) := by decide +kernel
theorem dX0_valueAt_44 : decode cX0_valueAt 44 = .ok (.ireturn, 1) := by decide +kernel
theorem dX0_between_0 : decode cX0_between 0 = .ok (.aload_n 0, 1) := by decide +kernel
theorem dX0_between_1 : decode cX0_between 1 = .ok (.getfield 15, 3) := by decide +kernel
theorem dX0_between_4 : decode cX0_between 4 = .ok (.iload_n 1, 1) := by decide +kernel
theorem dX0_between_5 : decode cX0_between 5 = .ok (.iconst 1, 1) := by decide +kernel
theorem dX0_between_6 : decode cX0_between 6 = .ok (.isub, 1) := by decide +kernel
theorem dX0_between_7 : decode cX0_between 7 = .ok (.iaload, 1) := by decide +kernel
theorem dX0_between_8 : decode cX0_between 8 = .ok (.istore_n 3, 1) := by decide +kernel
theorem dX0_between_9 : decode cX0_between 9 = .ok (.aload_n 0, 1) := by decide +kernel
theorem dX0_between_10 : decode cX0_between 10 = .ok (.getfield 9, 3) := by decide +kernel
theorem dX0_between_13 : decode cX0_between 13 = .ok (.iload_n 1, 1) := by decide +kernel
theorem dX0_between_14 : decode cX0_between 14 = .ok (.iaload, 1) := by decide +kernel
theorem dX0_between_15 : decode cX0_between 15 = .ok (.aload_n 0, 1) := by decide +kernel
theorem dX0_between_16 : decode cX0_between 16 = .ok (.getfield 9, 3) := by decide +kernel
theorem dX0_between_19 : decode cX0_between 19 = .ok (.iload_n 1, 1) := by decide +kernel
theorem dX0_between_20 : decode cX0_between 20 = .ok (.iconst 1, 1) := by decide +kernel
theorem dX0_between_21 : decode cX0_between 21 = .ok (.isub, 1) := by decide +kernel
theorem dX0_between_22 : decode cX0_between 22 = .ok (.iaload, 1) := by decide +kernel
theorem dX0_between_23 : decode cX0_between 23 = .ok (.isub, 1) := by decide +kernel
theorem dX0_between_24 : decode cX0_between 24 = .ok (.istore 4, 2) := by decide +kernel
theorem dX0_between_26 : decode cX0_between 26 = .ok (.iload 4, 2) := by decide +kernel
theorem dX0_between_28 : decode cX0_between 28 = .ok (.ifCond .gt 5, 3) := by decide +kernel
theorem dX0_between_31 : decode cX0_between 31 = .ok (.iload_n 3, 1) := by decide +kernel
theorem dX0_between_32 : decode cX0_between 32 = .ok (.ireturn, 1) := by decide +kernel
theorem dX0_between_33 : decode cX0_between 33 = .ok (.iload_n 3, 1) := by decide +kernel
theorem dX0_between_34 : decode cX0_between 34 = .ok (.aload_n 0, 1) := by decide +kernel
theorem dX0_between_35 : decode cX0_between 35 = .ok (.getfield 15, 3) := by decide +kernel
theorem dX0_between_38 : decode cX0_between 38 = .ok (.iload_n 1, 1) := by decide +kernel
theorem dX0_between_39 : decode cX0_between 39 = .ok (.iaload, 1) := by decide +kernel
theorem dX0_between_40 : decode cX0_between 40 = .ok (.iload_n 3, 1) := by decide +kernel
theorem dX0_between_41 : decode cX0_between 41 = .ok (.isub, 1) := by decide +kernel
theorem dX0_between_42 : decode cX0_between 42 = .ok (.iload_n 2, 1) := by decide +kernel
theorem dX0_between_43 : decode cX0_between 43 = .ok (.aload_n 0, 1) := by decide +kernel
theorem dX0_between_44 : decode cX0_between 44 = .ok (.getfield 9, 3) := by decide +kernel
theorem dX0_between_47 : decode cX0_between 47 = .ok (.iload_n 1, 1) := by decide +kernel
theorem dX0_between_48 : decode cX0_between 48 = .ok (.iconst 1, 1) := by decide +kernel
theorem dX0_between_49 : decode cX0_between 49 = .ok (.isub, 1) := by decide +kernel
theorem dX0_between_50 : decode cX0_between 50 = .ok (.iaload, 1) := by decide +kernel
theorem dX0_between_51 : decode cX0_between 51 = .ok (.isub, 1) := by decide +kernel
theorem dX0_between_52 : decode cX0_between 52 = .ok (.imul, 1) := by decide +kernel
theorem dX0_between_53 : decode cX0_between 53 = .ok (.iload 4, 2) := by decide +kernel
theorem dX0_between_55 : decode cX0_between 55 = .ok (.idiv, 1) := by decide +kernel
theorem dX0_between_56 : decode cX0_between 56 = .ok (.iadd, 1) := by decide +kernel
theorem dX0_between_57 : decode cX0_between 57 = .ok (.ireturn, 1) := by decide +kernel
theorem dX0_straighten_0 : decode cX0_straighten 0 = .ok (.aload_n 0, 1) := by decide +kernel
theorem dX0_straighten_1 : decode cX0_straighten 1 = .ok (.bipush 85, 2) := by decide +kernel
theorem dX0_straighten_3 : decode cX0_straighten 3 = .ok (.invokevirtual 33, 3) := by decide +kernel
theorem dX0_straighten_6 : decode cX0_straighten 6 = .ok (.istore_n 1, 1) := by decide +kernel
theorem dX0_straighten_7 : decode cX0_straighten 7 = .ok (.aload_n 0, 1) := by decide +kernel
theorem dX0_straighten_8 : decode cX0_straighten 8 = .ok (.sipush 170, 3) := by decide +kernel
theorem dX0_straighten_11 : decode cX0_straighten 11 = .ok (.invokevirtual 33, 3) := by decide +kernel
theorem dX0_straighten_14 : decode cX0_straighten 14 = .ok (.istore_n 2, 1) := by decide +kernel
theorem dX0_straighten_15 : decode cX0_straighten 15 = .ok (.aload_n 0, 1) := by decide +kernel
theorem dX0_straighten_16 : decode cX0_straighten 16 = .ok (.sipush 255, 3) := by decide +kernel
theorem dX0_straighten_19 : decode cX0_straighten 19 = .ok (.invokevirtual 33, 3) := by decide +kernel
theorem dX0_straighten_22 : decode cX0_straighten 22 = .ok (.istore_n 3, 1) := by decide +kernel
theorem dX0_straighten_23 : decode cX0_straighten 23 = .ok (.aload_n 0, 1) := by decide +kernel
theorem dX0_straighten_24 : decode cX0_straighten 24 = .ok (.getfield 9, 3) := by decide +kernel
theorem dX0_straighten_27 : decode cX0_straighten 27 = .ok (.iconst 1, 1) := by decide +kernel
theorem dX0_straighten_28 : decode cX0_straighten 28 = .ok (.bipush 85, 2) := by decide +kernel
theorem dX0_straighten_30 : decode cX0_straighten 30 = .ok (.iastore, 1) := by decide +kernel
theorem dX0_straighten_31 : decode cX0_straighten 31 = .ok (.aload_n 0, 1) := by decide +kernel
theorem dX0_straighten_32 : decode cX0_straighten 32 = .ok (.getfield 15, 3) := by decide +kernel
theorem dX0_straighten_35 : decode cX0_straighten 35 = .ok (.iconst 1, 1) := by decide +kernel
theorem dX0_straighten_36 : decode cX0_straighten 36 = .ok (.iload_n 1, 1) := by decide +kernel
theorem dX0_straighten_37 : decode cX0_straighten 37 = .ok (.iastore, 1) := by decide +kernel
theorem dX0_straighten_38 : decode cX0_straighten 38 = .ok (.aload_n 0, 1) := by decide +kernel
theorem dX0_straighten_39 : decode cX0_straighten 39 = .ok (.getfield 9, 3) := by decide +kernel
theorem dX0_straighten_42 : decode cX0_straighten 42 = .ok (.iconst 2, 1) := by decide +kernel
theorem dX0_straighten_43 : decode cX0_straighten 43 = .ok (.sipush 170, 3) := by decide +kernel
theorem dX0_straighten_46 : decode cX0_straighten 46 = .ok (.iastore, 1) := by decide +kernel
theorem dX0_straighten_47 : decode cX0_straighten 47 = .ok (.aload_n 0, 1) := by decide +kernel
theorem dX0_straighten_48 : decode cX0_straighten 48 = .ok (.getfield 15, 3) := by decide +kernel
theorem dX0_straighten_51 : decode cX0_straighten 51 = .ok (.iconst 2, 1) := by decide +kernel
theorem dX0_straighten_52 : decode cX0_straighten 52 = .ok (.iload_n 2, 1) := by decide +kernel
theorem dX0_straighten_53 : decode cX0_straighten 53 = .ok (.iastore, 1) := by decide +kernel
theorem dX0_straighten_54 : decode cX0_straighten 54 = .ok (.aload_n 0, 1) := by decide +kernel
theorem dX0_straighten_55 : decode cX0_straighten 55 = .ok (.getfield 9, 3) := by decide +kernel
theorem dX0_straighten_58 : decode cX0_straighten 58 = .ok (.iconst 3, 1) := by decide +kernel
theorem dX0_straighten_59 : decode cX0_straighten 59 = .ok (.sipush 255, 3) := by decide +kernel
theorem dX0_straighten_62 : decode cX0_straighten 62 = .ok (.iastore, 1) := by decide +kernel
theorem dX0_straighten_63 : decode cX0_straighten 63 = .ok (.aload_n 0, 1) := by decide +kernel
theorem dX0_straighten_64 : decode cX0_straighten 64 = .ok (.getfield 15, 3) := by decide +kernel
theorem dX0_straighten_67 : decode cX0_straighten 67 = .ok (.iconst 3, 1) := by decide +kernel
theorem dX0_straighten_68 : decode cX0_straighten 68 = .ok (.iload_n 3, 1) := by decide +kernel
theorem dX0_straighten_69 : decode cX0_straighten 69 = .ok (.iastore, 1) := by decide +kernel
theorem dX0_straighten_70 : decode cX0_straighten 70 = .ok (.aload_n 0, 1) := by decide +kernel
theorem dX0_straighten_71 : decode cX0_straighten 71 = .ok (.iconst 4, 1) := by decide +kernel
theorem dX0_straighten_72 : decode cX0_straighten 72 = .ok (.putfield 18, 3) := by decide +kernel
theorem dX0_straighten_75 : decode cX0_straighten 75 = .ok (.return_, 1) := by decide +kernel
theorem dX1_init_0 : decode cX1_init 0 = .ok (.aload_n 0, 1) := by decide +kernel
theorem dX1_init_1 : decode cX1_init 1 = .ok (.invokespecial 3, 3) := by decide +kernel
theorem dX1_init_4 : decode cX1_init 4 = .ok (.aload_n 0, 1) := by decide +kernel
theorem dX1_init_5 : decode cX1_init 5 = .ok (.sipush 144, 3) := by decide +kernel
theorem dX1_init_8 : decode cX1_init 8 = .ok (.bipush 9, 2) := by decide +kernel
theorem dX1_init_10 : decode cX1_init 10 = .ok (.multianewarray 9 2, 4) := by decide +kernel
theorem dX1_init_14 : decode cX1_init 14 = .ok (.putfield 11, 3) := by decide +kernel
theorem dX1_init_17 : decode cX1_init 17 = .ok (.aload_n 0, 1) := by decide +kernel
theorem dX1_init_18 : decode cX1_init 18 = .ok (.iconst 0, 1) := by decide +kernel
theorem dX1_init_19 : decode cX1_init 19 = .ok (.putfield 16, 3) := by decide +kernel
theorem dX1_init_22 : decode cX1_init 22 = .ok (.return_, 1) := by decide +kernel
theorem dX1_add_0 : decode cX1_add 0 = .ok (.iconst 0, 1) := by decide +kernel
theorem dX1_add_1 : decode cX1_add 1 = .ok (.istore_n 2, 1) := by decide +kernel
theorem dX1_add_2 : decode cX1_add 2 = .ok (.iload_n 2, 1) := by decide +kernel
theorem dX1_add_3 : decode cX1_add 3 = .ok (.aload_n 0, 1) := by decide +kernel
theorem dX1_add_4 : decode cX1_add 4 = .ok (.getfield 16, 3) := by decide +kernel
theorem dX1_add_7 : decode cX1_add 7 = .ok (.if_icmp .ge 36, 3) := by decide +kernel
theorem dX1_add_10 : decode cX1_add 10 = .ok (.aload_n 1, 1) := by decide +kernel
theorem dX1_add_11 : decode cX1_add 11 = .ok (.aload_n 0, 1) := by decide +kernel
theorem dX1_add_12 : decode cX1_add 12 = .ok (.getfield 11, 3) := by decide +kernel
theorem dX1_add_15 : decode cX1_add 15 = .ok (.iload_n 2, 1) := by decide +kernel
theorem dX1_add_16 : decode cX1_add 16 = .ok (.aaload, 1) := by decide +kernel
theorem dX1_add_17 : decode cX1_add 17 = .ok (.invokestatic 20, 3) := by decide +kernel
theorem dX1_add_20 : decode cX1_add 20 = .ok (.ifCond .eq 17, 3) := by decide +kernel
theorem dX1_add_23 : decode cX1_add 23 = .ok (.aload_n 0, 1) := by decide +kernel
theorem dX1_add_24 : decode cX1_add 24 = .ok (.getfield 11, 3) := by decide +kernel
theorem dX1_add_27 : decode cX1_add 27 = .ok (.iload_n 2, 1) := by decide +kernel
theorem dX1_add_28 : decode cX1_add 28 = .ok (.aaload, 1) := by decide +kernel
theorem dX1_add_29 : decode cX1_add 29 = .ok (.bipush 8, 2) := by decide +kernel
theorem dX1_add_31 : decode cX1_add 31 = .ok (.dup2, 1) := by decide +kernel
theorem dX1_add_32 : decode cX1_add 32 = .ok (.iaload, 1) := by decide +kernel
theorem dX1_add_33 : decode cX1_add 33 = .ok (.iconst 1, 1) := by decide +kernel
theorem dX1_add_34 : decode cX1_add 34 = .ok (.iadd, 1) := by decide +kernel
theorem dX1_add_35 : decode cX1_add 35 = .ok (.iastore, 1) := by decide +kernel
theorem dX1_add_36 : decode cX1_add 36 = .ok (.return_, 1) := by decide +kernel
theorem dX1_add_37 : decode cX1_add 37 = .ok (.iinc 2 1, 3) := by decide +kernel
theorem dX1_add_40 : decode cX1_add 40 = .ok (.goto (-38), 3) := by decide +kernel
theorem dX1_add_43 : decode cX1_add 43 = .ok (.aload_n 0, 1) := by decide +kernel
theorem dX1_add_44 : decode cX1_add 44 = .ok (.getfield 16, 3) := by decide +kernel
theorem dX1_add_47 : decode cX1_add 47 = .ok (.sipush 144, 3) := by decide +kernel
theorem dX1_add_50 : decode cX1_add 50 = .ok (.if_icmp .ge 56, 3) := by decide +kernel
theorem dX1_add_53 : decode cX1_add 53 = .ok (.aload_n 0, 1) := by decide +kernel
theorem dX1_add_54 : decode cX1_add 54 = .ok (.getfield 11, 3) := by decide +kernel
theorem dX1_add_57 : decode cX1_add 57 = .ok (.aload_n 0, 1) := by decide +kernel
theorem dX1_add_58 : decode cX1_add 58 = .ok (.getfield 16, 3) := by decide +kernel
theorem dX1_add_61 : decode cX1_add 61 = .ok (.aaload, 1) := by decide +kernel
theorem dX1_add_62 : decode cX1_add 62 = .ok (.astore_n 2, 1) := by decide +kernel
theorem dX1_add_63 : decode cX1_add 63 = .ok (.iconst 0, 1) := by decide +kernel
theorem dX1_add_64 : decode cX1_add 64 = .ok (.istore_n 3, 1) := by decide +kernel
theorem dX1_add_65 : decode cX1_add 65 = .ok (.iload_n 3, 1) := by decide +kernel
theorem dX1_add_66 : decode cX1_add 66 = .ok (.bipush 7, 2) := by decide +kernel
theorem dX1_add_68 : decode cX1_add 68 = .ok (.if_icmp .ge 15, 3) := by decide +kernel
theorem dX1_add_71 : decode cX1_add 71 = .ok (.aload_n 2, 1) := by decide +kernel
theorem dX1_add_72 : decode cX1_add 72 = .ok (.iload_n 3, 1) := by decide +kernel
theorem dX1_add_73 : decode cX1_add 73 = .ok (.aload_n 1, 1) := by decide +kernel
theorem dX1_add_74 : decode cX1_add 74 = .ok (.iload_n 3, 1) := by decide +kernel
theorem dX1_add_75 : decode cX1_add 75 = .ok (.iaload, 1) := by decide +kernel
theorem dX1_add_76 : decode cX1_add 76 = .ok (.iastore, 1) := by decide +kernel
theorem dX1_add_77 : decode cX1_add 77 = .ok (.iinc 3 1, 3) := by decide +kernel
theorem dX1_add_80 : decode cX1_add 80 = .ok (.goto (-15), 3) := by decide +kernel
theorem dX1_add_83 : decode cX1_add 83 = .ok (.aload_n 2, 1) := by decide +kernel
theorem dX1_add_84 : decode cX1_add 84 = .ok (.bipush 7, 2) := by decide +kernel
theorem dX1_add_86 : decode cX1_add 86 = .ok (.aload_n 1, 1) := by decide +kernel
theorem dX1_add_87 : decode cX1_add 87 = .ok (.invokestatic 24, 3) := by decide +kernel
theorem dX1_add_90 : decode cX1_add 90 = .ok (.iastore, 1) := by decide +kernel
theorem dX1_add_91 : decode cX1_add 91 = .ok (.aload_n 2, 1) := by decide +kernel
theorem dX1_add_92 : decode cX1_add 92 = .ok (.bipush 8, 2) := by decide +kernel
theorem dX1_add_94 : decode cX1_add 94 = .ok (.iconst 1, 1) := by decide +kernel
theorem dX1_add_95 : decode cX1_add 95 = .ok (.iastore, 1) := by decide +kernel
theorem dX1_add_96 : decode cX1_add 96 = .ok (.aload_n 0, 1) := by decide +kernel
theorem dX1_add_97 : decode cX1_add 97 = .ok (.dup, 1) := by decide +kernel
theorem dX1_add_98 : decode cX1_add 98 = .ok (.getfield 16, 3) := by decide +kernel
theorem dX1_add_101 : decode cX1_add 101 = .ok (.iconst 1, 1) := by decide +kernel
theorem dX1_add_102 : decode cX1_add 102 = .ok (.iadd, 1) := by decide +kernel
theorem dX1_add_103 : decode cX1_add 103 = .ok (.putfield 16, 3) := by decide +kernel
theorem dX1_add_106 : decode cX1_add 106 = .ok (.return_, 1) := by decide +kernel
theorem dX1_rowAt_0 : decode cX1_rowAt 0 = .ok (.iconst 0, 1) := by decide +kernel
theorem dX1_rowAt_1 : decode cX1_rowAt 1 = .ok (.istore_n 2, 1) := by decide +kernel
theorem dX1_rowAt_2 : decode cX1_rowAt 2 = .ok (.iload_n 2, 1) := by decide +kernel
theorem dX1_rowAt_3 : decode cX1_rowAt 3 = .ok (.aload_n 0, 1) := by decide +kernel
theorem dX1_rowAt_4 : decode cX1_rowAt 4 = .ok (.getfield 16, 3) := by decide +kernel
theorem dX1_rowAt_7 : decode cX1_rowAt 7 = .ok (.if_icmp .ge 20, 3) := by decide +kernel
theorem dX1_rowAt_10 : decode cX1_rowAt 10 = .ok (.aload_n 0, 1) := by decide +kernel
theorem dX1_rowAt_11 : decode cX1_rowAt 11 = .ok (.iload_n 2, 1) := by decide +kernel
theorem dX1_rowAt_12 : decode cX1_rowAt 12 = .ok (.invokevirtual 28, 3) := by decide +kernel
theorem dX1_rowAt_15 : decode cX1_rowAt 15 = .ok (.iload_n 1, 1) := by decide +kernel
theorem dX1_rowAt_16 : decode cX1_rowAt 16 = .ok (.if_icmp .ne 5, 3) := by decide +kernel
theorem dX1_rowAt_19 : decode cX1_rowAt 19 = .ok (.iload_n 2, 1) := by decide +kernel
theorem dX1_rowAt_20 : decode cX1_rowAt 20 = .ok (.ireturn, 1) := by decide +kernel
theorem dX1_rowAt_21 : decode cX1_rowAt 21 = .ok (.iinc 2 1, 3) := by decide +kernel
theorem dX1_rowAt_24 : decode cX1_rowAt 24 = .ok (.goto (-22), 3) := by decide +kernel
theorem dX1_rowAt_27 : decode cX1_rowAt 27 = .ok (.iconst (-1), 1) := by decide +kernel
theorem dX1_rowAt_28 : decode cX1_rowAt 28 = .ok (.ireturn, 1) := by decide +kernel
theorem dX1_valueOf_0 : decode cX1_valueOf 0 = .ok (.aload_n 0, 1) := by decide +kernel
theorem dX1_valueOf_1 : decode cX1_valueOf 1 = .ok (.getfield 11, 3) := by decide +kernel
theorem dX1_valueOf_4 : decode cX1_valueOf 4 = .ok (.iload_n 1, 1) := by decide +kernel
theorem dX1_valueOf_5 : decode cX1_valueOf 5 = .ok (.aaload, 1) := by decide +kernel
theorem dX1_valueOf_6 : decode cX1_valueOf 6 = .ok (.iload_n 2, 1) := by decide +kernel
theorem dX1_valueOf_7 : decode cX1_valueOf 7 = .ok (.iaload, 1) := by decide +kernel
theorem dX1_valueOf_8 : decode cX1_valueOf 8 = .ok (.ireturn, 1) := by decide +kernel
theorem dX1_inksBefore_0 : decode cX1_inksBefore 0 = .ok (.iconst 0, 1) := by decide +kernel
theorem dX1_inksBefore_1 : decode cX1_inksBefore 1 = .ok (.istore_n 2, 1) := by decide +kernel
theorem dX1_inksBefore_2 : decode cX1_inksBefore 2 = .ok (.iconst 0, 1) := by decide +kernel
theorem dX1_inksBefore_3 : decode cX1_inksBefore 3 = .ok (.istore_n 3, 1) := by decide +kernel
theorem dX1_inksBefore_4 : decode cX1_inksBefore 4 = .ok (.iload_n 3, 1) := by decide +kernel
theorem dX1_inksBefore_5 : decode cX1_inksBefore 5 = .ok (.aload_n 0, 1) := by decide +kernel
theorem dX1_inksBefore_6 : decode cX1_inksBefore 6 = .ok (.getfield 16, 3) := by decide +kernel
theorem dX1_inksBefore_9 : decode cX1_inksBefore 9 = .ok (.if_icmp .ge 31, 3) := by decide +kernel
theorem dX1_inksBefore_12 : decode cX1_inksBefore 12 = .ok (.aload_n 0, 1) := by decide +kernel
theorem dX1_inksBefore_13 : decode cX1_inksBefore 13 = .ok (.aload_n 0, 1) := by decide +kernel
theorem dX1_inksBefore_14 : decode cX1_inksBefore 14 = .ok (.getfield 11, 3) := by decide +kernel
theorem dX1_inksBefore_17 : decode cX1_inksBefore 17 = .ok (.iload_n 3, 1) := by decide +kernel
theorem dX1_inksBefore_18 : decode cX1_inksBefore 18 = .ok (.aaload, 1) := by decide +kernel
theorem dX1_inksBefore_19 : decode cX1_inksBefore 19 = .ok (.aload_n 0, 1) := by decide +kernel
theorem dX1_inksBefore_20 : decode cX1_inksBefore 20 = .ok (.getfield 11, 3) := by decide +kernel
theorem dX1_inksBefore_23 : decode cX1_inksBefore 23 = .ok (.iload_n 1, 1) := by decide +kernel
theorem dX1_inksBefore_24 : decode cX1_inksBefore 24 = .ok (.aaload, 1) := by decide +kernel
theorem dX1_inksBefore_25 : decode cX1_inksBefore 25 = .ok (.invokevirtual 32, 3) := by decide +kernel
theorem dX1_inksBefore_28 : decode cX1_inksBefore 28 = .ok (.ifCond .eq 6, 3) := by decide +kernel
theorem dX1_inksBefore_31 : decode cX1_inksBefore 31 = .ok (.iinc 2 1, 3) := by decide +kernel
theorem dX1_inksBefore_34 : decode cX1_inksBefore 34 = .ok (.iinc 3 1, 3) := by decide +kernel
theorem dX1_inksBefore_37 : decode cX1_inksBefore 37 = .ok (.goto (-33), 3) := by decide +kernel
theorem dX1_inksBefore_40 : decode cX1_inksBefore 40 = .ok (.iload_n 2, 1) := by decide +kernel
theorem dX1_inksBefore_41 : decode cX1_inksBefore 41 = .ok (.ireturn, 1) := by decide +kernel
theorem dX1_comesBefore_0 : decode cX1_comesBefore 0 = .ok (.aload_n 1, 1) := by decide +kernel
theorem dX1_comesBefore_1 : decode cX1_comesBefore 1 = .ok (.bipush 8, 2) := by decide +kernel
theorem dX1_comesBefore_3 : decode cX1_comesBefore 3 = .ok (.iaload, 1) := by decide +kernel
theorem dX1_comesBefore_4 : decode cX1_comesBefore 4 = .ok (.aload_n 2, 1) := by decide +kernel
theorem dX1_comesBefore_5 : decode cX1_comesBefore 5 = .ok (.bipush 8, 2) := by decide +kernel
theorem dX1_comesBefore_7 : decode cX1_comesBefore 7 = .ok (.iaload, 1) := by decide +kernel
theorem dX1_comesBefore_8 : decode cX1_comesBefore 8 = .ok (.if_icmp .eq 20, 3) := by decide +kernel
theorem dX1_comesBefore_11 : decode cX1_comesBefore 11 = .ok (.aload_n 1, 1) := by decide +kernel
theorem dX1_comesBefore_12 : decode cX1_comesBefore 12 = .ok (.bipush 8, 2) := by decide +kernel
theorem dX1_comesBefore_14 : decode cX1_comesBefore 14 = .ok (.iaload, 1) := by decide +kernel
theorem dX1_comesBefore_15 : decode cX1_comesBefore 15 = .ok (.aload_n 2, 1) := by decide +kernel
theorem dX1_comesBefore_16 : decode cX1_comesBefore 16 = .ok (.bipush 8, 2) := by decide +kernel
theorem dX1_comesBefore_18 : decode cX1_comesBefore 18 = .ok (.iaload, 1) := by decide +kernel
theorem dX1_comesBefore_19 : decode cX1_comesBefore 19 = .ok (.if_icmp .le 7, 3) := by decide +kernel
theorem dX1_comesBefore_22 : decode cX1_comesBefore 22 = .ok (.iconst 1, 1) := by decide +kernel
theorem dX1_comesBefore_23 : decode cX1_comesBefore 23 = .ok (.goto 4, 3) := by decide +kernel
theorem dX1_comesBefore_26 : decode cX1_comesBefore 26 = .ok (.iconst 0, 1) := by decide +kernel
theorem dX1_comesBefore_27 : decode cX1_comesBefore 27 = .ok (.ireturn, 1) := by decide +kernel
theorem dX1_comesBefore_28 : decode cX1_comesBefore 28 = .ok (.aload_n 1, 1) := by decide +kernel
theorem dX1_comesBefore_29 : decode cX1_comesBefore 29 = .ok (.bipush 7, 2) := by decide +kernel
theorem dX1_comesBefore_31 : decode cX1_comesBefore 31 = .ok (.iaload, 1) := by decide +kernel
theorem dX1_comesBefore_32 : decode cX1_comesBefore 32 = .ok (.aload_n 2, 1) := by decide +kernel
theorem dX1_comesBefore_33 : decode cX1_comesBefore 33 = .ok (.bipush 7, 2) := by decide +kernel
theorem dX1_comesBefore_35 : decode cX1_comesBefore 35 = .ok (.iaload, 1) := by decide +kernel
theorem dX1_comesBefore_36 : decode cX1_comesBefore 36 = .ok (.if_icmp .eq 20, 3) := by decide +kernel
theorem dX1_comesBefore_39 : decode cX1_comesBefore 39 = .ok (.aload_n 1, 1) := by decide +kernel
theorem dX1_comesBefore_40 : decode cX1_comesBefore 40 = .ok (.bipush 7, 2) := by decide +kernel
theorem dX1_comesBefore_42 : decode cX1_comesBefore 42 = .ok (.iaload, 1) := by decide +kernel
theorem dX1_comesBefore_43 : decode cX1_comesBefore 43 = .ok (.aload_n 2, 1) := by decide +kernel
theorem dX1_comesBefore_44 : decode cX1_comesBefore 44 = .ok (.bipush 7, 2) := by decide +kernel
theorem dX1_comesBefore_46 : decode cX1_comesBefore 46 = .ok (.iaload, 1) := by decide +kernel
theorem dX1_comesBefore_47 : decode cX1_comesBefore 47 = .ok (.if_icmp .ge 7, 3) := by decide +kernel
theorem dX1_comesBefore_50 : decode cX1_comesBefore 50 = .ok (.iconst 1, 1) := by decide +kernel
theorem dX1_comesBefore_51 : decode cX1_comesBefore 51 = .ok (.goto 4, 3) := by decide +kernel
theorem dX1_comesBefore_54 : decode cX1_comesBefore 54 = .ok (.iconst 0, 1) := by decide +kernel
theorem dX1_comesBefore_55 : decode cX1_comesBefore 55 = .ok (.ireturn, 1) := by decide +kernel
theorem dX1_comesBefore_56 : decode cX1_comesBefore 56 = .ok (.iconst 0, 1) := by decide +kernel
theorem dX1_comesBefore_57 : decode cX1_comesBefore 57 = .ok (.istore_n 3, 1) := by decide +kernel
theorem dX1_comesBefore_58 : decode cX1_comesBefore 58 = .ok (.iload_n 3, 1) := by decide +kernel
theorem dX1_comesBefore_59 : decode cX1_comesBefore 59 = .ok (.bipush 7, 2) := by decide +kernel
theorem dX1_comesBefore_61 : decode cX1_comesBefore 61 = .ok (.if_icmp .ge 33, 3) := by decide +kernel
theorem dX1_comesBefore_64 : decode cX1_comesBefore 64 = .ok (.aload_n 1, 1) := by decide +kernel
theorem dX1_comesBefore_65 : decode cX1_comesBefore 65 = .ok (.iload_n 3, 1) := by decide +kernel
theorem dX1_comesBefore_66 : decode cX1_comesBefore 66 = .ok (.iaload, 1) := by decide +kernel
theorem dX1_comesBefore_67 : decode cX1_comesBefore 67 = .ok (.aload_n 2, 1) := by decide +kernel
theorem dX1_comesBefore_68 : decode cX1_comesBefore 68 = .ok (.iload_n 3, 1) := by decide +kernel
theorem dX1_comesBefore_69 : decode cX1_comesBefore 69 = .ok (.iaload, 1) := by decide +kernel
theorem dX1_comesBefore_70 : decode cX1_comesBefore 70 = .ok (.if_icmp .eq 18, 3) := by decide +kernel
theorem dX1_comesBefore_73 : decode cX1_comesBefore 73 = .ok (.aload_n 1, 1) := by decide +kernel
theorem dX1_comesBefore_74 : decode cX1_comesBefore 74 = .ok (.iload_n 3, 1) := by decide +kernel
theorem dX1_comesBefore_75 : decode cX1_comesBefore 75 = .ok (.iaload, 1) := by decide +kernel
theorem dX1_comesBefore_76 : decode cX1_comesBefore 76 = .ok (.aload_n 2, 1) := by decide +kernel
theorem dX1_comesBefore_77 : decode cX1_comesBefore 77 = .ok (.iload_n 3, 1) := by decide +kernel
theorem dX1_comesBefore_78 : decode cX1_comesBefore 78 = .ok (.iaload, 1) := by decide +kernel
theorem dX1_comesBefore_79 : decode cX1_comesBefore 79 = .ok (.if_icmp .ge 7, 3) := by decide +kernel
theorem dX1_comesBefore_82 : decode cX1_comesBefore 82 = .ok (.iconst 1, 1) := by decide +kernel
theorem dX1_comesBefore_83 : decode cX1_comesBefore 83 = .ok (.goto 4, 3) := by decide +kernel
theorem dX1_comesBefore_86 : decode cX1_comesBefore 86 = .ok (.iconst 0, 1) := by decide +kernel
theorem dX1_comesBefore_87 : decode cX1_comesBefore 87 = .ok (.ireturn, 1) := by decide +kernel
theorem dX1_comesBefore_88 : decode cX1_comesBefore 88 = .ok (.iinc 3 1, 3) := by decide +kernel
theorem dX1_comesBefore_91 : decode cX1_comesBefore 91 = .ok (.goto (-33), 3) := by decide +kernel
theorem dX1_comesBefore_94 : decode cX1_comesBefore 94 = .ok (.iconst 0, 1) := by decide +kernel
theorem dX1_comesBefore_95 : decode cX1_comesBefore 95 = .ok (.ireturn, 1) := by decide +kernel
theorem dX2_init_0 : decode cX2_init 0 = .ok (.aload_n 0, 1) := by decide +kernel
theorem dX2_init_1 : decode cX2_init 1 = .ok (.invokespecial 3, 3) := by decide +kernel
theorem dX2_init_4 : decode cX2_init 4 = .ok (.aload_n 0, 1) := by decide +kernel
theorem dX2_init_5 : decode cX2_init 5 = .ok (.iconst (-1), 1) := by decide +kernel
theorem dX2_init_6 : decode cX2_init 6 = .ok (.putfield 9, 3) := by decide +kernel
theorem dX2_init_9 : decode cX2_init 9 = .ok (.aload_n 0, 1) := by decide +kernel
theorem dX2_init_10 : decode cX2_init 10 = .ok (.iconst (-1), 1) := by decide +kernel
theorem dX2_init_11 : decode cX2_init 11 = .ok (.putfield 15, 3) := by decide +kernel
theorem dX2_init_14 : decode cX2_init 14 = .ok (.aload_n 0, 1) := by decide +kernel
theorem dX2_init_15 : decode cX2_init 15 = .ok (.iconst 1, 1) := by decide +kernel
theorem dX2_init_16 : decode cX2_init 16 = .ok (.putfield 18, 3) := by decide +kernel
theorem dX2_init_19 : decode cX2_init 19 = .ok (.aload_n 0, 1) := by decide +kernel
theorem dX2_init_20 : decode cX2_init 20 = .ok (.iconst 1, 1) := by decide +kernel
theorem dX2_init_21 : decode cX2_init 21 = .ok (.putfield 21, 3) := by decide +kernel
theorem dX2_init_24 : decode cX2_init 24 = .ok (.return_, 1) := by decide +kernel
theorem dX2_takeBox_0 : decode cX2_takeBox 0 = .ok (.aload_n 0, 1) := by decide +kernel
theorem dX2_takeBox_1 : decode cX2_takeBox 1 = .ok (.aload_n 1, 1) := by decide +kernel
theorem dX2_takeBox_2 : decode cX2_takeBox 2 = .ok (.getfield 24, 3) := by decide +kernel
theorem dX2_takeBox_5 : decode cX2_takeBox 5 = .ok (.putfield 24, 3) := by decide +kernel
theorem dX2_takeBox_8 : decode cX2_takeBox 8 = .ok (.aload_n 0, 1) := by decide +kernel
theorem dX2_takeBox_9 : decode cX2_takeBox 9 = .ok (.aload_n 1, 1) := by decide +kernel
theorem dX2_takeBox_10 : decode cX2_takeBox 10 = .ok (.getfield 27, 3) := by decide +kernel
theorem dX2_takeBox_13 : decode cX2_takeBox 13 = .ok (.putfield 27, 3) := by decide +kernel
theorem dX2_takeBox_16 : decode cX2_takeBox 16 = .ok (.aload_n 0, 1) := by decide +kernel
theorem dX2_takeBox_17 : decode cX2_takeBox 17 = .ok (.aload_n 1, 1) := by decide +kernel
theorem dX2_takeBox_18 : decode cX2_takeBox 18 = .ok (.getfield 18, 3) := by decide +kernel
theorem dX2_takeBox_21 : decode cX2_takeBox 21 = .ok (.putfield 18, 3) := by decide +kernel
theorem dX2_takeBox_24 : decode cX2_takeBox 24 = .ok (.aload_n 0, 1) := by decide +kernel
theorem dX2_takeBox_25 : decode cX2_takeBox 25 = .ok (.aload_n 1, 1) := by decide +kernel
theorem dX2_takeBox_26 : decode cX2_takeBox 26 = .ok (.getfield 21, 3) := by decide +kernel
theorem dX2_takeBox_29 : decode cX2_takeBox 29 = .ok (.putfield 21, 3) := by decide +kernel
theorem dX2_takeBox_32 : decode cX2_takeBox 32 = .ok (.return_, 1) := by decide +kernel
theorem dX2_takeColor_0 : decode cX2_takeColor 0 = .ok (.aload_n 0, 1) := by decide +kernel
theorem dX2_takeColor_1 : decode cX2_takeColor 1 = .ok (.aload_n 1, 1) := by decide +kernel
theorem dX2_takeColor_2 : decode cX2_takeColor 2 = .ok (.getfield 30, 3) := by decide +kernel
theorem dX2_takeColor_5 : decode cX2_takeColor 5 = .ok (.putfield 30, 3) := by decide +kernel
theorem dX2_takeColor_8 : decode cX2_takeColor 8 = .ok (.aload_n 0, 1) := by decide +kernel
theorem dX2_takeColor_9 : decode cX2_takeColor 9 = .ok (.aload_n 1, 1) := by decide +kernel
theorem dX2_takeColor_10 : decode cX2_takeColor 10 = .ok (.getfield 33, 3) := by decide +kernel
theorem dX2_takeColor_13 : decode cX2_takeColor 13 = .ok (.putfield 33, 3) := by decide +kernel
theorem dX2_takeColor_16 : decode cX2_takeColor 16 = .ok (.aload_n 0, 1) := by decide +kernel
theorem dX2_takeColor_17 : decode cX2_takeColor 17 = .ok (.aload_n 1, 1) := by decide +kernel
theorem dX2_takeColor_18 : decode cX2_takeColor 18 = .ok (.getfield 36, 3) := by decide +kernel
theorem dX2_takeColor_21 : decode cX2_takeColor 21 = .ok (.putfield 36, 3) := by decide +kernel
theorem dX2_takeColor_24 : decode cX2_takeColor 24 = .ok (.return_, 1) := by decide +kernel
theorem dX2_copyFrom_0 : decode cX2_copyFrom 0 = .ok (.aload_n 0, 1) := by decide +kernel
theorem dX2_copyFrom_1 : decode cX2_copyFrom 1 = .ok (.aload_n 1, 1) := by decide +kernel
theorem dX2_copyFrom_2 : decode cX2_copyFrom 2 = .ok (.getfield 9, 3) := by decide +kernel
theorem dX2_copyFrom_5 : decode cX2_copyFrom 5 = .ok (.putfield 9, 3) := by decide +kernel
theorem dX2_copyFrom_8 : decode cX2_copyFrom 8 = .ok (.aload_n 0, 1) := by decide +kernel
theorem dX2_copyFrom_9 : decode cX2_copyFrom 9 = .ok (.aload_n 1, 1) := by decide +kernel
theorem dX2_copyFrom_10 : decode cX2_copyFrom 10 = .ok (.getfield 15, 3) := by decide +kernel
theorem dX2_copyFrom_13 : decode cX2_copyFrom 13 = .ok (.putfield 15, 3) := by decide +kernel
theorem dX2_copyFrom_16 : decode cX2_copyFrom 16 = .ok (.aload_n 0, 1) := by decide +kernel
theorem dX2_copyFrom_17 : decode cX2_copyFrom 17 = .ok (.aload_n 1, 1) := by decide +kernel
theorem dX2_copyFrom_18 : decode cX2_copyFrom 18 = .ok (.getfield 39, 3) := by decide +kernel
theorem dX2_copyFrom_21 : decode cX2_copyFrom 21 = .ok (.putfield 39, 3) := by decide +kernel
theorem dX2_copyFrom_24 : decode cX2_copyFrom 24 = .ok (.aload_n 0, 1) := by decide +kernel
theorem dX2_copyFrom_25 : decode cX2_copyFrom 25 = .ok (.aload_n 1, 1) := by decide +kernel
theorem dX2_copyFrom_26 : decode cX2_copyFrom 26 = .ok (.getfield 42, 3) := by decide +kernel
theorem dX2_copyFrom_29 : decode cX2_copyFrom 29 = .ok (.putfield 42, 3) := by decide +kernel
theorem dX2_copyFrom_32 : decode cX2_copyFrom 32 = .ok (.aload_n 0, 1) := by decide +kernel
theorem dX2_copyFrom_33 : decode cX2_copyFrom 33 = .ok (.aload_n 1, 1) := by decide +kernel
theorem dX2_copyFrom_34 : decode cX2_copyFrom 34 = .ok (.getfield 45, 3) := by decide +kernel
theorem dX2_copyFrom_37 : decode cX2_copyFrom 37 = .ok (.putfield 45, 3) := by decide +kernel
theorem dX2_copyFrom_40 : decode cX2_copyFrom 40 = .ok (.aload_n 0, 1) := by decide +kernel
theorem dX2_copyFrom_41 : decode cX2_copyFrom 41 = .ok (.aload_n 1, 1) := by decide +kernel
theorem dX2_copyFrom_42 : decode cX2_copyFrom 42 = .ok (.getfield 48, 3) := by decide +kernel
theorem dX2_copyFrom_45 : decode cX2_copyFrom 45 = .ok (.putfield 48, 3) := by decide +kernel
theorem dX2_copyFrom_48 : decode cX2_copyFrom 48 = .ok (.aload_n 0, 1) := by decide +kernel
theorem dX2_copyFrom_49 : decode cX2_copyFrom 49 = .ok (.aload_n 1, 1) := by decide +kernel
theorem dX2_copyFrom_50 : decode cX2_copyFrom 50 = .ok (.getfield 51, 3) := by decide +kernel
theorem dX2_copyFrom_53 : decode cX2_copyFrom 53 = .ok (.putfield 51, 3) := by decide +kernel
theorem dX2_copyFrom_56 : decode cX2_copyFrom 56 = .ok (.aload_n 0, 1) := by decide +kernel
theorem dX2_copyFrom_57 : decode cX2_copyFrom 57 = .ok (.aload_n 1, 1) := by decide +kernel
theorem dX2_copyFrom_58 : decode cX2_copyFrom 58 = .ok (.getfield 54, 3) := by decide +kernel
theorem dX2_copyFrom_61 : decode cX2_copyFrom 61 = .ok (.putfield 54, 3) := by decide +kernel
theorem dX2_copyFrom_64 : decode cX2_copyFrom 64 = .ok (.aload_n 0, 1) := by decide +kernel
theorem dX2_copyFrom_65 : decode cX2_copyFrom 65 = .ok (.aload_n 1, 1) := by decide +kernel
theorem dX2_copyFrom_66 : decode cX2_copyFrom 66 = .ok (.getfield 57, 3) := by decide +kernel
theorem dX2_copyFrom_69 : decode cX2_copyFrom 69 = .ok (.putfield 57, 3) := by decide +kernel
theorem dX2_copyFrom_72 : decode cX2_copyFrom 72 = .ok (.aload_n 0, 1) := by decide +kernel
theorem dX2_copyFrom_73 : decode cX2_copyFrom 73 = .ok (.aload_n 1, 1) := by decide +kernel
theorem dX2_copyFrom_74 : decode cX2_copyFrom 74 = .ok (.invokevirtual 60, 3) := by decide +kernel
theorem dX2_copyFrom_77 : decode cX2_copyFrom 77 = .ok (.aload_n 0, 1) := by decide +kernel
theorem dX2_copyFrom_78 : decode cX2_copyFrom 78 = .ok (.aload_n 1, 1) := by decide +kernel
theorem dX2_copyFrom_79 : decode cX2_copyFrom 79 = .ok (.invokevirtual 64, 3) := by decide +kernel
theorem dX2_copyFrom_82 : decode cX2_copyFrom 82 = .ok (.aload_n 0, 1) := by decide +kernel
theorem dX2_copyFrom_83 : decode cX2_copyFrom 83 = .ok (.aload_n 1, 1) := by decide +kernel
theorem dX2_copyFrom_84 : decode cX2_copyFrom 84 = .ok (.getfield 67, 3) := by decide +kernel
theorem dX2_copyFrom_87 : decode cX2_copyFrom 87 = .ok (.putfield 67, 3) := by decide +kernel
theorem dX2_copyFrom_90 : decode cX2_copyFrom 90 = .ok (.aload_n 0, 1) := by decide +kernel
theorem dX2_copyFrom_91 : decode cX2_copyFrom 91 = .ok (.aload_n 1, 1) := by decide +kernel
theorem dX2_copyFrom_92 : decode cX2_copyFrom 92 = .ok (.getfield 70, 3) := by decide +kernel
theorem dX2_copyFrom_95 : decode cX2_copyFrom 95 = .ok (.putfield 70, 3) := by decide +kernel
theorem dX2_copyFrom_98 : decode cX2_copyFrom 98 = .ok (.return_, 1) := by decide +kernel
theorem dX2_settleBelow_0 : decode cX2_settleBelow 0 = .ok (.aload_n 0, 1) := by decide +kernel
theorem dX2_settleBelow_1 : decode cX2_settleBelow 1 = .ok (.aload_n 1, 1) := by decide +kernel
theorem dX2_settleBelow_2 : decode cX2_settleBelow 2 = .ok (.getfield 39, 3) := by decide +kernel
theorem dX2_settleBelow_5 : decode cX2_settleBelow 5 = .ok (.iconst 1, 1) := by decide +kernel
theorem dX2_settleBelow_6 : decode cX2_settleBelow 6 = .ok (.iadd, 1) := by decide +kernel
theorem dX2_settleBelow_7 : decode cX2_settleBelow 7 = .ok (.putfield 39, 3) := by decide +kernel
theorem dX2_settleBelow_10 : decode cX2_settleBelow 10 = .ok (.aload_n 0, 1) := by decide +kernel
theorem dX2_settleBelow_11 : decode cX2_settleBelow 11 = .ok (.aload_n 1, 1) := by decide +kernel
theorem dX2_settleBelow_12 : decode cX2_settleBelow 12 = .ok (.getfield 51, 3) := by decide +kernel
theorem dX2_settleBelow_15 : decode cX2_settleBelow 15 = .ok (.aload_n 0, 1) := by decide +kernel
theorem dX2_settleBelow_16 : decode cX2_settleBelow 16 = .ok (.getfield 42, 3) := by decide +kernel
theorem dX2_settleBelow_19 : decode cX2_settleBelow 19 = .ok (.imul, 1) := by decide +kernel
theorem dX2_settleBelow_20 : decode cX2_settleBelow 20 = .ok (.bipush 100, 2) := by decide +kernel
theorem dX2_settleBelow_22 : decode cX2_settleBelow 22 = .ok (.idiv, 1) := by decide +kernel
theorem dX2_settleBelow_23 : decode cX2_settleBelow 23 = .ok (.putfield 51, 3) := by decide +kernel
theorem dX2_settleBelow_26 : decode cX2_settleBelow 26 = .ok (.aload_n 0, 1) := by decide +kernel
theorem dX2_settleBelow_27 : decode cX2_settleBelow 27 = .ok (.aload_n 1, 1) := by decide +kernel
theorem dX2_settleBelow_28 : decode cX2_settleBelow 28 = .ok (.getfield 54, 3) := by decide +kernel
theorem dX2_settleBelow_31 : decode cX2_settleBelow 31 = .ok (.aload_n 0, 1) := by decide +kernel
theorem dX2_settleBelow_32 : decode cX2_settleBelow 32 = .ok (.getfield 45, 3) := by decide +kernel
theorem dX2_settleBelow_35 : decode cX2_settleBelow 35 = .ok (.iadd, 1) := by decide +kernel
theorem dX2_settleBelow_36 : decode cX2_settleBelow 36 = .ok (.putfield 54, 3) := by decide +kernel
theorem dX2_settleBelow_39 : decode cX2_settleBelow 39 = .ok (.aload_n 0, 1) := by decide +kernel
theorem dX2_settleBelow_40 : decode cX2_settleBelow 40 = .ok (.aload_n 1, 1) := by decide +kernel
theorem dX2_settleBelow_41 : decode cX2_settleBelow 41 = .ok (.getfield 57, 3) := by decide +kernel
theorem dX2_settleBelow_44 : decode cX2_settleBelow 44 = .ok (.aload_n 0, 1) := by decide +kernel
theorem dX2_settleBelow_45 : decode cX2_settleBelow 45 = .ok (.getfield 48, 3) := by decide +kernel
theorem dX2_settleBelow_48 : decode cX2_settleBelow 48 = .ok (.iadd, 1) := by decide +kernel
theorem dX2_settleBelow_49 : decode cX2_settleBelow 49 = .ok (.putfield 57, 3) := by decide +kernel
theorem dX2_settleBelow_52 : decode cX2_settleBelow 52 = .ok (.return_, 1) := by decide +kernel
theorem dX2_contains_0 : decode cX2_contains 0 = .ok (.aload_n 0, 1) := by decide +kernel
theorem dX2_contains_1 : decode cX2_contains 1 = .ok (.getfield 9, 3) := by decide +kernel
theorem dX2_contains_4 : decode cX2_contains 4 = .ok (.ifCond .eq 51, 3) := by decide +kernel
theorem dX2_contains_7 : decode cX2_contains 7 = .ok (.iload_n 1, 1) := by decide +kernel
theorem dX2_contains_8 : decode cX2_contains 8 = .ok (.aload_n 0, 1) := by decide +kernel
theorem dX2_contains_9 : decode cX2_contains 9 = .ok (.getfield 24, 3) := by decide +kernel
theorem dX2_contains_12 : decode cX2_contains 12 = .ok (.aload_n 0, 1) := by decide +kernel
theorem dX2_contains_13 : decode cX2_contains 13 = .ok (.getfield 24, 3) := by decide +kernel
theorem dX2_contains_16 : decode cX2_contains 16 = .ok (.aload_n 0, 1) := by decide +kernel
theorem dX2_contains_17 : decode cX2_contains 17 = .ok (.getfield 18, 3) := by decide +kernel
theorem dX2_contains_20 : decode cX2_contains 20 = .ok (.iadd, 1) := by decide +kernel
theorem dX2_contains_21 : decode cX2_contains 21 = .ok (.iconst 1, 1) := by decide +kernel
theorem dX2_contains_22 : decode cX2_contains 22 = .ok (.isub, 1) := by decide +kernel
theorem dX2_contains_23 : decode cX2_contains 23 = .ok (.invokestatic 73, 3) := by decide +kernel
theorem dX2_contains_26 : decode cX2_contains 26 = .ok (.ifCond .eq 29, 3) := by decide +kernel
theorem dX2_contains_29 : decode cX2_contains 29 = .ok (.iload_n 2, 1) := by decide +kernel
theorem dX2_contains_30 : decode cX2_contains 30 = .ok (.aload_n 0, 1) := by decide +kernel
theorem dX2_contains_31 : decode cX2_contains 31 = .ok (.getfield 27, 3) := by decide +kernel
theorem dX2_contains_34 : decode cX2_contains 34 = .ok (.aload_n 0, 1) := by decide +kernel
theorem dX2_contains_35 : decode cX2_contains 35 = .ok (.getfield 27, 3) := by decide +kernel
theorem dX2_contains_38 : decode cX2_contains 38 = .ok (.aload_n 0, 1) := by decide +kernel
theorem dX2_contains_39 : decode cX2_contains 39 = .ok (.getfield 21, 3) := by decide +kernel
theorem dX2_contains_42 : decode cX2_contains 42 = .ok (.iadd, 1) := by decide +kernel
theorem dX2_contains_43 : decode cX2_contains 43 = .ok (.iconst 1, 1) := by decide +kernel
theorem dX2_contains_44 : decode cX2_contains 44 = .ok (.isub, 1) := by decide +kernel
theorem dX2_contains_45 : decode cX2_contains 45 = .ok (.invokestatic 73, 3) := by decide +kernel
theorem dX2_contains_48 : decode cX2_contains 48 = .ok (.ifCond .eq 7, 3) := by decide +kernel
theorem dX2_contains_51 : decode cX2_contains 51 = .ok (.iconst 1, 1) := by decide +kernel
theorem dX2_contains_52 : decode cX2_contains 52 = .ok (.goto 4, 3) := by decide +kernel
theorem dX2_contains_55 : decode cX2_contains 55 = .ok (.iconst 0, 1) := by decide +kernel
theorem dX2_contains_56 : decode cX2_contains 56 = .ok (.ireturn, 1) := by decide +kernel
theorem dX3_init_0 : decode cX3_init 0 = .ok (.aload_n 0, 1) := by decide +kernel
theorem dX3_init_1 : decode cX3_init 1 = .ok (.invokespecial 3, 3) := by decide +kernel
theorem dX3_init_4 : decode cX3_init 4 = .ok (.aload_n 0, 1) := by decide +kernel
theorem dX3_init_5 : decode cX3_init 5 = .ok (.bipush 6, 2) := by decide +kernel
theorem dX3_init_7 : decode cX3_init 7 = .ok (.newarray .int, 2) := by decide +kernel
theorem dX3_init_9 : decode cX3_init 9 = .ok (.putfield 9, 3) := by decide +kernel
theorem dX3_init_12 : decode cX3_init 12 = .ok (.aload_n 0, 1) := by decide +kernel
theorem dX3_init_13 : decode cX3_init 13 = .ok (.bipush 7, 2) := by decide +kernel
theorem dX3_init_15 : decode cX3_init 15 = .ok (.newarray .int, 2) := by decide +kernel
theorem dX3_init_17 : decode cX3_init 17 = .ok (.putfield 15, 3) := by decide +kernel
theorem dX3_init_20 : decode cX3_init 20 = .ok (.aload_n 0, 1) := by decide +kernel
theorem dX3_init_21 : decode cX3_init 21 = .ok (.bipush 7, 2) := by decide +kernel
theorem dX3_init_23 : decode cX3_init 23 = .ok (.newarray .int, 2) := by decide +kernel
theorem dX3_init_25 : decode cX3_init 25 = .ok (.putfield 18, 3) := by decide +kernel
theorem dX3_init_28 : decode cX3_init 28 = .ok (.return_, 1) := by decide +kernel
theorem dX3_clear_0 : decode cX3_clear 0 = .ok (.iconst 0, 1) := by decide +kernel
theorem dX3_clear_1 : decode cX3_clear 1 = .ok (.istore_n 1, 1) := by decide +kernel
theorem dX3_clear_2 : decode cX3_clear 2 = .ok (.iload_n 1, 1) := by decide +kernel
theorem dX3_clear_3 : decode cX3_clear 3 = .ok (.bipush 6, 2) := by decide +kernel
theorem dX3_clear_5 : decode cX3_clear 5 = .ok (.if_icmp .ge 27, 3) := by decide +kernel
theorem dX3_clear_8 : decode cX3_clear 8 = .ok (.aload_n 0, 1) := by decide +kernel
theorem dX3_clear_9 : decode cX3_clear 9 = .ok (.getfield 9, 3) := by decide +kernel
theorem dX3_clear_12 : decode cX3_clear 12 = .ok (.iload_n 1, 1) := by decide +kernel
theorem dX3_clear_13 : decode cX3_clear 13 = .ok (.iload_n 1, 1) := by decide +kernel
theorem dX3_clear_14 : decode cX3_clear 14 = .ok (.iconst 3, 1) := by decide +kernel
theorem dX3_clear_15 : decode cX3_clear 15 = .ok (.if_icmp .ge 9, 3) := by decide +kernel
theorem dX3_clear_18 : decode cX3_clear 18 = .ok (.sipush 255, 3) := by decide +kernel
theorem dX3_clear_21 : decode cX3_clear 21 = .ok (.goto 4, 3) := by decide +kernel
theorem dX3_clear_24 : decode cX3_clear 24 = .ok (.iconst 0, 1) := by decide +kernel
theorem dX3_clear_25 : decode cX3_clear 25 = .ok (.iastore, 1) := by decide +kernel
theorem dX3_clear_26 : decode cX3_clear 26 = .ok (.iinc 1 1, 3) := by decide +kernel
theorem dX3_clear_29 : decode cX3_clear 29 = .ok (.goto (-27), 3) := by decide +kernel
theorem dX3_clear_32 : decode cX3_clear 32 = .ok (.return_, 1) := by decide +kernel
theorem dX3_render_0 : decode cX3_render 0 = .ok (.aload_n 0, 1) := by decide +kernel
theorem dX3_render_1 : decode cX3_render 1 = .ok (.invokevirtual 21, 3) := by decide +kernel
theorem dX3_render_4 : decode cX3_render 4 = .ok (.iconst 1, 1) := by decide +kernel
theorem dX3_render_5 : decode cX3_render 5 = .ok (.istore 4, 2) := by decide +kernel
theorem dX3_render_7 : decode cX3_render 7 = .ok (.iload 4, 2) := by decide +kernel
theorem dX3_render_9 : decode cX3_render 9 = .ok (.aload_n 1, 1) := by decide +kernel
theorem dX3_render_10 : decode cX3_render 10 = .ok (.getfield 24, 3) := by decide +kernel
theorem dX3_render_13 : decode cX3_render 13 = .ok (.getfield 30, 3) := by decide +kernel
theorem dX3_render_16 : decode cX3_render 16 = .ok (.if_icmp .ge 76, 3) := by decide +kernel
theorem dX3_render_19 : decode cX3_render 19 = .ok (.aload_n 1, 1) := by decide +kernel
theorem dX3_render_20 : decode cX3_render 20 = .ok (.getfield 24, 3) := by decide +kernel
theorem dX3_render_23 : decode cX3_render 23 = .ok (.aload_n 1, 1) := by decide +kernel
theorem dX3_render_24 : decode cX3_render 24 = .ok (.getfield 24, 3) := by decide +kernel
theorem dX3_render_27 : decode cX3_render 27 = .ok (.getfield 36, 3) := by decide +kernel
theorem dX3_render_30 : decode cX3_render 30 = .ok (.iload 4, 2) := by decide +kernel
theorem dX3_render_32 : decode cX3_render 32 = .ok (.iaload, 1) := by decide +kernel
theorem dX3_render_33 : decode cX3_render 33 = .ok (.invokevirtual 39, 3) := by decide +kernel
theorem dX3_render_36 : decode cX3_render 36 = .ok (.astore 5, 2) := by decide +kernel
theorem dX3_render_38 : decode cX3_render 38 = .ok (.aload_n 1, 1) := by decide +kernel
theorem dX3_render_39 : decode cX3_render 39 = .ok (.getfield 24, 3) := by decide +kernel
theorem dX3_render_42 : decode cX3_render 42 = .ok (.aload 5, 2) := by decide +kernel
theorem dX3_render_44 : decode cX3_render 44 = .ok (.getfield 43, 3) := by decide +kernel
theorem dX3_render_47 : decode cX3_render 47 = .ok (.invokevirtual 39, 3) := by decide +kernel
theorem dX3_render_50 : decode cX3_render 50 = .ok (.astore 6, 2) := by decide +kernel
theorem dX3_render_52 : decode cX3_render 52 = .ok (.aload 5, 2) := by decide +kernel
theorem dX3_render_54 : decode cX3_render 54 = .ok (.iload_n 2, 1) := by decide +kernel
theorem dX3_render_55 : decode cX3_render 55 = .ok (.aload 6, 2) := by decide +kernel
theorem dX3_render_57 : decode cX3_render 57 = .ok (.getfield 48, 3) := by decide +kernel
theorem dX3_render_60 : decode cX3_render 60 = .ok (.isub, 1) := by decide +kernel
theorem dX3_render_61 : decode cX3_render 61 = .ok (.iload_n 3, 1) := by decide +kernel
theorem dX3_render_62 : decode cX3_render 62 = .ok (.aload 6, 2) := by decide +kernel
theorem dX3_render_64 : decode cX3_render 64 = .ok (.getfield 51, 3) := by decide +kernel
theorem dX3_render_67 : decode cX3_render 67 = .ok (.isub, 1) := by decide +kernel
theorem dX3_render_68 : decode cX3_render 68 = .ok (.invokevirtual 54, 3) := by decide +kernel
theorem dX3_render_71 : decode cX3_render 71 = .ok (.ifCond .eq 15, 3) := by decide +kernel
theorem dX3_render_74 : decode cX3_render 74 = .ok (.aload_n 0, 1) := by decide +kernel
theorem dX3_render_75 : decode cX3_render 75 = .ok (.aload 5, 2) := by decide +kernel
theorem dX3_render_77 : decode cX3_render 77 = .ok (.aload_n 1, 1) := by decide +kernel
theorem dX3_render_78 : decode cX3_render 78 = .ok (.aload 6, 2) := by decide +kernel
theorem dX3_render_80 : decode cX3_render 80 = .ok (.getfield 58, 3) := by decide +kernel
theorem dX3_render_83 : decode cX3_render 83 = .ok (.invokevirtual 61, 3) := by decide +kernel
theorem dX3_render_86 : decode cX3_render 86 = .ok (.iinc 4 1, 3) := by decide +kernel
theorem dX3_render_89 : decode cX3_render 89 = .ok (.goto (-82), 3) := by decide +kernel
theorem dX3_render_92 : decode cX3_render 92 = .ok (.return_, 1) := by decide +kernel
theorem dX3_paint_0 : decode cX3_paint 0 = .ok (.aload_n 1, 1) := by decide +kernel
theorem dX3_paint_1 : decode cX3_paint 1 = .ok (.getfield 65, 3) := by decide +kernel
theorem dX3_paint_4 : decode cX3_paint 4 = .ok (.iconst 1, 1) := by decide +kernel
theorem dX3_paint_5 : decode cX3_paint 5 = .ok (.if_icmp .ne 29, 3) := by decide +kernel
theorem dX3_paint_8 : decode cX3_paint 8 = .ok (.aload_n 0, 1) := by decide +kernel
theorem dX3_paint_9 : decode cX3_paint 9 = .ok (.aload_n 1, 1) := by decide +kernel
theorem dX3_paint_10 : decode cX3_paint 10 = .ok (.getfield 68, 3) := by decide +kernel
theorem dX3_paint_13 : decode cX3_paint 13 = .ok (.aload_n 1, 1) := by decide +kernel
theorem dX3_paint_14 : decode cX3_paint 14 = .ok (.getfield 71, 3) := by decide +kernel
theorem dX3_paint_17 : decode cX3_paint 17 = .ok (.aload_n 1, 1) := by decide +kernel
theorem dX3_paint_18 : decode cX3_paint 18 = .ok (.getfield 74, 3) := by decide +kernel
theorem dX3_paint_21 : decode cX3_paint 21 = .ok (.iload_n 3, 1) := by decide +kernel
theorem dX3_paint_22 : decode cX3_paint 22 = .ok (.invokevirtual 77, 3) := by decide +kernel
theorem dX3_paint_25 : decode cX3_paint 25 = .ok (.aload_n 0, 1) := by decide +kernel
theorem dX3_paint_26 : decode cX3_paint 26 = .ok (.iconst (-1), 1) := by decide +kernel
theorem dX3_paint_27 : decode cX3_paint 27 = .ok (.iload_n 3, 1) := by decide +kernel
theorem dX3_paint_28 : decode cX3_paint 28 = .ok (.invokevirtual 81, 3) := by decide +kernel
theorem dX3_paint_31 : decode cX3_paint 31 = .ok (.goto 66, 3) := by decide +kernel
theorem dX3_paint_34 : decode cX3_paint 34 = .ok (.aload_n 1, 1) := by decide +kernel
theorem dX3_paint_35 : decode cX3_paint 35 = .ok (.getfield 85, 3) := by decide +kernel
theorem dX3_paint_38 : decode cX3_paint 38 = .ok (.iconst 0, 1) := by decide +kernel
theorem dX3_paint_39 : decode cX3_paint 39 = .ok (.iconst 2, 1) := by decide +kernel
theorem dX3_paint_40 : decode cX3_paint 40 = .ok (.invokestatic 88, 3) := by decide +kernel
theorem dX3_paint_43 : decode cX3_paint 43 = .ok (.ifCond .eq 54, 3) := by decide +kernel
theorem dX3_paint_46 : decode cX3_paint 46 = .ok (.aload_n 0, 1) := by decide +kernel
theorem dX3_paint_47 : decode cX3_paint 47 = .ok (.iconst 3, 1) := by decide +kernel
theorem dX3_paint_48 : decode cX3_paint 48 = .ok (.aload_n 1, 1) := by decide +kernel
theorem dX3_paint_49 : decode cX3_paint 49 = .ok (.getfield 85, 3) := by decide +kernel
theorem dX3_paint_52 : decode cX3_paint 52 = .ok (.iadd, 1) := by decide +kernel
theorem dX3_paint_53 : decode cX3_paint 53 = .ok (.aload_n 1, 1) := by decide +kernel
theorem dX3_paint_54 : decode cX3_paint 54 = .ok (.getfield 92, 3) := by decide +kernel
theorem dX3_paint_57 : decode cX3_paint 57 = .ok (.iload_n 3, 1) := by decide +kernel
theorem dX3_paint_58 : decode cX3_paint 58 = .ok (.invokevirtual 95, 3) := by decide +kernel
theorem dX3_paint_61 : decode cX3_paint 61 = .ok (.aload_n 2, 1) := by decide +kernel
theorem dX3_paint_62 : decode cX3_paint 62 = .ok (.getfield 99, 3) := by decide +kernel
theorem dX3_paint_65 : decode cX3_paint 65 = .ok (.aload_n 1, 1) := by decide +kernel
theorem dX3_paint_66 : decode cX3_paint 66 = .ok (.getfield 85, 3) := by decide +kernel
theorem dX3_paint_69 : decode cX3_paint 69 = .ok (.iaload, 1) := by decide +kernel
theorem dX3_paint_70 : decode cX3_paint 70 = .ok (.iconst 1, 1) := by decide +kernel
theorem dX3_paint_71 : decode cX3_paint 71 = .ok (.if_icmp .ne 26, 3) := by decide +kernel
theorem dX3_paint_74 : decode cX3_paint 74 = .ok (.aload_n 0, 1) := by decide +kernel
theorem dX3_paint_75 : decode cX3_paint 75 = .ok (.sipush 255, 3) := by decide +kernel
theorem dX3_paint_78 : decode cX3_paint 78 = .ok (.sipush 255, 3) := by decide +kernel
theorem dX3_paint_81 : decode cX3_paint 81 = .ok (.sipush 255, 3) := by decide +kernel
theorem dX3_paint_84 : decode cX3_paint 84 = .ok (.iload_n 3, 1) := by decide +kernel
theorem dX3_paint_85 : decode cX3_paint 85 = .ok (.invokevirtual 77, 3) := by decide +kernel
theorem dX3_paint_88 : decode cX3_paint 88 = .ok (.aload_n 0, 1) := by decide +kernel
theorem dX3_paint_89 : decode cX3_paint 89 = .ok (.aload_n 1, 1) := by decide +kernel
theorem dX3_paint_90 : decode cX3_paint 90 = .ok (.getfield 85, 3) := by decide +kernel
theorem dX3_paint_93 : decode cX3_paint 93 = .ok (.iload_n 3, 1) := by decide +kernel
theorem dX3_paint_94 : decode cX3_paint 94 = .ok (.invokevirtual 81, 3) := by decide +kernel
theorem dX3_paint_97 : decode cX3_paint 97 = .ok (.return_, 1) := by decide +kernel
theorem dX3_pullColors_0 : decode cX3_pullColors 0 = .ok (.aload_n 0, 1) := by decide +kernel
theorem dX3_pullColors_1 : decode cX3_pullColors 1 = .ok (.iconst 0, 1) := by decide +kernel
theorem dX3_pullColors_2 : decode cX3_pullColors 2 = .ok (.iload_n 1, 1) := by decide +kernel
theorem dX3_pullColors_3 : decode cX3_pullColors 3 = .ok (.iload 4, 2) := by decide +kernel
theorem dX3_pullColors_5 : decode cX3_pullColors 5 = .ok (.invokevirtual 95, 3) := by decide +kernel
theorem dX3_pullColors_8 : decode cX3_pullColors 8 = .ok (.aload_n 0, 1) := by decide +kernel
theorem dX3_pullColors_9 : decode cX3_pullColors 9 = .ok (.iconst 1, 1) := by decide +kernel
theorem dX3_pullColors_10 : decode cX3_pullColors 10 = .ok (.iload_n 2, 1) := by decide +kernel
theorem dX3_pullColors_11 : decode cX3_pullColors 11 = .ok (.iload 4, 2) := by decide +kernel
theorem dX3_pullColors_13 : decode cX3_pullColors 13 = .ok (.invokevirtual 95, 3) := by decide +kernel
theorem dX3_pullColors_16 : decode cX3_pullColors 16 = .ok (.aload_n 0, 1) := by decide +kernel
theorem dX3_pullColors_17 : decode cX3_pullColors 17 = .ok (.iconst 2, 1) := by decide +kernel
theorem dX3_pullColors_18 : decode cX3_pullColors 18 = .ok (.iload_n 3, 1) := by decide +kernel
theorem dX3_pullColors_19 : decode cX3_pullColors 19 = .ok (.iload 4, 2) := by decide +kernel
theorem dX3_pullColors_21 : decode cX3_pullColors 21 = .ok (.invokevirtual 95, 3) := by decide +kernel
theorem dX3_pullColors_24 : decode cX3_pullColors 24 = .ok (.return_, 1) := by decide +kernel
theorem dX3_pullTints_0 : decode cX3_pullTints 0 = .ok (.iconst 0, 1) := by decide +kernel
theorem dX3_pullTints_1 : decode cX3_pullTints 1 = .ok (.istore_n 3, 1) := by decide +kernel
theorem dX3_pullTints_2 : decode cX3_pullTints 2 = .ok (.iload_n 3, 1) := by decide +kernel
theorem dX3_pullTints_3 : decode cX3_pullTints 3 = .ok (.iconst 3, 1) := by decide +kernel
theorem dX3_pullTints_4 : decode cX3_pullTints 4 = .ok (.if_icmp .ge 23, 3) := by decide +kernel
theorem dX3_pullTints_7 : decode cX3_pullTints 7 = .ok (.iload_n 3, 1) := by decide +kernel
theorem dX3_pullTints_8 : decode cX3_pullTints 8 = .ok (.iload_n 1, 1) := by decide +kernel
theorem dX3_pullTints_9 : decode cX3_pullTints 9 = .ok (.if_icmp .eq 12, 3) := by decide +kernel
theorem dX3_pullTints_12 : decode cX3_pullTints 12 = .ok (.aload_n 0, 1) := by decide +kernel
theorem dX3_pullTints_13 : decode cX3_pullTints 13 = .ok (.iconst 3, 1) := by decide +kernel
theorem dX3_pullTints_14 : decode cX3_pullTints 14 = .ok (.iload_n 3, 1) := by decide +kernel
theorem dX3_pullTints_15 : decode cX3_pullTints 15 = .ok (.iadd, 1) := by decide +kernel
theorem dX3_pullTints_16 : decode cX3_pullTints 16 = .ok (.iconst 0, 1) := by decide +kernel
theorem dX3_pullTints_17 : decode cX3_pullTints 17 = .ok (.iload_n 2, 1) := by decide +kernel
theorem dX3_pullTints_18 : decode cX3_pullTints 18 = .ok (.invokevirtual 95, 3) := by decide +kernel
theorem dX3_pullTints_21 : decode cX3_pullTints 21 = .ok (.iinc 3 1, 3) := by decide +kernel
theorem dX3_pullTints_24 : decode cX3_pullTints 24 = .ok (.goto (-22), 3) := by decide +kernel
theorem dX3_pullTints_27 : decode cX3_pullTints 27 = .ok (.return_, 1) := by decide +kernel
theorem dX3_pull_0 : decode cX3_pull 0 = .ok (.aload_n 0, 1) := by decide +kernel
theorem dX3_pull_1 : decode cX3_pull 1 = .ok (.getfield 9, 3) := by decide +kernel
theorem dX3_pull_4 : decode cX3_pull 4 = .ok (.iload_n 1, 1) := by decide +kernel
theorem dX3_pull_5 : decode cX3_pull 5 = .ok (.iaload, 1) := by decide +kernel
theorem dX3_pull_6 : decode cX3_pull 6 = .ok (.istore 4, 2) := by decide +kernel
theorem dX3_pull_8 : decode cX3_pull 8 = .ok (.aload_n 0, 1) := by decide +kernel
theorem dX3_pull_9 : decode cX3_pull 9 = .ok (.getfield 9, 3) := by decide +kernel
theorem dX3_pull_12 : decode cX3_pull 12 = .ok (.iload_n 1, 1) := by decide +kernel
theorem dX3_pull_13 : decode cX3_pull 13 = .ok (.iload 4, 2) := by decide +kernel
theorem dX3_pull_15 : decode cX3_pull 15 = .ok (.iload_n 2, 1) := by decide +kernel
theorem dX3_pull_16 : decode cX3_pull 16 = .ok (.iload 4, 2) := by decide +kernel
theorem dX3_pull_18 : decode cX3_pull 18 = .ok (.isub, 1) := by decide +kernel
theorem dX3_pull_19 : decode cX3_pull 19 = .ok (.iload_n 3, 1) := by decide +kernel
theorem dX3_pull_20 : decode cX3_pull 20 = .ok (.imul, 1) := by decide +kernel
theorem dX3_pull_21 : decode cX3_pull 21 = .ok (.bipush 100, 2) := by decide +kernel
theorem dX3_pull_23 : decode cX3_pull 23 = .ok (.invokestatic 102, 3) := by decide +kernel
theorem dX3_pull_26 : decode cX3_pull 26 = .ok (.iadd, 1) := by decide +kernel
theorem dX3_pull_27 : decode cX3_pull 27 = .ok (.iastore, 1) := by decide +kernel
theorem dX3_pull_28 : decode cX3_pull 28 = .ok (.return_, 1) := by decide +kernel
theorem dX3_separate_0 : decode cX3_separate 0 = .ok (.sipush 255, 3) := by decide +kernel
theorem dX3_separate_3 : decode cX3_separate 3 = .ok (.aload_n 0, 1) := by decide +kernel
theorem dX3_separate_4 : decode cX3_separate 4 = .ok (.getfield 9, 3) := by decide +kernel
theorem dX3_separate_7 : decode cX3_separate 7 = .ok (.iconst 0, 1) := by decide +kernel
theorem dX3_separate_8 : decode cX3_separate 8 = .ok (.iaload, 1) := by decide +kernel
theorem dX3_separate_9 : decode cX3_separate 9 = .ok (.aload_n 0, 1) := by decide +kernel
theorem dX3_separate_10 : decode cX3_separate 10 = .ok (.getfield 9, 3) := by decide +kernel
theorem dX3_separate_13 : decode cX3_separate 13 = .ok (.iconst 1, 1) := by decide +kernel
theorem dX3_separate_14 : decode cX3_separate 14 = .ok (.iaload, 1) := by decide +kernel
theorem dX3_separate_15 : decode cX3_separate 15 = .ok (.aload_n 0, 1) := by decide +kernel
theorem dX3_separate_16 : decode cX3_separate 16 = .ok (.getfield 9, 3) := by decide +kernel
theorem dX3_separate_19 : decode cX3_separate 19 = .ok (.iconst 2, 1) := by decide +kernel
theorem dX3_separate_20 : decode cX3_separate 20 = .ok (.iaload, 1) := by decide +kernel
theorem dX3_separate_21 : decode cX3_separate 21 = .ok (.invokestatic 108, 3) := by decide +kernel
theorem dX3_separate_24 : decode cX3_separate 24 = .ok (.invokestatic 108, 3) := by decide +kernel
theorem dX3_separate_27 : decode cX3_separate 27 = .ok (.isub, 1) := by decide +kernel
theorem dX3_separate_28 : decode cX3_separate 28 = .ok (.istore_n 3, 1) := by decide +kernel
theorem dX3_separate_29 : decode cX3_separate 29 = .ok (.iconst 0, 1) := by decide +kernel
theorem dX3_separate_30 : decode cX3_separate 30 = .ok (.iload_n 3, 1) := by decide +kernel
theorem dX3_separate_31 : decode cX3_separate 31 = .ok (.aload_n 1, 1) := by decide +kernel
theorem dX3_separate_32 : decode cX3_separate 32 = .ok (.getfield 111, 3) := by decide +kernel
theorem dX3_separate_35 : decode cX3_separate 35 = .ok (.isub, 1) := by decide +kernel
theorem dX3_separate_36 : decode cX3_separate 36 = .ok (.invokestatic 108, 3) := by decide +kernel
theorem dX3_separate_39 : decode cX3_separate 39 = .ok (.istore 4, 2) := by decide +kernel
theorem dX3_separate_41 : decode cX3_separate 41 = .ok (.iload 4, 2) := by decide +kernel
theorem dX3_separate_43 : decode cX3_separate 43 = .ok (.iload_n 2, 1) := by decide +kernel
theorem dX3_separate_44 : decode cX3_separate 44 = .ok (.imul, 1) := by decide +kernel
theorem dX3_separate_45 : decode cX3_separate 45 = .ok (.bipush 100, 2) := by decide +kernel
theorem dX3_separate_47 : decode cX3_separate 47 = .ok (.idiv, 1) := by decide +kernel
theorem dX3_separate_48 : decode cX3_separate 48 = .ok (.istore 5, 2) := by decide +kernel
theorem dX3_separate_50 : decode cX3_separate 50 = .ok (.iconst 0, 1) := by decide +kernel
theorem dX3_separate_51 : decode cX3_separate 51 = .ok (.istore 6, 2) := by decide +kernel
theorem dX3_separate_53 : decode cX3_separate 53 = .ok (.iload 6, 2) := by decide +kernel
theorem dX3_separate_55 : decode cX3_separate 55 = .ok (.iconst 3, 1) := by decide +kernel
theorem dX3_separate_56 : decode cX3_separate 56 = .ok (.if_icmp .ge 30, 3) := by decide +kernel
theorem dX3_separate_59 : decode cX3_separate 59 = .ok (.aload_n 0, 1) := by decide +kernel
theorem dX3_separate_60 : decode cX3_separate 60 = .ok (.getfield 15, 3) := by decide +kernel
theorem dX3_separate_63 : decode cX3_separate 63 = .ok (.iload 6, 2) := by decide +kernel
theorem dX3_separate_65 : decode cX3_separate 65 = .ok (.sipush 255, 3) := by decide +kernel
theorem dX3_separate_68 : decode cX3_separate 68 = .ok (.aload_n 0, 1) := by decide +kernel
theorem dX3_separate_69 : decode cX3_separate 69 = .ok (.getfield 9, 3) := by decide +kernel
theorem dX3_separate_72 : decode cX3_separate 72 = .ok (.iload 6, 2) := by decide +kernel
theorem dX3_separate_74 : decode cX3_separate 74 = .ok (.iaload, 1) := by decide +kernel
theorem dX3_separate_75 : decode cX3_separate 75 = .ok (.isub, 1) := by decide +kernel
theorem dX3_separate_76 : decode cX3_separate 76 = .ok (.iload 5, 2) := by decide +kernel
theorem dX3_separate_78 : decode cX3_separate 78 = .ok (.isub, 1) := by decide +kernel
theorem dX3_separate_79 : decode cX3_separate 79 = .ok (.iastore, 1) := by decide +kernel
theorem dX3_separate_80 : decode cX3_separate 80 = .ok (.iinc 6 1, 3) := by decide +kernel
theorem dX3_separate_83 : decode cX3_separate 83 = .ok (.goto (-30), 3) := by decide +kernel
theorem dX3_separate_86 : decode cX3_separate 86 = .ok (.aload_n 0, 1) := by decide +kernel
theorem dX3_separate_87 : decode cX3_separate 87 = .ok (.getfield 15, 3) := by decide +kernel
theorem dX3_separate_90 : decode cX3_separate 90 = .ok (.iconst 3, 1) := by decide +kernel
theorem dX3_separate_91 : decode cX3_separate 91 = .ok (.iload 5, 2) := by decide +kernel
theorem dX3_separate_93 : decode cX3_separate 93 = .ok (.iastore, 1) := by decide +kernel
theorem dX3_separate_94 : decode cX3_separate 94 = .ok (.iconst 0, 1) := by decide +kernel
theorem dX3_separate_95 : decode cX3_separate 95 = .ok (.istore 6, 2) := by decide +kernel
theorem dX3_separate_97 : decode cX3_separate 97 = .ok (.iload 6, 2) := by decide +kernel
theorem dX3_separate_99 : decode cX3_separate 99 = .ok (.iconst 3, 1) := by decide +kernel
theorem dX3_separate_100 : decode cX3_separate 100 = .ok (.if_icmp .ge 27, 3) := by decide +kernel
theorem dX3_separate_103 : decode cX3_separate 103 = .ok (.aload_n 0, 1) := by decide +kernel
theorem dX3_separate_104 : decode cX3_separate 104 = .ok (.getfield 15, 3) := by decide +kernel
theorem dX3_separate_107 : decode cX3_separate 107 = .ok (.iconst 4, 1) := by decide +kernel
theorem dX3_separate_108 : decode cX3_separate 108 = .ok (.iload 6, 2) := by decide +kernel
theorem dX3_separate_110 : decode cX3_separate 110 = .ok (.iadd, 1) := by decide +kernel
theorem dX3_separate_111 : decode cX3_separate 111 = .ok (.aload_n 0, 1) := by decide +kernel
theorem dX3_separate_112 : decode cX3_separate 112 = .ok (.getfield 9, 3) := by decide +kernel
theorem dX3_separate_115 : decode cX3_separate 115 = .ok (.iconst 3, 1) := by decide +kernel
theorem dX3_separate_116 : decode cX3_separate 116 = .ok (.iload 6, 2) := by decide +kernel
theorem dX3_separate_118 : decode cX3_separate 118 = .ok (.iadd, 1) := by decide +kernel
theorem dX3_separate_119 : decode cX3_separate 119 = .ok (.iaload, 1) := by decide +kernel
theorem dX3_separate_120 : decode cX3_separate 120 = .ok (.iastore, 1) := by decide +kernel
theorem dX3_separate_121 : decode cX3_separate 121 = .ok (.iinc 6 1, 3) := by decide +kernel
theorem dX3_separate_124 : decode cX3_separate 124 = .ok (.goto (-27), 3) := by decide +kernel
theorem dX3_separate_127 : decode cX3_separate 127 = .ok (.iconst 0, 1) := by decide +kernel
theorem dX3_separate_128 : decode cX3_separate 128 = .ok (.istore 6, 2) := by decide +kernel
theorem dX3_separate_130 : decode cX3_separate 130 = .ok (.iload 6, 2) := by decide +kernel
theorem dX3_separate_132 : decode cX3_separate 132 = .ok (.bipush 7, 2) := by decide +kernel
theorem dX3_separate_134 : decode cX3_separate 134 = .ok (.if_icmp .ge 47, 3) := by decide +kernel
theorem dX3_separate_137 : decode cX3_separate 137 = .ok (.aload_n 0, 1) := by decide +kernel
theorem dX3_separate_138 : decode cX3_separate 138 = .ok (.getfield 15, 3) := by decide +kernel
theorem dX3_separate_141 : decode cX3_separate 141 = .ok (.iload 6, 2) := by decide +kernel
theorem dX3_separate_143 : decode cX3_separate 143 = .ok (.aload_n 1, 1) := by decide +kernel
theorem dX3_separate_144 : decode cX3_separate 144 = .ok (.getfield 114, 3) := by decide +kernel
theorem dX3_separate_147 : decode cX3_separate 147 = .ok (.iload 6, 2) := by decide +kernel
theorem dX3_separate_149 : decode cX3_separate 149 = .ok (.aaload, 1) := by decide +kernel
theorem dX3_separate_150 : decode cX3_separate 150 = .ok (.aload_n 0, 1) := by decide +kernel
theorem dX3_separate_151 : decode cX3_separate 151 = .ok (.getfield 15, 3) := by decide +kernel
theorem dX3_separate_154 : decode cX3_separate 154 = .ok (.iload 6, 2) := by decide +kernel
theorem dX3_separate_156 : decode cX3_separate 156 = .ok (.iaload, 1) := by decide +kernel
theorem dX3_separate_157 : decode cX3_separate 157 = .ok (.invokevirtual 118, 3) := by decide +kernel
theorem dX3_separate_160 : decode cX3_separate 160 = .ok (.iastore, 1) := by decide +kernel
theorem dX3_separate_161 : decode cX3_separate 161 = .ok (.aload_n 0, 1) := by decide +kernel
theorem dX3_separate_162 : decode cX3_separate 162 = .ok (.getfield 18, 3) := by decide +kernel
theorem dX3_separate_165 : decode cX3_separate 165 = .ok (.iload 6, 2) := by decide +kernel
theorem dX3_separate_167 : decode cX3_separate 167 = .ok (.aload_n 0, 1) := by decide +kernel
theorem dX3_separate_168 : decode cX3_separate 168 = .ok (.getfield 15, 3) := by decide +kernel
theorem dX3_separate_171 : decode cX3_separate 171 = .ok (.iload 6, 2) := by decide +kernel
theorem dX3_separate_173 : decode cX3_separate 173 = .ok (.iaload, 1) := by decide +kernel
theorem dX3_separate_174 : decode cX3_separate 174 = .ok (.iastore, 1) := by decide +kernel
theorem dX3_separate_175 : decode cX3_separate 175 = .ok (.iinc 6 1, 3) := by decide +kernel
theorem dX3_separate_178 : decode cX3_separate 178 = .ok (.goto (-48), 3) := by decide +kernel
theorem dX3_separate_181 : decode cX3_separate 181 = .ok (.aload_n 0, 1) := by decide +kernel
theorem dX3_separate_182 : decode cX3_separate 182 = .ok (.aload_n 1, 1) := by decide +kernel
theorem dX3_separate_183 : decode cX3_separate 183 = .ok (.getfield 124, 3) := by decide +kernel
theorem dX3_separate_186 : decode cX3_separate 186 = .ok (.invokevirtual 127, 3) := by decide +kernel
theorem dX3_separate_189 : decode cX3_separate 189 = .ok (.return_, 1) := by decide +kernel
theorem dX3_limitSum_0 : decode cX3_limitSum 0 = .ok (.aload_n 0, 1) := by decide +kernel
theorem dX3_limitSum_1 : decode cX3_limitSum 1 = .ok (.getfield 18, 3) := by decide +kernel
theorem dX3_limitSum_4 : decode cX3_limitSum 4 = .ok (.iconst 4, 1) := by decide +kernel
theorem dX3_limitSum_5 : decode cX3_limitSum 5 = .ok (.iaload, 1) := by decide +kernel
theorem dX3_limitSum_6 : decode cX3_limitSum 6 = .ok (.aload_n 0, 1) := by decide +kernel
theorem dX3_limitSum_7 : decode cX3_limitSum 7 = .ok (.getfield 18, 3) := by decide +kernel
theorem dX3_limitSum_10 : decode cX3_limitSum 10 = .ok (.iconst 5, 1) := by decide +kernel
theorem dX3_limitSum_11 : decode cX3_limitSum 11 = .ok (.iaload, 1) := by decide +kernel
theorem dX3_limitSum_12 : decode cX3_limitSum 12 = .ok (.iadd, 1) := by decide +kernel
theorem dX3_limitSum_13 : decode cX3_limitSum 13 = .ok (.aload_n 0, 1) := by decide +kernel
theorem dX3_limitSum_14 : decode cX3_limitSum 14 = .ok (.getfield 18, 3) := by decide +kernel
theorem dX3_limitSum_17 : decode cX3_limitSum 17 = .ok (.bipush 6, 2) := by decide +kernel
theorem dX3_limitSum_19 : decode cX3_limitSum 19 = .ok (.iaload, 1) := by decide +kernel
theorem dX3_limitSum_20 : decode cX3_limitSum 20 = .ok (.iadd, 1) := by decide +kernel
theorem dX3_limitSum_21 : decode cX3_limitSum 21 = .ok (.istore_n 2, 1) := by decide +kernel
theorem dX3_limitSum_22 : decode cX3_limitSum 22 = .ok (.iload_n 1, 1) := by decide +kernel
theorem dX3_limitSum_23 : decode cX3_limitSum 23 = .ok (.iload_n 2, 1) := by decide +kernel
theorem dX3_limitSum_24 : decode cX3_limitSum 24 = .ok (.isub, 1) := by decide +kernel
theorem dX3_limitSum_25 : decode cX3_limitSum 25 = .ok (.aload_n 0, 1) := by decide +kernel
theorem dX3_limitSum_26 : decode cX3_limitSum 26 = .ok (.getfield 18, 3) := by decide +kernel
theorem dX3_limitSum_29 : decode cX3_limitSum 29 = .ok (.iconst 3, 1) := by decide +kernel
theorem dX3_limitSum_30 : decode cX3_limitSum 30 = .ok (.iaload, 1) := by decide +kernel
theorem dX3_limitSum_31 : decode cX3_limitSum 31 = .ok (.isub, 1) := by decide +kernel
theorem dX3_limitSum_32 : decode cX3_limitSum 32 = .ok (.istore_n 3, 1) := by decide +kernel
theorem dX3_limitSum_33 : decode cX3_limitSum 33 = .ok (.aload_n 0, 1) := by decide +kernel
theorem dX3_limitSum_34 : decode cX3_limitSum 34 = .ok (.getfield 18, 3) := by decide +kernel
theorem dX3_limitSum_37 : decode cX3_limitSum 37 = .ok (.iconst 0, 1) := by decide +kernel
theorem dX3_limitSum_38 : decode cX3_limitSum 38 = .ok (.iaload, 1) := by decide +kernel
theorem dX3_limitSum_39 : decode cX3_limitSum 39 = .ok (.aload_n 0, 1) := by decide +kernel
theorem dX3_limitSum_40 : decode cX3_limitSum 40 = .ok (.getfield 18, 3) := by decide +kernel
theorem dX3_limitSum_43 : decode cX3_limitSum 43 = .ok (.iconst 1, 1) := by decide +kernel
theorem dX3_limitSum_44 : decode cX3_limitSum 44 = .ok (.iaload, 1) := by decide +kernel
theorem dX3_limitSum_45 : decode cX3_limitSum 45 = .ok (.iadd, 1) := by decide +kernel
theorem dX3_limitSum_46 : decode cX3_limitSum 46 = .ok (.aload_n 0, 1) := by decide +kernel
theorem dX3_limitSum_47 : decode cX3_limitSum 47 = .ok (.getfield 18, 3) := by decide +kernel
theorem dX3_limitSum_50 : decode cX3_limitSum 50 = .ok (.iconst 2, 1) := by decide +kernel
theorem dX3_limitSum_51 : decode cX3_limitSum 51 = .ok (.iaload, 1) := by decide +kernel
theorem dX3_limitSum_52 : decode cX3_limitSum 52 = .ok (.iadd, 1) := by decide +kernel
theorem dX3_limitSum_53 : decode cX3_limitSum 53 = .ok (.istore 4, 2) := by decide +kernel
theorem dX3_limitSum_55 : decode cX3_limitSum 55 = .ok (.iload_n 3, 1) := by decide +kernel
theorem dX3_limitSum_56 : decode cX3_limitSum 56 = .ok (.ifCond .ge 52, 3) := by decide +kernel
theorem dX3_limitSum_59 : decode cX3_limitSum 59 = .ok (.aload_n 0, 1) := by decide +kernel
theorem dX3_limitSum_60 : decode cX3_limitSum 60 = .ok (.getfield 18, 3) := by decide +kernel
theorem dX3_limitSum_63 : decode cX3_limitSum 63 = .ok (.iconst 0, 1) := by decide +kernel
theorem dX3_limitSum_64 : decode cX3_limitSum 64 = .ok (.iconst 0, 1) := by decide +kernel
theorem dX3_limitSum_65 : decode cX3_limitSum 65 = .ok (.iastore, 1) := by decide +kernel
theorem dX3_limitSum_66 : decode cX3_limitSum 66 = .ok (.aload_n 0, 1) := by decide +kernel
theorem dX3_limitSum_67 : decode cX3_limitSum 67 = .ok (.getfield 18, 3) := by decide +kernel
theorem dX3_limitSum_70 : decode cX3_limitSum 70 = .ok (.iconst 1, 1) := by decide +kernel
theorem dX3_limitSum_71 : decode cX3_limitSum 71 = .ok (.iconst 0, 1) := by decide +kernel
theorem dX3_limitSum_72 : decode cX3_limitSum 72 = .ok (.iastore, 1) := by decide +kernel
theorem dX3_limitSum_73 : decode cX3_limitSum 73 = .ok (.aload_n 0, 1) := by decide +kernel
theorem dX3_limitSum_74 : decode cX3_limitSum 74 = .ok (.getfield 18, 3) := by decide +kernel
theorem dX3_limitSum_77 : decode cX3_limitSum 77 = .ok (.iconst 2, 1) := by decide +kernel
theorem dX3_limitSum_78 : decode cX3_limitSum 78 = .ok (.iconst 0, 1) := by decide +kernel
theorem dX3_limitSum_79 : decode cX3_limitSum 79 = .ok (.iastore, 1) := by decide +kernel
theorem dX3_limitSum_80 : decode cX3_limitSum 80 = .ok (.aload_n 0, 1) := by decide +kernel
theorem dX3_limitSum_81 : decode cX3_limitSum 81 = .ok (.getfield 18, 3) := by decide +kernel
theorem dX3_limitSum_84 : decode cX3_limitSum 84 = .ok (.iconst 3, 1) := by decide +kernel
theorem dX3_limitSum_85 : decode cX3_limitSum 85 = .ok (.iconst 0, 1) := by decide +kernel
theorem dX3_limitSum_86 : decode cX3_limitSum 86 = .ok (.iload_n 1, 1) := by decide +kernel
theorem dX3_limitSum_87 : decode cX3_limitSum 87 = .ok (.iload_n 2, 1) := by decide +kernel
theorem dX3_limitSum_88 : decode cX3_limitSum 88 = .ok (.isub, 1) := by decide +kernel
theorem dX3_limitSum_89 : decode cX3_limitSum 89 = .ok (.invokestatic 108, 3) := by decide +kernel
theorem dX3_limitSum_92 : decode cX3_limitSum 92 = .ok (.iastore, 1) := by decide +kernel
theorem dX3_limitSum_93 : decode cX3_limitSum 93 = .ok (.iload_n 1, 1) := by decide +kernel
theorem dX3_limitSum_94 : decode cX3_limitSum 94 = .ok (.iload_n 2, 1) := by decide +kernel
theorem dX3_limitSum_95 : decode cX3_limitSum 95 = .ok (.if_icmp .ge 27, 3) := by decide +kernel
theorem dX3_limitSum_98 : decode cX3_limitSum 98 = .ok (.aload_n 0, 1) := by decide +kernel
theorem dX3_limitSum_99 : decode cX3_limitSum 99 = .ok (.iconst 4, 1) := by decide +kernel
theorem dX3_limitSum_100 : decode cX3_limitSum 100 = .ok (.iload_n 1, 1) := by decide +kernel
theorem dX3_limitSum_101 : decode cX3_limitSum 101 = .ok (.iload_n 2, 1) := by decide +kernel
theorem dX3_limitSum_102 : decode cX3_limitSum 102 = .ok (.invokevirtual 131, 3) := by decide +kernel
theorem dX3_limitSum_105 : decode cX3_limitSum 105 = .ok (.goto 17, 3) := by decide +kernel
theorem dX3_limitSum_108 : decode cX3_limitSum 108 = .ok (.iload 4, 2) := by decide +kernel
theorem dX3_limitSum_110 : decode cX3_limitSum 110 = .ok (.iload_n 3, 1) := by decide +kernel
theorem dX3_limitSum_111 : decode cX3_limitSum 111 = .ok (.if_icmp .le 11, 3) := by decide +kernel
theorem dX3_limitSum_114 : decode cX3_limitSum 114 = .ok (.aload_n 0, 1) := by decide +kernel
theorem dX3_limitSum_115 : decode cX3_limitSum 115 = .ok (.iconst 0, 1) := by decide +kernel
theorem dX3_limitSum_116 : decode cX3_limitSum 116 = .ok (.iload_n 3, 1) := by decide +kernel
theorem dX3_limitSum_117 : decode cX3_limitSum 117 = .ok (.iload 4, 2) := by decide +kernel
theorem dX3_limitSum_119 : decode cX3_limitSum 119 = .ok (.invokevirtual 131, 3) := by decide +kernel
theorem dX3_limitSum_122 : decode cX3_limitSum 122 = .ok (.return_, 1) := by decide +kernel
theorem dX3_shrink_0 : decode cX3_shrink 0 = .ok (.iload_n 3, 1) := by decide +kernel
theorem dX3_shrink_1 : decode cX3_shrink 1 = .ok (.ifCond .gt 4, 3) := by decide +kernel
theorem dX3_shrink_4 : decode cX3_shrink 4 = .ok (.return_, 1) := by decide +kernel
theorem dX3_shrink_5 : decode cX3_shrink 5 = .ok (.iload_n 1, 1) := by decide +kernel
theorem dX3_shrink_6 : decode cX3_shrink 6 = .ok (.istore 4, 2) := by decide +kernel
theorem dX3_shrink_8 : decode cX3_shrink 8 = .ok (.iload 4, 2) := by decide +kernel
theorem dX3_shrink_10 : decode cX3_shrink 10 = .ok (.iload_n 1, 1) := by decide +kernel
theorem dX3_shrink_11 : decode cX3_shrink 11 = .ok (.iconst 3, 1) := by decide +kernel
theorem dX3_shrink_12 : decode cX3_shrink 12 = .ok (.iadd, 1) := by decide +kernel
theorem dX3_shrink_13 : decode cX3_shrink 13 = .ok (.if_icmp .ge 34, 3) := by decide +kernel
theorem dX3_shrink_16 : decode cX3_shrink 16 = .ok (.iload 4, 2) := by decide +kernel
theorem dX3_shrink_18 : decode cX3_shrink 18 = .ok (.bipush 7, 2) := by decide +kernel
theorem dX3_shrink_20 : decode cX3_shrink 20 = .ok (.if_icmp .ge 27, 3) := by decide +kernel
theorem dX3_shrink_23 : decode cX3_shrink 23 = .ok (.aload_n 0, 1) := by decide +kernel
theorem dX3_shrink_24 : decode cX3_shrink 24 = .ok (.getfield 18, 3) := by decide +kernel
theorem dX3_shrink_27 : decode cX3_shrink 27 = .ok (.iload 4, 2) := by decide +kernel
theorem dX3_shrink_29 : decode cX3_shrink 29 = .ok (.aload_n 0, 1) := by decide +kernel
theorem dX3_shrink_30 : decode cX3_shrink 30 = .ok (.getfield 18, 3) := by decide +kernel
theorem dX3_shrink_33 : decode cX3_shrink 33 = .ok (.iload 4, 2) := by decide +kernel
theorem dX3_shrink_35 : decode cX3_shrink 35 = .ok (.iaload, 1) := by decide +kernel
theorem dX3_shrink_36 : decode cX3_shrink 36 = .ok (.iload_n 2, 1) := by decide +kernel
theorem dX3_shrink_37 : decode cX3_shrink 37 = .ok (.imul, 1) := by decide +kernel
theorem dX3_shrink_38 : decode cX3_shrink 38 = .ok (.iload_n 3, 1) := by decide +kernel
theorem dX3_shrink_39 : decode cX3_shrink 39 = .ok (.idiv, 1) := by decide +kernel
theorem dX3_shrink_40 : decode cX3_shrink 40 = .ok (.iastore, 1) := by decide +kernel
theorem dX3_shrink_41 : decode cX3_shrink 41 = .ok (.iinc 4 1, 3) := by decide +kernel
theorem dX3_shrink_44 : decode cX3_shrink 44 = .ok (.goto (-36), 3) := by decide +kernel
theorem dX3_shrink_47 : decode cX3_shrink 47 = .ok (.return_, 1) := by decide +kernel
theorem dX3_valueOf_0 : decode cX3_valueOf 0 = .ok (.iload_n 1, 1) := by decide +kernel
theorem dX3_valueOf_1 : decode cX3_valueOf 1 = .ok (.iconst 0, 1) := by decide +kernel
theorem dX3_valueOf_2 : decode cX3_valueOf 2 = .ok (.bipush 6, 2) := by decide +kernel
theorem dX3_valueOf_4 : decode cX3_valueOf 4 = .ok (.invokestatic 88, 3) := by decide +kernel
theorem dX3_valueOf_7 : decode cX3_valueOf 7 = .ok (.ifCond .eq 12, 3) := by decide +kernel
theorem dX3_valueOf_10 : decode cX3_valueOf 10 = .ok (.aload_n 0, 1) := by decide +kernel
theorem dX3_valueOf_11 : decode cX3_valueOf 11 = .ok (.getfield 18, 3) := by decide +kernel
theorem dX3_valueOf_14 : decode cX3_valueOf 14 = .ok (.iload_n 1, 1) := by decide +kernel
theorem dX3_valueOf_15 : decode cX3_valueOf 15 = .ok (.iaload, 1) := by decide +kernel
theorem dX3_valueOf_16 : decode cX3_valueOf 16 = .ok (.goto 10, 3) := by decide +kernel
theorem dX3_valueOf_19 : decode cX3_valueOf 19 = .ok (.aload_n 0, 1) := by decide +kernel
theorem dX3_valueOf_20 : decode cX3_valueOf 20 = .ok (.getfield 18, 3) := by decide +kernel
theorem dX3_valueOf_23 : decode cX3_valueOf 23 = .ok (.invokestatic 134, 3) := by decide +kernel
theorem dX3_valueOf_26 : decode cX3_valueOf 26 = .ok (.ireturn, 1) := by decide +kernel
theorem dX3_isDisordered_0 : decode cX3_isDisordered 0 = .ok (.iconst 0, 1) := by decide +kernel
theorem dX3_isDisordered_1 : decode cX3_isDisordered 1 = .ok (.istore_n 1, 1) := by decide +kernel
theorem dX3_isDisordered_2 : decode cX3_isDisordered 2 = .ok (.iload_n 1, 1) := by decide +kernel
theorem dX3_isDisordered_3 : decode cX3_isDisordered 3 = .ok (.iconst 3, 1) := by decide +kernel
theorem dX3_isDisordered_4 : decode cX3_isDisordered 4 = .ok (.if_icmp .ge 54, 3) := by decide +kernel
theorem dX3_isDisordered_7 : decode cX3_isDisordered 7 = .ok (.iconst 0, 1) := by decide +kernel
theorem dX3_isDisordered_8 : decode cX3_isDisordered 8 = .ok (.istore_n 2, 1) := by decide +kernel
theorem dX3_isDisordered_9 : decode cX3_isDisordered 9 = .ok (.iload_n 2, 1) := by decide +kernel
theorem dX3_isDisordered_10 : decode cX3_isDisordered 10 = .ok (.iconst 3, 1) := by decide +kernel
theorem dX3_isDisordered_11 : decode cX3_isDisordered 11 = .ok (.if_icmp .ge 41, 3) := by decide +kernel
theorem dX3_isDisordered_14 : decode cX3_isDisordered 14 = .ok (.aload_n 0, 1) := by decide +kernel
theorem dX3_isDisordered_15 : decode cX3_isDisordered 15 = .ok (.getfield 15, 3) := by decide +kernel
theorem dX3_isDisordered_18 : decode cX3_isDisordered 18 = .ok (.iload_n 1, 1) := by decide +kernel
theorem dX3_isDisordered_19 : decode cX3_isDisordered 19 = .ok (.iaload, 1) := by decide +kernel
theorem dX3_isDisordered_20 : decode cX3_isDisordered 20 = .ok (.aload_n 0, 1) := by decide +kernel
theorem dX3_isDisordered_21 : decode cX3_isDisordered 21 = .ok (.getfield 15, 3) := by decide +kernel
theorem dX3_isDisordered_24 : decode cX3_isDisordered 24 = .ok (.iload_n 2, 1) := by decide +kernel
theorem dX3_isDisordered_25 : decode cX3_isDisordered 25 = .ok (.iaload, 1) := by decide +kernel
theorem dX3_isDisordered_26 : decode cX3_isDisordered 26 = .ok (.if_icmp .ge 20, 3) := by decide +kernel
theorem dX3_isDisordered_29 : decode cX3_isDisordered 29 = .ok (.aload_n 0, 1) := by decide +kernel
theorem dX3_isDisordered_30 : decode cX3_isDisordered 30 = .ok (.getfield 18, 3) := by decide +kernel
theorem dX3_isDisordered_33 : decode cX3_isDisordered 33 = .ok (.iload_n 1, 1) := by decide +kernel
theorem dX3_isDisordered_34 : decode cX3_isDisordered 34 = .ok (.iaload, 1) := by decide +kernel
theorem dX3_isDisordered_35 : decode cX3_isDisordered 35 = .ok (.aload_n 0, 1) := by decide +kernel
theorem dX3_isDisordered_36 : decode cX3_isDisordered 36 = .ok (.getfield 18, 3) := by decide +kernel
theorem dX3_isDisordered_39 : decode cX3_isDisordered 39 = .ok (.iload_n 2, 1) := by decide +kernel
theorem dX3_isDisordered_40 : decode cX3_isDisordered 40 = .ok (.iaload, 1) := by decide +kernel
theorem dX3_isDisordered_41 : decode cX3_isDisordered 41 = .ok (.if_icmp .le 5, 3) := by decide +kernel
theorem dX3_isDisordered_44 : decode cX3_isDisordered 44 = .ok (.iconst 1, 1) := by decide +kernel
theorem dX3_isDisordered_45 : decode cX3_isDisordered 45 = .ok (.ireturn, 1) := by decide +kernel
theorem dX3_isDisordered_46 : decode cX3_isDisordered 46 = .ok (.iinc 2 1, 3) := by decide +kernel
theorem dX3_isDisordered_49 : decode cX3_isDisordered 49 = .ok (.goto (-40), 3) := by decide +kernel
theorem dX3_isDisordered_52 : decode cX3_isDisordered 52 = .ok (.iinc 1 1, 3) := by decide +kernel
theorem dX3_isDisordered_55 : decode cX3_isDisordered 55 = .ok (.goto (-53), 3) := by decide +kernel
theorem dX3_isDisordered_58 : decode cX3_isDisordered 58 = .ok (.iconst 0, 1) := by decide +kernel
theorem dX3_isDisordered_59 : decode cX3_isDisordered 59 = .ok (.ireturn, 1) := by decide +kernel
theorem dX4_init_0 : decode cX4_init 0 = .ok (.aload_n 0, 1) := by decide +kernel
theorem dX4_init_1 : decode cX4_init 1 = .ok (.invokespecial 3, 3) := by decide +kernel
theorem dX4_init_4 : decode cX4_init 4 = .ok (.aload_n 0, 1) := by decide +kernel
theorem dX4_init_5 : decode cX4_init 5 = .ok (.bipush 8, 2) := by decide +kernel
theorem dX4_init_7 : decode cX4_init 7 = .ok (.putfield 9, 3) := by decide +kernel
theorem dX4_init_10 : decode cX4_init 10 = .ok (.aload_n 0, 1) := by decide +kernel
theorem dX4_init_11 : decode cX4_init 11 = .ok (.bipush 6, 2) := by decide +kernel
theorem dX4_init_13 : decode cX4_init 13 = .ok (.putfield 15, 3) := by decide +kernel
theorem dX4_init_16 : decode cX4_init 16 = .ok (.aload_n 0, 1) := by decide +kernel
theorem dX4_init_17 : decode cX4_init 17 = .ok (.bipush 50, 2) := by decide +kernel
theorem dX4_init_19 : decode cX4_init 19 = .ok (.putfield 18, 3) := by decide +kernel
theorem dX4_init_22 : decode cX4_init 22 = .ok (.aload_n 0, 1) := by decide +kernel
theorem dX4_init_23 : decode cX4_init 23 = .ok (.bipush 40, 2) := by decide +kernel
theorem dX4_init_25 : decode cX4_init 25 = .ok (.putfield 21, 3) := by decide +kernel
theorem dX4_init_28 : decode cX4_init 28 = .ok (.aload_n 0, 1) := by decide +kernel
theorem dX4_init_29 : decode cX4_init 29 = .ok (.sipush 700, 3) := by decide +kernel
theorem dX4_init_32 : decode cX4_init 32 = .ok (.putfield 24, 3) := by decide +kernel
theorem dX4_init_35 : decode cX4_init 35 = .ok (.aload_n 0, 1) := by decide +kernel
theorem dX4_init_36 : decode cX4_init 36 = .ok (.iconst 3, 1) := by decide +kernel
theorem dX4_init_37 : decode cX4_init 37 = .ok (.newarray .int, 2) := by decide +kernel
theorem dX4_init_39 : decode cX4_init 39 = .ok (.putfield 27, 3) := by decide +kernel
theorem dX4_init_42 : decode cX4_init 42 = .ok (.iconst 0, 1) := by decide +kernel
theorem dX4_init_43 : decode cX4_init 43 = .ok (.istore_n 1, 1) := by decide +kernel
theorem dX4_init_44 : decode cX4_init 44 = .ok (.iload_n 1, 1) := by decide +kernel
theorem dX4_init_45 : decode cX4_init 45 = .ok (.iconst 3, 1) := by decide +kernel
theorem dX4_init_46 : decode cX4_init 46 = .ok (.if_icmp .ge 16, 3) := by decide +kernel
theorem dX4_init_49 : decode cX4_init 49 = .ok (.aload_n 0, 1) := by decide +kernel
theorem dX4_init_50 : decode cX4_init 50 = .ok (.getfield 27, 3) := by decide +kernel
theorem dX4_init_53 : decode cX4_init 53 = .ok (.iload_n 1, 1) := by decide +kernel
theorem dX4_init_54 : decode cX4_init 54 = .ok (.iconst 1, 1) := by decide +kernel
theorem dX4_init_55 : decode cX4_init 55 = .ok (.iastore, 1) := by decide +kernel
theorem dX4_init_56 : decode cX4_init 56 = .ok (.iinc 1 1, 3) := by decide +kernel
theorem dX4_init_59 : decode cX4_init 59 = .ok (.goto (-15), 3) := by decide +kernel
theorem dX4_init_62 : decode cX4_init 62 = .ok (.aload_n 0, 1) := by decide +kernel
theorem dX4_init_63 : decode cX4_init 63 = .ok (.new 31, 3) := by decide +kernel
theorem dX4_init_66 : decode cX4_init 66 = .ok (.dup, 1) := by decide +kernel
theorem dX4_init_67 : decode cX4_init 67 = .ok (.invokespecial 33, 3) := by decide +kernel
theorem dX4_init_70 : decode cX4_init 70 = .ok (.putfield 34, 3) := by decide +kernel
theorem dX4_init_73 : decode cX4_init 73 = .ok (.aload_n 0, 1) := by decide +kernel
theorem dX4_init_74 : decode cX4_init 74 = .ok (.bipush 7, 2) := by decide +kernel
theorem dX4_init_76 : decode cX4_init 76 = .ok (.anewarray 38, 3) := by decide +kernel
theorem dX4_init_79 : decode cX4_init 79 = .ok (.putfield 40, 3) := by decide +kernel
theorem dX4_init_82 : decode cX4_init 82 = .ok (.iconst 0, 1) := by decide +kernel
theorem dX4_init_83 : decode cX4_init 83 = .ok (.istore_n 1, 1) := by decide +kernel
theorem dX4_init_84 : decode cX4_init 84 = .ok (.iload_n 1, 1) := by decide +kernel
theorem dX4_init_85 : decode cX4_init 85 = .ok (.bipush 7, 2) := by decide +kernel
theorem dX4_init_87 : decode cX4_init 87 = .ok (.if_icmp .ge 22, 3) := by decide +kernel
theorem dX4_init_90 : decode cX4_init 90 = .ok (.aload_n 0, 1) := by decide +kernel
theorem dX4_init_91 : decode cX4_init 91 = .ok (.getfield 40, 3) := by decide +kernel
theorem dX4_init_94 : decode cX4_init 94 = .ok (.iload_n 1, 1) := by decide +kernel
theorem dX4_init_95 : decode cX4_init 95 = .ok (.new 38, 3) := by decide +kernel
theorem dX4_init_98 : decode cX4_init 98 = .ok (.dup, 1) := by decide +kernel
theorem dX4_init_99 : decode cX4_init 99 = .ok (.invokespecial 44, 3) := by decide +kernel
theorem dX4_init_102 : decode cX4_init 102 = .ok (.aastore, 1) := by decide +kernel
theorem dX4_init_103 : decode cX4_init 103 = .ok (.iinc 1 1, 3) := by decide +kernel
theorem dX4_init_106 : decode cX4_init 106 = .ok (.goto (-22), 3) := by decide +kernel
theorem dX4_init_109 : decode cX4_init 109 = .ok (.return_, 1) := by decide +kernel
theorem dX4_copyFrom_0 : decode cX4_copyFrom 0 = .ok (.aload_n 0, 1) := by decide +kernel
theorem dX4_copyFrom_1 : decode cX4_copyFrom 1 = .ok (.aload_n 1, 1) := by decide +kernel
theorem dX4_copyFrom_2 : decode cX4_copyFrom 2 = .ok (.getfield 9, 3) := by decide +kernel
theorem dX4_copyFrom_5 : decode cX4_copyFrom 5 = .ok (.putfield 9, 3) := by decide +kernel
theorem dX4_copyFrom_8 : decode cX4_copyFrom 8 = .ok (.aload_n 0, 1) := by decide +kernel
theorem dX4_copyFrom_9 : decode cX4_copyFrom 9 = .ok (.aload_n 1, 1) := by decide +kernel
theorem dX4_copyFrom_10 : decode cX4_copyFrom 10 = .ok (.getfield 15, 3) := by decide +kernel
theorem dX4_copyFrom_13 : decode cX4_copyFrom 13 = .ok (.putfield 15, 3) := by decide +kernel
theorem dX4_copyFrom_16 : decode cX4_copyFrom 16 = .ok (.aload_n 0, 1) := by decide +kernel
theorem dX4_copyFrom_17 : decode cX4_copyFrom 17 = .ok (.aload_n 1, 1) := by decide +kernel
theorem dX4_copyFrom_18 : decode cX4_copyFrom 18 = .ok (.getfield 18, 3) := by decide +kernel
theorem dX4_copyFrom_21 : decode cX4_copyFrom 21 = .ok (.putfield 18, 3) := by decide +kernel
theorem dX4_copyFrom_24 : decode cX4_copyFrom 24 = .ok (.aload_n 0, 1) := by decide +kernel
theorem dX4_copyFrom_25 : decode cX4_copyFrom 25 = .ok (.aload_n 1, 1) := by decide +kernel
theorem dX4_copyFrom_26 : decode cX4_copyFrom 26 = .ok (.getfield 21, 3) := by decide +kernel
theorem dX4_copyFrom_29 : decode cX4_copyFrom 29 = .ok (.putfield 21, 3) := by decide +kernel
theorem dX4_copyFrom_32 : decode cX4_copyFrom 32 = .ok (.aload_n 0, 1) := by decide +kernel
theorem dX4_copyFrom_33 : decode cX4_copyFrom 33 = .ok (.aload_n 1, 1) := by decide +kernel
theorem dX4_copyFrom_34 : decode cX4_copyFrom 34 = .ok (.getfield 24, 3) := by decide +kernel
theorem dX4_copyFrom_37 : decode cX4_copyFrom 37 = .ok (.putfield 24, 3) := by decide +kernel
theorem dX4_copyFrom_40 : decode cX4_copyFrom 40 = .ok (.iconst 0, 1) := by decide +kernel
theorem dX4_copyFrom_41 : decode cX4_copyFrom 41 = .ok (.istore_n 2, 1) := by decide +kernel
theorem dX4_copyFrom_42 : decode cX4_copyFrom 42 = .ok (.iload_n 2, 1) := by decide +kernel
theorem dX4_copyFrom_43 : decode cX4_copyFrom 43 = .ok (.iconst 3, 1) := by decide +kernel
theorem dX4_copyFrom_44 : decode cX4_copyFrom 44 = .ok (.if_icmp .ge 21, 3) := by decide +kernel
theorem dX4_copyFrom_47 : decode cX4_copyFrom 47 = .ok (.aload_n 0, 1) := by decide +kernel
theorem dX4_copyFrom_48 : decode cX4_copyFrom 48 = .ok (.getfield 27, 3) := by decide +kernel
theorem dX4_copyFrom_51 : decode cX4_copyFrom 51 = .ok (.iload_n 2, 1) := by decide +kernel
theorem dX4_copyFrom_52 : decode cX4_copyFrom 52 = .ok (.aload_n 1, 1) := by decide +kernel
theorem dX4_copyFrom_53 : decode cX4_copyFrom 53 = .ok (.getfield 27, 3) := by decide +kernel
theorem dX4_copyFrom_56 : decode cX4_copyFrom 56 = .ok (.iload_n 2, 1) := by decide +kernel
theorem dX4_copyFrom_57 : decode cX4_copyFrom 57 = .ok (.iaload, 1) := by decide +kernel
theorem dX4_copyFrom_58 : decode cX4_copyFrom 58 = .ok (.iastore, 1) := by decide +kernel
theorem dX4_copyFrom_59 : decode cX4_copyFrom 59 = .ok (.iinc 2 1, 3) := by decide +kernel
theorem dX4_copyFrom_62 : decode cX4_copyFrom 62 = .ok (.goto (-20), 3) := by decide +kernel
theorem dX4_copyFrom_65 : decode cX4_copyFrom 65 = .ok (.aload_n 0, 1) := by decide +kernel
theorem dX4_copyFrom_66 : decode cX4_copyFrom 66 = .ok (.getfield 34, 3) := by decide +kernel
theorem dX4_copyFrom_69 : decode cX4_copyFrom 69 = .ok (.aload_n 1, 1) := by decide +kernel
theorem dX4_copyFrom_70 : decode cX4_copyFrom 70 = .ok (.getfield 34, 3) := by decide +kernel
theorem dX4_copyFrom_73 : decode cX4_copyFrom 73 = .ok (.invokevirtual 45, 3) := by decide +kernel
theorem dX4_copyFrom_76 : decode cX4_copyFrom 76 = .ok (.iconst 0, 1) := by decide +kernel
theorem dX4_copyFrom_77 : decode cX4_copyFrom 77 = .ok (.istore_n 2, 1) := by decide +kernel
theorem dX4_copyFrom_78 : decode cX4_copyFrom 78 = .ok (.iload_n 2, 1) := by decide +kernel
theorem dX4_copyFrom_79 : decode cX4_copyFrom 79 = .ok (.bipush 7, 2) := by decide +kernel
theorem dX4_copyFrom_81 : decode cX4_copyFrom 81 = .ok (.if_icmp .ge 24, 3) := by decide +kernel
theorem dX4_copyFrom_84 : decode cX4_copyFrom 84 = .ok (.aload_n 0, 1) := by decide +kernel
theorem dX4_copyFrom_85 : decode cX4_copyFrom 85 = .ok (.getfield 40, 3) := by decide +kernel
theorem dX4_copyFrom_88 : decode cX4_copyFrom 88 = .ok (.iload_n 2, 1) := by decide +kernel
theorem dX4_copyFrom_89 : decode cX4_copyFrom 89 = .ok (.aaload, 1) := by decide +kernel
theorem dX4_copyFrom_90 : decode cX4_copyFrom 90 = .ok (.aload_n 1, 1) := by decide +kernel
theorem dX4_copyFrom_91 : decode cX4_copyFrom 91 = .ok (.getfield 40, 3) := by decide +kernel
theorem dX4_copyFrom_94 : decode cX4_copyFrom 94 = .ok (.iload_n 2, 1) := by decide +kernel
theorem dX4_copyFrom_95 : decode cX4_copyFrom 95 = .ok (.aaload, 1) := by decide +kernel
theorem dX4_copyFrom_96 : decode cX4_copyFrom 96 = .ok (.invokevirtual 49, 3) := by decide +kernel
theorem dX4_copyFrom_99 : decode cX4_copyFrom 99 = .ok (.iinc 2 1, 3) := by decide +kernel
theorem dX4_copyFrom_102 : decode cX4_copyFrom 102 = .ok (.goto (-24), 3) := by decide +kernel
theorem dX4_copyFrom_105 : decode cX4_copyFrom 105 = .ok (.return_, 1) := by decide +kernel
theorem dX5_init_0 : decode cX5_init 0 = .ok (.aload_n 0, 1) := by decide +kernel
theorem dX5_init_1 : decode cX5_init 1 = .ok (.invokespecial 3, 3) := by decide +kernel
theorem dX5_init_4 : decode cX5_init 4 = .ok (.aload_n 0, 1) := by decide +kernel
theorem dX5_init_5 : decode cX5_init 5 = .ok (.bipush 24, 2) := by decide +kernel
theorem dX5_init_7 : decode cX5_init 7 = .ok (.anewarray 9, 3) := by decide +kernel
theorem dX5_init_10 : decode cX5_init 10 = .ok (.putfield 11, 3) := by decide +kernel
theorem dX5_init_13 : decode cX5_init 13 = .ok (.iconst 0, 1) := by decide +kernel
theorem dX5_init_14 : decode cX5_init 14 = .ok (.istore_n 1, 1) := by decide +kernel
theorem dX5_init_15 : decode cX5_init 15 = .ok (.iload_n 1, 1) := by decide +kernel
theorem dX5_init_16 : decode cX5_init 16 = .ok (.bipush 24, 2) := by decide +kernel
theorem dX5_init_18 : decode cX5_init 18 = .ok (.if_icmp .ge 22, 3) := by decide +kernel
theorem dX5_init_21 : decode cX5_init 21 = .ok (.aload_n 0, 1) := by decide +kernel
theorem dX5_init_22 : decode cX5_init 22 = .ok (.getfield 11, 3) := by decide +kernel
theorem dX5_init_25 : decode cX5_init 25 = .ok (.iload_n 1, 1) := by decide +kernel
theorem dX5_init_26 : decode cX5_init 26 = .ok (.new 9, 3) := by decide +kernel
theorem dX5_init_29 : decode cX5_init 29 = .ok (.dup, 1) := by decide +kernel
theorem dX5_init_30 : decode cX5_init 30 = .ok (.invokespecial 17, 3) := by decide +kernel
theorem dX5_init_33 : decode cX5_init 33 = .ok (.aastore, 1) := by decide +kernel
theorem dX5_init_34 : decode cX5_init 34 = .ok (.iinc 1 1, 3) := by decide +kernel
theorem dX5_init_37 : decode cX5_init 37 = .ok (.goto (-22), 3) := by decide +kernel
theorem dX5_init_40 : decode cX5_init 40 = .ok (.aload_n 0, 1) := by decide +kernel
theorem dX5_init_41 : decode cX5_init 41 = .ok (.bipush 24, 2) := by decide +kernel
theorem dX5_init_43 : decode cX5_init 43 = .ok (.newarray .int, 2) := by decide +kernel
theorem dX5_init_45 : decode cX5_init 45 = .ok (.putfield 18, 3) := by decide +kernel
theorem dX5_init_48 : decode cX5_init 48 = .ok (.aload_n 0, 1) := by decide +kernel
theorem dX5_init_49 : decode cX5_init 49 = .ok (.bipush 24, 2) := by decide +kernel
theorem dX5_init_51 : decode cX5_init 51 = .ok (.newarray .int, 2) := by decide +kernel
theorem dX5_init_53 : decode cX5_init 53 = .ok (.putfield 22, 3) := by decide +kernel
theorem dX5_init_56 : decode cX5_init 56 = .ok (.aload_n 0, 1) := by decide +kernel
theorem dX5_init_57 : decode cX5_init 57 = .ok (.iconst 1, 1) := by decide +kernel
theorem dX5_init_58 : decode cX5_init 58 = .ok (.putfield 25, 3) := by decide +kernel
theorem dX5_init_61 : decode cX5_init 61 = .ok (.aload_n 0, 1) := by decide +kernel
theorem dX5_init_62 : decode cX5_init 62 = .ok (.getfield 11, 3) := by decide +kernel
theorem dX5_init_65 : decode cX5_init 65 = .ok (.iconst 0, 1) := by decide +kernel
theorem dX5_init_66 : decode cX5_init 66 = .ok (.aaload, 1) := by decide +kernel
theorem dX5_init_67 : decode cX5_init 67 = .ok (.iconst 0, 1) := by decide +kernel
theorem dX5_init_68 : decode cX5_init 68 = .ok (.putfield 29, 3) := by decide +kernel
theorem dX5_init_71 : decode cX5_init 71 = .ok (.aload_n 0, 1) := by decide +kernel
theorem dX5_init_72 : decode cX5_init 72 = .ok (.getfield 11, 3) := by decide +kernel
theorem dX5_init_75 : decode cX5_init 75 = .ok (.iconst 0, 1) := by decide +kernel
theorem dX5_init_76 : decode cX5_init 76 = .ok (.aaload, 1) := by decide +kernel
theorem dX5_init_77 : decode cX5_init 77 = .ok (.bipush 100, 2) := by decide +kernel
theorem dX5_init_79 : decode cX5_init 79 = .ok (.putfield 32, 3) := by decide +kernel
theorem dX5_init_82 : decode cX5_init 82 = .ok (.aload_n 0, 1) := by decide +kernel
theorem dX5_init_83 : decode cX5_init 83 = .ok (.getfield 11, 3) := by decide +kernel
theorem dX5_init_86 : decode cX5_init 86 = .ok (.iconst 0, 1) := by decide +kernel
theorem dX5_init_87 : decode cX5_init 87 = .ok (.aaload, 1) := by decide +kernel
theorem dX5_init_88 : decode cX5_init 88 = .ok (.bipush 100, 2) := by decide +kernel
theorem dX5_init_90 : decode cX5_init 90 = .ok (.putfield 35, 3) := by decide +kernel
theorem dX5_init_93 : decode cX5_init 93 = .ok (.return_, 1) := by decide +kernel
theorem dX5_copyFrom_0 : decode cX5_copyFrom 0 = .ok (.iconst 0, 1) := by decide +kernel
theorem dX5_copyFrom_1 : decode cX5_copyFrom 1 = .ok (.istore_n 2, 1) := by decide +kernel
theorem dX5_copyFrom_2 : decode cX5_copyFrom 2 = .ok (.iload_n 2, 1) := by decide +kernel
theorem dX5_copyFrom_3 : decode cX5_copyFrom 3 = .ok (.bipush 24, 2) := by decide +kernel
theorem dX5_copyFrom_5 : decode cX5_copyFrom 5 = .ok (.if_icmp .ge 36, 3) := by decide +kernel
theorem dX5_copyFrom_8 : decode cX5_copyFrom 8 = .ok (.aload_n 0, 1) := by decide +kernel
theorem dX5_copyFrom_9 : decode cX5_copyFrom 9 = .ok (.getfield 11, 3) := by decide +kernel
theorem dX5_copyFrom_12 : decode cX5_copyFrom 12 = .ok (.iload_n 2, 1) := by decide +kernel
theorem dX5_copyFrom_13 : decode cX5_copyFrom 13 = .ok (.aaload, 1) := by decide +kernel
theorem dX5_copyFrom_14 : decode cX5_copyFrom 14 = .ok (.aload_n 1, 1) := by decide +kernel
theorem dX5_copyFrom_15 : decode cX5_copyFrom 15 = .ok (.getfield 11, 3) := by decide +kernel
theorem dX5_copyFrom_18 : decode cX5_copyFrom 18 = .ok (.iload_n 2, 1) := by decide +kernel
theorem dX5_copyFrom_19 : decode cX5_copyFrom 19 = .ok (.aaload, 1) := by decide +kernel
theorem dX5_copyFrom_20 : decode cX5_copyFrom 20 = .ok (.invokevirtual 38, 3) := by decide +kernel
theorem dX5_copyFrom_23 : decode cX5_copyFrom 23 = .ok (.aload_n 0, 1) := by decide +kernel
theorem dX5_copyFrom_24 : decode cX5_copyFrom 24 = .ok (.getfield 18, 3) := by decide +kernel
theorem dX5_copyFrom_27 : decode cX5_copyFrom 27 = .ok (.iload_n 2, 1) := by decide +kernel
theorem dX5_copyFrom_28 : decode cX5_copyFrom 28 = .ok (.aload_n 1, 1) := by decide +kernel
theorem dX5_copyFrom_29 : decode cX5_copyFrom 29 = .ok (.getfield 18, 3) := by decide +kernel
theorem dX5_copyFrom_32 : decode cX5_copyFrom 32 = .ok (.iload_n 2, 1) := by decide +kernel
theorem dX5_copyFrom_33 : decode cX5_copyFrom 33 = .ok (.iaload, 1) := by decide +kernel
theorem dX5_copyFrom_34 : decode cX5_copyFrom 34 = .ok (.iastore, 1) := by decide +kernel
theorem dX5_copyFrom_35 : decode cX5_copyFrom 35 = .ok (.iinc 2 1, 3) := by decide +kernel
theorem dX5_copyFrom_38 : decode cX5_copyFrom 38 = .ok (.goto (-36), 3) := by decide +kernel
theorem dX5_copyFrom_41 : decode cX5_copyFrom 41 = .ok (.aload_n 0, 1) := by decide +kernel
theorem dX5_copyFrom_42 : decode cX5_copyFrom 42 = .ok (.aload_n 1, 1) := by decide +kernel
theorem dX5_copyFrom_43 : decode cX5_copyFrom 43 = .ok (.getfield 25, 3) := by decide +kernel
theorem dX5_copyFrom_46 : decode cX5_copyFrom 46 = .ok (.putfield 25, 3) := by decide +kernel
theorem dX5_copyFrom_49 : decode cX5_copyFrom 49 = .ok (.return_, 1) := by decide +kernel
theorem dX5_has_0 : decode cX5_has 0 = .ok (.iload_n 1, 1) := by decide +kernel
theorem dX5_has_1 : decode cX5_has 1 = .ok (.iconst 0, 1) := by decide +kernel
theorem dX5_has_2 : decode cX5_has 2 = .ok (.bipush 23, 2) := by decide +kernel
theorem dX5_has_4 : decode cX5_has 4 = .ok (.invokestatic 42, 3) := by decide +kernel
theorem dX5_has_7 : decode cX5_has 7 = .ok (.ifCond .eq 20, 3) := by decide +kernel
theorem dX5_has_10 : decode cX5_has 10 = .ok (.aload_n 0, 1) := by decide +kernel
theorem dX5_has_11 : decode cX5_has 11 = .ok (.getfield 11, 3) := by decide +kernel
theorem dX5_has_14 : decode cX5_has 14 = .ok (.iload_n 1, 1) := by decide +kernel
theorem dX5_has_15 : decode cX5_has 15 = .ok (.aaload, 1) := by decide +kernel
theorem dX5_has_16 : decode cX5_has 16 = .ok (.getfield 29, 3) := by decide +kernel
theorem dX5_has_19 : decode cX5_has 19 = .ok (.iconst (-1), 1) := by decide +kernel
theorem dX5_has_20 : decode cX5_has 20 = .ok (.if_icmp .eq 7, 3) := by decide +kernel
theorem dX5_has_23 : decode cX5_has 23 = .ok (.iconst 1, 1) := by decide +kernel
theorem dX5_has_24 : decode cX5_has 24 = .ok (.goto 4, 3) := by decide +kernel
theorem dX5_has_27 : decode cX5_has 27 = .ok (.iconst 0, 1) := by decide +kernel
theorem dX5_has_28 : decode cX5_has 28 = .ok (.ireturn, 1) := by decide +kernel
theorem dX5_nodeAt_0 : decode cX5_nodeAt 0 = .ok (.iload_n 1, 1) := by decide +kernel
theorem dX5_nodeAt_1 : decode cX5_nodeAt 1 = .ok (.iconst 0, 1) := by decide +kernel
theorem dX5_nodeAt_2 : decode cX5_nodeAt 2 = .ok (.bipush 23, 2) := by decide +kernel
theorem dX5_nodeAt_4 : decode cX5_nodeAt 4 = .ok (.invokestatic 42, 3) := by decide +kernel
theorem dX5_nodeAt_7 : decode cX5_nodeAt 7 = .ok (.ifCond .eq 12, 3) := by decide +kernel
theorem dX5_nodeAt_10 : decode cX5_nodeAt 10 = .ok (.aload_n 0, 1) := by decide +kernel
theorem dX5_nodeAt_11 : decode cX5_nodeAt 11 = .ok (.getfield 11, 3) := by decide +kernel
theorem dX5_nodeAt_14 : decode cX5_nodeAt 14 = .ok (.iload_n 1, 1) := by decide +kernel
theorem dX5_nodeAt_15 : decode cX5_nodeAt 15 = .ok (.aaload, 1) := by decide +kernel
theorem dX5_nodeAt_16 : decode cX5_nodeAt 16 = .ok (.goto 9, 3) := by decide +kernel
theorem dX5_nodeAt_19 : decode cX5_nodeAt 19 = .ok (.aload_n 0, 1) := by decide +kernel
theorem dX5_nodeAt_20 : decode cX5_nodeAt 20 = .ok (.getfield 11, 3) := by decide +kernel
theorem dX5_nodeAt_23 : decode cX5_nodeAt 23 = .ok (.iconst 0, 1) := by decide +kernel
theorem dX5_nodeAt_24 : decode cX5_nodeAt 24 = .ok (.aaload, 1) := by decide +kernel
theorem dX5_nodeAt_25 : decode cX5_nodeAt 25 = .ok (.areturn, 1) := by decide +kernel
theorem dX5_freeNumber_0 : decode cX5_freeNumber 0 = .ok (.iconst 1, 1) := by decide +kernel
theorem dX5_freeNumber_1 : decode cX5_freeNumber 1 = .ok (.istore_n 1, 1) := by decide +kernel
theorem dX5_freeNumber_2 : decode cX5_freeNumber 2 = .ok (.iload_n 1, 1) := by decide +kernel
theorem dX5_freeNumber_3 : decode cX5_freeNumber 3 = .ok (.bipush 24, 2) := by decide +kernel
theorem dX5_freeNumber_5 : decode cX5_freeNumber 5 = .ok (.if_icmp .ge 24, 3) := by decide +kernel
theorem dX5_freeNumber_8 : decode cX5_freeNumber 8 = .ok (.aload_n 0, 1) := by decide +kernel
theorem dX5_freeNumber_9 : decode cX5_freeNumber 9 = .ok (.getfield 11, 3) := by decide +kernel
theorem dX5_freeNumber_12 : decode cX5_freeNumber 12 = .ok (.iload_n 1, 1) := by decide +kernel
theorem dX5_freeNumber_13 : decode cX5_freeNumber 13 = .ok (.aaload, 1) := by decide +kernel
theorem dX5_freeNumber_14 : decode cX5_freeNumber 14 = .ok (.getfield 29, 3) := by decide +kernel
theorem dX5_freeNumber_17 : decode cX5_freeNumber 17 = .ok (.iconst (-1), 1) := by decide +kernel
theorem dX5_freeNumber_18 : decode cX5_freeNumber 18 = .ok (.if_icmp .ne 5, 3) := by decide +kernel
theorem dX5_freeNumber_21 : decode cX5_freeNumber 21 = .ok (.iload_n 1, 1) := by decide +kernel
theorem dX5_freeNumber_22 : decode cX5_freeNumber 22 = .ok (.ireturn, 1) := by decide +kernel
theorem dX5_freeNumber_23 : decode cX5_freeNumber 23 = .ok (.iinc 1 1, 3) := by decide +kernel
theorem dX5_freeNumber_26 : decode cX5_freeNumber 26 = .ok (.goto (-24), 3) := by decide +kernel
theorem dX5_freeNumber_29 : decode cX5_freeNumber 29 = .ok (.iconst (-1), 1) := by decide +kernel
theorem dX5_freeNumber_30 : decode cX5_freeNumber 30 = .ok (.ireturn, 1) := by decide +kernel
theorem dX5_startOf_0 : decode cX5_startOf 0 = .ok (.iconst 0, 1) := by decide +kernel
theorem dX5_startOf_1 : decode cX5_startOf 1 = .ok (.istore_n 2, 1) := by decide +kernel
theorem dX5_startOf_2 : decode cX5_startOf 2 = .ok (.iload_n 2, 1) := by decide +kernel
theorem dX5_startOf_3 : decode cX5_startOf 3 = .ok (.aload_n 0, 1) := by decide +kernel
theorem dX5_startOf_4 : decode cX5_startOf 4 = .ok (.getfield 25, 3) := by decide +kernel
theorem dX5_startOf_7 : decode cX5_startOf 7 = .ok (.if_icmp .ge 21, 3) := by decide +kernel
theorem dX5_startOf_10 : decode cX5_startOf 10 = .ok (.aload_n 0, 1) := by decide +kernel
theorem dX5_startOf_11 : decode cX5_startOf 11 = .ok (.getfield 18, 3) := by decide +kernel
theorem dX5_startOf_14 : decode cX5_startOf 14 = .ok (.iload_n 2, 1) := by decide +kernel
theorem dX5_startOf_15 : decode cX5_startOf 15 = .ok (.iaload, 1) := by decide +kernel
theorem dX5_startOf_16 : decode cX5_startOf 16 = .ok (.iload_n 1, 1) := by decide +kernel
theorem dX5_startOf_17 : decode cX5_startOf 17 = .ok (.if_icmp .ne 5, 3) := by decide +kernel
theorem dX5_startOf_20 : decode cX5_startOf 20 = .ok (.iload_n 2, 1) := by decide +kernel
theorem dX5_startOf_21 : decode cX5_startOf 21 = .ok (.ireturn, 1) := by decide +kernel
theorem dX5_startOf_22 : decode cX5_startOf 22 = .ok (.iinc 2 1, 3) := by decide +kernel
theorem dX5_startOf_25 : decode cX5_startOf 25 = .ok (.goto (-23), 3) := by decide +kernel
theorem dX5_startOf_28 : decode cX5_startOf 28 = .ok (.aload_n 0, 1) := by decide +kernel
theorem dX5_startOf_29 : decode cX5_startOf 29 = .ok (.getfield 25, 3) := by decide +kernel
theorem dX5_startOf_32 : decode cX5_startOf 32 = .ok (.ireturn, 1) := by decide +kernel
theorem dX5_endOf_0 : decode cX5_endOf 0 = .ok (.aload_n 0, 1) := by decide +kernel
theorem dX5_endOf_1 : decode cX5_endOf 1 = .ok (.iload_n 1, 1) := by decide +kernel
theorem dX5_endOf_2 : decode cX5_endOf 2 = .ok (.invokevirtual 46, 3) := by decide +kernel
theorem dX5_endOf_5 : decode cX5_endOf 5 = .ok (.iconst 1, 1) := by decide +kernel
theorem dX5_endOf_6 : decode cX5_endOf 6 = .ok (.iadd, 1) := by decide +kernel
theorem dX5_endOf_7 : decode cX5_endOf 7 = .ok (.istore_n 2, 1) := by decide +kernel
theorem dX5_endOf_8 : decode cX5_endOf 8 = .ok (.aload_n 0, 1) := by decide +kernel
theorem dX5_endOf_9 : decode cX5_endOf 9 = .ok (.iload_n 1, 1) := by decide +kernel
theorem dX5_endOf_10 : decode cX5_endOf 10 = .ok (.invokevirtual 50, 3) := by decide +kernel
theorem dX5_endOf_13 : decode cX5_endOf 13 = .ok (.getfield 54, 3) := by decide +kernel
theorem dX5_endOf_16 : decode cX5_endOf 16 = .ok (.istore_n 3, 1) := by decide +kernel
theorem dX5_endOf_17 : decode cX5_endOf 17 = .ok (.iload_n 2, 1) := by decide +kernel
theorem dX5_endOf_18 : decode cX5_endOf 18 = .ok (.aload_n 0, 1) := by decide +kernel
theorem dX5_endOf_19 : decode cX5_endOf 19 = .ok (.getfield 25, 3) := by decide +kernel
theorem dX5_endOf_22 : decode cX5_endOf 22 = .ok (.if_icmp .ge 26, 3) := by decide +kernel
theorem dX5_endOf_25 : decode cX5_endOf 25 = .ok (.aload_n 0, 1) := by decide +kernel
theorem dX5_endOf_26 : decode cX5_endOf 26 = .ok (.aload_n 0, 1) := by decide +kernel
theorem dX5_endOf_27 : decode cX5_endOf 27 = .ok (.getfield 18, 3) := by decide +kernel
theorem dX5_endOf_30 : decode cX5_endOf 30 = .ok (.iload_n 2, 1) := by decide +kernel
theorem dX5_endOf_31 : decode cX5_endOf 31 = .ok (.iaload, 1) := by decide +kernel
theorem dX5_endOf_32 : decode cX5_endOf 32 = .ok (.invokevirtual 50, 3) := by decide +kernel
theorem dX5_endOf_35 : decode cX5_endOf 35 = .ok (.getfield 54, 3) := by decide +kernel
theorem dX5_endOf_38 : decode cX5_endOf 38 = .ok (.iload_n 3, 1) := by decide +kernel
theorem dX5_endOf_39 : decode cX5_endOf 39 = .ok (.if_icmp .le 9, 3) := by decide +kernel
theorem dX5_endOf_42 : decode cX5_endOf 42 = .ok (.iinc 2 1, 3) := by decide +kernel
theorem dX5_endOf_45 : decode cX5_endOf 45 = .ok (.goto (-28), 3) := by decide +kernel
theorem dX5_endOf_48 : decode cX5_endOf 48 = .ok (.iload_n 2, 1) := by decide +kernel
theorem dX5_endOf_49 : decode cX5_endOf 49 = .ok (.aload_n 0, 1) := by decide +kernel
theorem dX5_endOf_50 : decode cX5_endOf 50 = .ok (.getfield 25, 3) := by decide +kernel
theorem dX5_endOf_53 : decode cX5_endOf 53 = .ok (.invokestatic 57, 3) := by decide +kernel
theorem dX5_endOf_56 : decode cX5_endOf 56 = .ok (.ireturn, 1) := by decide +kernel
theorem dX5_belowOf_0 : decode cX5_belowOf 0 = .ok (.aload_n 0, 1) := by decide +kernel
theorem dX5_belowOf_1 : decode cX5_belowOf 1 = .ok (.iload_n 1, 1) := by decide +kernel
theorem dX5_belowOf_2 : decode cX5_belowOf 2 = .ok (.invokevirtual 63, 3) := by decide +kernel
theorem dX5_belowOf_5 : decode cX5_belowOf 5 = .ok (.aload_n 0, 1) := by decide +kernel
theorem dX5_belowOf_6 : decode cX5_belowOf 6 = .ok (.iload_n 1, 1) := by decide +kernel
theorem dX5_belowOf_7 : decode cX5_belowOf 7 = .ok (.invokevirtual 46, 3) := by decide +kernel
theorem dX5_belowOf_10 : decode cX5_belowOf 10 = .ok (.isub, 1) := by decide +kernel
theorem dX5_belowOf_11 : decode cX5_belowOf 11 = .ok (.iconst 1, 1) := by decide +kernel
theorem dX5_belowOf_12 : decode cX5_belowOf 12 = .ok (.isub, 1) := by decide +kernel
theorem dX5_belowOf_13 : decode cX5_belowOf 13 = .ok (.ireturn, 1) := by decide +kernel
theorem dX5_childrenOf_0 : decode cX5_childrenOf 0 = .ok (.iconst 0, 1) := by decide +kernel
theorem dX5_childrenOf_1 : decode cX5_childrenOf 1 = .ok (.istore_n 2, 1) := by decide +kernel
theorem dX5_childrenOf_2 : decode cX5_childrenOf 2 = .ok (.iconst 1, 1) := by decide +kernel
theorem dX5_childrenOf_3 : decode cX5_childrenOf 3 = .ok (.istore_n 3, 1) := by decide +kernel
theorem dX5_childrenOf_4 : decode cX5_childrenOf 4 = .ok (.iload_n 3, 1) := by decide +kernel
theorem dX5_childrenOf_5 : decode cX5_childrenOf 5 = .ok (.aload_n 0, 1) := by decide +kernel
theorem dX5_childrenOf_6 : decode cX5_childrenOf 6 = .ok (.getfield 25, 3) := by decide +kernel
theorem dX5_childrenOf_9 : decode cX5_childrenOf 9 = .ok (.if_icmp .ge 29, 3) := by decide +kernel
theorem dX5_childrenOf_12 : decode cX5_childrenOf 12 = .ok (.aload_n 0, 1) := by decide +kernel
theorem dX5_childrenOf_13 : decode cX5_childrenOf 13 = .ok (.aload_n 0, 1) := by decide +kernel
theorem dX5_childrenOf_14 : decode cX5_childrenOf 14 = .ok (.getfield 18, 3) := by decide +kernel
theorem dX5_childrenOf_17 : decode cX5_childrenOf 17 = .ok (.iload_n 3, 1) := by decide +kernel
theorem dX5_childrenOf_18 : decode cX5_childrenOf 18 = .ok (.iaload, 1) := by decide +kernel
theorem dX5_childrenOf_19 : decode cX5_childrenOf 19 = .ok (.invokevirtual 50, 3) := by decide +kernel
theorem dX5_childrenOf_22 : decode cX5_childrenOf 22 = .ok (.getfield 66, 3) := by decide +kernel
theorem dX5_childrenOf_25 : decode cX5_childrenOf 25 = .ok (.iload_n 1, 1) := by decide +kernel
theorem dX5_childrenOf_26 : decode cX5_childrenOf 26 = .ok (.if_icmp .ne 6, 3) := by decide +kernel
theorem dX5_childrenOf_29 : decode cX5_childrenOf 29 = .ok (.iinc 2 1, 3) := by decide +kernel
theorem dX5_childrenOf_32 : decode cX5_childrenOf 32 = .ok (.iinc 3 1, 3) := by decide +kernel
theorem dX5_childrenOf_35 : decode cX5_childrenOf 35 = .ok (.goto (-31), 3) := by decide +kernel
theorem dX5_childrenOf_38 : decode cX5_childrenOf 38 = .ok (.iload_n 2, 1) := by decide +kernel
theorem dX5_childrenOf_39 : decode cX5_childrenOf 39 = .ok (.ireturn, 1) := by decide +kernel
theorem dX5_placeOf_0 : decode cX5_placeOf 0 = .ok (.aload_n 0, 1) := by decide +kernel
theorem dX5_placeOf_1 : decode cX5_placeOf 1 = .ok (.iload_n 1, 1) := by decide +kernel
theorem dX5_placeOf_2 : decode cX5_placeOf 2 = .ok (.invokevirtual 50, 3) := by decide +kernel
theorem dX5_placeOf_5 : decode cX5_placeOf 5 = .ok (.getfield 66, 3) := by decide +kernel
theorem dX5_placeOf_8 : decode cX5_placeOf 8 = .ok (.istore_n 2, 1) := by decide +kernel
theorem dX5_placeOf_9 : decode cX5_placeOf 9 = .ok (.iconst 0, 1) := by decide +kernel
theorem dX5_placeOf_10 : decode cX5_placeOf 10 = .ok (.istore_n 3, 1) := by decide +kernel
theorem dX5_placeOf_11 : decode cX5_placeOf 11 = .ok (.iconst 1, 1) := by decide +kernel
theorem dX5_placeOf_12 : decode cX5_placeOf 12 = .ok (.istore 4, 2) := by decide +kernel
theorem dX5_placeOf_14 : decode cX5_placeOf 14 = .ok (.iload 4, 2) := by decide +kernel
theorem dX5_placeOf_16 : decode cX5_placeOf 16 = .ok (.aload_n 0, 1) := by decide +kernel
theorem dX5_placeOf_17 : decode cX5_placeOf 17 = .ok (.getfield 25, 3) := by decide +kernel
theorem dX5_placeOf_20 : decode cX5_placeOf 20 = .ok (.if_icmp .ge 41, 3) := by decide +kernel
theorem dX5_placeOf_23 : decode cX5_placeOf 23 = .ok (.aload_n 0, 1) := by decide +kernel
theorem dX5_placeOf_24 : decode cX5_placeOf 24 = .ok (.getfield 18, 3) := by decide +kernel
theorem dX5_placeOf_27 : decode cX5_placeOf 27 = .ok (.iload 4, 2) := by decide +kernel
theorem dX5_placeOf_29 : decode cX5_placeOf 29 = .ok (.iaload, 1) := by decide +kernel
theorem dX5_placeOf_30 : decode cX5_placeOf 30 = .ok (.iload_n 1, 1) := by decide +kernel
theorem dX5_placeOf_31 : decode cX5_placeOf 31 = .ok (.if_icmp .eq 30, 3) := by decide +kernel
theorem dX5_placeOf_34 : decode cX5_placeOf 34 = .ok (.aload_n 0, 1) := by decide +kernel
theorem dX5_placeOf_35 : decode cX5_placeOf 35 = .ok (.aload_n 0, 1) := by decide +kernel
theorem dX5_placeOf_36 : decode cX5_placeOf 36 = .ok (.getfield 18, 3) := by decide +kernel
theorem dX5_placeOf_39 : decode cX5_placeOf 39 = .ok (.iload 4, 2) := by decide +kernel
theorem dX5_placeOf_41 : decode cX5_placeOf 41 = .ok (.iaload, 1) := by decide +kernel
theorem dX5_placeOf_42 : decode cX5_placeOf 42 = .ok (.invokevirtual 50, 3) := by decide +kernel
theorem dX5_placeOf_45 : decode cX5_placeOf 45 = .ok (.getfield 66, 3) := by decide +kernel
theorem dX5_placeOf_48 : decode cX5_placeOf 48 = .ok (.iload_n 2, 1) := by decide +kernel
theorem dX5_placeOf_49 : decode cX5_placeOf 49 = .ok (.if_icmp .ne 6, 3) := by decide +kernel
theorem dX5_placeOf_52 : decode cX5_placeOf 52 = .ok (.iinc 3 1, 3) := by decide +kernel
theorem dX5_placeOf_55 : decode cX5_placeOf 55 = .ok (.iinc 4 1, 3) := by decide +kernel
theorem dX5_placeOf_58 : decode cX5_placeOf 58 = .ok (.goto (-44), 3) := by decide +kernel
theorem dX5_placeOf_61 : decode cX5_placeOf 61 = .ok (.iload_n 1, 1) := by decide +kernel
theorem dX5_placeOf_62 : decode cX5_placeOf 62 = .ok (.ifCond .ne 7, 3) := by decide +kernel
theorem dX5_placeOf_65 : decode cX5_placeOf 65 = .ok (.iconst 0, 1) := by decide +kernel
theorem dX5_placeOf_66 : decode cX5_placeOf 66 = .ok (.goto 4, 3) := by decide +kernel
theorem dX5_placeOf_69 : decode cX5_placeOf 69 = .ok (.iload_n 3, 1) := by decide +kernel
theorem dX5_placeOf_70 : decode cX5_placeOf 70 = .ok (.ireturn, 1) := by decide +kernel
theorem dX5_append_0 : decode cX5_append 0 = .ok (.aload_n 0, 1) := by decide +kernel
theorem dX5_append_1 : decode cX5_append 1 = .ok (.iload_n 1, 1) := by decide +kernel
theorem dX5_append_2 : decode cX5_append 2 = .ok (.invokevirtual 50, 3) := by decide +kernel
theorem dX5_append_5 : decode cX5_append 5 = .ok (.iload_n 2, 1) := by decide +kernel
theorem dX5_append_6 : decode cX5_append 6 = .ok (.putfield 29, 3) := by decide +kernel
theorem dX5_append_9 : decode cX5_append 9 = .ok (.aload_n 0, 1) := by decide +kernel
theorem dX5_append_10 : decode cX5_append 10 = .ok (.getfield 22, 3) := by decide +kernel
theorem dX5_append_13 : decode cX5_append 13 = .ok (.iconst 0, 1) := by decide +kernel
theorem dX5_append_14 : decode cX5_append 14 = .ok (.iload_n 1, 1) := by decide +kernel
theorem dX5_append_15 : decode cX5_append 15 = .ok (.iastore, 1) := by decide +kernel
theorem dX5_append_16 : decode cX5_append 16 = .ok (.aload_n 0, 1) := by decide +kernel
theorem dX5_append_17 : decode cX5_append 17 = .ok (.iconst 1, 1) := by decide +kernel
theorem dX5_append_18 : decode cX5_append 18 = .ok (.iload_n 3, 1) := by decide +kernel
theorem dX5_append_19 : decode cX5_append 19 = .ok (.invokevirtual 69, 3) := by decide +kernel
theorem dX5_append_22 : decode cX5_append 22 = .ok (.return_, 1) := by decide +kernel
theorem dX5_cutAndFree_0 : decode cX5_cutAndFree 0 = .ok (.aload_n 0, 1) := by decide +kernel
theorem dX5_cutAndFree_1 : decode cX5_cutAndFree 1 = .ok (.iload_n 1, 1) := by decide +kernel
theorem dX5_cutAndFree_2 : decode cX5_cutAndFree 2 = .ok (.invokevirtual 73, 3) := by decide +kernel
theorem dX5_cutAndFree_5 : decode cX5_cutAndFree 5 = .ok (.istore_n 2, 1) := by decide +kernel
theorem dX5_cutAndFree_6 : decode cX5_cutAndFree 6 = .ok (.iconst 0, 1) := by decide +kernel
theorem dX5_cutAndFree_7 : decode cX5_cutAndFree 7 = .ok (.istore_n 3, 1) := by decide +kernel
theorem dX5_cutAndFree_8 : decode cX5_cutAndFree 8 = .ok (.iload_n 3, 1) := by decide +kernel
theorem dX5_cutAndFree_9 : decode cX5_cutAndFree 9 = .ok (.iload_n 2, 1) := by decide +kernel
theorem dX5_cutAndFree_10 : decode cX5_cutAndFree 10 = .ok (.if_icmp .ge 33, 3) := by decide +kernel
theorem dX5_cutAndFree_13 : decode cX5_cutAndFree 13 = .ok (.aload_n 0, 1) := by decide +kernel
theorem dX5_cutAndFree_14 : decode cX5_cutAndFree 14 = .ok (.aload_n 0, 1) := by decide +kernel
theorem dX5_cutAndFree_15 : decode cX5_cutAndFree 15 = .ok (.getfield 22, 3) := by decide +kernel
theorem dX5_cutAndFree_18 : decode cX5_cutAndFree 18 = .ok (.iload_n 3, 1) := by decide +kernel
theorem dX5_cutAndFree_19 : decode cX5_cutAndFree 19 = .ok (.iaload, 1) := by decide +kernel
theorem dX5_cutAndFree_20 : decode cX5_cutAndFree 20 = .ok (.invokevirtual 50, 3) := by decide +kernel
theorem dX5_cutAndFree_23 : decode cX5_cutAndFree 23 = .ok (.astore 4, 2) := by decide +kernel
theorem dX5_cutAndFree_25 : decode cX5_cutAndFree 25 = .ok (.aload 4, 2) := by decide +kernel
theorem dX5_cutAndFree_27 : decode cX5_cutAndFree 27 = .ok (.iconst (-1), 1) := by decide +kernel
theorem dX5_cutAndFree_28 : decode cX5_cutAndFree 28 = .ok (.putfield 29, 3) := by decide +kernel
theorem dX5_cutAndFree_31 : decode cX5_cutAndFree 31 = .ok (.aload 4, 2) := by decide +kernel
theorem dX5_cutAndFree_33 : decode cX5_cutAndFree 33 = .ok (.iconst (-1), 1) := by decide +kernel
theorem dX5_cutAndFree_34 : decode cX5_cutAndFree 34 = .ok (.putfield 66, 3) := by decide +kernel
theorem dX5_cutAndFree_37 : decode cX5_cutAndFree 37 = .ok (.iinc 3 1, 3) := by decide +kernel
theorem dX5_cutAndFree_40 : decode cX5_cutAndFree 40 = .ok (.goto (-32), 3) := by decide +kernel
theorem dX5_cutAndFree_43 : decode cX5_cutAndFree 43 = .ok (.iload_n 2, 1) := by decide +kernel
theorem dX5_cutAndFree_44 : decode cX5_cutAndFree 44 = .ok (.ireturn, 1) := by decide +kernel
theorem dX5_canHang_0 : decode cX5_canHang 0 = .ok (.aload_n 0, 1) := by decide +kernel
theorem dX5_canHang_1 : decode cX5_canHang 1 = .ok (.iload_n 1, 1) := by decide +kernel
theorem dX5_canHang_2 : decode cX5_canHang 2 = .ok (.invokevirtual 46, 3) := by decide +kernel
theorem dX5_canHang_5 : decode cX5_canHang 5 = .ok (.istore_n 3, 1) := by decide +kernel
theorem dX5_canHang_6 : decode cX5_canHang 6 = .ok (.aload_n 0, 1) := by decide +kernel
theorem dX5_canHang_7 : decode cX5_canHang 7 = .ok (.iload_n 1, 1) := by decide +kernel
theorem dX5_canHang_8 : decode cX5_canHang 8 = .ok (.invokevirtual 63, 3) := by decide +kernel
theorem dX5_canHang_11 : decode cX5_canHang 11 = .ok (.istore 4, 2) := by decide +kernel
theorem dX5_canHang_13 : decode cX5_canHang 13 = .ok (.aload_n 0, 1) := by decide +kernel
theorem dX5_canHang_14 : decode cX5_canHang 14 = .ok (.iload_n 1, 1) := by decide +kernel
theorem dX5_canHang_15 : decode cX5_canHang 15 = .ok (.invokevirtual 50, 3) := by decide +kernel
theorem dX5_canHang_18 : decode cX5_canHang 18 = .ok (.getfield 54, 3) := by decide +kernel
theorem dX5_canHang_21 : decode cX5_canHang 21 = .ok (.istore 5, 2) := by decide +kernel
theorem dX5_canHang_23 : decode cX5_canHang 23 = .ok (.iload_n 3, 1) := by decide +kernel
theorem dX5_canHang_24 : decode cX5_canHang 24 = .ok (.istore 6, 2) := by decide +kernel
theorem dX5_canHang_26 : decode cX5_canHang 26 = .ok (.iload 6, 2) := by decide +kernel
theorem dX5_canHang_28 : decode cX5_canHang 28 = .ok (.iload 4, 2) := by decide +kernel
theorem dX5_canHang_30 : decode cX5_canHang 30 = .ok (.if_icmp .ge 43, 3) := by decide +kernel
theorem dX5_canHang_33 : decode cX5_canHang 33 = .ok (.aload_n 0, 1) := by decide +kernel
theorem dX5_canHang_34 : decode cX5_canHang 34 = .ok (.getfield 18, 3) := by decide +kernel
theorem dX5_canHang_37 : decode cX5_canHang 37 = .ok (.iload 6, 2) := by decide +kernel
theorem dX5_canHang_39 : decode cX5_canHang 39 = .ok (.iaload, 1) := by decide +kernel
theorem dX5_canHang_40 : decode cX5_canHang 40 = .ok (.iload_n 2, 1) := by decide +kernel
theorem dX5_canHang_41 : decode cX5_canHang 41 = .ok (.if_icmp .ne 5, 3) := by decide +kernel
theorem dX5_canHang_44 : decode cX5_canHang 44 = .ok (.iconst 0, 1) := by decide +kernel
theorem dX5_canHang_45 : decode cX5_canHang 45 = .ok (.ireturn, 1) := by decide +kernel
theorem dX5_canHang_46 : decode cX5_canHang 46 = .ok (.iload 5, 2) := by decide +kernel
theorem dX5_canHang_48 : decode cX5_canHang 48 = .ok (.aload_n 0, 1) := by decide +kernel
theorem dX5_canHang_49 : decode cX5_canHang 49 = .ok (.aload_n 0, 1) := by decide +kernel
theorem dX5_canHang_50 : decode cX5_canHang 50 = .ok (.getfield 18, 3) := by decide +kernel
theorem dX5_canHang_53 : decode cX5_canHang 53 = .ok (.iload 6, 2) := by decide +kernel
theorem dX5_canHang_55 : decode cX5_canHang 55 = .ok (.iaload, 1) := by decide +kernel
theorem dX5_canHang_56 : decode cX5_canHang 56 = .ok (.invokevirtual 50, 3) := by decide +kernel
theorem dX5_canHang_59 : decode cX5_canHang 59 = .ok (.getfield 54, 3) := by decide +kernel
theorem dX5_canHang_62 : decode cX5_canHang 62 = .ok (.invokestatic 76, 3) := by decide +kernel
theorem dX5_canHang_65 : decode cX5_canHang 65 = .ok (.istore 5, 2) := by decide +kernel
theorem dX5_canHang_67 : decode cX5_canHang 67 = .ok (.iinc 6 1, 3) := by decide +kernel
theorem dX5_canHang_70 : decode cX5_canHang 70 = .ok (.goto (-44), 3) := by decide +kernel
theorem dX5_canHang_73 : decode cX5_canHang 73 = .ok (.aload_n 0, 1) := by decide +kernel
theorem dX5_canHang_74 : decode cX5_canHang 74 = .ok (.iload_n 2, 1) := by decide +kernel
theorem dX5_canHang_75 : decode cX5_canHang 75 = .ok (.invokevirtual 50, 3) := by decide +kernel
theorem dX5_canHang_78 : decode cX5_canHang 78 = .ok (.getfield 54, 3) := by decide +kernel
theorem dX5_canHang_81 : decode cX5_canHang 81 = .ok (.iconst 1, 1) := by decide +kernel
theorem dX5_canHang_82 : decode cX5_canHang 82 = .ok (.iadd, 1) := by decide +kernel
theorem dX5_canHang_83 : decode cX5_canHang 83 = .ok (.aload_n 0, 1) := by decide +kernel
theorem dX5_canHang_84 : decode cX5_canHang 84 = .ok (.iload_n 1, 1) := by decide +kernel
theorem dX5_canHang_85 : decode cX5_canHang 85 = .ok (.invokevirtual 50, 3) := by decide +kernel
theorem dX5_canHang_88 : decode cX5_canHang 88 = .ok (.getfield 54, 3) := by decide +kernel
theorem dX5_canHang_91 : decode cX5_canHang 91 = .ok (.isub, 1) := by decide +kernel
theorem dX5_canHang_92 : decode cX5_canHang 92 = .ok (.istore 6, 2) := by decide +kernel
theorem dX5_canHang_94 : decode cX5_canHang 94 = .ok (.aload_n 0, 1) := by decide +kernel
theorem dX5_canHang_95 : decode cX5_canHang 95 = .ok (.iload_n 2, 1) := by decide +kernel
theorem dX5_canHang_96 : decode cX5_canHang 96 = .ok (.invokevirtual 50, 3) := by decide +kernel
theorem dX5_canHang_99 : decode cX5_canHang 99 = .ok (.getfield 29, 3) := by decide +kernel
theorem dX5_canHang_102 : decode cX5_canHang 102 = .ok (.ifCond .ne 16, 3) := by decide +kernel
theorem dX5_canHang_105 : decode cX5_canHang 105 = .ok (.iload 5, 2) := by decide +kernel
theorem dX5_canHang_107 : decode cX5_canHang 107 = .ok (.iload 6, 2) := by decide +kernel
theorem dX5_canHang_109 : decode cX5_canHang 109 = .ok (.iadd, 1) := by decide +kernel
theorem dX5_canHang_110 : decode cX5_canHang 110 = .ok (.iconst 4, 1) := by decide +kernel
theorem dX5_canHang_111 : decode cX5_canHang 111 = .ok (.if_icmp .gt 7, 3) := by decide +kernel
theorem dX5_canHang_114 : decode cX5_canHang 114 = .ok (.iconst 1, 1) := by decide +kernel
theorem dX5_canHang_115 : decode cX5_canHang 115 = .ok (.goto 4, 3) := by decide +kernel
theorem dX5_canHang_118 : decode cX5_canHang 118 = .ok (.iconst 0, 1) := by decide +kernel
theorem dX5_canHang_119 : decode cX5_canHang 119 = .ok (.ireturn, 1) := by decide +kernel
theorem dX5_hang_0 : decode cX5_hang 0 = .ok (.aload_n 0, 1) := by decide +kernel
theorem dX5_hang_1 : decode cX5_hang 1 = .ok (.aload_n 0, 1) := by decide +kernel
theorem dX5_hang_2 : decode cX5_hang 2 = .ok (.iload_n 1, 1) := by decide +kernel
theorem dX5_hang_3 : decode cX5_hang 3 = .ok (.invokevirtual 73, 3) := by decide +kernel
theorem dX5_hang_6 : decode cX5_hang 6 = .ok (.iload_n 2, 1) := by decide +kernel
theorem dX5_hang_7 : decode cX5_hang 7 = .ok (.invokevirtual 69, 3) := by decide +kernel
theorem dX5_hang_10 : decode cX5_hang 10 = .ok (.return_, 1) := by decide +kernel
theorem dX5_cutOut_0 : decode cX5_cutOut 0 = .ok (.aload_n 0, 1) := by decide +kernel
theorem dX5_cutOut_1 : decode cX5_cutOut 1 = .ok (.iload_n 1, 1) := by decide +kernel
theorem dX5_cutOut_2 : decode cX5_cutOut 2 = .ok (.invokevirtual 46, 3) := by decide +kernel
theorem dX5_cutOut_5 : decode cX5_cutOut 5 = .ok (.istore_n 2, 1) := by decide +kernel
theorem dX5_cutOut_6 : decode cX5_cutOut 6 = .ok (.aload_n 0, 1) := by decide +kernel
theorem dX5_cutOut_7 : decode cX5_cutOut 7 = .ok (.iload_n 1, 1) := by decide +kernel
theorem dX5_cutOut_8 : decode cX5_cutOut 8 = .ok (.invokevirtual 63, 3) := by decide +kernel
theorem dX5_cutOut_11 : decode cX5_cutOut 11 = .ok (.iload_n 2, 1) := by decide +kernel
theorem dX5_cutOut_12 : decode cX5_cutOut 12 = .ok (.isub, 1) := by decide +kernel
theorem dX5_cutOut_13 : decode cX5_cutOut 13 = .ok (.istore_n 3, 1) := by decide +kernel
theorem dX5_cutOut_14 : decode cX5_cutOut 14 = .ok (.iconst 0, 1) := by decide +kernel
theorem dX5_cutOut_15 : decode cX5_cutOut 15 = .ok (.istore 4, 2) := by decide +kernel
theorem dX5_cutOut_17 : decode cX5_cutOut 17 = .ok (.iload 4, 2) := by decide +kernel
theorem dX5_cutOut_19 : decode cX5_cutOut 19 = .ok (.iload_n 3, 1) := by decide +kernel
theorem dX5_cutOut_20 : decode cX5_cutOut 20 = .ok (.if_icmp .ge 25, 3) := by decide +kernel
theorem dX5_cutOut_23 : decode cX5_cutOut 23 = .ok (.aload_n 0, 1) := by decide +kernel
theorem dX5_cutOut_24 : decode cX5_cutOut 24 = .ok (.getfield 22, 3) := by decide +kernel
theorem dX5_cutOut_27 : decode cX5_cutOut 27 = .ok (.iload 4, 2) := by decide +kernel
theorem dX5_cutOut_29 : decode cX5_cutOut 29 = .ok (.aload_n 0, 1) := by decide +kernel
theorem dX5_cutOut_30 : decode cX5_cutOut 30 = .ok (.getfield 18, 3) := by decide +kernel
theorem dX5_cutOut_33 : decode cX5_cutOut 33 = .ok (.iload_n 2, 1) := by decide +kernel
theorem dX5_cutOut_34 : decode cX5_cutOut 34 = .ok (.iload 4, 2) := by decide +kernel
theorem dX5_cutOut_36 : decode cX5_cutOut 36 = .ok (.iadd, 1) := by decide +kernel
theorem dX5_cutOut_37 : decode cX5_cutOut 37 = .ok (.iaload, 1) := by decide +kernel
theorem dX5_cutOut_38 : decode cX5_cutOut 38 = .ok (.iastore, 1) := by decide +kernel
theorem dX5_cutOut_39 : decode cX5_cutOut 39 = .ok (.iinc 4 1, 3) := by decide +kernel
theorem dX5_cutOut_42 : decode cX5_cutOut 42 = .ok (.goto (-25), 3) := by decide +kernel
theorem dX5_cutOut_45 : decode cX5_cutOut 45 = .ok (.iload_n 2, 1) := by decide +kernel
theorem dX5_cutOut_46 : decode cX5_cutOut 46 = .ok (.iload_n 3, 1) := by decide +kernel
theorem dX5_cutOut_47 : decode cX5_cutOut 47 = .ok (.iadd, 1) := by decide +kernel
theorem dX5_cutOut_48 : decode cX5_cutOut 48 = .ok (.istore 4, 2) := by decide +kernel
theorem dX5_cutOut_50 : decode cX5_cutOut 50 = .ok (.iload 4, 2) := by decide +kernel
theorem dX5_cutOut_52 : decode cX5_cutOut 52 = .ok (.aload_n 0, 1) := by decide +kernel
theorem dX5_cutOut_53 : decode cX5_cutOut 53 = .ok (.getfield 25, 3) := by decide +kernel
theorem dX5_cutOut_56 : decode cX5_cutOut 56 = .ok (.if_icmp .ge 25, 3) := by decide +kernel
theorem dX5_cutOut_59 : decode cX5_cutOut 59 = .ok (.aload_n 0, 1) := by decide +kernel
theorem dX5_cutOut_60 : decode cX5_cutOut 60 = .ok (.getfield 18, 3) := by decide +kernel
theorem dX5_cutOut_63 : decode cX5_cutOut 63 = .ok (.iload 4, 2) := by decide +kernel
theorem dX5_cutOut_65 : decode cX5_cutOut 65 = .ok (.iload_n 3, 1) := by decide +kernel
theorem dX5_cutOut_66 : decode cX5_cutOut 66 = .ok (.isub, 1) := by decide +kernel
theorem dX5_cutOut_67 : decode cX5_cutOut 67 = .ok (.aload_n 0, 1) := by decide +kernel
theorem dX5_cutOut_68 : decode cX5_cutOut 68 = .ok (.getfield 18, 3) := by decide +kernel
theorem dX5_cutOut_71 : decode cX5_cutOut 71 = .ok (.iload 4, 2) := by decide +kernel
theorem dX5_cutOut_73 : decode cX5_cutOut 73 = .ok (.iaload, 1) := by decide +kernel
theorem dX5_cutOut_74 : decode cX5_cutOut 74 = .ok (.iastore, 1) := by decide +kernel
theorem dX5_cutOut_75 : decode cX5_cutOut 75 = .ok (.iinc 4 1, 3) := by decide +kernel
theorem dX5_cutOut_78 : decode cX5_cutOut 78 = .ok (.goto (-28), 3) := by decide +kernel
theorem dX5_cutOut_81 : decode cX5_cutOut 81 = .ok (.aload_n 0, 1) := by decide +kernel
theorem dX5_cutOut_82 : decode cX5_cutOut 82 = .ok (.dup, 1) := by decide +kernel
theorem dX5_cutOut_83 : decode cX5_cutOut 83 = .ok (.getfield 25, 3) := by decide +kernel
theorem dX5_cutOut_86 : decode cX5_cutOut 86 = .ok (.iload_n 3, 1) := by decide +kernel
theorem dX5_cutOut_87 : decode cX5_cutOut 87 = .ok (.isub, 1) := by decide +kernel
theorem dX5_cutOut_88 : decode cX5_cutOut 88 = .ok (.putfield 25, 3) := by decide +kernel
theorem dX5_cutOut_91 : decode cX5_cutOut 91 = .ok (.iload_n 3, 1) := by decide +kernel
theorem dX5_cutOut_92 : decode cX5_cutOut 92 = .ok (.ireturn, 1) := by decide +kernel
theorem dX5_putIn_0 : decode cX5_putIn 0 = .ok (.iload_n 1, 1) := by decide +kernel
theorem dX5_putIn_1 : decode cX5_putIn 1 = .ok (.iconst 1, 1) := by decide +kernel
theorem dX5_putIn_2 : decode cX5_putIn 2 = .ok (.if_icmp .lt 14, 3) := by decide +kernel
theorem dX5_putIn_5 : decode cX5_putIn 5 = .ok (.aload_n 0, 1) := by decide +kernel
theorem dX5_putIn_6 : decode cX5_putIn 6 = .ok (.getfield 25, 3) := by decide +kernel
theorem dX5_putIn_9 : decode cX5_putIn 9 = .ok (.iload_n 1, 1) := by decide +kernel
theorem dX5_putIn_10 : decode cX5_putIn 10 = .ok (.iadd, 1) := by decide +kernel
theorem dX5_putIn_11 : decode cX5_putIn 11 = .ok (.bipush 24, 2) := by decide +kernel
theorem dX5_putIn_13 : decode cX5_putIn 13 = .ok (.if_icmp .le 4, 3) := by decide +kernel
theorem dX5_putIn_16 : decode cX5_putIn 16 = .ok (.return_, 1) := by decide +kernel
theorem dX5_putIn_17 : decode cX5_putIn 17 = .ok (.aload_n 0, 1) := by decide +kernel
theorem dX5_putIn_18 : decode cX5_putIn 18 = .ok (.iload_n 2, 1) := by decide +kernel
theorem dX5_putIn_19 : decode cX5_putIn 19 = .ok (.invokevirtual 63, 3) := by decide +kernel
theorem dX5_putIn_22 : decode cX5_putIn 22 = .ok (.istore_n 3, 1) := by decide +kernel
theorem dX5_putIn_23 : decode cX5_putIn 23 = .ok (.aload_n 0, 1) := by decide +kernel
theorem dX5_putIn_24 : decode cX5_putIn 24 = .ok (.getfield 25, 3) := by decide +kernel
theorem dX5_putIn_27 : decode cX5_putIn 27 = .ok (.iconst 1, 1) := by decide +kernel
theorem dX5_putIn_28 : decode cX5_putIn 28 = .ok (.isub, 1) := by decide +kernel
theorem dX5_putIn_29 : decode cX5_putIn 29 = .ok (.istore 4, 2) := by decide +kernel
theorem dX5_putIn_31 : decode cX5_putIn 31 = .ok (.iload 4, 2) := by decide +kernel
theorem dX5_putIn_33 : decode cX5_putIn 33 = .ok (.iload_n 3, 1) := by decide +kernel
theorem dX5_putIn_34 : decode cX5_putIn 34 = .ok (.if_icmp .lt 25, 3) := by decide +kernel
theorem dX5_putIn_37 : decode cX5_putIn 37 = .ok (.aload_n 0, 1) := by decide +kernel
theorem dX5_putIn_38 : decode cX5_putIn 38 = .ok (.getfield 18, 3) := by decide +kernel
theorem dX5_putIn_41 : decode cX5_putIn 41 = .ok (.iload 4, 2) := by decide +kernel
theorem dX5_putIn_43 : decode cX5_putIn 43 = .ok (.iload_n 1, 1) := by decide +kernel
theorem dX5_putIn_44 : decode cX5_putIn 44 = .ok (.iadd, 1) := by decide +kernel
theorem dX5_putIn_45 : decode cX5_putIn 45 = .ok (.aload_n 0, 1) := by decide +kernel
theorem dX5_putIn_46 : decode cX5_putIn 46 = .ok (.getfield 18, 3) := by decide +kernel
theorem dX5_putIn_49 : decode cX5_putIn 49 = .ok (.iload 4, 2) := by decide +kernel
theorem dX5_putIn_51 : decode cX5_putIn 51 = .ok (.iaload, 1) := by decide +kernel
theorem dX5_putIn_52 : decode cX5_putIn 52 = .ok (.iastore, 1) := by decide +kernel
theorem dX5_putIn_53 : decode cX5_putIn 53 = .ok (.iinc 4 (-1), 3) := by decide +kernel
theorem dX5_putIn_56 : decode cX5_putIn 56 = .ok (.goto (-25), 3) := by decide +kernel
theorem dX5_putIn_59 : decode cX5_putIn 59 = .ok (.iconst 0, 1) := by decide +kernel
theorem dX5_putIn_60 : decode cX5_putIn 60 = .ok (.istore 4, 2) := by decide +kernel
theorem dX5_putIn_62 : decode cX5_putIn 62 = .ok (.iload 4, 2) := by decide +kernel
theorem dX5_putIn_64 : decode cX5_putIn 64 = .ok (.iload_n 1, 1) := by decide +kernel
theorem dX5_putIn_65 : decode cX5_putIn 65 = .ok (.if_icmp .ge 25, 3) := by decide +kernel
theorem dX5_putIn_68 : decode cX5_putIn 68 = .ok (.aload_n 0, 1) := by decide +kernel
theorem dX5_putIn_69 : decode cX5_putIn 69 = .ok (.getfield 18, 3) := by decide +kernel
theorem dX5_putIn_72 : decode cX5_putIn 72 = .ok (.iload_n 3, 1) := by decide +kernel
theorem dX5_putIn_73 : decode cX5_putIn 73 = .ok (.iload 4, 2) := by decide +kernel
theorem dX5_putIn_75 : decode cX5_putIn 75 = .ok (.iadd, 1) := by decide +kernel
theorem dX5_putIn_76 : decode cX5_putIn 76 = .ok (.aload_n 0, 1) := by decide +kernel
theorem dX5_putIn_77 : decode cX5_putIn 77 = .ok (.getfield 22, 3) := by decide +kernel
theorem dX5_putIn_80 : decode cX5_putIn 80 = .ok (.iload 4, 2) := by decide +kernel
theorem dX5_putIn_82 : decode cX5_putIn 82 = .ok (.iaload, 1) := by decide +kernel
theorem dX5_putIn_83 : decode cX5_putIn 83 = .ok (.iastore, 1) := by decide +kernel
theorem dX5_putIn_84 : decode cX5_putIn 84 = .ok (.iinc 4 1, 3) := by decide +kernel
theorem dX5_putIn_87 : decode cX5_putIn 87 = .ok (.goto (-25), 3) := by decide +kernel
theorem dX5_putIn_90 : decode cX5_putIn 90 = .ok (.aload_n 0, 1) := by decide +kernel
theorem dX5_putIn_91 : decode cX5_putIn 91 = .ok (.dup, 1) := by decide +kernel
theorem dX5_putIn_92 : decode cX5_putIn 92 = .ok (.getfield 25, 3) := by decide +kernel
theorem dX5_putIn_95 : decode cX5_putIn 95 = .ok (.iload_n 1, 1) := by decide +kernel
theorem dX5_putIn_96 : decode cX5_putIn 96 = .ok (.iadd, 1) := by decide +kernel
theorem dX5_putIn_97 : decode cX5_putIn 97 = .ok (.putfield 25, 3) := by decide +kernel
theorem dX5_putIn_100 : decode cX5_putIn 100 = .ok (.aload_n 0, 1) := by decide +kernel
theorem dX5_putIn_101 : decode cX5_putIn 101 = .ok (.aload_n 0, 1) := by decide +kernel
theorem dX5_putIn_102 : decode cX5_putIn 102 = .ok (.getfield 22, 3) := by decide +kernel
theorem dX5_putIn_105 : decode cX5_putIn 105 = .ok (.iconst 0, 1) := by decide +kernel
theorem dX5_putIn_106 : decode cX5_putIn 106 = .ok (.iaload, 1) := by decide +kernel
theorem dX5_putIn_107 : decode cX5_putIn 107 = .ok (.invokevirtual 50, 3) := by decide +kernel
theorem dX5_putIn_110 : decode cX5_putIn 110 = .ok (.iload_n 2, 1) := by decide +kernel
theorem dX5_putIn_111 : decode cX5_putIn 111 = .ok (.putfield 66, 3) := by decide +kernel
theorem dX5_putIn_114 : decode cX5_putIn 114 = .ok (.aload_n 0, 1) := by decide +kernel
theorem dX5_putIn_115 : decode cX5_putIn 115 = .ok (.invokevirtual 79, 3) := by decide +kernel
theorem dX5_putIn_118 : decode cX5_putIn 118 = .ok (.return_, 1) := by decide +kernel
theorem dX5_settle_0 : decode cX5_settle 0 = .ok (.iconst 1, 1) := by decide +kernel
theorem dX5_settle_1 : decode cX5_settle 1 = .ok (.istore_n 1, 1) := by decide +kernel
theorem dX5_settle_2 : decode cX5_settle 2 = .ok (.iload_n 1, 1) := by decide +kernel
theorem dX5_settle_3 : decode cX5_settle 3 = .ok (.aload_n 0, 1) := by decide +kernel
theorem dX5_settle_4 : decode cX5_settle 4 = .ok (.getfield 25, 3) := by decide +kernel
theorem dX5_settle_7 : decode cX5_settle 7 = .ok (.if_icmp .ge 32, 3) := by decide +kernel
theorem dX5_settle_10 : decode cX5_settle 10 = .ok (.aload_n 0, 1) := by decide +kernel
theorem dX5_settle_11 : decode cX5_settle 11 = .ok (.aload_n 0, 1) := by decide +kernel
theorem dX5_settle_12 : decode cX5_settle 12 = .ok (.getfield 18, 3) := by decide +kernel
theorem dX5_settle_15 : decode cX5_settle 15 = .ok (.iload_n 1, 1) := by decide +kernel
theorem dX5_settle_16 : decode cX5_settle 16 = .ok (.iaload, 1) := by decide +kernel
theorem dX5_settle_17 : decode cX5_settle 17 = .ok (.invokevirtual 50, 3) := by decide +kernel
theorem dX5_settle_20 : decode cX5_settle 20 = .ok (.astore_n 2, 1) := by decide +kernel
theorem dX5_settle_21 : decode cX5_settle 21 = .ok (.aload_n 2, 1) := by decide +kernel
theorem dX5_settle_22 : decode cX5_settle 22 = .ok (.aload_n 0, 1) := by decide +kernel
theorem dX5_settle_23 : decode cX5_settle 23 = .ok (.aload_n 2, 1) := by decide +kernel
theorem dX5_settle_24 : decode cX5_settle 24 = .ok (.getfield 66, 3) := by decide +kernel
theorem dX5_settle_27 : decode cX5_settle 27 = .ok (.invokevirtual 50, 3) := by decide +kernel
theorem dX5_settle_30 : decode cX5_settle 30 = .ok (.invokevirtual 82, 3) := by decide +kernel
theorem dX5_settle_33 : decode cX5_settle 33 = .ok (.iinc 1 1, 3) := by decide +kernel
theorem dX5_settle_36 : decode cX5_settle 36 = .ok (.goto (-34), 3) := by decide +kernel
theorem dX5_settle_39 : decode cX5_settle 39 = .ok (.return_, 1) := by decide +kernel
theorem dX6_init_0 : decode cX6_init 0 = .ok (.aload_n 0, 1) := by decide +kernel
theorem dX6_init_1 : decode cX6_init 1 = .ok (.invokespecial 3, 3) := by decide +kernel
theorem dX6_init_4 : decode cX6_init 4 = .ok (.aload_n 0, 1) := by decide +kernel
theorem dX6_init_5 : decode cX6_init 5 = .ok (.new 9, 3) := by decide +kernel
theorem dX6_init_8 : decode cX6_init 8 = .ok (.dup, 1) := by decide +kernel
theorem dX6_init_9 : decode cX6_init 9 = .ok (.invokespecial 11, 3) := by decide +kernel
theorem dX6_init_12 : decode cX6_init 12 = .ok (.putfield 12, 3) := by decide +kernel
theorem dX6_init_15 : decode cX6_init 15 = .ok (.aload_n 0, 1) := by decide +kernel
theorem dX6_init_16 : decode cX6_init 16 = .ok (.iconst 5, 1) := by decide +kernel
theorem dX6_init_17 : decode cX6_init 17 = .ok (.anewarray 9, 3) := by decide +kernel
theorem dX6_init_20 : decode cX6_init 20 = .ok (.putfield 16, 3) := by decide +kernel
theorem dX6_init_23 : decode cX6_init 23 = .ok (.iconst 0, 1) := by decide +kernel
theorem dX6_init_24 : decode cX6_init 24 = .ok (.istore_n 1, 1) := by decide +kernel
theorem dX6_init_25 : decode cX6_init 25 = .ok (.iload_n 1, 1) := by decide +kernel
theorem dX6_init_26 : decode cX6_init 26 = .ok (.iconst 5, 1) := by decide +kernel
theorem dX6_init_27 : decode cX6_init 27 = .ok (.if_icmp .ge 22, 3) := by decide +kernel
theorem dX6_init_30 : decode cX6_init 30 = .ok (.aload_n 0, 1) := by decide +kernel
theorem dX6_init_31 : decode cX6_init 31 = .ok (.getfield 16, 3) := by decide +kernel
theorem dX6_init_34 : decode cX6_init 34 = .ok (.iload_n 1, 1) := by decide +kernel
theorem dX6_init_35 : decode cX6_init 35 = .ok (.new 9, 3) := by decide +kernel
theorem dX6_init_38 : decode cX6_init 38 = .ok (.dup, 1) := by decide +kernel
theorem dX6_init_39 : decode cX6_init 39 = .ok (.invokespecial 11, 3) := by decide +kernel
theorem dX6_init_42 : decode cX6_init 42 = .ok (.aastore, 1) := by decide +kernel
theorem dX6_init_43 : decode cX6_init 43 = .ok (.iinc 1 1, 3) := by decide +kernel
theorem dX6_init_46 : decode cX6_init 46 = .ok (.goto (-21), 3) := by decide +kernel
theorem dX6_init_49 : decode cX6_init 49 = .ok (.aload_n 0, 1) := by decide +kernel
theorem dX6_init_50 : decode cX6_init 50 = .ok (.iconst 0, 1) := by decide +kernel
theorem dX6_init_51 : decode cX6_init 51 = .ok (.putfield 20, 3) := by decide +kernel
theorem dX6_init_54 : decode cX6_init 54 = .ok (.aload_n 0, 1) := by decide +kernel
theorem dX6_init_55 : decode cX6_init 55 = .ok (.new 24, 3) := by decide +kernel
theorem dX6_init_58 : decode cX6_init 58 = .ok (.dup, 1) := by decide +kernel
theorem dX6_init_59 : decode cX6_init 59 = .ok (.invokespecial 26, 3) := by decide +kernel
theorem dX6_init_62 : decode cX6_init 62 = .ok (.putfield 27, 3) := by decide +kernel
theorem dX6_init_65 : decode cX6_init 65 = .ok (.aload_n 0, 1) := by decide +kernel
theorem dX6_init_66 : decode cX6_init 66 = .ok (.new 31, 3) := by decide +kernel
theorem dX6_init_69 : decode cX6_init 69 = .ok (.dup, 1) := by decide +kernel
theorem dX6_init_70 : decode cX6_init 70 = .ok (.invokespecial 33, 3) := by decide +kernel
theorem dX6_init_73 : decode cX6_init 73 = .ok (.putfield 34, 3) := by decide +kernel
theorem dX6_init_76 : decode cX6_init 76 = .ok (.aload_n 0, 1) := by decide +kernel
theorem dX6_init_77 : decode cX6_init 77 = .ok (.new 38, 3) := by decide +kernel
theorem dX6_init_80 : decode cX6_init 80 = .ok (.dup, 1) := by decide +kernel
theorem dX6_init_81 : decode cX6_init 81 = .ok (.invokespecial 40, 3) := by decide +kernel
theorem dX6_init_84 : decode cX6_init 84 = .ok (.putfield 41, 3) := by decide +kernel
theorem dX6_init_87 : decode cX6_init 87 = .ok (.aload_n 0, 1) := by decide +kernel
theorem dX6_init_88 : decode cX6_init 88 = .ok (.bipush 7, 2) := by decide +kernel
theorem dX6_init_90 : decode cX6_init 90 = .ok (.newarray .int, 2) := by decide +kernel
theorem dX6_init_92 : decode cX6_init 92 = .ok (.putfield 45, 3) := by decide +kernel
theorem dX6_init_95 : decode cX6_init 95 = .ok (.aload_n 0, 1) := by decide +kernel
theorem dX6_init_96 : decode cX6_init 96 = .ok (.bipush 101, 2) := by decide +kernel
theorem dX6_init_98 : decode cX6_init 98 = .ok (.newarray .int, 2) := by decide +kernel
theorem dX6_init_100 : decode cX6_init 100 = .ok (.putfield 49, 3) := by decide +kernel
theorem dX6_init_103 : decode cX6_init 103 = .ok (.return_, 1) := by decide +kernel
theorem dX6_setSize_0 : decode cX6_setSize 0 = .ok (.iload_n 1, 1) := by decide +kernel
theorem dX6_setSize_1 : decode cX6_setSize 1 = .ok (.iconst 1, 1) := by decide +kernel
theorem dX6_setSize_2 : decode cX6_setSize 2 = .ok (.bipush 12, 2) := by decide +kernel
theorem dX6_setSize_4 : decode cX6_setSize 4 = .ok (.invokestatic 52, 3) := by decide +kernel
theorem dX6_setSize_7 : decode cX6_setSize 7 = .ok (.ifCond .eq 13, 3) := by decide +kernel
theorem dX6_setSize_10 : decode cX6_setSize 10 = .ok (.iload_n 2, 1) := by decide +kernel
theorem dX6_setSize_11 : decode cX6_setSize 11 = .ok (.iconst 1, 1) := by decide +kernel
theorem dX6_setSize_12 : decode cX6_setSize 12 = .ok (.bipush 12, 2) := by decide +kernel
theorem dX6_setSize_14 : decode cX6_setSize 14 = .ok (.invokestatic 52, 3) := by decide +kernel
theorem dX6_setSize_17 : decode cX6_setSize 17 = .ok (.ifCond .ne 5, 3) := by decide +kernel
theorem dX6_setSize_20 : decode cX6_setSize 20 = .ok (.iconst (-1), 1) := by decide +kernel
theorem dX6_setSize_21 : decode cX6_setSize 21 = .ok (.ireturn, 1) := by decide +kernel
theorem dX6_setSize_22 : decode cX6_setSize 22 = .ok (.bipush 100, 2) := by decide +kernel
theorem dX6_setSize_24 : decode cX6_setSize 24 = .ok (.aload_n 0, 1) := by decide +kernel
theorem dX6_setSize_25 : decode cX6_setSize 25 = .ok (.getfield 12, 3) := by decide +kernel
theorem dX6_setSize_28 : decode cX6_setSize 28 = .ok (.getfield 56, 3) := by decide +kernel
theorem dX6_setSize_31 : decode cX6_setSize 31 = .ok (.imul, 1) := by decide +kernel
theorem dX6_setSize_32 : decode cX6_setSize 32 = .ok (.aload_n 0, 1) := by decide +kernel
theorem dX6_setSize_33 : decode cX6_setSize 33 = .ok (.getfield 12, 3) := by decide +kernel
theorem dX6_setSize_36 : decode cX6_setSize 36 = .ok (.getfield 59, 3) := by decide +kernel
theorem dX6_setSize_39 : decode cX6_setSize 39 = .ok (.iadd, 1) := by decide +kernel
theorem dX6_setSize_40 : decode cX6_setSize 40 = .ok (.istore_n 3, 1) := by decide +kernel
theorem dX6_setSize_41 : decode cX6_setSize 41 = .ok (.aload_n 0, 1) := by decide +kernel
theorem dX6_setSize_42 : decode cX6_setSize 42 = .ok (.invokevirtual 62, 3) := by decide +kernel
theorem dX6_setSize_45 : decode cX6_setSize 45 = .ok (.aload_n 0, 1) := by decide +kernel
theorem dX6_setSize_46 : decode cX6_setSize 46 = .ok (.getfield 12, 3) := by decide +kernel
theorem dX6_setSize_49 : decode cX6_setSize 49 = .ok (.iload_n 1, 1) := by decide +kernel
theorem dX6_setSize_50 : decode cX6_setSize 50 = .ok (.putfield 56, 3) := by decide +kernel
theorem dX6_setSize_53 : decode cX6_setSize 53 = .ok (.aload_n 0, 1) := by decide +kernel
theorem dX6_setSize_54 : decode cX6_setSize 54 = .ok (.getfield 12, 3) := by decide +kernel
theorem dX6_setSize_57 : decode cX6_setSize 57 = .ok (.iload_n 2, 1) := by decide +kernel
theorem dX6_setSize_58 : decode cX6_setSize 58 = .ok (.putfield 59, 3) := by decide +kernel
theorem dX6_setSize_61 : decode cX6_setSize 61 = .ok (.iload_n 3, 1) := by decide +kernel
theorem dX6_setSize_62 : decode cX6_setSize 62 = .ok (.ireturn, 1) := by decide +kernel
theorem dX6_addGroup_0 : decode cX6_addGroup 0 = .ok (.iload_n 2, 1) := by decide +kernel
theorem dX6_addGroup_1 : decode cX6_addGroup 1 = .ok (.iconst 0, 1) := by decide +kernel
theorem dX6_addGroup_2 : decode cX6_addGroup 2 = .ok (.bipush 100, 2) := by decide +kernel
theorem dX6_addGroup_4 : decode cX6_addGroup 4 = .ok (.invokestatic 52, 3) := by decide +kernel
theorem dX6_addGroup_7 : decode cX6_addGroup 7 = .ok (.ifCond .eq 18, 3) := by decide +kernel
theorem dX6_addGroup_10 : decode cX6_addGroup 10 = .ok (.iload_n 3, 1) := by decide +kernel
theorem dX6_addGroup_11 : decode cX6_addGroup 11 = .ok (.invokestatic 65, 3) := by decide +kernel
theorem dX6_addGroup_14 : decode cX6_addGroup 14 = .ok (.ifCond .eq 11, 3) := by decide +kernel
theorem dX6_addGroup_17 : decode cX6_addGroup 17 = .ok (.iload 4, 2) := by decide +kernel
theorem dX6_addGroup_19 : decode cX6_addGroup 19 = .ok (.invokestatic 65, 3) := by decide +kernel
theorem dX6_addGroup_22 : decode cX6_addGroup 22 = .ok (.ifCond .ne 5, 3) := by decide +kernel
theorem dX6_addGroup_25 : decode cX6_addGroup 25 = .ok (.iconst (-1), 1) := by decide +kernel
theorem dX6_addGroup_26 : decode cX6_addGroup 26 = .ok (.ireturn, 1) := by decide +kernel
theorem dX6_addGroup_27 : decode cX6_addGroup 27 = .ok (.aload_n 0, 1) := by decide +kernel
theorem dX6_addGroup_28 : decode cX6_addGroup 28 = .ok (.iload_n 1, 1) := by decide +kernel
theorem dX6_addGroup_29 : decode cX6_addGroup 29 = .ok (.invokevirtual 69, 3) := by decide +kernel
theorem dX6_addGroup_32 : decode cX6_addGroup 32 = .ok (.istore 5, 2) := by decide +kernel
theorem dX6_addGroup_34 : decode cX6_addGroup 34 = .ok (.iload 5, 2) := by decide +kernel
theorem dX6_addGroup_36 : decode cX6_addGroup 36 = .ok (.ifCond .ge 6, 3) := by decide +kernel
theorem dX6_addGroup_39 : decode cX6_addGroup 39 = .ok (.iload 5, 2) := by decide +kernel
theorem dX6_addGroup_41 : decode cX6_addGroup 41 = .ok (.ireturn, 1) := by decide +kernel
theorem dX6_addGroup_42 : decode cX6_addGroup 42 = .ok (.aload_n 0, 1) := by decide +kernel
theorem dX6_addGroup_43 : decode cX6_addGroup 43 = .ok (.invokevirtual 62, 3) := by decide +kernel
theorem dX6_addGroup_46 : decode cX6_addGroup 46 = .ok (.aload_n 0, 1) := by decide +kernel
theorem dX6_addGroup_47 : decode cX6_addGroup 47 = .ok (.getfield 12, 3) := by decide +kernel
theorem dX6_addGroup_50 : decode cX6_addGroup 50 = .ok (.getfield 73, 3) := by decide +kernel
theorem dX6_addGroup_53 : decode cX6_addGroup 53 = .ok (.iload 5, 2) := by decide +kernel
theorem dX6_addGroup_55 : decode cX6_addGroup 55 = .ok (.invokevirtual 77, 3) := by decide +kernel
theorem dX6_addGroup_58 : decode cX6_addGroup 58 = .ok (.astore 6, 2) := by decide +kernel
theorem dX6_addGroup_60 : decode cX6_addGroup 60 = .ok (.aload 6, 2) := by decide +kernel
theorem dX6_addGroup_62 : decode cX6_addGroup 62 = .ok (.iload_n 2, 1) := by decide +kernel
theorem dX6_addGroup_63 : decode cX6_addGroup 63 = .ok (.putfield 83, 3) := by decide +kernel
theorem dX6_addGroup_66 : decode cX6_addGroup 66 = .ok (.aload 6, 2) := by decide +kernel
theorem dX6_addGroup_68 : decode cX6_addGroup 68 = .ok (.iload_n 3, 1) := by decide +kernel
theorem dX6_addGroup_69 : decode cX6_addGroup 69 = .ok (.putfield 86, 3) := by decide +kernel
theorem dX6_addGroup_72 : decode cX6_addGroup 72 = .ok (.aload 6, 2) := by decide +kernel
theorem dX6_addGroup_74 : decode cX6_addGroup 74 = .ok (.iload 4, 2) := by decide +kernel
theorem dX6_addGroup_76 : decode cX6_addGroup 76 = .ok (.putfield 89, 3) := by decide +kernel
theorem dX6_addGroup_79 : decode cX6_addGroup 79 = .ok (.aload_n 0, 1) := by decide +kernel
theorem dX6_addGroup_80 : decode cX6_addGroup 80 = .ok (.getfield 12, 3) := by decide +kernel
theorem dX6_addGroup_83 : decode cX6_addGroup 83 = .ok (.getfield 73, 3) := by decide +kernel
theorem dX6_addGroup_86 : decode cX6_addGroup 86 = .ok (.iload 5, 2) := by decide +kernel
theorem dX6_addGroup_88 : decode cX6_addGroup 88 = .ok (.iconst 0, 1) := by decide +kernel
theorem dX6_addGroup_89 : decode cX6_addGroup 89 = .ok (.iload_n 1, 1) := by decide +kernel
theorem dX6_addGroup_90 : decode cX6_addGroup 90 = .ok (.invokevirtual 92, 3) := by decide +kernel
theorem dX6_addGroup_93 : decode cX6_addGroup 93 = .ok (.iload 5, 2) := by decide +kernel
theorem dX6_addGroup_95 : decode cX6_addGroup 95 = .ok (.ireturn, 1) := by decide +kernel
theorem dX6_addRect_0 : decode cX6_addRect 0 = .ok (.aload_n 0, 1) := by decide +kernel
theorem dX6_addRect_1 : decode cX6_addRect 1 = .ok (.iload_n 1, 1) := by decide +kernel
theorem dX6_addRect_2 : decode cX6_addRect 2 = .ok (.invokevirtual 69, 3) := by decide +kernel
theorem dX6_addRect_5 : decode cX6_addRect 5 = .ok (.istore_n 2, 1) := by decide +kernel
theorem dX6_addRect_6 : decode cX6_addRect 6 = .ok (.iload_n 2, 1) := by decide +kernel
theorem dX6_addRect_7 : decode cX6_addRect 7 = .ok (.ifCond .ge 5, 3) := by decide +kernel
theorem dX6_addRect_10 : decode cX6_addRect 10 = .ok (.iload_n 2, 1) := by decide +kernel
theorem dX6_addRect_11 : decode cX6_addRect 11 = .ok (.ireturn, 1) := by decide +kernel
theorem dX6_addRect_12 : decode cX6_addRect 12 = .ok (.aload_n 0, 1) := by decide +kernel
theorem dX6_addRect_13 : decode cX6_addRect 13 = .ok (.invokevirtual 62, 3) := by decide +kernel
theorem dX6_addRect_16 : decode cX6_addRect 16 = .ok (.aload_n 0, 1) := by decide +kernel
theorem dX6_addRect_17 : decode cX6_addRect 17 = .ok (.getfield 12, 3) := by decide +kernel
theorem dX6_addRect_20 : decode cX6_addRect 20 = .ok (.getfield 73, 3) := by decide +kernel
theorem dX6_addRect_23 : decode cX6_addRect 23 = .ok (.iload_n 2, 1) := by decide +kernel
theorem dX6_addRect_24 : decode cX6_addRect 24 = .ok (.invokevirtual 77, 3) := by decide +kernel
theorem dX6_addRect_27 : decode cX6_addRect 27 = .ok (.astore_n 3, 1) := by decide +kernel
theorem dX6_addRect_28 : decode cX6_addRect 28 = .ok (.aload_n 3, 1) := by decide +kernel
theorem dX6_addRect_29 : decode cX6_addRect 29 = .ok (.aload_n 0, 1) := by decide +kernel
theorem dX6_addRect_30 : decode cX6_addRect 30 = .ok (.getfield 27, 3) := by decide +kernel
theorem dX6_addRect_33 : decode cX6_addRect 33 = .ok (.invokevirtual 96, 3) := by decide +kernel
theorem dX6_addRect_36 : decode cX6_addRect 36 = .ok (.aload_n 3, 1) := by decide +kernel
theorem dX6_addRect_37 : decode cX6_addRect 37 = .ok (.aload_n 0, 1) := by decide +kernel
theorem dX6_addRect_38 : decode cX6_addRect 38 = .ok (.getfield 27, 3) := by decide +kernel
theorem dX6_addRect_41 : decode cX6_addRect 41 = .ok (.invokevirtual 100, 3) := by decide +kernel
theorem dX6_addRect_44 : decode cX6_addRect 44 = .ok (.aload_n 0, 1) := by decide +kernel
theorem dX6_addRect_45 : decode cX6_addRect 45 = .ok (.getfield 12, 3) := by decide +kernel
theorem dX6_addRect_48 : decode cX6_addRect 48 = .ok (.getfield 73, 3) := by decide +kernel
theorem dX6_addRect_51 : decode cX6_addRect 51 = .ok (.iload_n 2, 1) := by decide +kernel
theorem dX6_addRect_52 : decode cX6_addRect 52 = .ok (.iconst 1, 1) := by decide +kernel
theorem dX6_addRect_53 : decode cX6_addRect 53 = .ok (.iload_n 1, 1) := by decide +kernel
theorem dX6_addRect_54 : decode cX6_addRect 54 = .ok (.invokevirtual 92, 3) := by decide +kernel
theorem dX6_addRect_57 : decode cX6_addRect 57 = .ok (.iload_n 2, 1) := by decide +kernel
theorem dX6_addRect_58 : decode cX6_addRect 58 = .ok (.ireturn, 1) := by decide +kernel
theorem dX6_addSpot_0 : decode cX6_addSpot 0 = .ok (.iload_n 2, 1) := by decide +kernel
theorem dX6_addSpot_1 : decode cX6_addSpot 1 = .ok (.iconst 0, 1) := by decide +kernel
theorem dX6_addSpot_2 : decode cX6_addSpot 2 = .ok (.iconst 2, 1) := by decide +kernel
theorem dX6_addSpot_3 : decode cX6_addSpot 3 = .ok (.invokestatic 52, 3) := by decide +kernel
theorem dX6_addSpot_6 : decode cX6_addSpot 6 = .ok (.ifCond .eq 10, 3) := by decide +kernel
theorem dX6_addSpot_9 : decode cX6_addSpot 9 = .ok (.iload_n 3, 1) := by decide +kernel
theorem dX6_addSpot_10 : decode cX6_addSpot 10 = .ok (.invokestatic 103, 3) := by decide +kernel
theorem dX6_addSpot_13 : decode cX6_addSpot 13 = .ok (.ifCond .ne 5, 3) := by decide +kernel
theorem dX6_addSpot_16 : decode cX6_addSpot 16 = .ok (.iconst (-1), 1) := by decide +kernel
theorem dX6_addSpot_17 : decode cX6_addSpot 17 = .ok (.ireturn, 1) := by decide +kernel
theorem dX6_addSpot_18 : decode cX6_addSpot 18 = .ok (.aload_n 0, 1) := by decide +kernel
theorem dX6_addSpot_19 : decode cX6_addSpot 19 = .ok (.iload_n 1, 1) := by decide +kernel
theorem dX6_addSpot_20 : decode cX6_addSpot 20 = .ok (.invokevirtual 69, 3) := by decide +kernel
theorem dX6_addSpot_23 : decode cX6_addSpot 23 = .ok (.istore 4, 2) := by decide +kernel
theorem dX6_addSpot_25 : decode cX6_addSpot 25 = .ok (.iload 4, 2) := by decide +kernel
theorem dX6_addSpot_27 : decode cX6_addSpot 27 = .ok (.ifCond .ge 6, 3) := by decide +kernel
theorem dX6_addSpot_30 : decode cX6_addSpot 30 = .ok (.iload 4, 2) := by decide +kernel
theorem dX6_addSpot_32 : decode cX6_addSpot 32 = .ok (.ireturn, 1) := by decide +kernel
theorem dX6_addSpot_33 : decode cX6_addSpot 33 = .ok (.aload_n 0, 1) := by decide +kernel
theorem dX6_addSpot_34 : decode cX6_addSpot 34 = .ok (.invokevirtual 62, 3) := by decide +kernel
theorem dX6_addSpot_37 : decode cX6_addSpot 37 = .ok (.aload_n 0, 1) := by decide +kernel
theorem dX6_addSpot_38 : decode cX6_addSpot 38 = .ok (.getfield 12, 3) := by decide +kernel
theorem dX6_addSpot_41 : decode cX6_addSpot 41 = .ok (.getfield 73, 3) := by decide +kernel
theorem dX6_addSpot_44 : decode cX6_addSpot 44 = .ok (.iload 4, 2) := by decide +kernel
theorem dX6_addSpot_46 : decode cX6_addSpot 46 = .ok (.invokevirtual 77, 3) := by decide +kernel
theorem dX6_addSpot_49 : decode cX6_addSpot 49 = .ok (.astore 5, 2) := by decide +kernel
theorem dX6_addSpot_51 : decode cX6_addSpot 51 = .ok (.aload 5, 2) := by decide +kernel
theorem dX6_addSpot_53 : decode cX6_addSpot 53 = .ok (.aload_n 0, 1) := by decide +kernel
theorem dX6_addSpot_54 : decode cX6_addSpot 54 = .ok (.getfield 27, 3) := by decide +kernel
theorem dX6_addSpot_57 : decode cX6_addSpot 57 = .ok (.invokevirtual 96, 3) := by decide +kernel
theorem dX6_addSpot_60 : decode cX6_addSpot 60 = .ok (.aload 5, 2) := by decide +kernel
theorem dX6_addSpot_62 : decode cX6_addSpot 62 = .ok (.iload_n 2, 1) := by decide +kernel
theorem dX6_addSpot_63 : decode cX6_addSpot 63 = .ok (.putfield 106, 3) := by decide +kernel
theorem dX6_addSpot_66 : decode cX6_addSpot 66 = .ok (.aload 5, 2) := by decide +kernel
theorem dX6_addSpot_68 : decode cX6_addSpot 68 = .ok (.iload_n 3, 1) := by decide +kernel
theorem dX6_addSpot_69 : decode cX6_addSpot 69 = .ok (.putfield 109, 3) := by decide +kernel
theorem dX6_addSpot_72 : decode cX6_addSpot 72 = .ok (.aload_n 0, 1) := by decide +kernel
theorem dX6_addSpot_73 : decode cX6_addSpot 73 = .ok (.getfield 12, 3) := by decide +kernel
theorem dX6_addSpot_76 : decode cX6_addSpot 76 = .ok (.getfield 73, 3) := by decide +kernel
theorem dX6_addSpot_79 : decode cX6_addSpot 79 = .ok (.iload 4, 2) := by decide +kernel
theorem dX6_addSpot_81 : decode cX6_addSpot 81 = .ok (.iconst 2, 1) := by decide +kernel
theorem dX6_addSpot_82 : decode cX6_addSpot 82 = .ok (.iload_n 1, 1) := by decide +kernel
theorem dX6_addSpot_83 : decode cX6_addSpot 83 = .ok (.invokevirtual 92, 3) := by decide +kernel
theorem dX6_addSpot_86 : decode cX6_addSpot 86 = .ok (.iload 4, 2) := by decide +kernel
theorem dX6_addSpot_88 : decode cX6_addSpot 88 = .ok (.ireturn, 1) := by decide +kernel
theorem dX6_setBox_0 : decode cX6_setBox 0 = .ok (.iload_n 1, 1) := by decide +kernel
theorem dX6_setBox_1 : decode cX6_setBox 1 = .ok (.invokestatic 65, 3) := by decide +kernel
theorem dX6_setBox_4 : decode cX6_setBox 4 = .ok (.ifCond .eq 31, 3) := by decide +kernel
theorem dX6_setBox_7 : decode cX6_setBox 7 = .ok (.iload_n 2, 1) := by decide +kernel
theorem dX6_setBox_8 : decode cX6_setBox 8 = .ok (.invokestatic 65, 3) := by decide +kernel
theorem dX6_setBox_11 : decode cX6_setBox 11 = .ok (.ifCond .eq 24, 3) := by decide +kernel
theorem dX6_setBox_14 : decode cX6_setBox 14 = .ok (.iload_n 3, 1) := by decide +kernel
theorem dX6_setBox_15 : decode cX6_setBox 15 = .ok (.iconst 1, 1) := by decide +kernel
theorem dX6_setBox_16 : decode cX6_setBox 16 = .ok (.bipush 12, 2) := by decide +kernel
theorem dX6_setBox_18 : decode cX6_setBox 18 = .ok (.invokestatic 52, 3) := by decide +kernel
theorem dX6_setBox_21 : decode cX6_setBox 21 = .ok (.ifCond .eq 14, 3) := by decide +kernel
theorem dX6_setBox_24 : decode cX6_setBox 24 = .ok (.iload 4, 2) := by decide +kernel
theorem dX6_setBox_26 : decode cX6_setBox 26 = .ok (.iconst 1, 1) := by decide +kernel
theorem dX6_setBox_27 : decode cX6_setBox 27 = .ok (.bipush 12, 2) := by decide +kernel
theorem dX6_setBox_29 : decode cX6_setBox 29 = .ok (.invokestatic 52, 3) := by decide +kernel
theorem dX6_setBox_32 : decode cX6_setBox 32 = .ok (.ifCond .ne 5, 3) := by decide +kernel
theorem dX6_setBox_35 : decode cX6_setBox 35 = .ok (.iconst (-1), 1) := by decide +kernel
theorem dX6_setBox_36 : decode cX6_setBox 36 = .ok (.ireturn, 1) := by decide +kernel
theorem dX6_setBox_37 : decode cX6_setBox 37 = .ok (.aload_n 0, 1) := by decide +kernel
theorem dX6_setBox_38 : decode cX6_setBox 38 = .ok (.getfield 27, 3) := by decide +kernel
theorem dX6_setBox_41 : decode cX6_setBox 41 = .ok (.iload_n 1, 1) := by decide +kernel
theorem dX6_setBox_42 : decode cX6_setBox 42 = .ok (.putfield 112, 3) := by decide +kernel
theorem dX6_setBox_45 : decode cX6_setBox 45 = .ok (.aload_n 0, 1) := by decide +kernel
theorem dX6_setBox_46 : decode cX6_setBox 46 = .ok (.getfield 27, 3) := by decide +kernel
theorem dX6_setBox_49 : decode cX6_setBox 49 = .ok (.iload_n 2, 1) := by decide +kernel
theorem dX6_setBox_50 : decode cX6_setBox 50 = .ok (.putfield 115, 3) := by decide +kernel
theorem dX6_setBox_53 : decode cX6_setBox 53 = .ok (.aload_n 0, 1) := by decide +kernel
theorem dX6_setBox_54 : decode cX6_setBox 54 = .ok (.getfield 27, 3) := by decide +kernel
theorem dX6_setBox_57 : decode cX6_setBox 57 = .ok (.iload_n 3, 1) := by decide +kernel
theorem dX6_setBox_58 : decode cX6_setBox 58 = .ok (.putfield 118, 3) := by decide +kernel
theorem dX6_setBox_61 : decode cX6_setBox 61 = .ok (.aload_n 0, 1) := by decide +kernel
theorem dX6_setBox_62 : decode cX6_setBox 62 = .ok (.getfield 27, 3) := by decide +kernel
theorem dX6_setBox_65 : decode cX6_setBox 65 = .ok (.iload 4, 2) := by decide +kernel
theorem dX6_setBox_67 : decode cX6_setBox 67 = .ok (.putfield 121, 3) := by decide +kernel
theorem dX6_setBox_70 : decode cX6_setBox 70 = .ok (.iload_n 3, 1) := by decide +kernel
theorem dX6_setBox_71 : decode cX6_setBox 71 = .ok (.iload 4, 2) := by decide +kernel
theorem dX6_setBox_73 : decode cX6_setBox 73 = .ok (.imul, 1) := by decide +kernel
theorem dX6_setBox_74 : decode cX6_setBox 74 = .ok (.ireturn, 1) := by decide +kernel
theorem dX6_setInk_0 : decode cX6_setInk 0 = .ok (.iload_n 1, 1) := by decide +kernel
theorem dX6_setInk_1 : decode cX6_setInk 1 = .ok (.invokestatic 103, 3) := by decide +kernel
theorem dX6_setInk_4 : decode cX6_setInk 4 = .ok (.ifCond .eq 17, 3) := by decide +kernel
theorem dX6_setInk_7 : decode cX6_setInk 7 = .ok (.iload_n 2, 1) := by decide +kernel
theorem dX6_setInk_8 : decode cX6_setInk 8 = .ok (.invokestatic 103, 3) := by decide +kernel
theorem dX6_setInk_11 : decode cX6_setInk 11 = .ok (.ifCond .eq 10, 3) := by decide +kernel
theorem dX6_setInk_14 : decode cX6_setInk 14 = .ok (.iload_n 3, 1) := by decide +kernel
theorem dX6_setInk_15 : decode cX6_setInk 15 = .ok (.invokestatic 103, 3) := by decide +kernel
theorem dX6_setInk_18 : decode cX6_setInk 18 = .ok (.ifCond .ne 5, 3) := by decide +kernel
theorem dX6_setInk_21 : decode cX6_setInk 21 = .ok (.iconst (-1), 1) := by decide +kernel
theorem dX6_setInk_22 : decode cX6_setInk 22 = .ok (.ireturn, 1) := by decide +kernel
theorem dX6_setInk_23 : decode cX6_setInk 23 = .ok (.aload_n 0, 1) := by decide +kernel
theorem dX6_setInk_24 : decode cX6_setInk 24 = .ok (.getfield 27, 3) := by decide +kernel
theorem dX6_setInk_27 : decode cX6_setInk 27 = .ok (.iload_n 1, 1) := by decide +kernel
theorem dX6_setInk_28 : decode cX6_setInk 28 = .ok (.putfield 124, 3) := by decide +kernel
theorem dX6_setInk_31 : decode cX6_setInk 31 = .ok (.aload_n 0, 1) := by decide +kernel
theorem dX6_setInk_32 : decode cX6_setInk 32 = .ok (.getfield 27, 3) := by decide +kernel
theorem dX6_setInk_35 : decode cX6_setInk 35 = .ok (.iload_n 2, 1) := by decide +kernel
theorem dX6_setInk_36 : decode cX6_setInk 36 = .ok (.putfield 127, 3) := by decide +kernel
theorem dX6_setInk_39 : decode cX6_setInk 39 = .ok (.aload_n 0, 1) := by decide +kernel
theorem dX6_setInk_40 : decode cX6_setInk 40 = .ok (.getfield 27, 3) := by decide +kernel
theorem dX6_setInk_43 : decode cX6_setInk 43 = .ok (.iload_n 3, 1) := by decide +kernel
theorem dX6_setInk_44 : decode cX6_setInk 44 = .ok (.putfield 130, 3) := by decide +kernel
theorem dX6_setInk_47 : decode cX6_setInk 47 = .ok (.iload_n 1, 1) := by decide +kernel
theorem dX6_setInk_48 : decode cX6_setInk 48 = .ok (.iload_n 2, 1) := by decide +kernel
theorem dX6_setInk_49 : decode cX6_setInk 49 = .ok (.iadd, 1) := by decide +kernel
theorem dX6_setInk_50 : decode cX6_setInk 50 = .ok (.iload_n 3, 1) := by decide +kernel
theorem dX6_setInk_51 : decode cX6_setInk 51 = .ok (.iadd, 1) := by decide +kernel
theorem dX6_setInk_52 : decode cX6_setInk 52 = .ok (.ireturn, 1) := by decide +kernel
theorem dX6_remove_0 : decode cX6_remove 0 = .ok (.aload_n 0, 1) := by decide +kernel
theorem dX6_remove_1 : decode cX6_remove 1 = .ok (.getfield 12, 3) := by decide +kernel
theorem dX6_remove_4 : decode cX6_remove 4 = .ok (.getfield 73, 3) := by decide +kernel
theorem dX6_remove_7 : decode cX6_remove 7 = .ok (.iload_n 1, 1) := by decide +kernel
theorem dX6_remove_8 : decode cX6_remove 8 = .ok (.invokevirtual 133, 3) := by decide +kernel
theorem dX6_remove_11 : decode cX6_remove 11 = .ok (.ifCond .ne 5, 3) := by decide +kernel
theorem dX6_remove_14 : decode cX6_remove 14 = .ok (.iconst (-1), 1) := by decide +kernel
theorem dX6_remove_15 : decode cX6_remove 15 = .ok (.ireturn, 1) := by decide +kernel
theorem dX6_remove_16 : decode cX6_remove 16 = .ok (.iload_n 1, 1) := by decide +kernel
theorem dX6_remove_17 : decode cX6_remove 17 = .ok (.ifCond .ne 6, 3) := by decide +kernel
theorem dX6_remove_20 : decode cX6_remove 20 = .ok (.bipush (-2), 2) := by decide +kernel
theorem dX6_remove_22 : decode cX6_remove 22 = .ok (.ireturn, 1) := by decide +kernel
theorem dX6_remove_23 : decode cX6_remove 23 = .ok (.aload_n 0, 1) := by decide +kernel
theorem dX6_remove_24 : decode cX6_remove 24 = .ok (.invokevirtual 62, 3) := by decide +kernel
theorem dX6_remove_27 : decode cX6_remove 27 = .ok (.aload_n 0, 1) := by decide +kernel
theorem dX6_remove_28 : decode cX6_remove 28 = .ok (.getfield 12, 3) := by decide +kernel
theorem dX6_remove_31 : decode cX6_remove 31 = .ok (.getfield 73, 3) := by decide +kernel
theorem dX6_remove_34 : decode cX6_remove 34 = .ok (.iload_n 1, 1) := by decide +kernel
theorem dX6_remove_35 : decode cX6_remove 35 = .ok (.invokevirtual 136, 3) := by decide +kernel
theorem dX6_remove_38 : decode cX6_remove 38 = .ok (.ireturn, 1) := by decide +kernel
theorem dX6_move_0 : decode cX6_move 0 = .ok (.aload_n 0, 1) := by decide +kernel
theorem dX6_move_1 : decode cX6_move 1 = .ok (.getfield 12, 3) := by decide +kernel
theorem dX6_move_4 : decode cX6_move 4 = .ok (.getfield 73, 3) := by decide +kernel
theorem dX6_move_7 : decode cX6_move 7 = .ok (.iload_n 1, 1) := by decide +kernel
theorem dX6_move_8 : decode cX6_move 8 = .ok (.invokevirtual 133, 3) := by decide +kernel
theorem dX6_move_11 : decode cX6_move 11 = .ok (.ifCond .eq 17, 3) := by decide +kernel
theorem dX6_move_14 : decode cX6_move 14 = .ok (.aload_n 0, 1) := by decide +kernel
theorem dX6_move_15 : decode cX6_move 15 = .ok (.getfield 12, 3) := by decide +kernel
theorem dX6_move_18 : decode cX6_move 18 = .ok (.getfield 73, 3) := by decide +kernel
theorem dX6_move_21 : decode cX6_move 21 = .ok (.iload_n 2, 1) := by decide +kernel
theorem dX6_move_22 : decode cX6_move 22 = .ok (.invokevirtual 133, 3) := by decide +kernel
theorem dX6_move_25 : decode cX6_move 25 = .ok (.ifCond .ne 5, 3) := by decide +kernel
theorem dX6_move_28 : decode cX6_move 28 = .ok (.iconst (-1), 1) := by decide +kernel
theorem dX6_move_29 : decode cX6_move 29 = .ok (.ireturn, 1) := by decide +kernel
theorem dX6_move_30 : decode cX6_move 30 = .ok (.iload_n 1, 1) := by decide +kernel
theorem dX6_move_31 : decode cX6_move 31 = .ok (.ifCond .eq 18, 3) := by decide +kernel
theorem dX6_move_34 : decode cX6_move 34 = .ok (.aload_n 0, 1) := by decide +kernel
theorem dX6_move_35 : decode cX6_move 35 = .ok (.getfield 12, 3) := by decide +kernel
theorem dX6_move_38 : decode cX6_move 38 = .ok (.getfield 73, 3) := by decide +kernel
theorem dX6_move_41 : decode cX6_move 41 = .ok (.iload_n 1, 1) := by decide +kernel
theorem dX6_move_42 : decode cX6_move 42 = .ok (.iload_n 2, 1) := by decide +kernel
theorem dX6_move_43 : decode cX6_move 43 = .ok (.invokevirtual 139, 3) := by decide +kernel
theorem dX6_move_46 : decode cX6_move 46 = .ok (.ifCond .ne 6, 3) := by decide +kernel
theorem dX6_move_49 : decode cX6_move 49 = .ok (.bipush (-2), 2) := by decide +kernel
theorem dX6_move_51 : decode cX6_move 51 = .ok (.ireturn, 1) := by decide +kernel
theorem dX6_move_52 : decode cX6_move 52 = .ok (.aload_n 0, 1) := by decide +kernel
theorem dX6_move_53 : decode cX6_move 53 = .ok (.invokevirtual 62, 3) := by decide +kernel
theorem dX6_move_56 : decode cX6_move 56 = .ok (.aload_n 0, 1) := by decide +kernel
theorem dX6_move_57 : decode cX6_move 57 = .ok (.getfield 12, 3) := by decide +kernel
theorem dX6_move_60 : decode cX6_move 60 = .ok (.getfield 73, 3) := by decide +kernel
theorem dX6_move_63 : decode cX6_move 63 = .ok (.iload_n 1, 1) := by decide +kernel
theorem dX6_move_64 : decode cX6_move 64 = .ok (.iload_n 2, 1) := by decide +kernel
theorem dX6_move_65 : decode cX6_move 65 = .ok (.invokevirtual 143, 3) := by decide +kernel
theorem dX6_move_68 : decode cX6_move 68 = .ok (.aload_n 0, 1) := by decide +kernel
theorem dX6_move_69 : decode cX6_move 69 = .ok (.getfield 12, 3) := by decide +kernel
theorem dX6_move_72 : decode cX6_move 72 = .ok (.getfield 73, 3) := by decide +kernel
theorem dX6_move_75 : decode cX6_move 75 = .ok (.iload_n 1, 1) := by decide +kernel
theorem dX6_move_76 : decode cX6_move 76 = .ok (.invokevirtual 77, 3) := by decide +kernel
theorem dX6_move_79 : decode cX6_move 79 = .ok (.getfield 147, 3) := by decide +kernel
theorem dX6_move_82 : decode cX6_move 82 = .ok (.ireturn, 1) := by decide +kernel
theorem dX6_nodeInfo_0 : decode cX6_nodeInfo 0 = .ok (.aload_n 0, 1) := by decide +kernel
theorem dX6_nodeInfo_1 : decode cX6_nodeInfo 1 = .ok (.getfield 12, 3) := by decide +kernel
theorem dX6_nodeInfo_4 : decode cX6_nodeInfo 4 = .ok (.getfield 73, 3) := by decide +kernel
theorem dX6_nodeInfo_7 : decode cX6_nodeInfo 7 = .ok (.iload_n 1, 1) := by decide +kernel
theorem dX6_nodeInfo_8 : decode cX6_nodeInfo 8 = .ok (.invokevirtual 133, 3) := by decide +kernel
theorem dX6_nodeInfo_11 : decode cX6_nodeInfo 11 = .ok (.ifCond .ne 5, 3) := by decide +kernel
theorem dX6_nodeInfo_14 : decode cX6_nodeInfo 14 = .ok (.iconst (-1), 1) := by decide +kernel
theorem dX6_nodeInfo_15 : decode cX6_nodeInfo 15 = .ok (.ireturn, 1) := by decide +kernel
theorem dX6_nodeInfo_16 : decode cX6_nodeInfo 16 = .ok (.iload_n 2, 1) := by decide +kernel
theorem dX6_nodeInfo_17 : decode cX6_nodeInfo 17 = .ok (.tableswitch 120 0 5 #[39, 54, 69, 84, 96, 108], 39) := by decide +kernel
theorem dX6_nodeInfo_56 : decode cX6_nodeInfo 56 = .ok (.aload_n 0, 1) := by decide +kernel
theorem dX6_nodeInfo_57 : decode cX6_nodeInfo 57 = .ok (.getfield 12, 3) := by decide +kernel
theorem dX6_nodeInfo_60 : decode cX6_nodeInfo 60 = .ok (.getfield 73, 3) := by decide +kernel
theorem dX6_nodeInfo_63 : decode cX6_nodeInfo 63 = .ok (.iload_n 1, 1) := by decide +kernel
theorem dX6_nodeInfo_64 : decode cX6_nodeInfo 64 = .ok (.invokevirtual 77, 3) := by decide +kernel
theorem dX6_nodeInfo_67 : decode cX6_nodeInfo 67 = .ok (.getfield 150, 3) := by decide +kernel
theorem dX6_nodeInfo_70 : decode cX6_nodeInfo 70 = .ok (.ireturn, 1) := by decide +kernel
theorem dX6_nodeInfo_71 : decode cX6_nodeInfo 71 = .ok (.aload_n 0, 1) := by decide +kernel
theorem dX6_nodeInfo_72 : decode cX6_nodeInfo 72 = .ok (.getfield 12, 3) := by decide +kernel
theorem dX6_nodeInfo_75 : decode cX6_nodeInfo 75 = .ok (.getfield 73, 3) := by decide +kernel
theorem dX6_nodeInfo_78 : decode cX6_nodeInfo 78 = .ok (.iload_n 1, 1) := by decide +kernel
theorem dX6_nodeInfo_79 : decode cX6_nodeInfo 79 = .ok (.invokevirtual 77, 3) := by decide +kernel
theorem dX6_nodeInfo_82 : decode cX6_nodeInfo 82 = .ok (.getfield 153, 3) := by decide +kernel
theorem dX6_nodeInfo_85 : decode cX6_nodeInfo 85 = .ok (.ireturn, 1) := by decide +kernel
theorem dX6_nodeInfo_86 : decode cX6_nodeInfo 86 = .ok (.aload_n 0, 1) := by decide +kernel
theorem dX6_nodeInfo_87 : decode cX6_nodeInfo 87 = .ok (.getfield 12, 3) := by decide +kernel
theorem dX6_nodeInfo_90 : decode cX6_nodeInfo 90 = .ok (.getfield 73, 3) := by decide +kernel
theorem dX6_nodeInfo_93 : decode cX6_nodeInfo 93 = .ok (.iload_n 1, 1) := by decide +kernel
theorem dX6_nodeInfo_94 : decode cX6_nodeInfo 94 = .ok (.invokevirtual 77, 3) := by decide +kernel
theorem dX6_nodeInfo_97 : decode cX6_nodeInfo 97 = .ok (.getfield 147, 3) := by decide +kernel
theorem dX6_nodeInfo_100 : decode cX6_nodeInfo 100 = .ok (.ireturn, 1) := by decide +kernel
theorem dX6_nodeInfo_101 : decode cX6_nodeInfo 101 = .ok (.aload_n 0, 1) := by decide +kernel
theorem dX6_nodeInfo_102 : decode cX6_nodeInfo 102 = .ok (.getfield 12, 3) := by decide +kernel
theorem dX6_nodeInfo_105 : decode cX6_nodeInfo 105 = .ok (.getfield 73, 3) := by decide +kernel
theorem dX6_nodeInfo_108 : decode cX6_nodeInfo 108 = .ok (.iload_n 1, 1) := by decide +kernel
theorem dX6_nodeInfo_109 : decode cX6_nodeInfo 109 = .ok (.invokevirtual 156, 3) := by decide +kernel
theorem dX6_nodeInfo_112 : decode cX6_nodeInfo 112 = .ok (.ireturn, 1) := by decide +kernel
theorem dX6_nodeInfo_113 : decode cX6_nodeInfo 113 = .ok (.aload_n 0, 1) := by decide +kernel
theorem dX6_nodeInfo_114 : decode cX6_nodeInfo 114 = .ok (.getfield 12, 3) := by decide +kernel
theorem dX6_nodeInfo_117 : decode cX6_nodeInfo 117 = .ok (.getfield 73, 3) := by decide +kernel
theorem dX6_nodeInfo_120 : decode cX6_nodeInfo 120 = .ok (.iload_n 1, 1) := by decide +kernel
theorem dX6_nodeInfo_121 : decode cX6_nodeInfo 121 = .ok (.invokevirtual 159, 3) := by decide +kernel
theorem dX6_nodeInfo_124 : decode cX6_nodeInfo 124 = .ok (.ireturn, 1) := by decide +kernel
theorem dX6_nodeInfo_125 : decode cX6_nodeInfo 125 = .ok (.aload_n 0, 1) := by decide +kernel
theorem dX6_nodeInfo_126 : decode cX6_nodeInfo 126 = .ok (.getfield 12, 3) := by decide +kernel
theorem dX6_nodeInfo_129 : decode cX6_nodeInfo 129 = .ok (.getfield 73, 3) := by decide +kernel
theorem dX6_nodeInfo_132 : decode cX6_nodeInfo 132 = .ok (.iload_n 1, 1) := by decide +kernel
theorem dX6_nodeInfo_133 : decode cX6_nodeInfo 133 = .ok (.invokevirtual 162, 3) := by decide +kernel
theorem dX6_nodeInfo_136 : decode cX6_nodeInfo 136 = .ok (.ireturn, 1) := by decide +kernel
theorem dX6_nodeInfo_137 : decode cX6_nodeInfo 137 = .ok (.iconst (-1), 1) := by decide +kernel
theorem dX6_nodeInfo_138 : decode cX6_nodeInfo 138 = .ok (.ireturn, 1) := by decide +kernel
theorem dX6_nodeCount_0 : decode cX6_nodeCount 0 = .ok (.aload_n 0, 1) := by decide +kernel
theorem dX6_nodeCount_1 : decode cX6_nodeCount 1 = .ok (.getfield 12, 3) := by decide +kernel
theorem dX6_nodeCount_4 : decode cX6_nodeCount 4 = .ok (.getfield 73, 3) := by decide +kernel
theorem dX6_nodeCount_7 : decode cX6_nodeCount 7 = .ok (.getfield 165, 3) := by decide +kernel
theorem dX6_nodeCount_10 : decode cX6_nodeCount 10 = .ok (.ireturn, 1) := by decide +kernel
theorem dX6_set_0 : decode cX6_set 0 = .ok (.iload_n 1, 1) := by decide +kernel
theorem dX6_set_1 : decode cX6_set 1 = .ok (.iconst 0, 1) := by decide +kernel
theorem dX6_set_2 : decode cX6_set 2 = .ok (.iconst 2, 1) := by decide +kernel
theorem dX6_set_3 : decode cX6_set 3 = .ok (.invokestatic 52, 3) := by decide +kernel
theorem dX6_set_6 : decode cX6_set 6 = .ok (.ifCond .eq 15, 3) := by decide +kernel
theorem dX6_set_9 : decode cX6_set 9 = .ok (.iload_n 2, 1) := by decide +kernel
theorem dX6_set_10 : decode cX6_set 10 = .ok (.iconst 0, 1) := by decide +kernel
theorem dX6_set_11 : decode cX6_set 11 = .ok (.iload_n 1, 1) := by decide +kernel
theorem dX6_set_12 : decode cX6_set 12 = .ok (.invokestatic 168, 3) := by decide +kernel
theorem dX6_set_15 : decode cX6_set 15 = .ok (.invokestatic 52, 3) := by decide +kernel
theorem dX6_set_18 : decode cX6_set 18 = .ok (.ifCond .ne 5, 3) := by decide +kernel
theorem dX6_set_21 : decode cX6_set 21 = .ok (.iconst (-1), 1) := by decide +kernel
theorem dX6_set_22 : decode cX6_set 22 = .ok (.ireturn, 1) := by decide +kernel
theorem dX6_set_23 : decode cX6_set 23 = .ok (.aload_n 0, 1) := by decide +kernel
theorem dX6_set_24 : decode cX6_set 24 = .ok (.invokevirtual 62, 3) := by decide +kernel
theorem dX6_set_27 : decode cX6_set 27 = .ok (.iload_n 1, 1) := by decide +kernel
theorem dX6_set_28 : decode cX6_set 28 = .ok (.ifCond .ne 22, 3) := by decide +kernel
theorem dX6_set_31 : decode cX6_set 31 = .ok (.aload_n 0, 1) := by decide +kernel
theorem dX6_set_32 : decode cX6_set 32 = .ok (.getfield 12, 3) := by decide +kernel
theorem dX6_set_35 : decode cX6_set 35 = .ok (.getfield 171, 3) := by decide +kernel
theorem dX6_set_38 : decode cX6_set 38 = .ok (.istore_n 3, 1) := by decide +kernel
theorem dX6_set_39 : decode cX6_set 39 = .ok (.aload_n 0, 1) := by decide +kernel
theorem dX6_set_40 : decode cX6_set 40 = .ok (.getfield 12, 3) := by decide +kernel
theorem dX6_set_43 : decode cX6_set 43 = .ok (.iload_n 2, 1) := by decide +kernel
theorem dX6_set_44 : decode cX6_set 44 = .ok (.putfield 171, 3) := by decide +kernel
theorem dX6_set_47 : decode cX6_set 47 = .ok (.goto 43, 3) := by decide +kernel
theorem dX6_set_50 : decode cX6_set 50 = .ok (.iload_n 1, 1) := by decide +kernel
theorem dX6_set_51 : decode cX6_set 51 = .ok (.iconst 1, 1) := by decide +kernel
theorem dX6_set_52 : decode cX6_set 52 = .ok (.if_icmp .ne 22, 3) := by decide +kernel
theorem dX6_set_55 : decode cX6_set 55 = .ok (.aload_n 0, 1) := by decide +kernel
theorem dX6_set_56 : decode cX6_set 56 = .ok (.getfield 12, 3) := by decide +kernel
theorem dX6_set_59 : decode cX6_set 59 = .ok (.getfield 174, 3) := by decide +kernel
theorem dX6_set_62 : decode cX6_set 62 = .ok (.istore_n 3, 1) := by decide +kernel
theorem dX6_set_63 : decode cX6_set 63 = .ok (.aload_n 0, 1) := by decide +kernel
theorem dX6_set_64 : decode cX6_set 64 = .ok (.getfield 12, 3) := by decide +kernel
theorem dX6_set_67 : decode cX6_set 67 = .ok (.iload_n 2, 1) := by decide +kernel
theorem dX6_set_68 : decode cX6_set 68 = .ok (.putfield 174, 3) := by decide +kernel
theorem dX6_set_71 : decode cX6_set 71 = .ok (.goto 19, 3) := by decide +kernel
theorem dX6_set_74 : decode cX6_set 74 = .ok (.aload_n 0, 1) := by decide +kernel
theorem dX6_set_75 : decode cX6_set 75 = .ok (.getfield 12, 3) := by decide +kernel
theorem dX6_set_78 : decode cX6_set 78 = .ok (.getfield 177, 3) := by decide +kernel
theorem dX6_set_81 : decode cX6_set 81 = .ok (.istore_n 3, 1) := by decide +kernel
theorem dX6_set_82 : decode cX6_set 82 = .ok (.aload_n 0, 1) := by decide +kernel
theorem dX6_set_83 : decode cX6_set 83 = .ok (.getfield 12, 3) := by decide +kernel
theorem dX6_set_86 : decode cX6_set 86 = .ok (.iload_n 2, 1) := by decide +kernel
theorem dX6_set_87 : decode cX6_set 87 = .ok (.putfield 177, 3) := by decide +kernel
theorem dX6_set_90 : decode cX6_set 90 = .ok (.iload_n 3, 1) := by decide +kernel
theorem dX6_set_91 : decode cX6_set 91 = .ok (.ireturn, 1) := by decide +kernel
theorem dX6_setKnockout_0 : decode cX6_setKnockout 0 = .ok (.iload_n 1, 1) := by decide +kernel
theorem dX6_setKnockout_1 : decode cX6_setKnockout 1 = .ok (.iconst 0, 1) := by decide +kernel
theorem dX6_setKnockout_2 : decode cX6_setKnockout 2 = .ok (.iconst 2, 1) := by decide +kernel
theorem dX6_setKnockout_3 : decode cX6_setKnockout 3 = .ok (.invokestatic 52, 3) := by decide +kernel
theorem dX6_setKnockout_6 : decode cX6_setKnockout 6 = .ok (.ifCond .eq 12, 3) := by decide +kernel
theorem dX6_setKnockout_9 : decode cX6_setKnockout 9 = .ok (.iload_n 2, 1) := by decide +kernel
theorem dX6_setKnockout_10 : decode cX6_setKnockout 10 = .ok (.iconst 0, 1) := by decide +kernel
theorem dX6_setKnockout_11 : decode cX6_setKnockout 11 = .ok (.iconst 1, 1) := by decide +kernel
theorem dX6_setKnockout_12 : decode cX6_setKnockout 12 = .ok (.invokestatic 52, 3) := by decide +kernel
theorem dX6_setKnockout_15 : decode cX6_setKnockout 15 = .ok (.ifCond .ne 5, 3) := by decide +kernel
theorem dX6_setKnockout_18 : decode cX6_setKnockout 18 = .ok (.iconst (-1), 1) := by decide +kernel
theorem dX6_setKnockout_19 : decode cX6_setKnockout 19 = .ok (.ireturn, 1) := by decide +kernel
theorem dX6_setKnockout_20 : decode cX6_setKnockout 20 = .ok (.aload_n 0, 1) := by decide +kernel
theorem dX6_setKnockout_21 : decode cX6_setKnockout 21 = .ok (.invokevirtual 62, 3) := by decide +kernel
theorem dX6_setKnockout_24 : decode cX6_setKnockout 24 = .ok (.aload_n 0, 1) := by decide +kernel
theorem dX6_setKnockout_25 : decode cX6_setKnockout 25 = .ok (.getfield 12, 3) := by decide +kernel
theorem dX6_setKnockout_28 : decode cX6_setKnockout 28 = .ok (.getfield 180, 3) := by decide +kernel
theorem dX6_setKnockout_31 : decode cX6_setKnockout 31 = .ok (.iload_n 1, 1) := by decide +kernel
theorem dX6_setKnockout_32 : decode cX6_setKnockout 32 = .ok (.iaload, 1) := by decide +kernel
theorem dX6_setKnockout_33 : decode cX6_setKnockout 33 = .ok (.istore_n 3, 1) := by decide +kernel
theorem dX6_setKnockout_34 : decode cX6_setKnockout 34 = .ok (.aload_n 0, 1) := by decide +kernel
theorem dX6_setKnockout_35 : decode cX6_setKnockout 35 = .ok (.getfield 12, 3) := by decide +kernel
theorem dX6_setKnockout_38 : decode cX6_setKnockout 38 = .ok (.getfield 180, 3) := by decide +kernel
theorem dX6_setKnockout_41 : decode cX6_setKnockout 41 = .ok (.iload_n 1, 1) := by decide +kernel
theorem dX6_setKnockout_42 : decode cX6_setKnockout 42 = .ok (.iload_n 2, 1) := by decide +kernel
theorem dX6_setKnockout_43 : decode cX6_setKnockout 43 = .ok (.iastore, 1) := by decide +kernel
theorem dX6_setKnockout_44 : decode cX6_setKnockout 44 = .ok (.iload_n 3, 1) := by decide +kernel
theorem dX6_setKnockout_45 : decode cX6_setKnockout 45 = .ok (.ireturn, 1) := by decide +kernel
theorem dX6_setPoint_0 : decode cX6_setPoint 0 = .ok (.iload_n 1, 1) := by decide +kernel
theorem dX6_setPoint_1 : decode cX6_setPoint 1 = .ok (.invokestatic 183, 3) := by decide +kernel
theorem dX6_setPoint_4 : decode cX6_setPoint 4 = .ok (.ifCond .eq 17, 3) := by decide +kernel
theorem dX6_setPoint_7 : decode cX6_setPoint 7 = .ok (.iload_n 2, 1) := by decide +kernel
theorem dX6_setPoint_8 : decode cX6_setPoint 8 = .ok (.invokestatic 103, 3) := by decide +kernel
theorem dX6_setPoint_11 : decode cX6_setPoint 11 = .ok (.ifCond .eq 10, 3) := by decide +kernel
theorem dX6_setPoint_14 : decode cX6_setPoint 14 = .ok (.iload_n 3, 1) := by decide +kernel
theorem dX6_setPoint_15 : decode cX6_setPoint 15 = .ok (.invokestatic 103, 3) := by decide +kernel
theorem dX6_setPoint_18 : decode cX6_setPoint 18 = .ok (.ifCond .ne 5, 3) := by decide +kernel
theorem dX6_setPoint_21 : decode cX6_setPoint 21 = .ok (.iconst (-1), 1) := by decide +kernel
theorem dX6_setPoint_22 : decode cX6_setPoint 22 = .ok (.ireturn, 1) := by decide +kernel
theorem dX6_setPoint_23 : decode cX6_setPoint 23 = .ok (.aload_n 0, 1) := by decide +kernel
theorem dX6_setPoint_24 : decode cX6_setPoint 24 = .ok (.getfield 12, 3) := by decide +kernel
theorem dX6_setPoint_27 : decode cX6_setPoint 27 = .ok (.getfield 186, 3) := by decide +kernel
theorem dX6_setPoint_30 : decode cX6_setPoint 30 = .ok (.iload_n 1, 1) := by decide +kernel
theorem dX6_setPoint_31 : decode cX6_setPoint 31 = .ok (.aaload, 1) := by decide +kernel
theorem dX6_setPoint_32 : decode cX6_setPoint 32 = .ok (.astore 4, 2) := by decide +kernel
theorem dX6_setPoint_34 : decode cX6_setPoint 34 = .ok (.aload 4, 2) := by decide +kernel
theorem dX6_setPoint_36 : decode cX6_setPoint 36 = .ok (.iload_n 2, 1) := by decide +kernel
theorem dX6_setPoint_37 : decode cX6_setPoint 37 = .ok (.iload_n 3, 1) := by decide +kernel
theorem dX6_setPoint_38 : decode cX6_setPoint 38 = .ok (.invokevirtual 190, 3) := by decide +kernel
theorem dX6_setPoint_41 : decode cX6_setPoint 41 = .ok (.ifCond .ne 6, 3) := by decide +kernel
theorem dX6_setPoint_44 : decode cX6_setPoint 44 = .ok (.bipush (-2), 2) := by decide +kernel
theorem dX6_setPoint_46 : decode cX6_setPoint 46 = .ok (.ireturn, 1) := by decide +kernel
theorem dX6_setPoint_47 : decode cX6_setPoint 47 = .ok (.aload 4, 2) := by decide +kernel
theorem dX6_setPoint_49 : decode cX6_setPoint 49 = .ok (.iload_n 2, 1) := by decide +kernel
theorem dX6_setPoint_50 : decode cX6_setPoint 50 = .ok (.invokevirtual 195, 3) := by decide +kernel
theorem dX6_setPoint_53 : decode cX6_setPoint 53 = .ok (.iconst (-1), 1) := by decide +kernel
theorem dX6_setPoint_54 : decode cX6_setPoint 54 = .ok (.if_icmp .ne 16, 3) := by decide +kernel
theorem dX6_setPoint_57 : decode cX6_setPoint 57 = .ok (.aload 4, 2) := by decide +kernel
theorem dX6_setPoint_59 : decode cX6_setPoint 59 = .ok (.getfield 198, 3) := by decide +kernel
theorem dX6_setPoint_62 : decode cX6_setPoint 62 = .ok (.bipush 8, 2) := by decide +kernel
theorem dX6_setPoint_64 : decode cX6_setPoint 64 = .ok (.if_icmp .lt 6, 3) := by decide +kernel
theorem dX6_setPoint_67 : decode cX6_setPoint 67 = .ok (.bipush (-3), 2) := by decide +kernel
theorem dX6_setPoint_69 : decode cX6_setPoint 69 = .ok (.ireturn, 1) := by decide +kernel
theorem dX6_setPoint_70 : decode cX6_setPoint 70 = .ok (.aload_n 0, 1) := by decide +kernel
theorem dX6_setPoint_71 : decode cX6_setPoint 71 = .ok (.invokevirtual 62, 3) := by decide +kernel
theorem dX6_setPoint_74 : decode cX6_setPoint 74 = .ok (.aload 4, 2) := by decide +kernel
theorem dX6_setPoint_76 : decode cX6_setPoint 76 = .ok (.iload_n 2, 1) := by decide +kernel
theorem dX6_setPoint_77 : decode cX6_setPoint 77 = .ok (.iload_n 3, 1) := by decide +kernel
theorem dX6_setPoint_78 : decode cX6_setPoint 78 = .ok (.invokevirtual 199, 3) := by decide +kernel
theorem dX6_setPoint_81 : decode cX6_setPoint 81 = .ok (.aload 4, 2) := by decide +kernel
theorem dX6_setPoint_83 : decode cX6_setPoint 83 = .ok (.getfield 198, 3) := by decide +kernel
theorem dX6_setPoint_86 : decode cX6_setPoint 86 = .ok (.ireturn, 1) := by decide +kernel
theorem dX6_removePoint_0 : decode cX6_removePoint 0 = .ok (.iload_n 1, 1) := by decide +kernel
theorem dX6_removePoint_1 : decode cX6_removePoint 1 = .ok (.invokestatic 183, 3) := by decide +kernel
theorem dX6_removePoint_4 : decode cX6_removePoint 4 = .ok (.ifCond .eq 14, 3) := by decide +kernel
theorem dX6_removePoint_7 : decode cX6_removePoint 7 = .ok (.iload_n 2, 1) := by decide +kernel
theorem dX6_removePoint_8 : decode cX6_removePoint 8 = .ok (.iconst 1, 1) := by decide +kernel
theorem dX6_removePoint_9 : decode cX6_removePoint 9 = .ok (.sipush 254, 3) := by decide +kernel
theorem dX6_removePoint_12 : decode cX6_removePoint 12 = .ok (.invokestatic 52, 3) := by decide +kernel
theorem dX6_removePoint_15 : decode cX6_removePoint 15 = .ok (.ifCond .ne 5, 3) := by decide +kernel
theorem dX6_removePoint_18 : decode cX6_removePoint 18 = .ok (.iconst (-1), 1) := by decide +kernel
theorem dX6_removePoint_19 : decode cX6_removePoint 19 = .ok (.ireturn, 1) := by decide +kernel
theorem dX6_removePoint_20 : decode cX6_removePoint 20 = .ok (.aload_n 0, 1) := by decide +kernel
theorem dX6_removePoint_21 : decode cX6_removePoint 21 = .ok (.getfield 12, 3) := by decide +kernel
theorem dX6_removePoint_24 : decode cX6_removePoint 24 = .ok (.getfield 186, 3) := by decide +kernel
theorem dX6_removePoint_27 : decode cX6_removePoint 27 = .ok (.iload_n 1, 1) := by decide +kernel
theorem dX6_removePoint_28 : decode cX6_removePoint 28 = .ok (.aaload, 1) := by decide +kernel
theorem dX6_removePoint_29 : decode cX6_removePoint 29 = .ok (.astore_n 3, 1) := by decide +kernel
theorem dX6_removePoint_30 : decode cX6_removePoint 30 = .ok (.aload_n 3, 1) := by decide +kernel
theorem dX6_removePoint_31 : decode cX6_removePoint 31 = .ok (.iload_n 2, 1) := by decide +kernel
theorem dX6_removePoint_32 : decode cX6_removePoint 32 = .ok (.invokevirtual 195, 3) := by decide +kernel
theorem dX6_removePoint_35 : decode cX6_removePoint 35 = .ok (.istore 4, 2) := by decide +kernel
theorem dX6_removePoint_37 : decode cX6_removePoint 37 = .ok (.iload 4, 2) := by decide +kernel
theorem dX6_removePoint_39 : decode cX6_removePoint 39 = .ok (.iconst (-1), 1) := by decide +kernel
theorem dX6_removePoint_40 : decode cX6_removePoint 40 = .ok (.if_icmp .ne 6, 3) := by decide +kernel
theorem dX6_removePoint_43 : decode cX6_removePoint 43 = .ok (.bipush (-4), 2) := by decide +kernel
theorem dX6_removePoint_45 : decode cX6_removePoint 45 = .ok (.ireturn, 1) := by decide +kernel
theorem dX6_removePoint_46 : decode cX6_removePoint 46 = .ok (.aload_n 0, 1) := by decide +kernel
theorem dX6_removePoint_47 : decode cX6_removePoint 47 = .ok (.invokevirtual 62, 3) := by decide +kernel
theorem dX6_removePoint_50 : decode cX6_removePoint 50 = .ok (.aload_n 3, 1) := by decide +kernel
theorem dX6_removePoint_51 : decode cX6_removePoint 51 = .ok (.iload 4, 2) := by decide +kernel
theorem dX6_removePoint_53 : decode cX6_removePoint 53 = .ok (.invokevirtual 202, 3) := by decide +kernel
theorem dX6_removePoint_56 : decode cX6_removePoint 56 = .ok (.ireturn, 1) := by decide +kernel
theorem dX6_curve_0 : decode cX6_curve 0 = .ok (.iload_n 1, 1) := by decide +kernel
theorem dX6_curve_1 : decode cX6_curve 1 = .ok (.invokestatic 183, 3) := by decide +kernel
theorem dX6_curve_4 : decode cX6_curve 4 = .ok (.ifCond .eq 10, 3) := by decide +kernel
theorem dX6_curve_7 : decode cX6_curve 7 = .ok (.iload_n 2, 1) := by decide +kernel
theorem dX6_curve_8 : decode cX6_curve 8 = .ok (.invokestatic 103, 3) := by decide +kernel
theorem dX6_curve_11 : decode cX6_curve 11 = .ok (.ifCond .ne 5, 3) := by decide +kernel
theorem dX6_curve_14 : decode cX6_curve 14 = .ok (.iconst (-1), 1) := by decide +kernel
theorem dX6_curve_15 : decode cX6_curve 15 = .ok (.ireturn, 1) := by decide +kernel
theorem dX6_curve_16 : decode cX6_curve 16 = .ok (.aload_n 0, 1) := by decide +kernel
theorem dX6_curve_17 : decode cX6_curve 17 = .ok (.getfield 12, 3) := by decide +kernel
theorem dX6_curve_20 : decode cX6_curve 20 = .ok (.getfield 186, 3) := by decide +kernel
theorem dX6_curve_23 : decode cX6_curve 23 = .ok (.iload_n 1, 1) := by decide +kernel
theorem dX6_curve_24 : decode cX6_curve 24 = .ok (.aaload, 1) := by decide +kernel
theorem dX6_curve_25 : decode cX6_curve 25 = .ok (.iload_n 2, 1) := by decide +kernel
theorem dX6_curve_26 : decode cX6_curve 26 = .ok (.invokevirtual 205, 3) := by decide +kernel
theorem dX6_curve_29 : decode cX6_curve 29 = .ok (.ireturn, 1) := by decide +kernel
theorem dX6_inverse_0 : decode cX6_inverse 0 = .ok (.iload_n 1, 1) := by decide +kernel
theorem dX6_inverse_1 : decode cX6_inverse 1 = .ok (.invokestatic 183, 3) := by decide +kernel
theorem dX6_inverse_4 : decode cX6_inverse 4 = .ok (.ifCond .eq 10, 3) := by decide +kernel
theorem dX6_inverse_7 : decode cX6_inverse 7 = .ok (.iload_n 2, 1) := by decide +kernel
theorem dX6_inverse_8 : decode cX6_inverse 8 = .ok (.invokestatic 103, 3) := by decide +kernel
theorem dX6_inverse_11 : decode cX6_inverse 11 = .ok (.ifCond .ne 5, 3) := by decide +kernel
theorem dX6_inverse_14 : decode cX6_inverse 14 = .ok (.iconst (-1), 1) := by decide +kernel
theorem dX6_inverse_15 : decode cX6_inverse 15 = .ok (.ireturn, 1) := by decide +kernel
theorem dX6_inverse_16 : decode cX6_inverse 16 = .ok (.aload_n 0, 1) := by decide +kernel
theorem dX6_inverse_17 : decode cX6_inverse 17 = .ok (.getfield 12, 3) := by decide +kernel
theorem dX6_inverse_20 : decode cX6_inverse 20 = .ok (.getfield 186, 3) := by decide +kernel
theorem dX6_inverse_23 : decode cX6_inverse 23 = .ok (.iload_n 1, 1) := by decide +kernel
theorem dX6_inverse_24 : decode cX6_inverse 24 = .ok (.aaload, 1) := by decide +kernel
theorem dX6_inverse_25 : decode cX6_inverse 25 = .ok (.astore_n 3, 1) := by decide +kernel
theorem dX6_inverse_26 : decode cX6_inverse 26 = .ok (.iconst 0, 1) := by decide +kernel
theorem dX6_inverse_27 : decode cX6_inverse 27 = .ok (.istore 4, 2) := by decide +kernel
theorem dX6_inverse_29 : decode cX6_inverse 29 = .ok (.iload 4, 2) := by decide +kernel
theorem dX6_inverse_31 : decode cX6_inverse 31 = .ok (.sipush 255, 3) := by decide +kernel
theorem dX6_inverse_34 : decode cX6_inverse 34 = .ok (.if_icmp .gt 22, 3) := by decide +kernel
theorem dX6_inverse_37 : decode cX6_inverse 37 = .ok (.aload_n 3, 1) := by decide +kernel
theorem dX6_inverse_38 : decode cX6_inverse 38 = .ok (.iload 4, 2) := by decide +kernel
theorem dX6_inverse_40 : decode cX6_inverse 40 = .ok (.invokevirtual 205, 3) := by decide +kernel
theorem dX6_inverse_43 : decode cX6_inverse 43 = .ok (.iload_n 2, 1) := by decide +kernel
theorem dX6_inverse_44 : decode cX6_inverse 44 = .ok (.if_icmp .lt 6, 3) := by decide +kernel
theorem dX6_inverse_47 : decode cX6_inverse 47 = .ok (.iload 4, 2) := by decide +kernel
theorem dX6_inverse_49 : decode cX6_inverse 49 = .ok (.ireturn, 1) := by decide +kernel
theorem dX6_inverse_50 : decode cX6_inverse 50 = .ok (.iinc 4 1, 3) := by decide +kernel
theorem dX6_inverse_53 : decode cX6_inverse 53 = .ok (.goto (-24), 3) := by decide +kernel
theorem dX6_inverse_56 : decode cX6_inverse 56 = .ok (.bipush (-4), 2) := by decide +kernel
theorem dX6_inverse_58 : decode cX6_inverse 58 = .ok (.ireturn, 1) := by decide +kernel
theorem dX6_simplify_0 : decode cX6_simplify 0 = .ok (.iload_n 1, 1) := by decide +kernel
theorem dX6_simplify_1 : decode cX6_simplify 1 = .ok (.invokestatic 183, 3) := by decide +kernel
theorem dX6_simplify_4 : decode cX6_simplify 4 = .ok (.ifCond .ne 5, 3) := by decide +kernel
theorem dX6_simplify_7 : decode cX6_simplify 7 = .ok (.iconst (-1), 1) := by decide +kernel
theorem dX6_simplify_8 : decode cX6_simplify 8 = .ok (.ireturn, 1) := by decide +kernel
theorem dX6_simplify_9 : decode cX6_simplify 9 = .ok (.aload_n 0, 1) := by decide +kernel
theorem dX6_simplify_10 : decode cX6_simplify 10 = .ok (.invokevirtual 62, 3) := by decide +kernel
theorem dX6_simplify_13 : decode cX6_simplify 13 = .ok (.aload_n 0, 1) := by decide +kernel
theorem dX6_simplify_14 : decode cX6_simplify 14 = .ok (.getfield 12, 3) := by decide +kernel
theorem dX6_simplify_17 : decode cX6_simplify 17 = .ok (.getfield 186, 3) := by decide +kernel
theorem dX6_simplify_20 : decode cX6_simplify 20 = .ok (.iload_n 1, 1) := by decide +kernel
theorem dX6_simplify_21 : decode cX6_simplify 21 = .ok (.aaload, 1) := by decide +kernel
theorem dX6_simplify_22 : decode cX6_simplify 22 = .ok (.astore_n 2, 1) := by decide +kernel
theorem dX6_simplify_23 : decode cX6_simplify 23 = .ok (.aload_n 2, 1) := by decide +kernel
theorem dX6_simplify_24 : decode cX6_simplify 24 = .ok (.invokevirtual 208, 3) := by decide +kernel
theorem dX6_simplify_27 : decode cX6_simplify 27 = .ok (.aload_n 0, 1) := by decide +kernel
theorem dX6_simplify_28 : decode cX6_simplify 28 = .ok (.getfield 16, 3) := by decide +kernel
theorem dX6_simplify_31 : decode cX6_simplify 31 = .ok (.aload_n 0, 1) := by decide +kernel
theorem dX6_simplify_32 : decode cX6_simplify 32 = .ok (.getfield 20, 3) := by decide +kernel
theorem dX6_simplify_35 : decode cX6_simplify 35 = .ok (.iconst 1, 1) := by decide +kernel
theorem dX6_simplify_36 : decode cX6_simplify 36 = .ok (.isub, 1) := by decide +kernel
theorem dX6_simplify_37 : decode cX6_simplify 37 = .ok (.aaload, 1) := by decide +kernel
theorem dX6_simplify_38 : decode cX6_simplify 38 = .ok (.getfield 186, 3) := by decide +kernel
theorem dX6_simplify_41 : decode cX6_simplify 41 = .ok (.iload_n 1, 1) := by decide +kernel
theorem dX6_simplify_42 : decode cX6_simplify 42 = .ok (.aaload, 1) := by decide +kernel
theorem dX6_simplify_43 : decode cX6_simplify 43 = .ok (.aload_n 2, 1) := by decide +kernel
theorem dX6_simplify_44 : decode cX6_simplify 44 = .ok (.invokestatic 211, 3) := by decide +kernel
theorem dX6_simplify_47 : decode cX6_simplify 47 = .ok (.ireturn, 1) := by decide +kernel
theorem dX6_rendered_0 : decode cX6_rendered 0 = .ok (.aload_n 0, 1) := by decide +kernel
theorem dX6_rendered_1 : decode cX6_rendered 1 = .ok (.iload_n 1, 1) := by decide +kernel
theorem dX6_rendered_2 : decode cX6_rendered 2 = .ok (.iload_n 2, 1) := by decide +kernel
theorem dX6_rendered_3 : decode cX6_rendered 3 = .ok (.invokevirtual 215, 3) := by decide +kernel
theorem dX6_rendered_6 : decode cX6_rendered 6 = .ok (.ifCond .eq 12, 3) := by decide +kernel
theorem dX6_rendered_9 : decode cX6_rendered 9 = .ok (.iload_n 3, 1) := by decide +kernel
theorem dX6_rendered_10 : decode cX6_rendered 10 = .ok (.iconst 0, 1) := by decide +kernel
theorem dX6_rendered_11 : decode cX6_rendered 11 = .ok (.iconst 5, 1) := by decide +kernel
theorem dX6_rendered_12 : decode cX6_rendered 12 = .ok (.invokestatic 52, 3) := by decide +kernel
theorem dX6_rendered_15 : decode cX6_rendered 15 = .ok (.ifCond .ne 5, 3) := by decide +kernel
theorem dX6_rendered_18 : decode cX6_rendered 18 = .ok (.iconst (-1), 1) := by decide +kernel
theorem dX6_rendered_19 : decode cX6_rendered 19 = .ok (.ireturn, 1) := by decide +kernel
theorem dX6_rendered_20 : decode cX6_rendered 20 = .ok (.aload_n 0, 1) := by decide +kernel
theorem dX6_rendered_21 : decode cX6_rendered 21 = .ok (.getfield 34, 3) := by decide +kernel
theorem dX6_rendered_24 : decode cX6_rendered 24 = .ok (.aload_n 0, 1) := by decide +kernel
theorem dX6_rendered_25 : decode cX6_rendered 25 = .ok (.getfield 12, 3) := by decide +kernel
theorem dX6_rendered_28 : decode cX6_rendered 28 = .ok (.iload_n 1, 1) := by decide +kernel
theorem dX6_rendered_29 : decode cX6_rendered 29 = .ok (.iload_n 2, 1) := by decide +kernel
theorem dX6_rendered_30 : decode cX6_rendered 30 = .ok (.invokevirtual 218, 3) := by decide +kernel
theorem dX6_rendered_33 : decode cX6_rendered 33 = .ok (.aload_n 0, 1) := by decide +kernel
theorem dX6_rendered_34 : decode cX6_rendered 34 = .ok (.getfield 34, 3) := by decide +kernel
theorem dX6_rendered_37 : decode cX6_rendered 37 = .ok (.getfield 222, 3) := by decide +kernel
theorem dX6_rendered_40 : decode cX6_rendered 40 = .ok (.iload_n 3, 1) := by decide +kernel
theorem dX6_rendered_41 : decode cX6_rendered 41 = .ok (.iaload, 1) := by decide +kernel
theorem dX6_rendered_42 : decode cX6_rendered 42 = .ok (.ireturn, 1) := by decide +kernel
theorem dX6_ink_0 : decode cX6_ink 0 = .ok (.aload_n 0, 1) := by decide +kernel
theorem dX6_ink_1 : decode cX6_ink 1 = .ok (.iload_n 1, 1) := by decide +kernel
theorem dX6_ink_2 : decode cX6_ink 2 = .ok (.iload_n 2, 1) := by decide +kernel
theorem dX6_ink_3 : decode cX6_ink 3 = .ok (.invokevirtual 215, 3) := by decide +kernel
theorem dX6_ink_6 : decode cX6_ink 6 = .ok (.ifCond .eq 13, 3) := by decide +kernel
theorem dX6_ink_9 : decode cX6_ink 9 = .ok (.iload_n 3, 1) := by decide +kernel
theorem dX6_ink_10 : decode cX6_ink 10 = .ok (.iconst 0, 1) := by decide +kernel
theorem dX6_ink_11 : decode cX6_ink 11 = .ok (.bipush 7, 2) := by decide +kernel
theorem dX6_ink_13 : decode cX6_ink 13 = .ok (.invokestatic 52, 3) := by decide +kernel
theorem dX6_ink_16 : decode cX6_ink 16 = .ok (.ifCond .ne 5, 3) := by decide +kernel
theorem dX6_ink_19 : decode cX6_ink 19 = .ok (.iconst (-1), 1) := by decide +kernel
theorem dX6_ink_20 : decode cX6_ink 20 = .ok (.ireturn, 1) := by decide +kernel
theorem dX6_ink_21 : decode cX6_ink 21 = .ok (.aload_n 0, 1) := by decide +kernel
theorem dX6_ink_22 : decode cX6_ink 22 = .ok (.iload_n 1, 1) := by decide +kernel
theorem dX6_ink_23 : decode cX6_ink 23 = .ok (.iload_n 2, 1) := by decide +kernel
theorem dX6_ink_24 : decode cX6_ink 24 = .ok (.invokevirtual 225, 3) := by decide +kernel
theorem dX6_ink_27 : decode cX6_ink 27 = .ok (.aload_n 0, 1) := by decide +kernel
theorem dX6_ink_28 : decode cX6_ink 28 = .ok (.getfield 34, 3) := by decide +kernel
theorem dX6_ink_31 : decode cX6_ink 31 = .ok (.iload_n 3, 1) := by decide +kernel
theorem dX6_ink_32 : decode cX6_ink 32 = .ok (.invokevirtual 228, 3) := by decide +kernel
theorem dX6_ink_35 : decode cX6_ink 35 = .ok (.ireturn, 1) := by decide +kernel
theorem dX6_inkOf_0 : decode cX6_inkOf 0 = .ok (.iload_n 1, 1) := by decide +kernel
theorem dX6_inkOf_1 : decode cX6_inkOf 1 = .ok (.iconst 0, 1) := by decide +kernel
theorem dX6_inkOf_2 : decode cX6_inkOf 2 = .ok (.ldc 231, 2) := by decide +kernel
theorem dX6_inkOf_4 : decode cX6_inkOf 4 = .ok (.invokestatic 52, 3) := by decide +kernel
theorem dX6_inkOf_7 : decode cX6_inkOf 7 = .ok (.ifCond .eq 13, 3) := by decide +kernel
theorem dX6_inkOf_10 : decode cX6_inkOf 10 = .ok (.iload_n 2, 1) := by decide +kernel
theorem dX6_inkOf_11 : decode cX6_inkOf 11 = .ok (.iconst 0, 1) := by decide +kernel
theorem dX6_inkOf_12 : decode cX6_inkOf 12 = .ok (.bipush 7, 2) := by decide +kernel
theorem dX6_inkOf_14 : decode cX6_inkOf 14 = .ok (.invokestatic 52, 3) := by decide +kernel
theorem dX6_inkOf_17 : decode cX6_inkOf 17 = .ok (.ifCond .ne 5, 3) := by decide +kernel
theorem dX6_inkOf_20 : decode cX6_inkOf 20 = .ok (.iconst (-1), 1) := by decide +kernel
theorem dX6_inkOf_21 : decode cX6_inkOf 21 = .ok (.ireturn, 1) := by decide +kernel
theorem dX6_inkOf_22 : decode cX6_inkOf 22 = .ok (.aload_n 0, 1) := by decide +kernel
theorem dX6_inkOf_23 : decode cX6_inkOf 23 = .ok (.getfield 34, 3) := by decide +kernel
theorem dX6_inkOf_26 : decode cX6_inkOf 26 = .ok (.invokevirtual 232, 3) := by decide +kernel
theorem dX6_inkOf_29 : decode cX6_inkOf 29 = .ok (.aload_n 0, 1) := by decide +kernel
theorem dX6_inkOf_30 : decode cX6_inkOf 30 = .ok (.getfield 34, 3) := by decide +kernel
theorem dX6_inkOf_33 : decode cX6_inkOf 33 = .ok (.getfield 222, 3) := by decide +kernel
theorem dX6_inkOf_36 : decode cX6_inkOf 36 = .ok (.iconst 0, 1) := by decide +kernel
theorem dX6_inkOf_37 : decode cX6_inkOf 37 = .ok (.iload_n 1, 1) := by decide +kernel
theorem dX6_inkOf_38 : decode cX6_inkOf 38 = .ok (.bipush 16, 2) := by decide +kernel
theorem dX6_inkOf_40 : decode cX6_inkOf 40 = .ok (.ishr, 1) := by decide +kernel
theorem dX6_inkOf_41 : decode cX6_inkOf 41 = .ok (.iastore, 1) := by decide +kernel
theorem dX6_inkOf_42 : decode cX6_inkOf 42 = .ok (.aload_n 0, 1) := by decide +kernel
theorem dX6_inkOf_43 : decode cX6_inkOf 43 = .ok (.getfield 34, 3) := by decide +kernel
theorem dX6_inkOf_46 : decode cX6_inkOf 46 = .ok (.getfield 222, 3) := by decide +kernel
theorem dX6_inkOf_49 : decode cX6_inkOf 49 = .ok (.iconst 1, 1) := by decide +kernel
theorem dX6_inkOf_50 : decode cX6_inkOf 50 = .ok (.iload_n 1, 1) := by decide +kernel
theorem dX6_inkOf_51 : decode cX6_inkOf 51 = .ok (.bipush 8, 2) := by decide +kernel
theorem dX6_inkOf_53 : decode cX6_inkOf 53 = .ok (.ishr, 1) := by decide +kernel
theorem dX6_inkOf_54 : decode cX6_inkOf 54 = .ok (.sipush 255, 3) := by decide +kernel
theorem dX6_inkOf_57 : decode cX6_inkOf 57 = .ok (.iand, 1) := by decide +kernel
theorem dX6_inkOf_58 : decode cX6_inkOf 58 = .ok (.iastore, 1) := by decide +kernel
theorem dX6_inkOf_59 : decode cX6_inkOf 59 = .ok (.aload_n 0, 1) := by decide +kernel
theorem dX6_inkOf_60 : decode cX6_inkOf 60 = .ok (.getfield 34, 3) := by decide +kernel
theorem dX6_inkOf_63 : decode cX6_inkOf 63 = .ok (.getfield 222, 3) := by decide +kernel
theorem dX6_inkOf_66 : decode cX6_inkOf 66 = .ok (.iconst 2, 1) := by decide +kernel
theorem dX6_inkOf_67 : decode cX6_inkOf 67 = .ok (.iload_n 1, 1) := by decide +kernel
theorem dX6_inkOf_68 : decode cX6_inkOf 68 = .ok (.sipush 255, 3) := by decide +kernel
theorem dX6_inkOf_71 : decode cX6_inkOf 71 = .ok (.iand, 1) := by decide +kernel
theorem dX6_inkOf_72 : decode cX6_inkOf 72 = .ok (.iastore, 1) := by decide +kernel
theorem dX6_inkOf_73 : decode cX6_inkOf 73 = .ok (.aload_n 0, 1) := by decide +kernel
theorem dX6_inkOf_74 : decode cX6_inkOf 74 = .ok (.getfield 34, 3) := by decide +kernel
theorem dX6_inkOf_77 : decode cX6_inkOf 77 = .ok (.aload_n 0, 1) := by decide +kernel
theorem dX6_inkOf_78 : decode cX6_inkOf 78 = .ok (.getfield 12, 3) := by decide +kernel
theorem dX6_inkOf_81 : decode cX6_inkOf 81 = .ok (.aload_n 0, 1) := by decide +kernel
theorem dX6_inkOf_82 : decode cX6_inkOf 82 = .ok (.getfield 12, 3) := by decide +kernel
theorem dX6_inkOf_85 : decode cX6_inkOf 85 = .ok (.getfield 171, 3) := by decide +kernel
theorem dX6_inkOf_88 : decode cX6_inkOf 88 = .ok (.invokevirtual 235, 3) := by decide +kernel
theorem dX6_inkOf_91 : decode cX6_inkOf 91 = .ok (.aload_n 0, 1) := by decide +kernel
theorem dX6_inkOf_92 : decode cX6_inkOf 92 = .ok (.getfield 34, 3) := by decide +kernel
theorem dX6_inkOf_95 : decode cX6_inkOf 95 = .ok (.iload_n 2, 1) := by decide +kernel
theorem dX6_inkOf_96 : decode cX6_inkOf 96 = .ok (.invokevirtual 228, 3) := by decide +kernel
theorem dX6_inkOf_99 : decode cX6_inkOf 99 = .ok (.ireturn, 1) := by decide +kernel
theorem dX6_touchedBy_0 : decode cX6_touchedBy 0 = .ok (.aload_n 0, 1) := by decide +kernel
theorem dX6_touchedBy_1 : decode cX6_touchedBy 1 = .ok (.iload_n 1, 1) := by decide +kernel
theorem dX6_touchedBy_2 : decode cX6_touchedBy 2 = .ok (.iload_n 2, 1) := by decide +kernel
theorem dX6_touchedBy_3 : decode cX6_touchedBy 3 = .ok (.invokevirtual 215, 3) := by decide +kernel
theorem dX6_touchedBy_6 : decode cX6_touchedBy 6 = .ok (.ifCond .ne 5, 3) := by decide +kernel
theorem dX6_touchedBy_9 : decode cX6_touchedBy 9 = .ok (.iconst (-1), 1) := by decide +kernel
theorem dX6_touchedBy_10 : decode cX6_touchedBy 10 = .ok (.ireturn, 1) := by decide +kernel
theorem dX6_touchedBy_11 : decode cX6_touchedBy 11 = .ok (.aload_n 0, 1) := by decide +kernel
theorem dX6_touchedBy_12 : decode cX6_touchedBy 12 = .ok (.getfield 12, 3) := by decide +kernel
theorem dX6_touchedBy_15 : decode cX6_touchedBy 15 = .ok (.getfield 73, 3) := by decide +kernel
theorem dX6_touchedBy_18 : decode cX6_touchedBy 18 = .ok (.astore_n 3, 1) := by decide +kernel
theorem dX6_touchedBy_19 : decode cX6_touchedBy 19 = .ok (.aload_n 3, 1) := by decide +kernel
theorem dX6_touchedBy_20 : decode cX6_touchedBy 20 = .ok (.getfield 165, 3) := by decide +kernel
theorem dX6_touchedBy_23 : decode cX6_touchedBy 23 = .ok (.iconst 1, 1) := by decide +kernel
theorem dX6_touchedBy_24 : decode cX6_touchedBy 24 = .ok (.isub, 1) := by decide +kernel
theorem dX6_touchedBy_25 : decode cX6_touchedBy 25 = .ok (.istore 4, 2) := by decide +kernel
theorem dX6_touchedBy_27 : decode cX6_touchedBy 27 = .ok (.iload 4, 2) := by decide +kernel
theorem dX6_touchedBy_29 : decode cX6_touchedBy 29 = .ok (.ifCond .le 70, 3) := by decide +kernel
theorem dX6_touchedBy_32 : decode cX6_touchedBy 32 = .ok (.aload_n 3, 1) := by decide +kernel
theorem dX6_touchedBy_33 : decode cX6_touchedBy 33 = .ok (.getfield 239, 3) := by decide +kernel
theorem dX6_touchedBy_36 : decode cX6_touchedBy 36 = .ok (.iload 4, 2) := by decide +kernel
theorem dX6_touchedBy_38 : decode cX6_touchedBy 38 = .ok (.iaload, 1) := by decide +kernel
theorem dX6_touchedBy_39 : decode cX6_touchedBy 39 = .ok (.istore 5, 2) := by decide +kernel
theorem dX6_touchedBy_41 : decode cX6_touchedBy 41 = .ok (.aload_n 3, 1) := by decide +kernel
theorem dX6_touchedBy_42 : decode cX6_touchedBy 42 = .ok (.iload 5, 2) := by decide +kernel
theorem dX6_touchedBy_44 : decode cX6_touchedBy 44 = .ok (.invokevirtual 77, 3) := by decide +kernel
theorem dX6_touchedBy_47 : decode cX6_touchedBy 47 = .ok (.astore 6, 2) := by decide +kernel
theorem dX6_touchedBy_49 : decode cX6_touchedBy 49 = .ok (.aload_n 3, 1) := by decide +kernel
theorem dX6_touchedBy_50 : decode cX6_touchedBy 50 = .ok (.aload 6, 2) := by decide +kernel
theorem dX6_touchedBy_52 : decode cX6_touchedBy 52 = .ok (.getfield 153, 3) := by decide +kernel
theorem dX6_touchedBy_55 : decode cX6_touchedBy 55 = .ok (.invokevirtual 77, 3) := by decide +kernel
theorem dX6_touchedBy_58 : decode cX6_touchedBy 58 = .ok (.astore 7, 2) := by decide +kernel
theorem dX6_touchedBy_60 : decode cX6_touchedBy 60 = .ok (.aload 7, 2) := by decide +kernel
theorem dX6_touchedBy_62 : decode cX6_touchedBy 62 = .ok (.getfield 242, 3) := by decide +kernel
theorem dX6_touchedBy_65 : decode cX6_touchedBy 65 = .ok (.ifCond .le 28, 3) := by decide +kernel
theorem dX6_touchedBy_68 : decode cX6_touchedBy 68 = .ok (.aload 6, 2) := by decide +kernel
theorem dX6_touchedBy_70 : decode cX6_touchedBy 70 = .ok (.iload_n 1, 1) := by decide +kernel
theorem dX6_touchedBy_71 : decode cX6_touchedBy 71 = .ok (.aload 7, 2) := by decide +kernel
theorem dX6_touchedBy_73 : decode cX6_touchedBy 73 = .ok (.getfield 245, 3) := by decide +kernel
theorem dX6_touchedBy_76 : decode cX6_touchedBy 76 = .ok (.isub, 1) := by decide +kernel
theorem dX6_touchedBy_77 : decode cX6_touchedBy 77 = .ok (.iload_n 2, 1) := by decide +kernel
theorem dX6_touchedBy_78 : decode cX6_touchedBy 78 = .ok (.aload 7, 2) := by decide +kernel
theorem dX6_touchedBy_80 : decode cX6_touchedBy 80 = .ok (.getfield 248, 3) := by decide +kernel
theorem dX6_touchedBy_83 : decode cX6_touchedBy 83 = .ok (.isub, 1) := by decide +kernel
theorem dX6_touchedBy_84 : decode cX6_touchedBy 84 = .ok (.invokevirtual 251, 3) := by decide +kernel
theorem dX6_touchedBy_87 : decode cX6_touchedBy 87 = .ok (.ifCond .eq 6, 3) := by decide +kernel
theorem dX6_touchedBy_90 : decode cX6_touchedBy 90 = .ok (.iload 5, 2) := by decide +kernel
theorem dX6_touchedBy_92 : decode cX6_touchedBy 92 = .ok (.ireturn, 1) := by decide +kernel
theorem dX6_touchedBy_93 : decode cX6_touchedBy 93 = .ok (.iinc 4 (-1), 3) := by decide +kernel
theorem dX6_touchedBy_96 : decode cX6_touchedBy 96 = .ok (.goto (-69), 3) := by decide +kernel
theorem dX6_touchedBy_99 : decode cX6_touchedBy 99 = .ok (.bipush (-4), 2) := by decide +kernel
theorem dX6_touchedBy_101 : decode cX6_touchedBy 101 = .ok (.ireturn, 1) := by decide +kernel
theorem dX6_coverage_0 : decode cX6_coverage 0 = .ok (.iload_n 1, 1) := by decide +kernel
theorem dX6_coverage_1 : decode cX6_coverage 1 = .ok (.iconst 0, 1) := by decide +kernel
theorem dX6_coverage_2 : decode cX6_coverage 2 = .ok (.bipush 7, 2) := by decide +kernel
theorem dX6_coverage_4 : decode cX6_coverage 4 = .ok (.invokestatic 52, 3) := by decide +kernel
theorem dX6_coverage_7 : decode cX6_coverage 7 = .ok (.ifCond .ne 5, 3) := by decide +kernel
theorem dX6_coverage_10 : decode cX6_coverage 10 = .ok (.iconst (-1), 1) := by decide +kernel
theorem dX6_coverage_11 : decode cX6_coverage 11 = .ok (.ireturn, 1) := by decide +kernel
theorem dX6_coverage_12 : decode cX6_coverage 12 = .ok (.aload_n 0, 1) := by decide +kernel
theorem dX6_coverage_13 : decode cX6_coverage 13 = .ok (.invokevirtual 254, 3) := by decide +kernel
theorem dX6_coverage_16 : decode cX6_coverage 16 = .ok (.iload_n 1, 1) := by decide +kernel
theorem dX6_coverage_17 : decode cX6_coverage 17 = .ok (.bipush 7, 2) := by decide +kernel
theorem dX6_coverage_19 : decode cX6_coverage 19 = .ok (.if_icmp .ne 13, 3) := by decide +kernel
theorem dX6_coverage_22 : decode cX6_coverage 22 = .ok (.aload_n 0, 1) := by decide +kernel
theorem dX6_coverage_23 : decode cX6_coverage 23 = .ok (.getfield 45, 3) := by decide +kernel
theorem dX6_coverage_26 : decode cX6_coverage 26 = .ok (.invokestatic 257, 3) := by decide +kernel
theorem dX6_coverage_29 : decode cX6_coverage 29 = .ok (.goto 9, 3) := by decide +kernel
theorem dX6_coverage_32 : decode cX6_coverage 32 = .ok (.aload_n 0, 1) := by decide +kernel
theorem dX6_coverage_33 : decode cX6_coverage 33 = .ok (.getfield 45, 3) := by decide +kernel
theorem dX6_coverage_36 : decode cX6_coverage 36 = .ok (.iload_n 1, 1) := by decide +kernel
theorem dX6_coverage_37 : decode cX6_coverage 37 = .ok (.iaload, 1) := by decide +kernel
theorem dX6_coverage_38 : decode cX6_coverage 38 = .ok (.ireturn, 1) := by decide +kernel
theorem dX6_plateAt_0 : decode cX6_plateAt 0 = .ok (.iload_n 1, 1) := by decide +kernel
theorem dX6_plateAt_1 : decode cX6_plateAt 1 = .ok (.invokestatic 183, 3) := by decide +kernel
theorem dX6_plateAt_4 : decode cX6_plateAt 4 = .ok (.ifCond .ne 5, 3) := by decide +kernel
theorem dX6_plateAt_7 : decode cX6_plateAt 7 = .ok (.iconst (-1), 1) := by decide +kernel
theorem dX6_plateAt_8 : decode cX6_plateAt 8 = .ok (.ireturn, 1) := by decide +kernel
theorem dX6_plateAt_9 : decode cX6_plateAt 9 = .ok (.aload_n 0, 1) := by decide +kernel
theorem dX6_plateAt_10 : decode cX6_plateAt 10 = .ok (.invokevirtual 254, 3) := by decide +kernel
theorem dX6_plateAt_13 : decode cX6_plateAt 13 = .ok (.iconst 0, 1) := by decide +kernel
theorem dX6_plateAt_14 : decode cX6_plateAt 14 = .ok (.istore_n 2, 1) := by decide +kernel
theorem dX6_plateAt_15 : decode cX6_plateAt 15 = .ok (.iload_n 2, 1) := by decide +kernel
theorem dX6_plateAt_16 : decode cX6_plateAt 16 = .ok (.bipush 7, 2) := by decide +kernel
theorem dX6_plateAt_18 : decode cX6_plateAt 18 = .ok (.if_icmp .ge 20, 3) := by decide +kernel
theorem dX6_plateAt_21 : decode cX6_plateAt 21 = .ok (.aload_n 0, 1) := by decide +kernel
theorem dX6_plateAt_22 : decode cX6_plateAt 22 = .ok (.iload_n 2, 1) := by decide +kernel
theorem dX6_plateAt_23 : decode cX6_plateAt 23 = .ok (.invokevirtual 261, 3) := by decide +kernel
theorem dX6_plateAt_26 : decode cX6_plateAt 26 = .ok (.iload_n 1, 1) := by decide +kernel
theorem dX6_plateAt_27 : decode cX6_plateAt 27 = .ok (.if_icmp .ne 5, 3) := by decide +kernel
theorem dX6_plateAt_30 : decode cX6_plateAt 30 = .ok (.iload_n 2, 1) := by decide +kernel
theorem dX6_plateAt_31 : decode cX6_plateAt 31 = .ok (.ireturn, 1) := by decide +kernel
theorem dX6_plateAt_32 : decode cX6_plateAt 32 = .ok (.iinc 2 1, 3) := by decide +kernel
theorem dX6_plateAt_35 : decode cX6_plateAt 35 = .ok (.goto (-20), 3) := by decide +kernel
theorem dX6_plateAt_38 : decode cX6_plateAt 38 = .ok (.bipush (-4), 2) := by decide +kernel
theorem dX6_plateAt_40 : decode cX6_plateAt 40 = .ok (.ireturn, 1) := by decide +kernel
theorem dX6_greatestSum_0 : decode cX6_greatestSum 0 = .ok (.iconst 0, 1) := by decide +kernel
theorem dX6_greatestSum_1 : decode cX6_greatestSum 1 = .ok (.istore_n 1, 1) := by decide +kernel
theorem dX6_greatestSum_2 : decode cX6_greatestSum 2 = .ok (.iconst 0, 1) := by decide +kernel
theorem dX6_greatestSum_3 : decode cX6_greatestSum 3 = .ok (.istore_n 2, 1) := by decide +kernel
theorem dX6_greatestSum_4 : decode cX6_greatestSum 4 = .ok (.iload_n 2, 1) := by decide +kernel
theorem dX6_greatestSum_5 : decode cX6_greatestSum 5 = .ok (.aload_n 0, 1) := by decide +kernel
theorem dX6_greatestSum_6 : decode cX6_greatestSum 6 = .ok (.getfield 12, 3) := by decide +kernel
theorem dX6_greatestSum_9 : decode cX6_greatestSum 9 = .ok (.getfield 59, 3) := by decide +kernel
theorem dX6_greatestSum_12 : decode cX6_greatestSum 12 = .ok (.if_icmp .ge 49, 3) := by decide +kernel
theorem dX6_greatestSum_15 : decode cX6_greatestSum 15 = .ok (.iconst 0, 1) := by decide +kernel
theorem dX6_greatestSum_16 : decode cX6_greatestSum 16 = .ok (.istore_n 3, 1) := by decide +kernel
theorem dX6_greatestSum_17 : decode cX6_greatestSum 17 = .ok (.iload_n 3, 1) := by decide +kernel
theorem dX6_greatestSum_18 : decode cX6_greatestSum 18 = .ok (.aload_n 0, 1) := by decide +kernel
theorem dX6_greatestSum_19 : decode cX6_greatestSum 19 = .ok (.getfield 12, 3) := by decide +kernel
theorem dX6_greatestSum_22 : decode cX6_greatestSum 22 = .ok (.getfield 56, 3) := by decide +kernel
theorem dX6_greatestSum_25 : decode cX6_greatestSum 25 = .ok (.if_icmp .ge 30, 3) := by decide +kernel
theorem dX6_greatestSum_28 : decode cX6_greatestSum 28 = .ok (.aload_n 0, 1) := by decide +kernel
theorem dX6_greatestSum_29 : decode cX6_greatestSum 29 = .ok (.iload_n 3, 1) := by decide +kernel
theorem dX6_greatestSum_30 : decode cX6_greatestSum 30 = .ok (.iload_n 2, 1) := by decide +kernel
theorem dX6_greatestSum_31 : decode cX6_greatestSum 31 = .ok (.invokevirtual 225, 3) := by decide +kernel
theorem dX6_greatestSum_34 : decode cX6_greatestSum 34 = .ok (.iload_n 1, 1) := by decide +kernel
theorem dX6_greatestSum_35 : decode cX6_greatestSum 35 = .ok (.aload_n 0, 1) := by decide +kernel
theorem dX6_greatestSum_36 : decode cX6_greatestSum 36 = .ok (.getfield 34, 3) := by decide +kernel
theorem dX6_greatestSum_39 : decode cX6_greatestSum 39 = .ok (.getfield 264, 3) := by decide +kernel
theorem dX6_greatestSum_42 : decode cX6_greatestSum 42 = .ok (.invokestatic 257, 3) := by decide +kernel
theorem dX6_greatestSum_45 : decode cX6_greatestSum 45 = .ok (.invokestatic 267, 3) := by decide +kernel
theorem dX6_greatestSum_48 : decode cX6_greatestSum 48 = .ok (.istore_n 1, 1) := by decide +kernel
theorem dX6_greatestSum_49 : decode cX6_greatestSum 49 = .ok (.iinc 3 1, 3) := by decide +kernel
theorem dX6_greatestSum_52 : decode cX6_greatestSum 52 = .ok (.goto (-35), 3) := by decide +kernel
theorem dX6_greatestSum_55 : decode cX6_greatestSum 55 = .ok (.iinc 2 1, 3) := by decide +kernel
theorem dX6_greatestSum_58 : decode cX6_greatestSum 58 = .ok (.goto (-54), 3) := by decide +kernel
theorem dX6_greatestSum_61 : decode cX6_greatestSum 61 = .ok (.iload_n 1, 1) := by decide +kernel
theorem dX6_greatestSum_62 : decode cX6_greatestSum 62 = .ok (.ireturn, 1) := by decide +kernel
theorem dX6_limitedPixels_0 : decode cX6_limitedPixels 0 = .ok (.iconst 0, 1) := by decide +kernel
theorem dX6_limitedPixels_1 : decode cX6_limitedPixels 1 = .ok (.istore_n 1, 1) := by decide +kernel
theorem dX6_limitedPixels_2 : decode cX6_limitedPixels 2 = .ok (.iconst 0, 1) := by decide +kernel
theorem dX6_limitedPixels_3 : decode cX6_limitedPixels 3 = .ok (.istore_n 2, 1) := by decide +kernel
theorem dX6_limitedPixels_4 : decode cX6_limitedPixels 4 = .ok (.iload_n 2, 1) := by decide +kernel
theorem dX6_limitedPixels_5 : decode cX6_limitedPixels 5 = .ok (.aload_n 0, 1) := by decide +kernel
theorem dX6_limitedPixels_6 : decode cX6_limitedPixels 6 = .ok (.getfield 12, 3) := by decide +kernel
theorem dX6_limitedPixels_9 : decode cX6_limitedPixels 9 = .ok (.getfield 59, 3) := by decide +kernel
theorem dX6_limitedPixels_12 : decode cX6_limitedPixels 12 = .ok (.if_icmp .ge 57, 3) := by decide +kernel
theorem dX6_limitedPixels_15 : decode cX6_limitedPixels 15 = .ok (.iconst 0, 1) := by decide +kernel
theorem dX6_limitedPixels_16 : decode cX6_limitedPixels 16 = .ok (.istore_n 3, 1) := by decide +kernel
theorem dX6_limitedPixels_17 : decode cX6_limitedPixels 17 = .ok (.iload_n 3, 1) := by decide +kernel
theorem dX6_limitedPixels_18 : decode cX6_limitedPixels 18 = .ok (.aload_n 0, 1) := by decide +kernel
theorem dX6_limitedPixels_19 : decode cX6_limitedPixels 19 = .ok (.getfield 12, 3) := by decide +kernel
theorem dX6_limitedPixels_22 : decode cX6_limitedPixels 22 = .ok (.getfield 56, 3) := by decide +kernel
theorem dX6_limitedPixels_25 : decode cX6_limitedPixels 25 = .ok (.if_icmp .ge 38, 3) := by decide +kernel
theorem dX6_limitedPixels_28 : decode cX6_limitedPixels 28 = .ok (.aload_n 0, 1) := by decide +kernel
theorem dX6_limitedPixels_29 : decode cX6_limitedPixels 29 = .ok (.iload_n 3, 1) := by decide +kernel
theorem dX6_limitedPixels_30 : decode cX6_limitedPixels 30 = .ok (.iload_n 2, 1) := by decide +kernel
theorem dX6_limitedPixels_31 : decode cX6_limitedPixels 31 = .ok (.invokevirtual 225, 3) := by decide +kernel
theorem dX6_limitedPixels_34 : decode cX6_limitedPixels 34 = .ok (.aload_n 0, 1) := by decide +kernel
theorem dX6_limitedPixels_35 : decode cX6_limitedPixels 35 = .ok (.getfield 34, 3) := by decide +kernel
theorem dX6_limitedPixels_38 : decode cX6_limitedPixels 38 = .ok (.getfield 273, 3) := by decide +kernel
theorem dX6_limitedPixels_41 : decode cX6_limitedPixels 41 = .ok (.aload_n 0, 1) := by decide +kernel
theorem dX6_limitedPixels_42 : decode cX6_limitedPixels 42 = .ok (.getfield 34, 3) := by decide +kernel
theorem dX6_limitedPixels_45 : decode cX6_limitedPixels 45 = .ok (.getfield 264, 3) := by decide +kernel
theorem dX6_limitedPixels_48 : decode cX6_limitedPixels 48 = .ok (.invokestatic 276, 3) := by decide +kernel
theorem dX6_limitedPixels_51 : decode cX6_limitedPixels 51 = .ok (.ifCond .ne 6, 3) := by decide +kernel
theorem dX6_limitedPixels_54 : decode cX6_limitedPixels 54 = .ok (.iinc 1 1, 3) := by decide +kernel
theorem dX6_limitedPixels_57 : decode cX6_limitedPixels 57 = .ok (.iinc 3 1, 3) := by decide +kernel
theorem dX6_limitedPixels_60 : decode cX6_limitedPixels 60 = .ok (.goto (-43), 3) := by decide +kernel
theorem dX6_limitedPixels_63 : decode cX6_limitedPixels 63 = .ok (.iinc 2 1, 3) := by decide +kernel
theorem dX6_limitedPixels_66 : decode cX6_limitedPixels 66 = .ok (.goto (-62), 3) := by decide +kernel
theorem dX6_limitedPixels_69 : decode cX6_limitedPixels 69 = .ok (.iload_n 1, 1) := by decide +kernel
theorem dX6_limitedPixels_70 : decode cX6_limitedPixels 70 = .ok (.ireturn, 1) := by decide +kernel
theorem dX6_inkCount_0 : decode cX6_inkCount 0 = .ok (.aload_n 0, 1) := by decide +kernel
theorem dX6_inkCount_1 : decode cX6_inkCount 1 = .ok (.invokevirtual 280, 3) := by decide +kernel
theorem dX6_inkCount_4 : decode cX6_inkCount 4 = .ok (.aload_n 0, 1) := by decide +kernel
theorem dX6_inkCount_5 : decode cX6_inkCount 5 = .ok (.getfield 41, 3) := by decide +kernel
theorem dX6_inkCount_8 : decode cX6_inkCount 8 = .ok (.getfield 283, 3) := by decide +kernel
theorem dX6_inkCount_11 : decode cX6_inkCount 11 = .ok (.ireturn, 1) := by decide +kernel
theorem dX6_inkAt_0 : decode cX6_inkAt 0 = .ok (.iload_n 1, 1) := by decide +kernel
theorem dX6_inkAt_1 : decode cX6_inkAt 1 = .ok (.ifCond .lt 13, 3) := by decide +kernel
theorem dX6_inkAt_4 : decode cX6_inkAt 4 = .ok (.iload_n 2, 1) := by decide +kernel
theorem dX6_inkAt_5 : decode cX6_inkAt 5 = .ok (.iconst 0, 1) := by decide +kernel
theorem dX6_inkAt_6 : decode cX6_inkAt 6 = .ok (.bipush 8, 2) := by decide +kernel
theorem dX6_inkAt_8 : decode cX6_inkAt 8 = .ok (.invokestatic 52, 3) := by decide +kernel
theorem dX6_inkAt_11 : decode cX6_inkAt 11 = .ok (.ifCond .ne 5, 3) := by decide +kernel
theorem dX6_inkAt_14 : decode cX6_inkAt 14 = .ok (.iconst (-1), 1) := by decide +kernel
theorem dX6_inkAt_15 : decode cX6_inkAt 15 = .ok (.ireturn, 1) := by decide +kernel
theorem dX6_inkAt_16 : decode cX6_inkAt 16 = .ok (.aload_n 0, 1) := by decide +kernel
theorem dX6_inkAt_17 : decode cX6_inkAt 17 = .ok (.invokevirtual 280, 3) := by decide +kernel
theorem dX6_inkAt_20 : decode cX6_inkAt 20 = .ok (.aload_n 0, 1) := by decide +kernel
theorem dX6_inkAt_21 : decode cX6_inkAt 21 = .ok (.getfield 41, 3) := by decide +kernel
theorem dX6_inkAt_24 : decode cX6_inkAt 24 = .ok (.iload_n 1, 1) := by decide +kernel
theorem dX6_inkAt_25 : decode cX6_inkAt 25 = .ok (.invokevirtual 286, 3) := by decide +kernel
theorem dX6_inkAt_28 : decode cX6_inkAt 28 = .ok (.istore_n 3, 1) := by decide +kernel
theorem dX6_inkAt_29 : decode cX6_inkAt 29 = .ok (.iload_n 3, 1) := by decide +kernel
theorem dX6_inkAt_30 : decode cX6_inkAt 30 = .ok (.iconst (-1), 1) := by decide +kernel
theorem dX6_inkAt_31 : decode cX6_inkAt 31 = .ok (.if_icmp .ne 8, 3) := by decide +kernel
theorem dX6_inkAt_34 : decode cX6_inkAt 34 = .ok (.bipush (-4), 2) := by decide +kernel
theorem dX6_inkAt_36 : decode cX6_inkAt 36 = .ok (.goto 12, 3) := by decide +kernel
theorem dX6_inkAt_39 : decode cX6_inkAt 39 = .ok (.aload_n 0, 1) := by decide +kernel
theorem dX6_inkAt_40 : decode cX6_inkAt 40 = .ok (.getfield 41, 3) := by decide +kernel
theorem dX6_inkAt_43 : decode cX6_inkAt 43 = .ok (.iload_n 3, 1) := by decide +kernel
theorem dX6_inkAt_44 : decode cX6_inkAt 44 = .ok (.iload_n 2, 1) := by decide +kernel
theorem dX6_inkAt_45 : decode cX6_inkAt 45 = .ok (.invokevirtual 289, 3) := by decide +kernel
theorem dX6_inkAt_48 : decode cX6_inkAt 48 = .ok (.ireturn, 1) := by decide +kernel
theorem dX6_neededLimit_0 : decode cX6_neededLimit 0 = .ok (.iconst 0, 1) := by decide +kernel
theorem dX6_neededLimit_1 : decode cX6_neededLimit 1 = .ok (.istore_n 1, 1) := by decide +kernel
theorem dX6_neededLimit_2 : decode cX6_neededLimit 2 = .ok (.iconst 0, 1) := by decide +kernel
theorem dX6_neededLimit_3 : decode cX6_neededLimit 3 = .ok (.istore_n 2, 1) := by decide +kernel
theorem dX6_neededLimit_4 : decode cX6_neededLimit 4 = .ok (.iload_n 2, 1) := by decide +kernel
theorem dX6_neededLimit_5 : decode cX6_neededLimit 5 = .ok (.aload_n 0, 1) := by decide +kernel
theorem dX6_neededLimit_6 : decode cX6_neededLimit 6 = .ok (.getfield 12, 3) := by decide +kernel
theorem dX6_neededLimit_9 : decode cX6_neededLimit 9 = .ok (.getfield 59, 3) := by decide +kernel
theorem dX6_neededLimit_12 : decode cX6_neededLimit 12 = .ok (.if_icmp .ge 49, 3) := by decide +kernel
theorem dX6_neededLimit_15 : decode cX6_neededLimit 15 = .ok (.iconst 0, 1) := by decide +kernel
theorem dX6_neededLimit_16 : decode cX6_neededLimit 16 = .ok (.istore_n 3, 1) := by decide +kernel
theorem dX6_neededLimit_17 : decode cX6_neededLimit 17 = .ok (.iload_n 3, 1) := by decide +kernel
theorem dX6_neededLimit_18 : decode cX6_neededLimit 18 = .ok (.aload_n 0, 1) := by decide +kernel
theorem dX6_neededLimit_19 : decode cX6_neededLimit 19 = .ok (.getfield 12, 3) := by decide +kernel
theorem dX6_neededLimit_22 : decode cX6_neededLimit 22 = .ok (.getfield 56, 3) := by decide +kernel
theorem dX6_neededLimit_25 : decode cX6_neededLimit 25 = .ok (.if_icmp .ge 30, 3) := by decide +kernel
theorem dX6_neededLimit_28 : decode cX6_neededLimit 28 = .ok (.aload_n 0, 1) := by decide +kernel
theorem dX6_neededLimit_29 : decode cX6_neededLimit 29 = .ok (.iload_n 3, 1) := by decide +kernel
theorem dX6_neededLimit_30 : decode cX6_neededLimit 30 = .ok (.iload_n 2, 1) := by decide +kernel
theorem dX6_neededLimit_31 : decode cX6_neededLimit 31 = .ok (.invokevirtual 225, 3) := by decide +kernel
theorem dX6_neededLimit_34 : decode cX6_neededLimit 34 = .ok (.iload_n 1, 1) := by decide +kernel
theorem dX6_neededLimit_35 : decode cX6_neededLimit 35 = .ok (.aload_n 0, 1) := by decide +kernel
theorem dX6_neededLimit_36 : decode cX6_neededLimit 36 = .ok (.getfield 34, 3) := by decide +kernel
theorem dX6_neededLimit_39 : decode cX6_neededLimit 39 = .ok (.getfield 273, 3) := by decide +kernel
theorem dX6_neededLimit_42 : decode cX6_neededLimit 42 = .ok (.invokestatic 257, 3) := by decide +kernel
theorem dX6_neededLimit_45 : decode cX6_neededLimit 45 = .ok (.invokestatic 267, 3) := by decide +kernel
theorem dX6_neededLimit_48 : decode cX6_neededLimit 48 = .ok (.istore_n 1, 1) := by decide +kernel
theorem dX6_neededLimit_49 : decode cX6_neededLimit 49 = .ok (.iinc 3 1, 3) := by decide +kernel
theorem dX6_neededLimit_52 : decode cX6_neededLimit 52 = .ok (.goto (-35), 3) := by decide +kernel
theorem dX6_neededLimit_55 : decode cX6_neededLimit 55 = .ok (.iinc 2 1, 3) := by decide +kernel
theorem dX6_neededLimit_58 : decode cX6_neededLimit 58 = .ok (.goto (-54), 3) := by decide +kernel
theorem dX6_neededLimit_61 : decode cX6_neededLimit 61 = .ok (.iload_n 1, 1) := by decide +kernel
theorem dX6_neededLimit_62 : decode cX6_neededLimit 62 = .ok (.ireturn, 1) := by decide +kernel
theorem dX6_thriftiestAmount_0 : decode cX6_thriftiestAmount 0 = .ok (.aload_n 0, 1) := by decide +kernel
theorem dX6_thriftiestAmount_1 : decode cX6_thriftiestAmount 1 = .ok (.invokevirtual 291, 3) := by decide +kernel
theorem dX6_thriftiestAmount_4 : decode cX6_thriftiestAmount 4 = .ok (.iconst 0, 1) := by decide +kernel
theorem dX6_thriftiestAmount_5 : decode cX6_thriftiestAmount 5 = .ok (.istore_n 1, 1) := by decide +kernel
theorem dX6_thriftiestAmount_6 : decode cX6_thriftiestAmount 6 = .ok (.iconst 1, 1) := by decide +kernel
theorem dX6_thriftiestAmount_7 : decode cX6_thriftiestAmount 7 = .ok (.istore_n 2, 1) := by decide +kernel
theorem dX6_thriftiestAmount_8 : decode cX6_thriftiestAmount 8 = .ok (.iload_n 2, 1) := by decide +kernel
theorem dX6_thriftiestAmount_9 : decode cX6_thriftiestAmount 9 = .ok (.bipush 100, 2) := by decide +kernel
theorem dX6_thriftiestAmount_11 : decode cX6_thriftiestAmount 11 = .ok (.if_icmp .gt 26, 3) := by decide +kernel
theorem dX6_thriftiestAmount_14 : decode cX6_thriftiestAmount 14 = .ok (.aload_n 0, 1) := by decide +kernel
theorem dX6_thriftiestAmount_15 : decode cX6_thriftiestAmount 15 = .ok (.getfield 49, 3) := by decide +kernel
theorem dX6_thriftiestAmount_18 : decode cX6_thriftiestAmount 18 = .ok (.iload_n 2, 1) := by decide +kernel
theorem dX6_thriftiestAmount_19 : decode cX6_thriftiestAmount 19 = .ok (.iaload, 1) := by decide +kernel
theorem dX6_thriftiestAmount_20 : decode cX6_thriftiestAmount 20 = .ok (.aload_n 0, 1) := by decide +kernel
theorem dX6_thriftiestAmount_21 : decode cX6_thriftiestAmount 21 = .ok (.getfield 49, 3) := by decide +kernel
theorem dX6_thriftiestAmount_24 : decode cX6_thriftiestAmount 24 = .ok (.iload_n 1, 1) := by decide +kernel
theorem dX6_thriftiestAmount_25 : decode cX6_thriftiestAmount 25 = .ok (.iaload, 1) := by decide +kernel
theorem dX6_thriftiestAmount_26 : decode cX6_thriftiestAmount 26 = .ok (.if_icmp .ge 5, 3) := by decide +kernel
theorem dX6_thriftiestAmount_29 : decode cX6_thriftiestAmount 29 = .ok (.iload_n 2, 1) := by decide +kernel
theorem dX6_thriftiestAmount_30 : decode cX6_thriftiestAmount 30 = .ok (.istore_n 1, 1) := by decide +kernel
theorem dX6_thriftiestAmount_31 : decode cX6_thriftiestAmount 31 = .ok (.iinc 2 1, 3) := by decide +kernel
theorem dX6_thriftiestAmount_34 : decode cX6_thriftiestAmount 34 = .ok (.goto (-26), 3) := by decide +kernel
theorem dX6_thriftiestAmount_37 : decode cX6_thriftiestAmount 37 = .ok (.iload_n 1, 1) := by decide +kernel
theorem dX6_thriftiestAmount_38 : decode cX6_thriftiestAmount 38 = .ok (.ireturn, 1) := by decide +kernel
theorem dX6_disorderedPixels_0 : decode cX6_disorderedPixels 0 = .ok (.iconst 0, 1) := by decide +kernel
theorem dX6_disorderedPixels_1 : decode cX6_disorderedPixels 1 = .ok (.istore_n 1, 1) := by decide +kernel
theorem dX6_disorderedPixels_2 : decode cX6_disorderedPixels 2 = .ok (.iconst 0, 1) := by decide +kernel
theorem dX6_disorderedPixels_3 : decode cX6_disorderedPixels 3 = .ok (.istore_n 2, 1) := by decide +kernel
theorem dX6_disorderedPixels_4 : decode cX6_disorderedPixels 4 = .ok (.iload_n 2, 1) := by decide +kernel
theorem dX6_disorderedPixels_5 : decode cX6_disorderedPixels 5 = .ok (.aload_n 0, 1) := by decide +kernel
theorem dX6_disorderedPixels_6 : decode cX6_disorderedPixels 6 = .ok (.getfield 12, 3) := by decide +kernel
theorem dX6_disorderedPixels_9 : decode cX6_disorderedPixels 9 = .ok (.getfield 59, 3) := by decide +kernel
theorem dX6_disorderedPixels_12 : decode cX6_disorderedPixels 12 = .ok (.if_icmp .ge 47, 3) := by decide +kernel
theorem dX6_disorderedPixels_15 : decode cX6_disorderedPixels 15 = .ok (.iconst 0, 1) := by decide +kernel
theorem dX6_disorderedPixels_16 : decode cX6_disorderedPixels 16 = .ok (.istore_n 3, 1) := by decide +kernel
theorem dX6_disorderedPixels_17 : decode cX6_disorderedPixels 17 = .ok (.iload_n 3, 1) := by decide +kernel
theorem dX6_disorderedPixels_18 : decode cX6_disorderedPixels 18 = .ok (.aload_n 0, 1) := by decide +kernel
theorem dX6_disorderedPixels_19 : decode cX6_disorderedPixels 19 = .ok (.getfield 12, 3) := by decide +kernel
theorem dX6_disorderedPixels_22 : decode cX6_disorderedPixels 22 = .ok (.getfield 56, 3) := by decide +kernel
theorem dX6_disorderedPixels_25 : decode cX6_disorderedPixels 25 = .ok (.if_icmp .ge 28, 3) := by decide +kernel
theorem dX6_disorderedPixels_28 : decode cX6_disorderedPixels 28 = .ok (.aload_n 0, 1) := by decide +kernel
theorem dX6_disorderedPixels_29 : decode cX6_disorderedPixels 29 = .ok (.iload_n 3, 1) := by decide +kernel
theorem dX6_disorderedPixels_30 : decode cX6_disorderedPixels 30 = .ok (.iload_n 2, 1) := by decide +kernel
theorem dX6_disorderedPixels_31 : decode cX6_disorderedPixels 31 = .ok (.invokevirtual 225, 3) := by decide +kernel
theorem dX6_disorderedPixels_34 : decode cX6_disorderedPixels 34 = .ok (.aload_n 0, 1) := by decide +kernel
theorem dX6_disorderedPixels_35 : decode cX6_disorderedPixels 35 = .ok (.getfield 34, 3) := by decide +kernel
theorem dX6_disorderedPixels_38 : decode cX6_disorderedPixels 38 = .ok (.invokevirtual 294, 3) := by decide +kernel
theorem dX6_disorderedPixels_41 : decode cX6_disorderedPixels 41 = .ok (.ifCond .eq 6, 3) := by decide +kernel
theorem dX6_disorderedPixels_44 : decode cX6_disorderedPixels 44 = .ok (.iinc 1 1, 3) := by decide +kernel
theorem dX6_disorderedPixels_47 : decode cX6_disorderedPixels 47 = .ok (.iinc 3 1, 3) := by decide +kernel
theorem dX6_disorderedPixels_50 : decode cX6_disorderedPixels 50 = .ok (.goto (-33), 3) := by decide +kernel
theorem dX6_disorderedPixels_53 : decode cX6_disorderedPixels 53 = .ok (.iinc 2 1, 3) := by decide +kernel
theorem dX6_disorderedPixels_56 : decode cX6_disorderedPixels 56 = .ok (.goto (-52), 3) := by decide +kernel
theorem dX6_disorderedPixels_59 : decode cX6_disorderedPixels 59 = .ok (.iload_n 1, 1) := by decide +kernel
theorem dX6_disorderedPixels_60 : decode cX6_disorderedPixels 60 = .ok (.ireturn, 1) := by decide +kernel
theorem dX6_undo_0 : decode cX6_undo 0 = .ok (.aload_n 0, 1) := by decide +kernel
theorem dX6_undo_1 : decode cX6_undo 1 = .ok (.getfield 20, 3) := by decide +kernel
theorem dX6_undo_4 : decode cX6_undo 4 = .ok (.ifCond .ne 6, 3) := by decide +kernel
theorem dX6_undo_7 : decode cX6_undo 7 = .ok (.bipush (-2), 2) := by decide +kernel
theorem dX6_undo_9 : decode cX6_undo 9 = .ok (.ireturn, 1) := by decide +kernel
theorem dX6_undo_10 : decode cX6_undo 10 = .ok (.aload_n 0, 1) := by decide +kernel
theorem dX6_undo_11 : decode cX6_undo 11 = .ok (.dup, 1) := by decide +kernel
theorem dX6_undo_12 : decode cX6_undo 12 = .ok (.getfield 20, 3) := by decide +kernel
theorem dX6_undo_15 : decode cX6_undo 15 = .ok (.iconst 1, 1) := by decide +kernel
theorem dX6_undo_16 : decode cX6_undo 16 = .ok (.isub, 1) := by decide +kernel
theorem dX6_undo_17 : decode cX6_undo 17 = .ok (.putfield 20, 3) := by decide +kernel
theorem dX6_undo_20 : decode cX6_undo 20 = .ok (.aload_n 0, 1) := by decide +kernel
theorem dX6_undo_21 : decode cX6_undo 21 = .ok (.getfield 12, 3) := by decide +kernel
theorem dX6_undo_24 : decode cX6_undo 24 = .ok (.aload_n 0, 1) := by decide +kernel
theorem dX6_undo_25 : decode cX6_undo 25 = .ok (.getfield 16, 3) := by decide +kernel
theorem dX6_undo_28 : decode cX6_undo 28 = .ok (.aload_n 0, 1) := by decide +kernel
theorem dX6_undo_29 : decode cX6_undo 29 = .ok (.getfield 20, 3) := by decide +kernel
theorem dX6_undo_32 : decode cX6_undo 32 = .ok (.aaload, 1) := by decide +kernel
theorem dX6_undo_33 : decode cX6_undo 33 = .ok (.invokevirtual 298, 3) := by decide +kernel
theorem dX6_undo_36 : decode cX6_undo 36 = .ok (.aload_n 0, 1) := by decide +kernel
theorem dX6_undo_37 : decode cX6_undo 37 = .ok (.getfield 20, 3) := by decide +kernel
theorem dX6_undo_40 : decode cX6_undo 40 = .ok (.ireturn, 1) := by decide +kernel
theorem dX6_within_0 : decode cX6_within 0 = .ok (.iload_n 1, 1) := by decide +kernel
theorem dX6_within_1 : decode cX6_within 1 = .ok (.iload_n 0, 1) := by decide +kernel
theorem dX6_within_2 : decode cX6_within 2 = .ok (.if_icmp .gt 12, 3) := by decide +kernel
theorem dX6_within_5 : decode cX6_within 5 = .ok (.iload_n 0, 1) := by decide +kernel
theorem dX6_within_6 : decode cX6_within 6 = .ok (.iload_n 2, 1) := by decide +kernel
theorem dX6_within_7 : decode cX6_within 7 = .ok (.if_icmp .gt 7, 3) := by decide +kernel
theorem dX6_within_10 : decode cX6_within 10 = .ok (.iconst 1, 1) := by decide +kernel
theorem dX6_within_11 : decode cX6_within 11 = .ok (.goto 4, 3) := by decide +kernel
theorem dX6_within_14 : decode cX6_within 14 = .ok (.iconst 0, 1) := by decide +kernel
theorem dX6_within_15 : decode cX6_within 15 = .ok (.ireturn, 1) := by decide +kernel
theorem dX6_isPart_0 : decode cX6_isPart 0 = .ok (.iload_n 0, 1) := by decide +kernel
theorem dX6_isPart_1 : decode cX6_isPart 1 = .ok (.iconst 0, 1) := by decide +kernel
theorem dX6_isPart_2 : decode cX6_isPart 2 = .ok (.sipush 255, 3) := by decide +kernel
theorem dX6_isPart_5 : decode cX6_isPart 5 = .ok (.invokestatic 52, 3) := by decide +kernel
theorem dX6_isPart_8 : decode cX6_isPart 8 = .ok (.ireturn, 1) := by decide +kernel
theorem dX6_isOffset_0 : decode cX6_isOffset 0 = .ok (.iload_n 0, 1) := by decide +kernel
theorem dX6_isOffset_1 : decode cX6_isOffset 1 = .ok (.bipush (-12), 2) := by decide +kernel
theorem dX6_isOffset_3 : decode cX6_isOffset 3 = .ok (.bipush 12, 2) := by decide +kernel
theorem dX6_isOffset_5 : decode cX6_isOffset 5 = .ok (.invokestatic 52, 3) := by decide +kernel
theorem dX6_isOffset_8 : decode cX6_isOffset 8 = .ok (.ireturn, 1) := by decide +kernel
theorem dX6_isPlate_0 : decode cX6_isPlate 0 = .ok (.iload_n 0, 1) := by decide +kernel
theorem dX6_isPlate_1 : decode cX6_isPlate 1 = .ok (.iconst 0, 1) := by decide +kernel
theorem dX6_isPlate_2 : decode cX6_isPlate 2 = .ok (.bipush 6, 2) := by decide +kernel
theorem dX6_isPlate_4 : decode cX6_isPlate 4 = .ok (.invokestatic 52, 3) := by decide +kernel
theorem dX6_isPlate_7 : decode cX6_isPlate 7 = .ok (.ireturn, 1) := by decide +kernel
theorem dX6_isPixel_0 : decode cX6_isPixel 0 = .ok (.iload_n 1, 1) := by decide +kernel
theorem dX6_isPixel_1 : decode cX6_isPixel 1 = .ok (.iconst 0, 1) := by decide +kernel
theorem dX6_isPixel_2 : decode cX6_isPixel 2 = .ok (.aload_n 0, 1) := by decide +kernel
theorem dX6_isPixel_3 : decode cX6_isPixel 3 = .ok (.getfield 12, 3) := by decide +kernel
theorem dX6_isPixel_6 : decode cX6_isPixel 6 = .ok (.getfield 56, 3) := by decide +kernel
theorem dX6_isPixel_9 : decode cX6_isPixel 9 = .ok (.iconst 1, 1) := by decide +kernel
theorem dX6_isPixel_10 : decode cX6_isPixel 10 = .ok (.isub, 1) := by decide +kernel
theorem dX6_isPixel_11 : decode cX6_isPixel 11 = .ok (.invokestatic 52, 3) := by decide +kernel
theorem dX6_isPixel_14 : decode cX6_isPixel 14 = .ok (.ifCond .eq 24, 3) := by decide +kernel
theorem dX6_isPixel_17 : decode cX6_isPixel 17 = .ok (.iload_n 2, 1) := by decide +kernel
theorem dX6_isPixel_18 : decode cX6_isPixel 18 = .ok (.iconst 0, 1) := by decide +kernel
theorem dX6_isPixel_19 : decode cX6_isPixel 19 = .ok (.aload_n 0, 1) := by decide +kernel
theorem dX6_isPixel_20 : decode cX6_isPixel 20 = .ok (.getfield 12, 3) := by decide +kernel
theorem dX6_isPixel_23 : decode cX6_isPixel 23 = .ok (.getfield 59, 3) := by decide +kernel
theorem dX6_isPixel_26 : decode cX6_isPixel 26 = .ok (.iconst 1, 1) := by decide +kernel
theorem dX6_isPixel_27 : decode cX6_isPixel 27 = .ok (.isub, 1) := by decide +kernel
theorem dX6_isPixel_28 : decode cX6_isPixel 28 = .ok (.invokestatic 52, 3) := by decide +kernel
theorem dX6_isPixel_31 : decode cX6_isPixel 31 = .ok (.ifCond .eq 7, 3) := by decide +kernel
theorem dX6_isPixel_34 : decode cX6_isPixel 34 = .ok (.iconst 1, 1) := by decide +kernel
theorem dX6_isPixel_35 : decode cX6_isPixel 35 = .ok (.goto 4, 3) := by decide +kernel
theorem dX6_isPixel_38 : decode cX6_isPixel 38 = .ok (.iconst 0, 1) := by decide +kernel
theorem dX6_isPixel_39 : decode cX6_isPixel 39 = .ok (.ireturn, 1) := by decide +kernel
theorem dX6_greatestSetting_0 : decode cX6_greatestSetting 0 = .ok (.iload_n 0, 1) := by decide +kernel
theorem dX6_greatestSetting_1 : decode cX6_greatestSetting 1 = .ok (.ifCond .ne 6, 3) := by decide +kernel
theorem dX6_greatestSetting_4 : decode cX6_greatestSetting 4 = .ok (.bipush 100, 2) := by decide +kernel
theorem dX6_greatestSetting_6 : decode cX6_greatestSetting 6 = .ok (.ireturn, 1) := by decide +kernel
theorem dX6_greatestSetting_7 : decode cX6_greatestSetting 7 = .ok (.iload_n 0, 1) := by decide +kernel
theorem dX6_greatestSetting_8 : decode cX6_greatestSetting 8 = .ok (.iconst 1, 1) := by decide +kernel
theorem dX6_greatestSetting_9 : decode cX6_greatestSetting 9 = .ok (.if_icmp .ne 9, 3) := by decide +kernel
theorem dX6_greatestSetting_12 : decode cX6_greatestSetting 12 = .ok (.sipush 255, 3) := by decide +kernel
theorem dX6_greatestSetting_15 : decode cX6_greatestSetting 15 = .ok (.goto 6, 3) := by decide +kernel
theorem dX6_greatestSetting_18 : decode cX6_greatestSetting 18 = .ok (.sipush 1785, 3) := by decide +kernel
theorem dX6_greatestSetting_21 : decode cX6_greatestSetting 21 = .ok (.ireturn, 1) := by decide +kernel
theorem dX6_numberBelow_0 : decode cX6_numberBelow 0 = .ok (.aload_n 0, 1) := by decide +kernel
theorem dX6_numberBelow_1 : decode cX6_numberBelow 1 = .ok (.getfield 12, 3) := by decide +kernel
theorem dX6_numberBelow_4 : decode cX6_numberBelow 4 = .ok (.getfield 73, 3) := by decide +kernel
theorem dX6_numberBelow_7 : decode cX6_numberBelow 7 = .ok (.iload_n 1, 1) := by decide +kernel
theorem dX6_numberBelow_8 : decode cX6_numberBelow 8 = .ok (.invokevirtual 133, 3) := by decide +kernel
theorem dX6_numberBelow_11 : decode cX6_numberBelow 11 = .ok (.ifCond .ne 5, 3) := by decide +kernel
theorem dX6_numberBelow_14 : decode cX6_numberBelow 14 = .ok (.iconst (-1), 1) := by decide +kernel
theorem dX6_numberBelow_15 : decode cX6_numberBelow 15 = .ok (.ireturn, 1) := by decide +kernel
theorem dX6_numberBelow_16 : decode cX6_numberBelow 16 = .ok (.aload_n 0, 1) := by decide +kernel
theorem dX6_numberBelow_17 : decode cX6_numberBelow 17 = .ok (.getfield 12, 3) := by decide +kernel
theorem dX6_numberBelow_20 : decode cX6_numberBelow 20 = .ok (.getfield 73, 3) := by decide +kernel
theorem dX6_numberBelow_23 : decode cX6_numberBelow 23 = .ok (.iload_n 1, 1) := by decide +kernel
theorem dX6_numberBelow_24 : decode cX6_numberBelow 24 = .ok (.invokevirtual 77, 3) := by decide +kernel
theorem dX6_numberBelow_27 : decode cX6_numberBelow 27 = .ok (.astore_n 2, 1) := by decide +kernel
theorem dX6_numberBelow_28 : decode cX6_numberBelow 28 = .ok (.aload_n 2, 1) := by decide +kernel
theorem dX6_numberBelow_29 : decode cX6_numberBelow 29 = .ok (.getfield 150, 3) := by decide +kernel
theorem dX6_numberBelow_32 : decode cX6_numberBelow 32 = .ok (.ifCond .ne 11, 3) := by decide +kernel
theorem dX6_numberBelow_35 : decode cX6_numberBelow 35 = .ok (.aload_n 2, 1) := by decide +kernel
theorem dX6_numberBelow_36 : decode cX6_numberBelow 36 = .ok (.getfield 147, 3) := by decide +kernel
theorem dX6_numberBelow_39 : decode cX6_numberBelow 39 = .ok (.iconst 4, 1) := by decide +kernel
theorem dX6_numberBelow_40 : decode cX6_numberBelow 40 = .ok (.if_icmp .lt 6, 3) := by decide +kernel
theorem dX6_numberBelow_43 : decode cX6_numberBelow 43 = .ok (.bipush (-2), 2) := by decide +kernel
theorem dX6_numberBelow_45 : decode cX6_numberBelow 45 = .ok (.ireturn, 1) := by decide +kernel
theorem dX6_numberBelow_46 : decode cX6_numberBelow 46 = .ok (.aload_n 0, 1) := by decide +kernel
theorem dX6_numberBelow_47 : decode cX6_numberBelow 47 = .ok (.getfield 12, 3) := by decide +kernel
theorem dX6_numberBelow_50 : decode cX6_numberBelow 50 = .ok (.getfield 73, 3) := by decide +kernel
theorem dX6_numberBelow_53 : decode cX6_numberBelow 53 = .ok (.invokevirtual 302, 3) := by decide +kernel
theorem dX6_numberBelow_56 : decode cX6_numberBelow 56 = .ok (.istore_n 3, 1) := by decide +kernel
theorem dX6_numberBelow_57 : decode cX6_numberBelow 57 = .ok (.iload_n 3, 1) := by decide +kernel
theorem dX6_numberBelow_58 : decode cX6_numberBelow 58 = .ok (.iconst (-1), 1) := by decide +kernel
theorem dX6_numberBelow_59 : decode cX6_numberBelow 59 = .ok (.if_icmp .ne 8, 3) := by decide +kernel
theorem dX6_numberBelow_62 : decode cX6_numberBelow 62 = .ok (.bipush (-3), 2) := by decide +kernel
theorem dX6_numberBelow_64 : decode cX6_numberBelow 64 = .ok (.goto 4, 3) := by decide +kernel
theorem dX6_numberBelow_67 : decode cX6_numberBelow 67 = .ok (.iload_n 3, 1) := by decide +kernel
theorem dX6_numberBelow_68 : decode cX6_numberBelow 68 = .ok (.ireturn, 1) := by decide +kernel
theorem dX6_remember_0 : decode cX6_remember 0 = .ok (.aload_n 0, 1) := by decide +kernel
theorem dX6_remember_1 : decode cX6_remember 1 = .ok (.getfield 20, 3) := by decide +kernel
theorem dX6_remember_4 : decode cX6_remember 4 = .ok (.iconst 5, 1) := by decide +kernel
theorem dX6_remember_5 : decode cX6_remember 5 = .ok (.if_icmp .ne 54, 3) := by decide +kernel
theorem dX6_remember_8 : decode cX6_remember 8 = .ok (.aload_n 0, 1) := by decide +kernel
theorem dX6_remember_9 : decode cX6_remember 9 = .ok (.getfield 16, 3) := by decide +kernel
theorem dX6_remember_12 : decode cX6_remember 12 = .ok (.iconst 0, 1) := by decide +kernel
theorem dX6_remember_13 : decode cX6_remember 13 = .ok (.aaload, 1) := by decide +kernel
theorem dX6_remember_14 : decode cX6_remember 14 = .ok (.astore_n 1, 1) := by decide +kernel
theorem dX6_remember_15 : decode cX6_remember 15 = .ok (.iconst 1, 1) := by decide +kernel
theorem dX6_remember_16 : decode cX6_remember 16 = .ok (.istore_n 2, 1) := by decide +kernel
theorem dX6_remember_17 : decode cX6_remember 17 = .ok (.iload_n 2, 1) := by decide +kernel
theorem dX6_remember_18 : decode cX6_remember 18 = .ok (.iconst 5, 1) := by decide +kernel
theorem dX6_remember_19 : decode cX6_remember 19 = .ok (.if_icmp .ge 23, 3) := by decide +kernel
theorem dX6_remember_22 : decode cX6_remember 22 = .ok (.aload_n 0, 1) := by decide +kernel
theorem dX6_remember_23 : decode cX6_remember 23 = .ok (.getfield 16, 3) := by decide +kernel
theorem dX6_remember_26 : decode cX6_remember 26 = .ok (.iload_n 2, 1) := by decide +kernel
theorem dX6_remember_27 : decode cX6_remember 27 = .ok (.iconst 1, 1) := by decide +kernel
theorem dX6_remember_28 : decode cX6_remember 28 = .ok (.isub, 1) := by decide +kernel
theorem dX6_remember_29 : decode cX6_remember 29 = .ok (.aload_n 0, 1) := by decide +kernel
theorem dX6_remember_30 : decode cX6_remember 30 = .ok (.getfield 16, 3) := by decide +kernel
theorem dX6_remember_33 : decode cX6_remember 33 = .ok (.iload_n 2, 1) := by decide +kernel
theorem dX6_remember_34 : decode cX6_remember 34 = .ok (.aaload, 1) := by decide +kernel
theorem dX6_remember_35 : decode cX6_remember 35 = .ok (.aastore, 1) := by decide +kernel
theorem dX6_remember_36 : decode cX6_remember 36 = .ok (.iinc 2 1, 3) := by decide +kernel
theorem dX6_remember_39 : decode cX6_remember 39 = .ok (.goto (-22), 3) := by decide +kernel
theorem dX6_remember_42 : decode cX6_remember 42 = .ok (.aload_n 0, 1) := by decide +kernel
theorem dX6_remember_43 : decode cX6_remember 43 = .ok (.getfield 16, 3) := by decide +kernel
theorem dX6_remember_46 : decode cX6_remember 46 = .ok (.iconst 4, 1) := by decide +kernel
theorem dX6_remember_47 : decode cX6_remember 47 = .ok (.aload_n 1, 1) := by decide +kernel
theorem dX6_remember_48 : decode cX6_remember 48 = .ok (.aastore, 1) := by decide +kernel
theorem dX6_remember_49 : decode cX6_remember 49 = .ok (.aload_n 0, 1) := by decide +kernel
theorem dX6_remember_50 : decode cX6_remember 50 = .ok (.dup, 1) := by decide +kernel
theorem dX6_remember_51 : decode cX6_remember 51 = .ok (.getfield 20, 3) := by decide +kernel
theorem dX6_remember_54 : decode cX6_remember 54 = .ok (.iconst 1, 1) := by decide +kernel
theorem dX6_remember_55 : decode cX6_remember 55 = .ok (.isub, 1) := by decide +kernel
theorem dX6_remember_56 : decode cX6_remember 56 = .ok (.putfield 20, 3) := by decide +kernel
theorem dX6_remember_59 : decode cX6_remember 59 = .ok (.aload_n 0, 1) := by decide +kernel
theorem dX6_remember_60 : decode cX6_remember 60 = .ok (.getfield 16, 3) := by decide +kernel
theorem dX6_remember_63 : decode cX6_remember 63 = .ok (.aload_n 0, 1) := by decide +kernel
theorem dX6_remember_64 : decode cX6_remember 64 = .ok (.getfield 20, 3) := by decide +kernel
theorem dX6_remember_67 : decode cX6_remember 67 = .ok (.aaload, 1) := by decide +kernel
theorem dX6_remember_68 : decode cX6_remember 68 = .ok (.aload_n 0, 1) := by decide +kernel
theorem dX6_remember_69 : decode cX6_remember 69 = .ok (.getfield 12, 3) := by decide +kernel
theorem dX6_remember_72 : decode cX6_remember 72 = .ok (.invokevirtual 298, 3) := by decide +kernel
theorem dX6_remember_75 : decode cX6_remember 75 = .ok (.aload_n 0, 1) := by decide +kernel
theorem dX6_remember_76 : decode cX6_remember 76 = .ok (.dup, 1) := by decide +kernel
theorem dX6_remember_77 : decode cX6_remember 77 = .ok (.getfield 20, 3) := by decide +kernel
theorem dX6_remember_80 : decode cX6_remember 80 = .ok (.iconst 1, 1) := by decide +kernel
theorem dX6_remember_81 : decode cX6_remember 81 = .ok (.iadd, 1) := by decide +kernel
theorem dX6_remember_82 : decode cX6_remember 82 = .ok (.putfield 20, 3) := by decide +kernel
theorem dX6_remember_85 : decode cX6_remember 85 = .ok (.return_, 1) := by decide +kernel
theorem dX6_separateAt_0 : decode cX6_separateAt 0 = .ok (.aload_n 0, 1) := by decide +kernel
theorem dX6_separateAt_1 : decode cX6_separateAt 1 = .ok (.getfield 34, 3) := by decide +kernel
theorem dX6_separateAt_4 : decode cX6_separateAt 4 = .ok (.aload_n 0, 1) := by decide +kernel
theorem dX6_separateAt_5 : decode cX6_separateAt 5 = .ok (.getfield 12, 3) := by decide +kernel
theorem dX6_separateAt_8 : decode cX6_separateAt 8 = .ok (.iload_n 1, 1) := by decide +kernel
theorem dX6_separateAt_9 : decode cX6_separateAt 9 = .ok (.iload_n 2, 1) := by decide +kernel
theorem dX6_separateAt_10 : decode cX6_separateAt 10 = .ok (.invokevirtual 218, 3) := by decide +kernel
theorem dX6_separateAt_13 : decode cX6_separateAt 13 = .ok (.aload_n 0, 1) := by decide +kernel
theorem dX6_separateAt_14 : decode cX6_separateAt 14 = .ok (.getfield 34, 3) := by decide +kernel
theorem dX6_separateAt_17 : decode cX6_separateAt 17 = .ok (.aload_n 0, 1) := by decide +kernel
theorem dX6_separateAt_18 : decode cX6_separateAt 18 = .ok (.getfield 12, 3) := by decide +kernel
theorem dX6_separateAt_21 : decode cX6_separateAt 21 = .ok (.aload_n 0, 1) := by decide +kernel
theorem dX6_separateAt_22 : decode cX6_separateAt 22 = .ok (.getfield 12, 3) := by decide +kernel
theorem dX6_separateAt_25 : decode cX6_separateAt 25 = .ok (.getfield 171, 3) := by decide +kernel
theorem dX6_separateAt_28 : decode cX6_separateAt 28 = .ok (.invokevirtual 235, 3) := by decide +kernel
theorem dX6_separateAt_31 : decode cX6_separateAt 31 = .ok (.return_, 1) := by decide +kernel
theorem dX6_addUpPlates_0 : decode cX6_addUpPlates 0 = .ok (.iconst 0, 1) := by decide +kernel
theorem dX6_addUpPlates_1 : decode cX6_addUpPlates 1 = .ok (.istore_n 1, 1) := by decide +kernel
theorem dX6_addUpPlates_2 : decode cX6_addUpPlates 2 = .ok (.iload_n 1, 1) := by decide +kernel
theorem dX6_addUpPlates_3 : decode cX6_addUpPlates 3 = .ok (.bipush 7, 2) := by decide +kernel
theorem dX6_addUpPlates_5 : decode cX6_addUpPlates 5 = .ok (.if_icmp .ge 16, 3) := by decide +kernel
theorem dX6_addUpPlates_8 : decode cX6_addUpPlates 8 = .ok (.aload_n 0, 1) := by decide +kernel
theorem dX6_addUpPlates_9 : decode cX6_addUpPlates 9 = .ok (.getfield 45, 3) := by decide +kernel
theorem dX6_addUpPlates_12 : decode cX6_addUpPlates 12 = .ok (.iload_n 1, 1) := by decide +kernel
theorem dX6_addUpPlates_13 : decode cX6_addUpPlates 13 = .ok (.iconst 0, 1) := by decide +kernel
theorem dX6_addUpPlates_14 : decode cX6_addUpPlates 14 = .ok (.iastore, 1) := by decide +kernel
theorem dX6_addUpPlates_15 : decode cX6_addUpPlates 15 = .ok (.iinc 1 1, 3) := by decide +kernel
theorem dX6_addUpPlates_18 : decode cX6_addUpPlates 18 = .ok (.goto (-16), 3) := by decide +kernel
theorem dX6_addUpPlates_21 : decode cX6_addUpPlates 21 = .ok (.iconst 0, 1) := by decide +kernel
theorem dX6_addUpPlates_22 : decode cX6_addUpPlates 22 = .ok (.istore_n 1, 1) := by decide +kernel
theorem dX6_addUpPlates_23 : decode cX6_addUpPlates 23 = .ok (.iload_n 1, 1) := by decide +kernel
theorem dX6_addUpPlates_24 : decode cX6_addUpPlates 24 = .ok (.aload_n 0, 1) := by decide +kernel
theorem dX6_addUpPlates_25 : decode cX6_addUpPlates 25 = .ok (.getfield 12, 3) := by decide +kernel
theorem dX6_addUpPlates_28 : decode cX6_addUpPlates 28 = .ok (.getfield 59, 3) := by decide +kernel
theorem dX6_addUpPlates_31 : decode cX6_addUpPlates 31 = .ok (.if_icmp .ge 66, 3) := by decide +kernel
theorem dX6_addUpPlates_34 : decode cX6_addUpPlates 34 = .ok (.iconst 0, 1) := by decide +kernel
theorem dX6_addUpPlates_35 : decode cX6_addUpPlates 35 = .ok (.istore_n 2, 1) := by decide +kernel
theorem dX6_addUpPlates_36 : decode cX6_addUpPlates 36 = .ok (.iload_n 2, 1) := by decide +kernel
theorem dX6_addUpPlates_37 : decode cX6_addUpPlates 37 = .ok (.aload_n 0, 1) := by decide +kernel
theorem dX6_addUpPlates_38 : decode cX6_addUpPlates 38 = .ok (.getfield 12, 3) := by decide +kernel
theorem dX6_addUpPlates_41 : decode cX6_addUpPlates 41 = .ok (.getfield 56, 3) := by decide +kernel
theorem dX6_addUpPlates_44 : decode cX6_addUpPlates 44 = .ok (.if_icmp .ge 47, 3) := by decide +kernel
theorem dX6_addUpPlates_47 : decode cX6_addUpPlates 47 = .ok (.aload_n 0, 1) := by decide +kernel
theorem dX6_addUpPlates_48 : decode cX6_addUpPlates 48 = .ok (.iload_n 2, 1) := by decide +kernel
theorem dX6_addUpPlates_49 : decode cX6_addUpPlates 49 = .ok (.iload_n 1, 1) := by decide +kernel
theorem dX6_addUpPlates_50 : decode cX6_addUpPlates 50 = .ok (.invokevirtual 225, 3) := by decide +kernel
theorem dX6_addUpPlates_53 : decode cX6_addUpPlates 53 = .ok (.iconst 0, 1) := by decide +kernel
theorem dX6_addUpPlates_54 : decode cX6_addUpPlates 54 = .ok (.istore_n 3, 1) := by decide +kernel
theorem dX6_addUpPlates_55 : decode cX6_addUpPlates 55 = .ok (.iload_n 3, 1) := by decide +kernel
theorem dX6_addUpPlates_56 : decode cX6_addUpPlates 56 = .ok (.bipush 7, 2) := by decide +kernel
theorem dX6_addUpPlates_58 : decode cX6_addUpPlates 58 = .ok (.if_icmp .ge 27, 3) := by decide +kernel
theorem dX6_addUpPlates_61 : decode cX6_addUpPlates 61 = .ok (.aload_n 0, 1) := by decide +kernel
theorem dX6_addUpPlates_62 : decode cX6_addUpPlates 62 = .ok (.getfield 45, 3) := by decide +kernel
theorem dX6_addUpPlates_65 : decode cX6_addUpPlates 65 = .ok (.iload_n 3, 1) := by decide +kernel
theorem dX6_addUpPlates_66 : decode cX6_addUpPlates 66 = .ok (.dup2, 1) := by decide +kernel
theorem dX6_addUpPlates_67 : decode cX6_addUpPlates 67 = .ok (.iaload, 1) := by decide +kernel
theorem dX6_addUpPlates_68 : decode cX6_addUpPlates 68 = .ok (.aload_n 0, 1) := by decide +kernel
theorem dX6_addUpPlates_69 : decode cX6_addUpPlates 69 = .ok (.getfield 34, 3) := by decide +kernel
theorem dX6_addUpPlates_72 : decode cX6_addUpPlates 72 = .ok (.getfield 264, 3) := by decide +kernel
theorem dX6_addUpPlates_75 : decode cX6_addUpPlates 75 = .ok (.iload_n 3, 1) := by decide +kernel
theorem dX6_addUpPlates_76 : decode cX6_addUpPlates 76 = .ok (.iaload, 1) := by decide +kernel
theorem dX6_addUpPlates_77 : decode cX6_addUpPlates 77 = .ok (.iadd, 1) := by decide +kernel
theorem dX6_addUpPlates_78 : decode cX6_addUpPlates 78 = .ok (.iastore, 1) := by decide +kernel
theorem dX6_addUpPlates_79 : decode cX6_addUpPlates 79 = .ok (.iinc 3 1, 3) := by decide +kernel
theorem dX6_addUpPlates_82 : decode cX6_addUpPlates 82 = .ok (.goto (-27), 3) := by decide +kernel
theorem dX6_addUpPlates_85 : decode cX6_addUpPlates 85 = .ok (.iinc 2 1, 3) := by decide +kernel
theorem dX6_addUpPlates_88 : decode cX6_addUpPlates 88 = .ok (.goto (-52), 3) := by decide +kernel
theorem dX6_addUpPlates_91 : decode cX6_addUpPlates 91 = .ok (.iinc 1 1, 3) := by decide +kernel
theorem dX6_addUpPlates_94 : decode cX6_addUpPlates 94 = .ok (.goto (-71), 3) := by decide +kernel
theorem dX6_addUpPlates_97 : decode cX6_addUpPlates 97 = .ok (.return_, 1) := by decide +kernel
theorem dX6_platesBefore_0 : decode cX6_platesBefore 0 = .ok (.iconst 0, 1) := by decide +kernel
theorem dX6_platesBefore_1 : decode cX6_platesBefore 1 = .ok (.istore_n 2, 1) := by decide +kernel
theorem dX6_platesBefore_2 : decode cX6_platesBefore 2 = .ok (.iconst 0, 1) := by decide +kernel
theorem dX6_platesBefore_3 : decode cX6_platesBefore 3 = .ok (.istore_n 3, 1) := by decide +kernel
theorem dX6_platesBefore_4 : decode cX6_platesBefore 4 = .ok (.iload_n 3, 1) := by decide +kernel
theorem dX6_platesBefore_5 : decode cX6_platesBefore 5 = .ok (.bipush 7, 2) := by decide +kernel
theorem dX6_platesBefore_7 : decode cX6_platesBefore 7 = .ok (.if_icmp .ge 59, 3) := by decide +kernel
theorem dX6_platesBefore_10 : decode cX6_platesBefore 10 = .ok (.aload_n 0, 1) := by decide +kernel
theorem dX6_platesBefore_11 : decode cX6_platesBefore 11 = .ok (.getfield 45, 3) := by decide +kernel
theorem dX6_platesBefore_14 : decode cX6_platesBefore 14 = .ok (.iload_n 3, 1) := by decide +kernel
theorem dX6_platesBefore_15 : decode cX6_platesBefore 15 = .ok (.iaload, 1) := by decide +kernel
theorem dX6_platesBefore_16 : decode cX6_platesBefore 16 = .ok (.aload_n 0, 1) := by decide +kernel
theorem dX6_platesBefore_17 : decode cX6_platesBefore 17 = .ok (.getfield 45, 3) := by decide +kernel
theorem dX6_platesBefore_20 : decode cX6_platesBefore 20 = .ok (.iload_n 1, 1) := by decide +kernel
theorem dX6_platesBefore_21 : decode cX6_platesBefore 21 = .ok (.iaload, 1) := by decide +kernel
theorem dX6_platesBefore_22 : decode cX6_platesBefore 22 = .ok (.if_icmp .ne 12, 3) := by decide +kernel
theorem dX6_platesBefore_25 : decode cX6_platesBefore 25 = .ok (.iload_n 3, 1) := by decide +kernel
theorem dX6_platesBefore_26 : decode cX6_platesBefore 26 = .ok (.iload_n 1, 1) := by decide +kernel
theorem dX6_platesBefore_27 : decode cX6_platesBefore 27 = .ok (.if_icmp .ge 7, 3) := by decide +kernel
theorem dX6_platesBefore_30 : decode cX6_platesBefore 30 = .ok (.iconst 1, 1) := by decide +kernel
theorem dX6_platesBefore_31 : decode cX6_platesBefore 31 = .ok (.goto 4, 3) := by decide +kernel
theorem dX6_platesBefore_34 : decode cX6_platesBefore 34 = .ok (.iconst 0, 1) := by decide +kernel
theorem dX6_platesBefore_35 : decode cX6_platesBefore 35 = .ok (.istore 4, 2) := by decide +kernel
theorem dX6_platesBefore_37 : decode cX6_platesBefore 37 = .ok (.aload_n 0, 1) := by decide +kernel
theorem dX6_platesBefore_38 : decode cX6_platesBefore 38 = .ok (.getfield 45, 3) := by decide +kernel
theorem dX6_platesBefore_41 : decode cX6_platesBefore 41 = .ok (.iload_n 3, 1) := by decide +kernel
theorem dX6_platesBefore_42 : decode cX6_platesBefore 42 = .ok (.iaload, 1) := by decide +kernel
theorem dX6_platesBefore_43 : decode cX6_platesBefore 43 = .ok (.aload_n 0, 1) := by decide +kernel
theorem dX6_platesBefore_44 : decode cX6_platesBefore 44 = .ok (.getfield 45, 3) := by decide +kernel
theorem dX6_platesBefore_47 : decode cX6_platesBefore 47 = .ok (.iload_n 1, 1) := by decide +kernel
theorem dX6_platesBefore_48 : decode cX6_platesBefore 48 = .ok (.iaload, 1) := by decide +kernel
theorem dX6_platesBefore_49 : decode cX6_platesBefore 49 = .ok (.if_icmp .gt 8, 3) := by decide +kernel
theorem dX6_platesBefore_52 : decode cX6_platesBefore 52 = .ok (.iload 4, 2) := by decide +kernel
theorem dX6_platesBefore_54 : decode cX6_platesBefore 54 = .ok (.ifCond .eq 6, 3) := by decide +kernel
theorem dX6_platesBefore_57 : decode cX6_platesBefore 57 = .ok (.iinc 2 1, 3) := by decide +kernel
theorem dX6_platesBefore_60 : decode cX6_platesBefore 60 = .ok (.iinc 3 1, 3) := by decide +kernel
theorem dX6_platesBefore_63 : decode cX6_platesBefore 63 = .ok (.goto (-59), 3) := by decide +kernel
theorem dX6_platesBefore_66 : decode cX6_platesBefore 66 = .ok (.iload_n 2, 1) := by decide +kernel
theorem dX6_platesBefore_67 : decode cX6_platesBefore 67 = .ok (.ireturn, 1) := by decide +kernel
theorem dX6_countInks_0 : decode cX6_countInks 0 = .ok (.aload_n 0, 1) := by decide +kernel
theorem dX6_countInks_1 : decode cX6_countInks 1 = .ok (.getfield 41, 3) := by decide +kernel
theorem dX6_countInks_4 : decode cX6_countInks 4 = .ok (.iconst 0, 1) := by decide +kernel
theorem dX6_countInks_5 : decode cX6_countInks 5 = .ok (.putfield 283, 3) := by decide +kernel
theorem dX6_countInks_8 : decode cX6_countInks 8 = .ok (.iconst 0, 1) := by decide +kernel
theorem dX6_countInks_9 : decode cX6_countInks 9 = .ok (.istore_n 1, 1) := by decide +kernel
theorem dX6_countInks_10 : decode cX6_countInks 10 = .ok (.iload_n 1, 1) := by decide +kernel
theorem dX6_countInks_11 : decode cX6_countInks 11 = .ok (.aload_n 0, 1) := by decide +kernel
theorem dX6_countInks_12 : decode cX6_countInks 12 = .ok (.getfield 12, 3) := by decide +kernel
theorem dX6_countInks_15 : decode cX6_countInks 15 = .ok (.getfield 59, 3) := by decide +kernel
theorem dX6_countInks_18 : decode cX6_countInks 18 = .ok (.if_icmp .ge 48, 3) := by decide +kernel
theorem dX6_countInks_21 : decode cX6_countInks 21 = .ok (.iconst 0, 1) := by decide +kernel
theorem dX6_countInks_22 : decode cX6_countInks 22 = .ok (.istore_n 2, 1) := by decide +kernel
theorem dX6_countInks_23 : decode cX6_countInks 23 = .ok (.iload_n 2, 1) := by decide +kernel
theorem dX6_countInks_24 : decode cX6_countInks 24 = .ok (.aload_n 0, 1) := by decide +kernel
theorem dX6_countInks_25 : decode cX6_countInks 25 = .ok (.getfield 12, 3) := by decide +kernel
theorem dX6_countInks_28 : decode cX6_countInks 28 = .ok (.getfield 56, 3) := by decide +kernel
theorem dX6_countInks_31 : decode cX6_countInks 31 = .ok (.if_icmp .ge 29, 3) := by decide +kernel
theorem dX6_countInks_34 : decode cX6_countInks 34 = .ok (.aload_n 0, 1) := by decide +kernel
theorem dX6_countInks_35 : decode cX6_countInks 35 = .ok (.iload_n 2, 1) := by decide +kernel
theorem dX6_countInks_36 : decode cX6_countInks 36 = .ok (.iload_n 1, 1) := by decide +kernel
theorem dX6_countInks_37 : decode cX6_countInks 37 = .ok (.invokevirtual 225, 3) := by decide +kernel
theorem dX6_countInks_40 : decode cX6_countInks 40 = .ok (.aload_n 0, 1) := by decide +kernel
theorem dX6_countInks_41 : decode cX6_countInks 41 = .ok (.getfield 41, 3) := by decide +kernel
theorem dX6_countInks_44 : decode cX6_countInks 44 = .ok (.aload_n 0, 1) := by decide +kernel
theorem dX6_countInks_45 : decode cX6_countInks 45 = .ok (.getfield 34, 3) := by decide +kernel
theorem dX6_countInks_48 : decode cX6_countInks 48 = .ok (.getfield 264, 3) := by decide +kernel
theorem dX6_countInks_51 : decode cX6_countInks 51 = .ok (.invokevirtual 306, 3) := by decide +kernel
theorem dX6_countInks_54 : decode cX6_countInks 54 = .ok (.iinc 2 1, 3) := by decide +kernel
theorem dX6_countInks_57 : decode cX6_countInks 57 = .ok (.goto (-34), 3) := by decide +kernel
theorem dX6_countInks_60 : decode cX6_countInks 60 = .ok (.iinc 1 1, 3) := by decide +kernel
theorem dX6_countInks_63 : decode cX6_countInks 63 = .ok (.goto (-53), 3) := by decide +kernel
theorem dX6_countInks_66 : decode cX6_countInks 66 = .ok (.return_, 1) := by decide +kernel
theorem dX6_addUpNeeds_0 : decode cX6_addUpNeeds 0 = .ok (.iconst 0, 1) := by decide +kernel
theorem dX6_addUpNeeds_1 : decode cX6_addUpNeeds 1 = .ok (.istore_n 1, 1) := by decide +kernel
theorem dX6_addUpNeeds_2 : decode cX6_addUpNeeds 2 = .ok (.iload_n 1, 1) := by decide +kernel
theorem dX6_addUpNeeds_3 : decode cX6_addUpNeeds 3 = .ok (.bipush 100, 2) := by decide +kernel
theorem dX6_addUpNeeds_5 : decode cX6_addUpNeeds 5 = .ok (.if_icmp .gt 16, 3) := by decide +kernel
theorem dX6_addUpNeeds_8 : decode cX6_addUpNeeds 8 = .ok (.aload_n 0, 1) := by decide +kernel
theorem dX6_addUpNeeds_9 : decode cX6_addUpNeeds 9 = .ok (.getfield 49, 3) := by decide +kernel
theorem dX6_addUpNeeds_12 : decode cX6_addUpNeeds 12 = .ok (.iload_n 1, 1) := by decide +kernel
theorem dX6_addUpNeeds_13 : decode cX6_addUpNeeds 13 = .ok (.iconst 0, 1) := by decide +kernel
theorem dX6_addUpNeeds_14 : decode cX6_addUpNeeds 14 = .ok (.iastore, 1) := by decide +kernel
theorem dX6_addUpNeeds_15 : decode cX6_addUpNeeds 15 = .ok (.iinc 1 1, 3) := by decide +kernel
theorem dX6_addUpNeeds_18 : decode cX6_addUpNeeds 18 = .ok (.goto (-16), 3) := by decide +kernel
theorem dX6_addUpNeeds_21 : decode cX6_addUpNeeds 21 = .ok (.iconst 0, 1) := by decide +kernel
theorem dX6_addUpNeeds_22 : decode cX6_addUpNeeds 22 = .ok (.istore_n 1, 1) := by decide +kernel
theorem dX6_addUpNeeds_23 : decode cX6_addUpNeeds 23 = .ok (.iload_n 1, 1) := by decide +kernel
theorem dX6_addUpNeeds_24 : decode cX6_addUpNeeds 24 = .ok (.aload_n 0, 1) := by decide +kernel
theorem dX6_addUpNeeds_25 : decode cX6_addUpNeeds 25 = .ok (.getfield 12, 3) := by decide +kernel
theorem dX6_addUpNeeds_28 : decode cX6_addUpNeeds 28 = .ok (.getfield 59, 3) := by decide +kernel
theorem dX6_addUpNeeds_31 : decode cX6_addUpNeeds 31 = .ok (.if_icmp .ge 86, 3) := by decide +kernel
theorem dX6_addUpNeeds_34 : decode cX6_addUpNeeds 34 = .ok (.iconst 0, 1) := by decide +kernel
theorem dX6_addUpNeeds_35 : decode cX6_addUpNeeds 35 = .ok (.istore_n 2, 1) := by decide +kernel
theorem dX6_addUpNeeds_36 : decode cX6_addUpNeeds 36 = .ok (.iload_n 2, 1) := by decide +kernel
theorem dX6_addUpNeeds_37 : decode cX6_addUpNeeds 37 = .ok (.aload_n 0, 1) := by decide +kernel
theorem dX6_addUpNeeds_38 : decode cX6_addUpNeeds 38 = .ok (.getfield 12, 3) := by decide +kernel
theorem dX6_addUpNeeds_41 : decode cX6_addUpNeeds 41 = .ok (.getfield 56, 3) := by decide +kernel
theorem dX6_addUpNeeds_44 : decode cX6_addUpNeeds 44 = .ok (.if_icmp .ge 67, 3) := by decide +kernel
theorem dX6_addUpNeeds_47 : decode cX6_addUpNeeds 47 = .ok (.aload_n 0, 1) := by decide +kernel
theorem dX6_addUpNeeds_48 : decode cX6_addUpNeeds 48 = .ok (.getfield 34, 3) := by decide +kernel
theorem dX6_addUpNeeds_51 : decode cX6_addUpNeeds 51 = .ok (.aload_n 0, 1) := by decide +kernel
theorem dX6_addUpNeeds_52 : decode cX6_addUpNeeds 52 = .ok (.getfield 12, 3) := by decide +kernel
theorem dX6_addUpNeeds_55 : decode cX6_addUpNeeds 55 = .ok (.iload_n 2, 1) := by decide +kernel
theorem dX6_addUpNeeds_56 : decode cX6_addUpNeeds 56 = .ok (.iload_n 1, 1) := by decide +kernel
theorem dX6_addUpNeeds_57 : decode cX6_addUpNeeds 57 = .ok (.invokevirtual 218, 3) := by decide +kernel
theorem dX6_addUpNeeds_60 : decode cX6_addUpNeeds 60 = .ok (.iconst 0, 1) := by decide +kernel
theorem dX6_addUpNeeds_61 : decode cX6_addUpNeeds 61 = .ok (.istore_n 3, 1) := by decide +kernel
theorem dX6_addUpNeeds_62 : decode cX6_addUpNeeds 62 = .ok (.iload_n 3, 1) := by decide +kernel
theorem dX6_addUpNeeds_63 : decode cX6_addUpNeeds 63 = .ok (.bipush 100, 2) := by decide +kernel
theorem dX6_addUpNeeds_65 : decode cX6_addUpNeeds 65 = .ok (.if_icmp .gt 40, 3) := by decide +kernel
theorem dX6_addUpNeeds_68 : decode cX6_addUpNeeds 68 = .ok (.aload_n 0, 1) := by decide +kernel
theorem dX6_addUpNeeds_69 : decode cX6_addUpNeeds 69 = .ok (.getfield 34, 3) := by decide +kernel
theorem dX6_addUpNeeds_72 : decode cX6_addUpNeeds 72 = .ok (.aload_n 0, 1) := by decide +kernel
theorem dX6_addUpNeeds_73 : decode cX6_addUpNeeds 73 = .ok (.getfield 12, 3) := by decide +kernel
theorem dX6_addUpNeeds_76 : decode cX6_addUpNeeds 76 = .ok (.iload_n 3, 1) := by decide +kernel
theorem dX6_addUpNeeds_77 : decode cX6_addUpNeeds 77 = .ok (.invokevirtual 235, 3) := by decide +kernel
theorem dX6_addUpNeeds_80 : decode cX6_addUpNeeds 80 = .ok (.aload_n 0, 1) := by decide +kernel
theorem dX6_addUpNeeds_81 : decode cX6_addUpNeeds 81 = .ok (.getfield 49, 3) := by decide +kernel
theorem dX6_addUpNeeds_84 : decode cX6_addUpNeeds 84 = .ok (.iload_n 3, 1) := by decide +kernel
theorem dX6_addUpNeeds_85 : decode cX6_addUpNeeds 85 = .ok (.dup2, 1) := by decide +kernel
theorem dX6_addUpNeeds_86 : decode cX6_addUpNeeds 86 = .ok (.iaload, 1) := by decide +kernel
theorem dX6_addUpNeeds_87 : decode cX6_addUpNeeds 87 = .ok (.aload_n 0, 1) := by decide +kernel
theorem dX6_addUpNeeds_88 : decode cX6_addUpNeeds 88 = .ok (.getfield 34, 3) := by decide +kernel
theorem dX6_addUpNeeds_91 : decode cX6_addUpNeeds 91 = .ok (.getfield 264, 3) := by decide +kernel
theorem dX6_addUpNeeds_94 : decode cX6_addUpNeeds 94 = .ok (.invokestatic 257, 3) := by decide +kernel
theorem dX6_addUpNeeds_97 : decode cX6_addUpNeeds 97 = .ok (.iadd, 1) := by decide +kernel
theorem dX6_addUpNeeds_98 : decode cX6_addUpNeeds 98 = .ok (.iastore, 1) := by decide +kernel
theorem dX6_addUpNeeds_99 : decode cX6_addUpNeeds 99 = .ok (.iinc 3 1, 3) := by decide +kernel
theorem dX6_addUpNeeds_102 : decode cX6_addUpNeeds 102 = .ok (.goto (-40), 3) := by decide +kernel
theorem dX6_addUpNeeds_105 : decode cX6_addUpNeeds 105 = .ok (.iinc 2 1, 3) := by decide +kernel
theorem dX6_addUpNeeds_108 : decode cX6_addUpNeeds 108 = .ok (.goto (-72), 3) := by decide +kernel
theorem dX6_addUpNeeds_111 : decode cX6_addUpNeeds 111 = .ok (.iinc 1 1, 3) := by decide +kernel
theorem dX6_addUpNeeds_114 : decode cX6_addUpNeeds 114 = .ok (.goto (-91), 3) := by decide +kernel
theorem dX6_addUpNeeds_117 : decode cX6_addUpNeeds 117 = .ok (.return_, 1) := by decide +kernel
theorem dX6_greatestDifference_0 : decode cX6_greatestDifference 0 = .ok (.iconst 0, 1) := by decide +kernel
theorem dX6_greatestDifference_1 : decode cX6_greatestDifference 1 = .ok (.istore_n 2, 1) := by decide +kernel
theorem dX6_greatestDifference_2 : decode cX6_greatestDifference 2 = .ok (.iconst 0, 1) := by decide +kernel
theorem dX6_greatestDifference_3 : decode cX6_greatestDifference 3 = .ok (.istore_n 3, 1) := by decide +kernel
theorem dX6_greatestDifference_4 : decode cX6_greatestDifference 4 = .ok (.iload_n 3, 1) := by decide +kernel
theorem dX6_greatestDifference_5 : decode cX6_greatestDifference 5 = .ok (.sipush 255, 3) := by decide +kernel
theorem dX6_greatestDifference_8 : decode cX6_greatestDifference 8 = .ok (.if_icmp .gt 32, 3) := by decide +kernel
theorem dX6_greatestDifference_11 : decode cX6_greatestDifference 11 = .ok (.aload_n 0, 1) := by decide +kernel
theorem dX6_greatestDifference_12 : decode cX6_greatestDifference 12 = .ok (.iload_n 3, 1) := by decide +kernel
theorem dX6_greatestDifference_13 : decode cX6_greatestDifference 13 = .ok (.invokevirtual 205, 3) := by decide +kernel
theorem dX6_greatestDifference_16 : decode cX6_greatestDifference 16 = .ok (.aload_n 1, 1) := by decide +kernel
theorem dX6_greatestDifference_17 : decode cX6_greatestDifference 17 = .ok (.iload_n 3, 1) := by decide +kernel
theorem dX6_greatestDifference_18 : decode cX6_greatestDifference 18 = .ok (.invokevirtual 205, 3) := by decide +kernel
theorem dX6_greatestDifference_21 : decode cX6_greatestDifference 21 = .ok (.isub, 1) := by decide +kernel
theorem dX6_greatestDifference_22 : decode cX6_greatestDifference 22 = .ok (.invokestatic 310, 3) := by decide +kernel
theorem dX6_greatestDifference_25 : decode cX6_greatestDifference 25 = .ok (.istore 4, 2) := by decide +kernel
theorem dX6_greatestDifference_27 : decode cX6_greatestDifference 27 = .ok (.iload_n 2, 1) := by decide +kernel
theorem dX6_greatestDifference_28 : decode cX6_greatestDifference 28 = .ok (.iload 4, 2) := by decide +kernel
theorem dX6_greatestDifference_30 : decode cX6_greatestDifference 30 = .ok (.invokestatic 267, 3) := by decide +kernel
theorem dX6_greatestDifference_33 : decode cX6_greatestDifference 33 = .ok (.istore_n 2, 1) := by decide +kernel
theorem dX6_greatestDifference_34 : decode cX6_greatestDifference 34 = .ok (.iinc 3 1, 3) := by decide +kernel
theorem dX6_greatestDifference_37 : decode cX6_greatestDifference 37 = .ok (.goto (-33), 3) := by decide +kernel
theorem dX6_greatestDifference_40 : decode cX6_greatestDifference 40 = .ok (.iload_n 2, 1) := by decide +kernel
theorem dX6_greatestDifference_41 : decode cX6_greatestDifference 41 = .ok (.ireturn, 1) := by decide +kernel
theorem dX6_sumOf_0 : decode cX6_sumOf 0 = .ok (.iconst 0, 1) := by decide +kernel
theorem dX6_sumOf_1 : decode cX6_sumOf 1 = .ok (.istore_n 1, 1) := by decide +kernel
theorem dX6_sumOf_2 : decode cX6_sumOf 2 = .ok (.aload_n 0, 1) := by decide +kernel
theorem dX6_sumOf_3 : decode cX6_sumOf 3 = .ok (.astore_n 2, 1) := by decide +kernel
theorem dX6_sumOf_4 : decode cX6_sumOf 4 = .ok (.aload_n 2, 1) := by decide +kernel
theorem dX6_sumOf_5 : decode cX6_sumOf 5 = .ok (.arraylength, 1) := by decide +kernel
theorem dX6_sumOf_6 : decode cX6_sumOf 6 = .ok (.istore_n 3, 1) := by decide +kernel
theorem dX6_sumOf_7 : decode cX6_sumOf 7 = .ok (.iconst 0, 1) := by decide +kernel
theorem dX6_sumOf_8 : decode cX6_sumOf 8 = .ok (.istore 4, 2) := by decide +kernel
theorem dX6_sumOf_10 : decode cX6_sumOf 10 = .ok (.iload 4, 2) := by decide +kernel
theorem dX6_sumOf_12 : decode cX6_sumOf 12 = .ok (.iload_n 3, 1) := by decide +kernel
theorem dX6_sumOf_13 : decode cX6_sumOf 13 = .ok (.if_icmp .ge 20, 3) := by decide +kernel
theorem dX6_sumOf_16 : decode cX6_sumOf 16 = .ok (.aload_n 2, 1) := by decide +kernel
theorem dX6_sumOf_17 : decode cX6_sumOf 17 = .ok (.iload 4, 2) := by decide +kernel
theorem dX6_sumOf_19 : decode cX6_sumOf 19 = .ok (.iaload, 1) := by decide +kernel
theorem dX6_sumOf_20 : decode cX6_sumOf 20 = .ok (.istore 5, 2) := by decide +kernel
theorem dX6_sumOf_22 : decode cX6_sumOf 22 = .ok (.iload_n 1, 1) := by decide +kernel
theorem dX6_sumOf_23 : decode cX6_sumOf 23 = .ok (.iload 5, 2) := by decide +kernel
theorem dX6_sumOf_25 : decode cX6_sumOf 25 = .ok (.iadd, 1) := by decide +kernel
theorem dX6_sumOf_26 : decode cX6_sumOf 26 = .ok (.istore_n 1, 1) := by decide +kernel
theorem dX6_sumOf_27 : decode cX6_sumOf 27 = .ok (.iinc 4 1, 3) := by decide +kernel
theorem dX6_sumOf_30 : decode cX6_sumOf 30 = .ok (.goto (-20), 3) := by decide +kernel
theorem dX6_sumOf_33 : decode cX6_sumOf 33 = .ok (.iload_n 1, 1) := by decide +kernel
theorem dX6_sumOf_34 : decode cX6_sumOf 34 = .ok (.ireturn, 1) := by decide +kernel
theorem dX6_sameValues_0 : decode cX6_sameValues 0 = .ok (.iconst 0, 1) := by decide +kernel
theorem dX6_sameValues_1 : decode cX6_sameValues 1 = .ok (.istore_n 2, 1) := by decide +kernel
theorem dX6_sameValues_2 : decode cX6_sameValues 2 = .ok (.iload_n 2, 1) := by decide +kernel
theorem dX6_sameValues_3 : decode cX6_sameValues 3 = .ok (.bipush 7, 2) := by decide +kernel
theorem dX6_sameValues_5 : decode cX6_sameValues 5 = .ok (.if_icmp .ge 20, 3) := by decide +kernel
theorem dX6_sameValues_8 : decode cX6_sameValues 8 = .ok (.aload_n 0, 1) := by decide +kernel
theorem dX6_sameValues_9 : decode cX6_sameValues 9 = .ok (.iload_n 2, 1) := by decide +kernel
theorem dX6_sameValues_10 : decode cX6_sameValues 10 = .ok (.iaload, 1) := by decide +kernel
theorem dX6_sameValues_11 : decode cX6_sameValues 11 = .ok (.aload_n 1, 1) := by decide +kernel
theorem dX6_sameValues_12 : decode cX6_sameValues 12 = .ok (.iload_n 2, 1) := by decide +kernel
theorem dX6_sameValues_13 : decode cX6_sameValues 13 = .ok (.iaload, 1) := by decide +kernel
theorem dX6_sameValues_14 : decode cX6_sameValues 14 = .ok (.if_icmp .eq 5, 3) := by decide +kernel
theorem dX6_sameValues_17 : decode cX6_sameValues 17 = .ok (.iconst 0, 1) := by decide +kernel
theorem dX6_sameValues_18 : decode cX6_sameValues 18 = .ok (.ireturn, 1) := by decide +kernel
theorem dX6_sameValues_19 : decode cX6_sameValues 19 = .ok (.iinc 2 1, 3) := by decide +kernel
theorem dX6_sameValues_22 : decode cX6_sameValues 22 = .ok (.goto (-20), 3) := by decide +kernel
theorem dX6_sameValues_25 : decode cX6_sameValues 25 = .ok (.iconst 1, 1) := by decide +kernel
theorem dX6_sameValues_26 : decode cX6_sameValues 26 = .ok (.ireturn, 1) := by decide +kernel
theorem dX7_init_0 : decode cX7_init 0 = .ok (.aload_n 0, 1) := by decide +kernel
theorem dX7_init_1 : decode cX7_init 1 = .ok (.invokespecial 1, 3) := by decide +kernel
theorem dX7_init_4 : decode cX7_init 4 = .ok (.aload_n 0, 1) := by decide +kernel
theorem dX7_init_5 : decode cX7_init 5 = .ok (.sipush 368, 3) := by decide +kernel
theorem dX7_init_8 : decode cX7_init 8 = .ok (.newarray .int, 2) := by decide +kernel
theorem dX7_init_10 : decode cX7_init 10 = .ok (.putfield 7, 3) := by decide +kernel
theorem dX7_init_13 : decode cX7_init 13 = .ok (.aload_n 0, 1) := by decide +kernel
theorem dX7_init_14 : decode cX7_init 14 = .ok (.sipush 1840, 3) := by decide +kernel
theorem dX7_init_17 : decode cX7_init 17 = .ok (.newarray .int, 2) := by decide +kernel
theorem dX7_init_19 : decode cX7_init 19 = .ok (.putfield 13, 3) := by decide +kernel
theorem dX7_init_22 : decode cX7_init 22 = .ok (.aload_n 0, 1) := by decide +kernel
theorem dX7_init_23 : decode cX7_init 23 = .ok (.sipush 368, 3) := by decide +kernel
theorem dX7_init_26 : decode cX7_init 26 = .ok (.newarray .int, 2) := by decide +kernel
theorem dX7_init_28 : decode cX7_init 28 = .ok (.putfield 16, 3) := by decide +kernel
theorem dX7_init_31 : decode cX7_init 31 = .ok (.aload_n 0, 1) := by decide +kernel
theorem dX7_init_32 : decode cX7_init 32 = .ok (.iconst 4, 1) := by decide +kernel
theorem dX7_init_33 : decode cX7_init 33 = .ok (.newarray .int, 2) := by decide +kernel
theorem dX7_init_35 : decode cX7_init 35 = .ok (.putfield 19, 3) := by decide +kernel
theorem dX7_init_38 : decode cX7_init 38 = .ok (.aload_n 0, 1) := by decide +kernel
theorem dX7_init_39 : decode cX7_init 39 = .ok (.iconst 3, 1) := by decide +kernel
theorem dX7_init_40 : decode cX7_init 40 = .ok (.newarray .int, 2) := by decide +kernel
theorem dX7_init_42 : decode cX7_init 42 = .ok (.putfield 22, 3) := by decide +kernel
theorem dX7_init_45 : decode cX7_init 45 = .ok (.aload_n 0, 1) := by decide +kernel
theorem dX7_init_46 : decode cX7_init 46 = .ok (.bipush 24, 2) := by decide +kernel
theorem dX7_init_48 : decode cX7_init 48 = .ok (.newarray .boolean, 2) := by decide +kernel
theorem dX7_init_50 : decode cX7_init 50 = .ok (.putfield 25, 3) := by decide +kernel
theorem dX7_init_53 : decode cX7_init 53 = .ok (.aload_n 0, 1) := by decide +kernel
theorem dX7_init_54 : decode cX7_init 54 = .ok (.sipush 256, 3) := by decide +kernel
theorem dX7_init_57 : decode cX7_init 57 = .ok (.newarray .int, 2) := by decide +kernel
theorem dX7_init_59 : decode cX7_init 59 = .ok (.putfield 29, 3) := by decide +kernel
theorem dX7_init_62 : decode cX7_init 62 = .ok (.aload_n 0, 1) := by decide +kernel
theorem dX7_init_63 : decode cX7_init 63 = .ok (.bipush 24, 2) := by decide +kernel
theorem dX7_init_65 : decode cX7_init 65 = .ok (.newarray .int, 2) := by decide +kernel
theorem dX7_init_67 : decode cX7_init 67 = .ok (.putfield 32, 3) := by decide +kernel
theorem dX7_init_70 : decode cX7_init 70 = .ok (.aload_n 0, 1) := by decide +kernel
theorem dX7_init_71 : decode cX7_init 71 = .ok (.bipush 24, 2) := by decide +kernel
theorem dX7_init_73 : decode cX7_init 73 = .ok (.newarray .int, 2) := by decide +kernel
theorem dX7_init_75 : decode cX7_init 75 = .ok (.putfield 35, 3) := by decide +kernel
theorem dX7_init_78 : decode cX7_init 78 = .ok (.aload_n 0, 1) := by decide +kernel
theorem dX7_init_79 : decode cX7_init 79 = .ok (.bipush 24, 2) := by decide +kernel
theorem dX7_init_81 : decode cX7_init 81 = .ok (.newarray .int, 2) := by decide +kernel
theorem dX7_init_83 : decode cX7_init 83 = .ok (.putfield 38, 3) := by decide +kernel
theorem dX7_init_86 : decode cX7_init 86 = .ok (.aload_n 0, 1) := by decide +kernel
theorem dX7_init_87 : decode cX7_init 87 = .ok (.bipush 24, 2) := by decide +kernel
theorem dX7_init_89 : decode cX7_init 89 = .ok (.newarray .int, 2) := by decide +kernel
theorem dX7_init_91 : decode cX7_init 91 = .ok (.putfield 41, 3) := by decide +kernel
theorem dX7_init_94 : decode cX7_init 94 = .ok (.aload_n 0, 1) := by decide +kernel
theorem dX7_init_95 : decode cX7_init 95 = .ok (.bipush 24, 2) := by decide +kernel
theorem dX7_init_97 : decode cX7_init 97 = .ok (.newarray .int, 2) := by decide +kernel
theorem dX7_init_99 : decode cX7_init 99 = .ok (.putfield 44, 3) := by decide +kernel
theorem dX7_init_102 : decode cX7_init 102 = .ok (.aload_n 0, 1) := by decide +kernel
theorem dX7_init_103 : decode cX7_init 103 = .ok (.bipush 6, 2) := by decide +kernel
theorem dX7_init_105 : decode cX7_init 105 = .ok (.newarray .int, 2) := by decide +kernel
theorem dX7_init_107 : decode cX7_init 107 = .ok (.putfield 47, 3) := by decide +kernel
theorem dX7_init_110 : decode cX7_init 110 = .ok (.aload_n 0, 1) := by decide +kernel
theorem dX7_init_111 : decode cX7_init 111 = .ok (.bipush 7, 2) := by decide +kernel
theorem dX7_init_113 : decode cX7_init 113 = .ok (.newarray .int, 2) := by decide +kernel
theorem dX7_init_115 : decode cX7_init 115 = .ok (.putfield 50, 3) := by decide +kernel
theorem dX7_init_118 : decode cX7_init 118 = .ok (.aload_n 0, 1) := by decide +kernel
theorem dX7_init_119 : decode cX7_init 119 = .ok (.bipush 7, 2) := by decide +kernel
theorem dX7_init_121 : decode cX7_init 121 = .ok (.newarray .int, 2) := by decide +kernel
theorem dX7_init_123 : decode cX7_init 123 = .ok (.putfield 53, 3) := by decide +kernel
theorem dX7_init_126 : decode cX7_init 126 = .ok (.aload_n 0, 1) := by decide +kernel
theorem dX7_init_127 : decode cX7_init 127 = .ok (.bipush 7, 2) := by decide +kernel
theorem dX7_init_129 : decode cX7_init 129 = .ok (.newarray .int, 2) := by decide +kernel
theorem dX7_init_131 : decode cX7_init 131 = .ok (.putfield 56, 3) := by decide +kernel
theorem dX7_init_134 : decode cX7_init 134 = .ok (.aload_n 0, 1) := by decide +kernel
theorem dX7_init_135 : decode cX7_init 135 = .ok (.sipush 1296, 3) := by decide +kernel
theorem dX7_init_138 : decode cX7_init 138 = .ok (.newarray .int, 2) := by decide +kernel
theorem dX7_init_140 : decode cX7_init 140 = .ok (.putfield 59, 3) := by decide +kernel
theorem dX7_init_143 : decode cX7_init 143 = .ok (.aload_n 0, 1) := by decide +kernel
theorem dX7_init_144 : decode cX7_init 144 = .ok (.getfield 7, 3) := by decide +kernel
theorem dX7_init_147 : decode cX7_init 147 = .ok (.iconst 0, 1) := by decide +kernel
theorem dX7_init_148 : decode cX7_init 148 = .ok (.bipush 8, 2) := by decide +kernel
theorem dX7_init_150 : decode cX7_init 150 = .ok (.iastore, 1) := by decide +kernel
theorem dX7_init_151 : decode cX7_init 151 = .ok (.aload_n 0, 1) := by decide +kernel
theorem dX7_init_152 : decode cX7_init 152 = .ok (.getfield 7, 3) := by decide +kernel
theorem dX7_init_155 : decode cX7_init 155 = .ok (.iconst 1, 1) := by decide +kernel
theorem dX7_init_156 : decode cX7_init 156 = .ok (.bipush 6, 2) := by decide +kernel
theorem dX7_init_158 : decode cX7_init 158 = .ok (.iastore, 1) := by decide +kernel
theorem dX7_init_159 : decode cX7_init 159 = .ok (.aload_n 0, 1) := by decide +kernel
theorem dX7_init_160 : decode cX7_init 160 = .ok (.getfield 7, 3) := by decide +kernel
theorem dX7_init_163 : decode cX7_init 163 = .ok (.iconst 2, 1) := by decide +kernel
theorem dX7_init_164 : decode cX7_init 164 = .ok (.bipush 50, 2) := by decide +kernel
theorem dX7_init_166 : decode cX7_init 166 = .ok (.iastore, 1) := by decide +kernel
theorem dX7_init_167 : decode cX7_init 167 = .ok (.aload_n 0, 1) := by decide +kernel
theorem dX7_init_168 : decode cX7_init 168 = .ok (.getfield 7, 3) := by decide +kernel
theorem dX7_init_171 : decode cX7_init 171 = .ok (.iconst 3, 1) := by decide +kernel
theorem dX7_init_172 : decode cX7_init 172 = .ok (.bipush 40, 2) := by decide +kernel
theorem dX7_init_174 : decode cX7_init 174 = .ok (.iastore, 1) := by decide +kernel
theorem dX7_init_175 : decode cX7_init 175 = .ok (.aload_n 0, 1) := by decide +kernel
theorem dX7_init_176 : decode cX7_init 176 = .ok (.getfield 7, 3) := by decide +kernel
theorem dX7_init_179 : decode cX7_init 179 = .ok (.iconst 4, 1) := by decide +kernel
theorem dX7_init_180 : decode cX7_init 180 = .ok (.sipush 700, 3) := by decide +kernel
theorem dX7_init_183 : decode cX7_init 183 = .ok (.iastore, 1) := by decide +kernel
theorem dX7_init_184 : decode cX7_init 184 = .ok (.iconst 0, 1) := by decide +kernel
theorem dX7_init_185 : decode cX7_init 185 = .ok (.istore_n 1, 1) := by decide +kernel
theorem dX7_init_186 : decode cX7_init 186 = .ok (.iload_n 1, 1) := by decide +kernel
theorem dX7_init_187 : decode cX7_init 187 = .ok (.iconst 3, 1) := by decide +kernel
theorem dX7_init_188 : decode cX7_init 188 = .ok (.if_icmp .ge 18, 3) := by decide +kernel
theorem dX7_init_191 : decode cX7_init 191 = .ok (.aload_n 0, 1) := by decide +kernel
theorem dX7_init_192 : decode cX7_init 192 = .ok (.getfield 7, 3) := by decide +kernel
theorem dX7_init_195 : decode cX7_init 195 = .ok (.iconst 5, 1) := by decide +kernel
theorem dX7_init_196 : decode cX7_init 196 = .ok (.iload_n 1, 1) := by decide +kernel
theorem dX7_init_197 : decode cX7_init 197 = .ok (.iadd, 1) := by decide +kernel
theorem dX7_init_198 : decode cX7_init 198 = .ok (.iconst 1, 1) := by decide +kernel
theorem dX7_init_199 : decode cX7_init 199 = .ok (.iastore, 1) := by decide +kernel
theorem dX7_init_200 : decode cX7_init 200 = .ok (.iinc 1 1, 3) := by decide +kernel
theorem dX7_init_203 : decode cX7_init 203 = .ok (.goto (-17), 3) := by decide +kernel
theorem dX7_init_206 : decode cX7_init 206 = .ok (.iconst 0, 1) := by decide +kernel
theorem dX7_init_207 : decode cX7_init 207 = .ok (.istore_n 1, 1) := by decide +kernel
theorem dX7_init_208 : decode cX7_init 208 = .ok (.iload_n 1, 1) := by decide +kernel
theorem dX7_init_209 : decode cX7_init 209 = .ok (.bipush 7, 2) := by decide +kernel
theorem dX7_init_211 : decode cX7_init 211 = .ok (.if_icmp .ge 56, 3) := by decide +kernel
theorem dX7_init_214 : decode cX7_init 214 = .ok (.aload_n 0, 1) := by decide +kernel
theorem dX7_init_215 : decode cX7_init 215 = .ok (.getfield 7, 3) := by decide +kernel
theorem dX7_init_218 : decode cX7_init 218 = .ok (.bipush 9, 2) := by decide +kernel
theorem dX7_init_220 : decode cX7_init 220 = .ok (.bipush 17, 2) := by decide +kernel
theorem dX7_init_222 : decode cX7_init 222 = .ok (.iload_n 1, 1) := by decide +kernel
theorem dX7_init_223 : decode cX7_init 223 = .ok (.imul, 1) := by decide +kernel
theorem dX7_init_224 : decode cX7_init 224 = .ok (.iadd, 1) := by decide +kernel
theorem dX7_init_225 : decode cX7_init 225 = .ok (.iconst 2, 1) := by decide +kernel
theorem dX7_init_226 : decode cX7_init 226 = .ok (.iastore, 1) := by decide +kernel
theorem dX7_init_227 : decode cX7_init 227 = .ok (.aload_n 0, 1) := by decide +kernel
theorem dX7_init_228 : decode cX7_init 228 = .ok (.getfield 7, 3) := by decide +kernel
theorem dX7_init_231 : decode cX7_init 231 = .ok (.bipush 9, 2) := by decide +kernel
theorem dX7_init_233 : decode cX7_init 233 = .ok (.bipush 17, 2) := by decide +kernel
theorem dX7_init_235 : decode cX7_init 235 = .ok (.iload_n 1, 1) := by decide +kernel
theorem dX7_init_236 : decode cX7_init 236 = .ok (.imul, 1) := by decide +kernel
theorem dX7_init_237 : decode cX7_init 237 = .ok (.iadd, 1) := by decide +kernel
theorem dX7_init_238 : decode cX7_init 238 = .ok (.iconst 3, 1) := by decide +kernel
theorem dX7_init_239 : decode cX7_init 239 = .ok (.iadd, 1) := by decide +kernel
theorem dX7_init_240 : decode cX7_init 240 = .ok (.sipush 255, 3) := by decide +kernel
theorem dX7_init_243 : decode cX7_init 243 = .ok (.iastore, 1) := by decide +kernel
theorem dX7_init_244 : decode cX7_init 244 = .ok (.aload_n 0, 1) := by decide +kernel
theorem dX7_init_245 : decode cX7_init 245 = .ok (.getfield 7, 3) := by decide +kernel
theorem dX7_init_248 : decode cX7_init 248 = .ok (.bipush 9, 2) := by decide +kernel
theorem dX7_init_250 : decode cX7_init 250 = .ok (.bipush 17, 2) := by decide +kernel
theorem dX7_init_252 : decode cX7_init 252 = .ok (.iload_n 1, 1) := by decide +kernel
theorem dX7_init_253 : decode cX7_init 253 = .ok (.imul, 1) := by decide +kernel
theorem dX7_init_254 : decode cX7_init 254 = .ok (.iadd, 1) := by decide +kernel
theorem dX7_init_255 : decode cX7_init 255 = .ok (.iconst 4, 1) := by decide +kernel
theorem dX7_init_256 : decode cX7_init 256 = .ok (.iadd, 1) := by decide +kernel
theorem dX7_init_257 : decode cX7_init 257 = .ok (.sipush 255, 3) := by decide +kernel
theorem dX7_init_260 : decode cX7_init 260 = .ok (.iastore, 1) := by decide +kernel
theorem dX7_init_261 : decode cX7_init 261 = .ok (.iinc 1 1, 3) := by decide +kernel
theorem dX7_init_264 : decode cX7_init 264 = .ok (.goto (-56), 3) := by decide +kernel
theorem dX7_init_267 : decode cX7_init 267 = .ok (.iconst 0, 1) := by decide +kernel
theorem dX7_init_268 : decode cX7_init 268 = .ok (.istore_n 1, 1) := by decide +kernel
theorem dX7_init_269 : decode cX7_init 269 = .ok (.iload_n 1, 1) := by decide +kernel
theorem dX7_init_270 : decode cX7_init 270 = .ok (.bipush 24, 2) := by decide +kernel
theorem dX7_init_272 : decode cX7_init 272 = .ok (.if_icmp .ge 23, 3) := by decide +kernel
theorem dX7_init_275 : decode cX7_init 275 = .ok (.aload_n 0, 1) := by decide +kernel
theorem dX7_init_276 : decode cX7_init 276 = .ok (.getfield 7, 3) := by decide +kernel
theorem dX7_init_279 : decode cX7_init 279 = .ok (.sipush 128, 3) := by decide +kernel
theorem dX7_init_282 : decode cX7_init 282 = .ok (.bipush 10, 2) := by decide +kernel
theorem dX7_init_284 : decode cX7_init 284 = .ok (.iload_n 1, 1) := by decide +kernel
theorem dX7_init_285 : decode cX7_init 285 = .ok (.imul, 1) := by decide +kernel
theorem dX7_init_286 : decode cX7_init 286 = .ok (.iadd, 1) := by decide +kernel
theorem dX7_init_287 : decode cX7_init 287 = .ok (.iconst (-1), 1) := by decide +kernel
theorem dX7_init_288 : decode cX7_init 288 = .ok (.iastore, 1) := by decide +kernel
theorem dX7_init_289 : decode cX7_init 289 = .ok (.iinc 1 1, 3) := by decide +kernel
theorem dX7_init_292 : decode cX7_init 292 = .ok (.goto (-23), 3) := by decide +kernel
theorem dX7_init_295 : decode cX7_init 295 = .ok (.aload_n 0, 1) := by decide +kernel
theorem dX7_init_296 : decode cX7_init 296 = .ok (.getfield 7, 3) := by decide +kernel
theorem dX7_init_299 : decode cX7_init 299 = .ok (.sipush 128, 3) := by decide +kernel
theorem dX7_init_302 : decode cX7_init 302 = .ok (.iconst 0, 1) := by decide +kernel
theorem dX7_init_303 : decode cX7_init 303 = .ok (.iastore, 1) := by decide +kernel
theorem dX7_init_304 : decode cX7_init 304 = .ok (.aload_n 0, 1) := by decide +kernel
theorem dX7_init_305 : decode cX7_init 305 = .ok (.getfield 7, 3) := by decide +kernel
theorem dX7_init_308 : decode cX7_init 308 = .ok (.sipush 129, 3) := by decide +kernel
theorem dX7_init_311 : decode cX7_init 311 = .ok (.iconst (-1), 1) := by decide +kernel
theorem dX7_init_312 : decode cX7_init 312 = .ok (.iastore, 1) := by decide +kernel
theorem dX7_init_313 : decode cX7_init 313 = .ok (.aload_n 0, 1) := by decide +kernel
theorem dX7_init_314 : decode cX7_init 314 = .ok (.getfield 7, 3) := by decide +kernel
theorem dX7_init_317 : decode cX7_init 317 = .ok (.sipush 131, 3) := by decide +kernel
theorem dX7_init_320 : decode cX7_init 320 = .ok (.bipush 100, 2) := by decide +kernel
theorem dX7_init_322 : decode cX7_init 322 = .ok (.iastore, 1) := by decide +kernel
theorem dX7_init_323 : decode cX7_init 323 = .ok (.aload_n 0, 1) := by decide +kernel
theorem dX7_init_324 : decode cX7_init 324 = .ok (.getfield 19, 3) := by decide +kernel
theorem dX7_init_327 : decode cX7_init 327 = .ok (.iconst 2, 1) := by decide +kernel
theorem dX7_init_328 : decode cX7_init 328 = .ok (.iconst 1, 1) := by decide +kernel
theorem dX7_init_329 : decode cX7_init 329 = .ok (.iastore, 1) := by decide +kernel
theorem dX7_init_330 : decode cX7_init 330 = .ok (.aload_n 0, 1) := by decide +kernel
theorem dX7_init_331 : decode cX7_init 331 = .ok (.getfield 19, 3) := by decide +kernel
theorem dX7_init_334 : decode cX7_init 334 = .ok (.iconst 3, 1) := by decide +kernel
theorem dX7_init_335 : decode cX7_init 335 = .ok (.iconst 1, 1) := by decide +kernel
theorem dX7_init_336 : decode cX7_init 336 = .ok (.iastore, 1) := by decide +kernel
theorem dX7_init_337 : decode cX7_init 337 = .ok (.return_, 1) := by decide +kernel
theorem dX7_in_0 : decode cX7_in 0 = .ok (.iload_n 0, 1) := by decide +kernel
theorem dX7_in_1 : decode cX7_in 1 = .ok (.iload_n 1, 1) := by decide +kernel
theorem dX7_in_2 : decode cX7_in 2 = .ok (.if_icmp .lt 12, 3) := by decide +kernel
theorem dX7_in_5 : decode cX7_in 5 = .ok (.iload_n 0, 1) := by decide +kernel
theorem dX7_in_6 : decode cX7_in 6 = .ok (.iload_n 2, 1) := by decide +kernel
theorem dX7_in_7 : decode cX7_in 7 = .ok (.if_icmp .gt 7, 3) := by decide +kernel
theorem dX7_in_10 : decode cX7_in 10 = .ok (.iconst 1, 1) := by decide +kernel
theorem dX7_in_11 : decode cX7_in 11 = .ok (.goto 4, 3) := by decide +kernel
theorem dX7_in_14 : decode cX7_in 14 = .ok (.iconst 0, 1) := by decide +kernel
theorem dX7_in_15 : decode cX7_in 15 = .ok (.ireturn, 1) := by decide +kernel
theorem dX7_floor_0 : decode cX7_floor 0 = .ok (.iload_n 0, 1) := by decide +kernel
theorem dX7_floor_1 : decode cX7_floor 1 = .ok (.iload_n 1, 1) := by decide +kernel
theorem dX7_floor_2 : decode cX7_floor 2 = .ok (.idiv, 1) := by decide +kernel
theorem dX7_floor_3 : decode cX7_floor 3 = .ok (.istore_n 2, 1) := by decide +kernel
theorem dX7_floor_4 : decode cX7_floor 4 = .ok (.iload_n 0, 1) := by decide +kernel
theorem dX7_floor_5 : decode cX7_floor 5 = .ok (.iload_n 1, 1) := by decide +kernel
theorem dX7_floor_6 : decode cX7_floor 6 = .ok (.irem, 1) := by decide +kernel
theorem dX7_floor_7 : decode cX7_floor 7 = .ok (.ifCond .eq 30, 3) := by decide +kernel
theorem dX7_floor_10 : decode cX7_floor 10 = .ok (.iload_n 0, 1) := by decide +kernel
theorem dX7_floor_11 : decode cX7_floor 11 = .ok (.ifCond .ge 7, 3) := by decide +kernel
theorem dX7_floor_14 : decode cX7_floor 14 = .ok (.iconst 1, 1) := by decide +kernel
theorem dX7_floor_15 : decode cX7_floor 15 = .ok (.goto 4, 3) := by decide +kernel
theorem dX7_floor_18 : decode cX7_floor 18 = .ok (.iconst 0, 1) := by decide +kernel
theorem dX7_floor_19 : decode cX7_floor 19 = .ok (.iload_n 1, 1) := by decide +kernel
theorem dX7_floor_20 : decode cX7_floor 20 = .ok (.ifCond .ge 7, 3) := by decide +kernel
theorem dX7_floor_23 : decode cX7_floor 23 = .ok (.iconst 1, 1) := by decide +kernel
theorem dX7_floor_24 : decode cX7_floor 24 = .ok (.goto 4, 3) := by decide +kernel
theorem dX7_floor_27 : decode cX7_floor 27 = .ok (.iconst 0, 1) := by decide +kernel
theorem dX7_floor_28 : decode cX7_floor 28 = .ok (.if_icmp .eq 9, 3) := by decide +kernel
theorem dX7_floor_31 : decode cX7_floor 31 = .ok (.iload_n 2, 1) := by decide +kernel
theorem dX7_floor_32 : decode cX7_floor 32 = .ok (.iconst 1, 1) := by decide +kernel
theorem dX7_floor_33 : decode cX7_floor 33 = .ok (.isub, 1) := by decide +kernel
theorem dX7_floor_34 : decode cX7_floor 34 = .ok (.goto 4, 3) := by decide +kernel
theorem dX7_floor_37 : decode cX7_floor 37 = .ok (.iload_n 2, 1) := by decide +kernel
theorem dX7_floor_38 : decode cX7_floor 38 = .ok (.ireturn, 1) := by decide +kernel
theorem dX7_hold_0 : decode cX7_hold 0 = .ok (.iconst 0, 1) := by decide +kernel
theorem dX7_hold_1 : decode cX7_hold 1 = .ok (.istore_n 1, 1) := by decide +kernel
theorem dX7_hold_2 : decode cX7_hold 2 = .ok (.iload_n 1, 1) := by decide +kernel
theorem dX7_hold_3 : decode cX7_hold 3 = .ok (.sipush 368, 3) := by decide +kernel
theorem dX7_hold_6 : decode cX7_hold 6 = .ok (.if_icmp .ge 21, 3) := by decide +kernel
theorem dX7_hold_9 : decode cX7_hold 9 = .ok (.aload_n 0, 1) := by decide +kernel
theorem dX7_hold_10 : decode cX7_hold 10 = .ok (.getfield 16, 3) := by decide +kernel
theorem dX7_hold_13 : decode cX7_hold 13 = .ok (.iload_n 1, 1) := by decide +kernel
theorem dX7_hold_14 : decode cX7_hold 14 = .ok (.aload_n 0, 1) := by decide +kernel
theorem dX7_hold_15 : decode cX7_hold 15 = .ok (.getfield 7, 3) := by decide +kernel
theorem dX7_hold_18 : decode cX7_hold 18 = .ok (.iload_n 1, 1) := by decide +kernel
theorem dX7_hold_19 : decode cX7_hold 19 = .ok (.iaload, 1) := by decide +kernel
theorem dX7_hold_20 : decode cX7_hold 20 = .ok (.iastore, 1) := by decide +kernel
theorem dX7_hold_21 : decode cX7_hold 21 = .ok (.iinc 1 1, 3) := by decide +kernel
theorem dX7_hold_24 : decode cX7_hold 24 = .ok (.goto (-22), 3) := by decide +kernel
theorem dX7_hold_27 : decode cX7_hold 27 = .ok (.return_, 1) := by decide +kernel
theorem dX7_ends_0 : decode cX7_ends 0 = .ok (.aload_n 0, 1) := by decide +kernel
theorem dX7_ends_1 : decode cX7_ends 1 = .ok (.getfield 62, 3) := by decide +kernel
theorem dX7_ends_4 : decode cX7_ends 4 = .ok (.iconst 5, 1) := by decide +kernel
theorem dX7_ends_5 : decode cX7_ends 5 = .ok (.if_icmp .ne 44, 3) := by decide +kernel
theorem dX7_ends_8 : decode cX7_ends 8 = .ok (.iconst 0, 1) := by decide +kernel
theorem dX7_ends_9 : decode cX7_ends 9 = .ok (.istore_n 2, 1) := by decide +kernel
theorem dX7_ends_10 : decode cX7_ends 10 = .ok (.iload_n 2, 1) := by decide +kernel
theorem dX7_ends_11 : decode cX7_ends 11 = .ok (.sipush 1472, 3) := by decide +kernel
theorem dX7_ends_14 : decode cX7_ends 14 = .ok (.if_icmp .ge 25, 3) := by decide +kernel
theorem dX7_ends_17 : decode cX7_ends 17 = .ok (.aload_n 0, 1) := by decide +kernel
theorem dX7_ends_18 : decode cX7_ends 18 = .ok (.getfield 13, 3) := by decide +kernel
theorem dX7_ends_21 : decode cX7_ends 21 = .ok (.iload_n 2, 1) := by decide +kernel
theorem dX7_ends_22 : decode cX7_ends 22 = .ok (.aload_n 0, 1) := by decide +kernel
theorem dX7_ends_23 : decode cX7_ends 23 = .ok (.getfield 13, 3) := by decide +kernel
theorem dX7_ends_26 : decode cX7_ends 26 = .ok (.iload_n 2, 1) := by decide +kernel
theorem dX7_ends_27 : decode cX7_ends 27 = .ok (.sipush 368, 3) := by decide +kernel
theorem dX7_ends_30 : decode cX7_ends 30 = .ok (.iadd, 1) := by decide +kernel
theorem dX7_ends_31 : decode cX7_ends 31 = .ok (.iaload, 1) := by decide +kernel
theorem dX7_ends_32 : decode cX7_ends 32 = .ok (.iastore, 1) := by decide +kernel
theorem dX7_ends_33 : decode cX7_ends 33 = .ok (.iinc 2 1, 3) := by decide +kernel
theorem dX7_ends_36 : decode cX7_ends 36 = .ok (.goto (-26), 3) := by decide +kernel
theorem dX7_ends_39 : decode cX7_ends 39 = .ok (.aload_n 0, 1) := by decide +kernel
theorem dX7_ends_40 : decode cX7_ends 40 = .ok (.dup, 1) := by decide +kernel
theorem dX7_ends_41 : decode cX7_ends 41 = .ok (.getfield 62, 3) := by decide +kernel
theorem dX7_ends_44 : decode cX7_ends 44 = .ok (.iconst 1, 1) := by decide +kernel
theorem dX7_ends_45 : decode cX7_ends 45 = .ok (.isub, 1) := by decide +kernel
theorem dX7_ends_46 : decode cX7_ends 46 = .ok (.putfield 62, 3) := by decide +kernel
theorem dX7_ends_49 : decode cX7_ends 49 = .ok (.iconst 0, 1) := by decide +kernel
theorem dX7_ends_50 : decode cX7_ends 50 = .ok (.istore_n 2, 1) := by decide +kernel
theorem dX7_ends_51 : decode cX7_ends 51 = .ok (.iload_n 2, 1) := by decide +kernel
theorem dX7_ends_52 : decode cX7_ends 52 = .ok (.sipush 368, 3) := by decide +kernel
theorem dX7_ends_55 : decode cX7_ends 55 = .ok (.if_icmp .ge 30, 3) := by decide +kernel
theorem dX7_ends_58 : decode cX7_ends 58 = .ok (.aload_n 0, 1) := by decide +kernel
theorem dX7_ends_59 : decode cX7_ends 59 = .ok (.getfield 13, 3) := by decide +kernel
theorem dX7_ends_62 : decode cX7_ends 62 = .ok (.sipush 368, 3) := by decide +kernel
theorem dX7_ends_65 : decode cX7_ends 65 = .ok (.aload_n 0, 1) := by decide +kernel
theorem dX7_ends_66 : decode cX7_ends 66 = .ok (.getfield 62, 3) := by decide +kernel
theorem dX7_ends_69 : decode cX7_ends 69 = .ok (.imul, 1) := by decide +kernel
theorem dX7_ends_70 : decode cX7_ends 70 = .ok (.iload_n 2, 1) := by decide +kernel
theorem dX7_ends_71 : decode cX7_ends 71 = .ok (.iadd, 1) := by decide +kernel
theorem dX7_ends_72 : decode cX7_ends 72 = .ok (.aload_n 0, 1) := by decide +kernel
theorem dX7_ends_73 : decode cX7_ends 73 = .ok (.getfield 16, 3) := by decide +kernel
theorem dX7_ends_76 : decode cX7_ends 76 = .ok (.iload_n 2, 1) := by decide +kernel
theorem dX7_ends_77 : decode cX7_ends 77 = .ok (.iaload, 1) := by decide +kernel
theorem dX7_ends_78 : decode cX7_ends 78 = .ok (.iastore, 1) := by decide +kernel
theorem dX7_ends_79 : decode cX7_ends 79 = .ok (.iinc 2 1, 3) := by decide +kernel
theorem dX7_ends_82 : decode cX7_ends 82 = .ok (.goto (-31), 3) := by decide +kernel
theorem dX7_ends_85 : decode cX7_ends 85 = .ok (.aload_n 0, 1) := by decide +kernel
theorem dX7_ends_86 : decode cX7_ends 86 = .ok (.dup, 1) := by decide +kernel
theorem dX7_ends_87 : decode cX7_ends 87 = .ok (.getfield 62, 3) := by decide +kernel
theorem dX7_ends_90 : decode cX7_ends 90 = .ok (.iconst 1, 1) := by decide +kernel
theorem dX7_ends_91 : decode cX7_ends 91 = .ok (.iadd, 1) := by decide +kernel
theorem dX7_ends_92 : decode cX7_ends 92 = .ok (.putfield 62, 3) := by decide +kernel
theorem dX7_ends_95 : decode cX7_ends 95 = .ok (.iload_n 1, 1) := by decide +kernel
theorem dX7_ends_96 : decode cX7_ends 96 = .ok (.ireturn, 1) := by decide +kernel
theorem dX7_becomes_0 : decode cX7_becomes 0 = .ok (.aload_n 0, 1) := by decide +kernel
theorem dX7_becomes_1 : decode cX7_becomes 1 = .ok (.invokevirtual 66, 3) := by decide +kernel
theorem dX7_becomes_4 : decode cX7_becomes 4 = .ok (.aload_n 0, 1) := by decide +kernel
theorem dX7_becomes_5 : decode cX7_becomes 5 = .ok (.getfield 7, 3) := by decide +kernel
theorem dX7_becomes_8 : decode cX7_becomes 8 = .ok (.iload_n 1, 1) := by decide +kernel
theorem dX7_becomes_9 : decode cX7_becomes 9 = .ok (.iaload, 1) := by decide +kernel
theorem dX7_becomes_10 : decode cX7_becomes 10 = .ok (.istore_n 3, 1) := by decide +kernel
theorem dX7_becomes_11 : decode cX7_becomes 11 = .ok (.aload_n 0, 1) := by decide +kernel
theorem dX7_becomes_12 : decode cX7_becomes 12 = .ok (.getfield 7, 3) := by decide +kernel
theorem dX7_becomes_15 : decode cX7_becomes 15 = .ok (.iload_n 1, 1) := by decide +kernel
theorem dX7_becomes_16 : decode cX7_becomes 16 = .ok (.iload_n 2, 1) := by decide +kernel
theorem dX7_becomes_17 : decode cX7_becomes 17 = .ok (.iastore, 1) := by decide +kernel
theorem dX7_becomes_18 : decode cX7_becomes 18 = .ok (.aload_n 0, 1) := by decide +kernel
theorem dX7_becomes_19 : decode cX7_becomes 19 = .ok (.iload_n 3, 1) := by decide +kernel
theorem dX7_becomes_20 : decode cX7_becomes 20 = .ok (.invokevirtual 69, 3) := by decide +kernel
theorem dX7_becomes_23 : decode cX7_becomes 23 = .ok (.ireturn, 1) := by decide +kernel
theorem dX7_setSize_0 : decode cX7_setSize 0 = .ok (.iload_n 1, 1) := by decide +kernel
theorem dX7_setSize_1 : decode cX7_setSize 1 = .ok (.iconst 1, 1) := by decide +kernel
theorem dX7_setSize_2 : decode cX7_setSize 2 = .ok (.bipush 12, 2) := by decide +kernel
theorem dX7_setSize_4 : decode cX7_setSize 4 = .ok (.invokestatic 73, 3) := by decide +kernel
theorem dX7_setSize_7 : decode cX7_setSize 7 = .ok (.ifCond .eq 13, 3) := by decide +kernel
theorem dX7_setSize_10 : decode cX7_setSize 10 = .ok (.iload_n 2, 1) := by decide +kernel
theorem dX7_setSize_11 : decode cX7_setSize 11 = .ok (.iconst 1, 1) := by decide +kernel
theorem dX7_setSize_12 : decode cX7_setSize 12 = .ok (.bipush 12, 2) := by decide +kernel
theorem dX7_setSize_14 : decode cX7_setSize 14 = .ok (.invokestatic 73, 3) := by decide +kernel
theorem dX7_setSize_17 : decode cX7_setSize 17 = .ok (.ifCond .ne 5, 3) := by decide +kernel
theorem dX7_setSize_20 : decode cX7_setSize 20 = .ok (.iconst (-1), 1) := by decide +kernel
theorem dX7_setSize_21 : decode cX7_setSize 21 = .ok (.ireturn, 1) := by decide +kernel
theorem dX7_setSize_22 : decode cX7_setSize 22 = .ok (.aload_n 0, 1) := by decide +kernel
theorem dX7_setSize_23 : decode cX7_setSize 23 = .ok (.invokevirtual 66, 3) := by decide +kernel
theorem dX7_setSize_26 : decode cX7_setSize 26 = .ok (.bipush 100, 2) := by decide +kernel
theorem dX7_setSize_28 : decode cX7_setSize 28 = .ok (.aload_n 0, 1) := by decide +kernel
theorem dX7_setSize_29 : decode cX7_setSize 29 = .ok (.getfield 7, 3) := by decide +kernel
theorem dX7_setSize_32 : decode cX7_setSize 32 = .ok (.iconst 0, 1) := by decide +kernel
theorem dX7_setSize_33 : decode cX7_setSize 33 = .ok (.iaload, 1) := by decide +kernel
theorem dX7_setSize_34 : decode cX7_setSize 34 = .ok (.imul, 1) := by decide +kernel
theorem dX7_setSize_35 : decode cX7_setSize 35 = .ok (.aload_n 0, 1) := by decide +kernel
theorem dX7_setSize_36 : decode cX7_setSize 36 = .ok (.getfield 7, 3) := by decide +kernel
theorem dX7_setSize_39 : decode cX7_setSize 39 = .ok (.iconst 1, 1) := by decide +kernel
theorem dX7_setSize_40 : decode cX7_setSize 40 = .ok (.iaload, 1) := by decide +kernel
theorem dX7_setSize_41 : decode cX7_setSize 41 = .ok (.iadd, 1) := by decide +kernel
theorem dX7_setSize_42 : decode cX7_setSize 42 = .ok (.istore_n 3, 1) := by decide +kernel
theorem dX7_setSize_43 : decode cX7_setSize 43 = .ok (.aload_n 0, 1) := by decide +kernel
theorem dX7_setSize_44 : decode cX7_setSize 44 = .ok (.getfield 7, 3) := by decide +kernel
theorem dX7_setSize_47 : decode cX7_setSize 47 = .ok (.iconst 0, 1) := by decide +kernel
theorem dX7_setSize_48 : decode cX7_setSize 48 = .ok (.iload_n 1, 1) := by decide +kernel
theorem dX7_setSize_49 : decode cX7_setSize 49 = .ok (.iastore, 1) := by decide +kernel
theorem dX7_setSize_50 : decode cX7_setSize 50 = .ok (.aload_n 0, 1) := by decide +kernel
theorem dX7_setSize_51 : decode cX7_setSize 51 = .ok (.getfield 7, 3) := by decide +kernel
theorem dX7_setSize_54 : decode cX7_setSize 54 = .ok (.iconst 1, 1) := by decide +kernel
theorem dX7_setSize_55 : decode cX7_setSize 55 = .ok (.iload_n 2, 1) := by decide +kernel
theorem dX7_setSize_56 : decode cX7_setSize 56 = .ok (.iastore, 1) := by decide +kernel
theorem dX7_setSize_57 : decode cX7_setSize 57 = .ok (.aload_n 0, 1) := by decide +kernel
theorem dX7_setSize_58 : decode cX7_setSize 58 = .ok (.iload_n 3, 1) := by decide +kernel
theorem dX7_setSize_59 : decode cX7_setSize 59 = .ok (.invokevirtual 69, 3) := by decide +kernel
theorem dX7_setSize_62 : decode cX7_setSize 62 = .ok (.ireturn, 1) := by decide +kernel
theorem dX7_of_0 : decode cX7_of 0 = .ok (.aload_n 0, 1) := by decide +kernel
theorem dX7_of_1 : decode cX7_of 1 = .ok (.getfield 7, 3) := by decide +kernel
theorem dX7_of_4 : decode cX7_of 4 = .ok (.sipush 128, 3) := by decide +kernel
theorem dX7_of_7 : decode cX7_of 7 = .ok (.bipush 10, 2) := by decide +kernel
theorem dX7_of_9 : decode cX7_of 9 = .ok (.iload_n 1, 1) := by decide +kernel
theorem dX7_of_10 : decode cX7_of 10 = .ok (.imul, 1) := by decide +kernel
theorem dX7_of_11 : decode cX7_of 11 = .ok (.iadd, 1) := by decide +kernel
theorem dX7_of_12 : decode cX7_of 12 = .ok (.iload_n 2, 1) := by decide +kernel
theorem dX7_of_13 : decode cX7_of 13 = .ok (.iadd, 1) := by decide +kernel
theorem dX7_of_14 : decode cX7_of 14 = .ok (.iaload, 1) := by decide +kernel
theorem dX7_of_15 : decode cX7_of 15 = .ok (.ireturn, 1) := by decide +kernel
theorem dX7_isNode_0 : decode cX7_isNode 0 = .ok (.iload_n 1, 1) := by decide +kernel
theorem dX7_isNode_1 : decode cX7_isNode 1 = .ok (.iconst 0, 1) := by decide +kernel
theorem dX7_isNode_2 : decode cX7_isNode 2 = .ok (.bipush 23, 2) := by decide +kernel
theorem dX7_isNode_4 : decode cX7_isNode 4 = .ok (.invokestatic 73, 3) := by decide +kernel
theorem dX7_isNode_7 : decode cX7_isNode 7 = .ok (.ifCond .eq 16, 3) := by decide +kernel
theorem dX7_isNode_10 : decode cX7_isNode 10 = .ok (.aload_n 0, 1) := by decide +kernel
theorem dX7_isNode_11 : decode cX7_isNode 11 = .ok (.iload_n 1, 1) := by decide +kernel
theorem dX7_isNode_12 : decode cX7_isNode 12 = .ok (.iconst 0, 1) := by decide +kernel
theorem dX7_isNode_13 : decode cX7_isNode 13 = .ok (.invokevirtual 77, 3) := by decide +kernel
theorem dX7_isNode_16 : decode cX7_isNode 16 = .ok (.ifCond .lt 7, 3) := by decide +kernel
theorem dX7_isNode_19 : decode cX7_isNode 19 = .ok (.iconst 1, 1) := by decide +kernel
theorem dX7_isNode_20 : decode cX7_isNode 20 = .ok (.goto 4, 3) := by decide +kernel
theorem dX7_isNode_23 : decode cX7_isNode 23 = .ok (.iconst 0, 1) := by decide +kernel
theorem dX7_isNode_24 : decode cX7_isNode 24 = .ok (.ireturn, 1) := by decide +kernel
theorem dX7_depth_0 : decode cX7_depth 0 = .ok (.iconst 0, 1) := by decide +kernel
theorem dX7_depth_1 : decode cX7_depth 1 = .ok (.istore_n 2, 1) := by decide +kernel
theorem dX7_depth_2 : decode cX7_depth 2 = .ok (.iload_n 1, 1) := by decide +kernel
theorem dX7_depth_3 : decode cX7_depth 3 = .ok (.istore_n 3, 1) := by decide +kernel
theorem dX7_depth_4 : decode cX7_depth 4 = .ok (.iload_n 3, 1) := by decide +kernel
theorem dX7_depth_5 : decode cX7_depth 5 = .ok (.ifCond .eq 16, 3) := by decide +kernel
theorem dX7_depth_8 : decode cX7_depth 8 = .ok (.iinc 2 1, 3) := by decide +kernel
theorem dX7_depth_11 : decode cX7_depth 11 = .ok (.aload_n 0, 1) := by decide +kernel
theorem dX7_depth_12 : decode cX7_depth 12 = .ok (.iload_n 3, 1) := by decide +kernel
theorem dX7_depth_13 : decode cX7_depth 13 = .ok (.iconst 1, 1) := by decide +kernel
theorem dX7_depth_14 : decode cX7_depth 14 = .ok (.invokevirtual 77, 3) := by decide +kernel
theorem dX7_depth_17 : decode cX7_depth 17 = .ok (.istore_n 3, 1) := by decide +kernel
theorem dX7_depth_18 : decode cX7_depth 18 = .ok (.goto (-14), 3) := by decide +kernel
theorem dX7_depth_21 : decode cX7_depth 21 = .ok (.iload_n 2, 1) := by decide +kernel
theorem dX7_depth_22 : decode cX7_depth 22 = .ok (.ireturn, 1) := by decide +kernel
theorem dX7_isBelow_0 : decode cX7_isBelow 0 = .ok (.iload_n 1, 1) := by decide +kernel
theorem dX7_isBelow_1 : decode cX7_isBelow 1 = .ok (.istore_n 3, 1) := by decide +kernel
theorem dX7_isBelow_2 : decode cX7_isBelow 2 = .ok (.iload_n 3, 1) := by decide +kernel
theorem dX7_isBelow_3 : decode cX7_isBelow 3 = .ok (.iload_n 2, 1) := by decide +kernel
theorem dX7_isBelow_4 : decode cX7_isBelow 4 = .ok (.if_icmp .eq 17, 3) := by decide +kernel
theorem dX7_isBelow_7 : decode cX7_isBelow 7 = .ok (.iload_n 3, 1) := by decide +kernel
theorem dX7_isBelow_8 : decode cX7_isBelow 8 = .ok (.ifCond .eq 13, 3) := by decide +kernel
theorem dX7_isBelow_11 : decode cX7_isBelow 11 = .ok (.aload_n 0, 1) := by decide +kernel
theorem dX7_isBelow_12 : decode cX7_isBelow 12 = .ok (.iload_n 3, 1) := by decide +kernel
theorem dX7_isBelow_13 : decode cX7_isBelow 13 = .ok (.iconst 1, 1) := by decide +kernel
theorem dX7_isBelow_14 : decode cX7_isBelow 14 = .ok (.invokevirtual 77, 3) := by decide +kernel
theorem dX7_isBelow_17 : decode cX7_isBelow 17 = .ok (.istore_n 3, 1) := by decide +kernel
theorem dX7_isBelow_18 : decode cX7_isBelow 18 = .ok (.goto (-16), 3) := by decide +kernel
theorem dX7_isBelow_21 : decode cX7_isBelow 21 = .ok (.iload_n 3, 1) := by decide +kernel
theorem dX7_isBelow_22 : decode cX7_isBelow 22 = .ok (.iload_n 2, 1) := by decide +kernel
theorem dX7_isBelow_23 : decode cX7_isBelow 23 = .ok (.if_icmp .ne 7, 3) := by decide +kernel
theorem dX7_isBelow_26 : decode cX7_isBelow 26 = .ok (.iconst 1, 1) := by decide +kernel
theorem dX7_isBelow_27 : decode cX7_isBelow 27 = .ok (.goto 4, 3) := by decide +kernel
theorem dX7_isBelow_30 : decode cX7_isBelow 30 = .ok (.iconst 0, 1) := by decide +kernel
theorem dX7_isBelow_31 : decode cX7_isBelow 31 = .ok (.ireturn, 1) := by decide +kernel
theorem dX7_free_0 : decode cX7_free 0 = .ok (.bipush (-4), 2) := by decide +kernel
theorem dX7_free_2 : decode cX7_free 2 = .ok (.istore_n 1, 1) := by decide +kernel
theorem dX7_free_3 : decode cX7_free 3 = .ok (.bipush 23, 2) := by decide +kernel
theorem dX7_free_5 : decode cX7_free 5 = .ok (.istore_n 2, 1) := by decide +kernel
theorem dX7_free_6 : decode cX7_free 6 = .ok (.iload_n 2, 1) := by decide +kernel
theorem dX7_free_7 : decode cX7_free 7 = .ok (.ifCond .le 24, 3) := by decide +kernel
theorem dX7_free_10 : decode cX7_free 10 = .ok (.aload_n 0, 1) := by decide +kernel
theorem dX7_free_11 : decode cX7_free 11 = .ok (.iload_n 2, 1) := by decide +kernel
theorem dX7_free_12 : decode cX7_free 12 = .ok (.iconst 0, 1) := by decide +kernel
theorem dX7_free_13 : decode cX7_free 13 = .ok (.invokevirtual 77, 3) := by decide +kernel
theorem dX7_free_16 : decode cX7_free 16 = .ok (.ifCond .ge 7, 3) := by decide +kernel
theorem dX7_free_19 : decode cX7_free 19 = .ok (.iload_n 2, 1) := by decide +kernel
theorem dX7_free_20 : decode cX7_free 20 = .ok (.goto 4, 3) := by decide +kernel
theorem dX7_free_23 : decode cX7_free 23 = .ok (.iload_n 1, 1) := by decide +kernel
theorem dX7_free_24 : decode cX7_free 24 = .ok (.istore_n 1, 1) := by decide +kernel
theorem dX7_free_25 : decode cX7_free 25 = .ok (.iinc 2 (-1), 3) := by decide +kernel
theorem dX7_free_28 : decode cX7_free 28 = .ok (.goto (-22), 3) := by decide +kernel
theorem dX7_free_31 : decode cX7_free 31 = .ok (.iload_n 1, 1) := by decide +kernel
theorem dX7_free_32 : decode cX7_free 32 = .ok (.ireturn, 1) := by decide +kernel
theorem dX7_comes_0 : decode cX7_comes 0 = .ok (.aload_n 0, 1) := by decide +kernel
theorem dX7_comes_1 : decode cX7_comes 1 = .ok (.iload_n 1, 1) := by decide +kernel
theorem dX7_comes_2 : decode cX7_comes 2 = .ok (.iconst 0, 1) := by decide +kernel
theorem dX7_comes_3 : decode cX7_comes 3 = .ok (.invokevirtual 77, 3) := by decide +kernel
theorem dX7_comes_6 : decode cX7_comes 6 = .ok (.ifCond .ne 12, 3) := by decide +kernel
theorem dX7_comes_9 : decode cX7_comes 9 = .ok (.aload_n 0, 1) := by decide +kernel
theorem dX7_comes_10 : decode cX7_comes 10 = .ok (.iload_n 1, 1) := by decide +kernel
theorem dX7_comes_11 : decode cX7_comes 11 = .ok (.invokevirtual 81, 3) := by decide +kernel
theorem dX7_comes_14 : decode cX7_comes 14 = .ok (.iconst 4, 1) := by decide +kernel
theorem dX7_comes_15 : decode cX7_comes 15 = .ok (.if_icmp .ne 6, 3) := by decide +kernel
theorem dX7_comes_18 : decode cX7_comes 18 = .ok (.bipush (-2), 2) := by decide +kernel
theorem dX7_comes_20 : decode cX7_comes 20 = .ok (.ireturn, 1) := by decide +kernel
theorem dX7_comes_21 : decode cX7_comes 21 = .ok (.aload_n 0, 1) := by decide +kernel
theorem dX7_comes_22 : decode cX7_comes 22 = .ok (.invokevirtual 84, 3) := by decide +kernel
theorem dX7_comes_25 : decode cX7_comes 25 = .ok (.istore_n 3, 1) := by decide +kernel
theorem dX7_comes_26 : decode cX7_comes 26 = .ok (.iload_n 3, 1) := by decide +kernel
theorem dX7_comes_27 : decode cX7_comes 27 = .ok (.ifCond .ge 6, 3) := by decide +kernel
theorem dX7_comes_30 : decode cX7_comes 30 = .ok (.bipush (-3), 2) := by decide +kernel
theorem dX7_comes_32 : decode cX7_comes 32 = .ok (.ireturn, 1) := by decide +kernel
theorem dX7_comes_33 : decode cX7_comes 33 = .ok (.aload_n 0, 1) := by decide +kernel
theorem dX7_comes_34 : decode cX7_comes 34 = .ok (.invokevirtual 66, 3) := by decide +kernel
theorem dX7_comes_37 : decode cX7_comes 37 = .ok (.aload_n 0, 1) := by decide +kernel
theorem dX7_comes_38 : decode cX7_comes 38 = .ok (.getfield 7, 3) := by decide +kernel
theorem dX7_comes_41 : decode cX7_comes 41 = .ok (.bipush 8, 2) := by decide +kernel
theorem dX7_comes_43 : decode cX7_comes 43 = .ok (.dup2, 1) := by decide +kernel
theorem dX7_comes_44 : decode cX7_comes 44 = .ok (.iaload, 1) := by decide +kernel
theorem dX7_comes_45 : decode cX7_comes 45 = .ok (.iconst 1, 1) := by decide +kernel
theorem dX7_comes_46 : decode cX7_comes 46 = .ok (.iadd, 1) := by decide +kernel
theorem dX7_comes_47 : decode cX7_comes 47 = .ok (.iastore, 1) := by decide +kernel
theorem dX7_comes_48 : decode cX7_comes 48 = .ok (.sipush 128, 3) := by decide +kernel
theorem dX7_comes_51 : decode cX7_comes 51 = .ok (.bipush 10, 2) := by decide +kernel
theorem dX7_comes_53 : decode cX7_comes 53 = .ok (.iload_n 3, 1) := by decide +kernel
theorem dX7_comes_54 : decode cX7_comes 54 = .ok (.imul, 1) := by decide +kernel
theorem dX7_comes_55 : decode cX7_comes 55 = .ok (.iadd, 1) := by decide +kernel
theorem dX7_comes_56 : decode cX7_comes 56 = .ok (.istore 4, 2) := by decide +kernel
theorem dX7_comes_58 : decode cX7_comes 58 = .ok (.aload_n 0, 1) := by decide +kernel
theorem dX7_comes_59 : decode cX7_comes 59 = .ok (.getfield 7, 3) := by decide +kernel
theorem dX7_comes_62 : decode cX7_comes 62 = .ok (.iload 4, 2) := by decide +kernel
theorem dX7_comes_64 : decode cX7_comes 64 = .ok (.iload_n 2, 1) := by decide +kernel
theorem dX7_comes_65 : decode cX7_comes 65 = .ok (.iastore, 1) := by decide +kernel
theorem dX7_comes_66 : decode cX7_comes 66 = .ok (.aload_n 0, 1) := by decide +kernel
theorem dX7_comes_67 : decode cX7_comes 67 = .ok (.getfield 7, 3) := by decide +kernel
theorem dX7_comes_70 : decode cX7_comes 70 = .ok (.iload 4, 2) := by decide +kernel
theorem dX7_comes_72 : decode cX7_comes 72 = .ok (.iconst 1, 1) := by decide +kernel
theorem dX7_comes_73 : decode cX7_comes 73 = .ok (.iadd, 1) := by decide +kernel
theorem dX7_comes_74 : decode cX7_comes 74 = .ok (.iload_n 1, 1) := by decide +kernel
theorem dX7_comes_75 : decode cX7_comes 75 = .ok (.iastore, 1) := by decide +kernel
theorem dX7_comes_76 : decode cX7_comes 76 = .ok (.aload_n 0, 1) := by decide +kernel
theorem dX7_comes_77 : decode cX7_comes 77 = .ok (.getfield 7, 3) := by decide +kernel
theorem dX7_comes_80 : decode cX7_comes 80 = .ok (.iload 4, 2) := by decide +kernel
theorem dX7_comes_82 : decode cX7_comes 82 = .ok (.iconst 2, 1) := by decide +kernel
theorem dX7_comes_83 : decode cX7_comes 83 = .ok (.iadd, 1) := by decide +kernel
theorem dX7_comes_84 : decode cX7_comes 84 = .ok (.aload_n 0, 1) := by decide +kernel
theorem dX7_comes_85 : decode cX7_comes 85 = .ok (.getfield 7, 3) := by decide +kernel
theorem dX7_comes_88 : decode cX7_comes 88 = .ok (.bipush 8, 2) := by decide +kernel
theorem dX7_comes_90 : decode cX7_comes 90 = .ok (.iaload, 1) := by decide +kernel
theorem dX7_comes_91 : decode cX7_comes 91 = .ok (.iastore, 1) := by decide +kernel
theorem dX7_comes_92 : decode cX7_comes 92 = .ok (.iconst 0, 1) := by decide +kernel
theorem dX7_comes_93 : decode cX7_comes 93 = .ok (.istore 5, 2) := by decide +kernel
theorem dX7_comes_95 : decode cX7_comes 95 = .ok (.iload 5, 2) := by decide +kernel
theorem dX7_comes_97 : decode cX7_comes 97 = .ok (.iconst 4, 1) := by decide +kernel
theorem dX7_comes_98 : decode cX7_comes 98 = .ok (.if_icmp .ge 28, 3) := by decide +kernel
theorem dX7_comes_101 : decode cX7_comes 101 = .ok (.aload_n 0, 1) := by decide +kernel
theorem dX7_comes_102 : decode cX7_comes 102 = .ok (.getfield 7, 3) := by decide +kernel
theorem dX7_comes_105 : decode cX7_comes 105 = .ok (.iload 4, 2) := by decide +kernel
theorem dX7_comes_107 : decode cX7_comes 107 = .ok (.iconst 3, 1) := by decide +kernel
theorem dX7_comes_108 : decode cX7_comes 108 = .ok (.iadd, 1) := by decide +kernel
theorem dX7_comes_109 : decode cX7_comes 109 = .ok (.iload 5, 2) := by decide +kernel
theorem dX7_comes_111 : decode cX7_comes 111 = .ok (.iadd, 1) := by decide +kernel
theorem dX7_comes_112 : decode cX7_comes 112 = .ok (.aload_n 0, 1) := by decide +kernel
theorem dX7_comes_113 : decode cX7_comes 113 = .ok (.getfield 19, 3) := by decide +kernel
theorem dX7_comes_116 : decode cX7_comes 116 = .ok (.iload 5, 2) := by decide +kernel
theorem dX7_comes_118 : decode cX7_comes 118 = .ok (.iaload, 1) := by decide +kernel
theorem dX7_comes_119 : decode cX7_comes 119 = .ok (.iastore, 1) := by decide +kernel
theorem dX7_comes_120 : decode cX7_comes 120 = .ok (.iinc 5 1, 3) := by decide +kernel
theorem dX7_comes_123 : decode cX7_comes 123 = .ok (.goto (-28), 3) := by decide +kernel
theorem dX7_comes_126 : decode cX7_comes 126 = .ok (.iload_n 3, 1) := by decide +kernel
theorem dX7_comes_127 : decode cX7_comes 127 = .ok (.ireturn, 1) := by decide +kernel
theorem dX7_isOffset_0 : decode cX7_isOffset 0 = .ok (.iload_n 0, 1) := by decide +kernel
theorem dX7_isOffset_1 : decode cX7_isOffset 1 = .ok (.bipush (-12), 2) := by decide +kernel
theorem dX7_isOffset_3 : decode cX7_isOffset 3 = .ok (.bipush 12, 2) := by decide +kernel
theorem dX7_isOffset_5 : decode cX7_isOffset 5 = .ok (.invokestatic 73, 3) := by decide +kernel
theorem dX7_isOffset_8 : decode cX7_isOffset 8 = .ok (.ireturn, 1) := by decide +kernel
theorem dX7_addGroup_0 : decode cX7_addGroup 0 = .ok (.aload_n 0, 1) := by decide +kernel
theorem dX7_addGroup_1 : decode cX7_addGroup 1 = .ok (.iload_n 1, 1) := by decide +kernel
theorem dX7_addGroup_2 : decode cX7_addGroup 2 = .ok (.invokevirtual 88, 3) := by decide +kernel
theorem dX7_addGroup_5 : decode cX7_addGroup 5 = .ok (.ifCond .eq 28, 3) := by decide +kernel
theorem dX7_addGroup_8 : decode cX7_addGroup 8 = .ok (.iload_n 2, 1) := by decide +kernel
theorem dX7_addGroup_9 : decode cX7_addGroup 9 = .ok (.iconst 0, 1) := by decide +kernel
theorem dX7_addGroup_10 : decode cX7_addGroup 10 = .ok (.bipush 100, 2) := by decide +kernel
theorem dX7_addGroup_12 : decode cX7_addGroup 12 = .ok (.invokestatic 73, 3) := by decide +kernel
theorem dX7_addGroup_15 : decode cX7_addGroup 15 = .ok (.ifCond .eq 18, 3) := by decide +kernel
theorem dX7_addGroup_18 : decode cX7_addGroup 18 = .ok (.iload_n 3, 1) := by decide +kernel
theorem dX7_addGroup_19 : decode cX7_addGroup 19 = .ok (.invokestatic 92, 3) := by decide +kernel
theorem dX7_addGroup_22 : decode cX7_addGroup 22 = .ok (.ifCond .eq 11, 3) := by decide +kernel
theorem dX7_addGroup_25 : decode cX7_addGroup 25 = .ok (.iload 4, 2) := by decide +kernel
theorem dX7_addGroup_27 : decode cX7_addGroup 27 = .ok (.invokestatic 92, 3) := by decide +kernel
theorem dX7_addGroup_30 : decode cX7_addGroup 30 = .ok (.ifCond .ne 5, 3) := by decide +kernel
theorem dX7_addGroup_33 : decode cX7_addGroup 33 = .ok (.iconst (-1), 1) := by decide +kernel
theorem dX7_addGroup_34 : decode cX7_addGroup 34 = .ok (.ireturn, 1) := by decide +kernel
theorem dX7_addGroup_35 : decode cX7_addGroup 35 = .ok (.aload_n 0, 1) := by decide +kernel
theorem dX7_addGroup_36 : decode cX7_addGroup 36 = .ok (.iload_n 1, 1) := by decide +kernel
theorem dX7_addGroup_37 : decode cX7_addGroup 37 = .ok (.iconst 0, 1) := by decide +kernel
theorem dX7_addGroup_38 : decode cX7_addGroup 38 = .ok (.invokevirtual 95, 3) := by decide +kernel
theorem dX7_addGroup_41 : decode cX7_addGroup 41 = .ok (.istore 5, 2) := by decide +kernel
theorem dX7_addGroup_43 : decode cX7_addGroup 43 = .ok (.iload 5, 2) := by decide +kernel
theorem dX7_addGroup_45 : decode cX7_addGroup 45 = .ok (.ifCond .ge 6, 3) := by decide +kernel
theorem dX7_addGroup_48 : decode cX7_addGroup 48 = .ok (.iload 5, 2) := by decide +kernel
theorem dX7_addGroup_50 : decode cX7_addGroup 50 = .ok (.ireturn, 1) := by decide +kernel
theorem dX7_addGroup_51 : decode cX7_addGroup 51 = .ok (.aload_n 0, 1) := by decide +kernel
theorem dX7_addGroup_52 : decode cX7_addGroup 52 = .ok (.getfield 7, 3) := by decide +kernel
theorem dX7_addGroup_55 : decode cX7_addGroup 55 = .ok (.sipush 128, 3) := by decide +kernel
theorem dX7_addGroup_58 : decode cX7_addGroup 58 = .ok (.bipush 10, 2) := by decide +kernel
theorem dX7_addGroup_60 : decode cX7_addGroup 60 = .ok (.iload 5, 2) := by decide +kernel
theorem dX7_addGroup_62 : decode cX7_addGroup 62 = .ok (.imul, 1) := by decide +kernel
theorem dX7_addGroup_63 : decode cX7_addGroup 63 = .ok (.iadd, 1) := by decide +kernel
theorem dX7_addGroup_64 : decode cX7_addGroup 64 = .ok (.iconst 3, 1) := by decide +kernel
theorem dX7_addGroup_65 : decode cX7_addGroup 65 = .ok (.iadd, 1) := by decide +kernel
theorem dX7_addGroup_66 : decode cX7_addGroup 66 = .ok (.iload_n 2, 1) := by decide +kernel
theorem dX7_addGroup_67 : decode cX7_addGroup 67 = .ok (.iastore, 1) := by decide +kernel
theorem dX7_addGroup_68 : decode cX7_addGroup 68 = .ok (.aload_n 0, 1) := by decide +kernel
theorem dX7_addGroup_69 : decode cX7_addGroup 69 = .ok (.getfield 7, 3) := by decide +kernel
theorem dX7_addGroup_72 : decode cX7_addGroup 72 = .ok (.sipush 128, 3) := by decide +kernel
theorem dX7_addGroup_75 : decode cX7_addGroup 75 = .ok (.bipush 10, 2) := by decide +kernel
theorem dX7_addGroup_77 : decode cX7_addGroup 77 = .ok (.iload 5, 2) := by decide +kernel
theorem dX7_addGroup_79 : decode cX7_addGroup 79 = .ok (.imul, 1) := by decide +kernel
theorem dX7_addGroup_80 : decode cX7_addGroup 80 = .ok (.iadd, 1) := by decide +kernel
theorem dX7_addGroup_81 : decode cX7_addGroup 81 = .ok (.iconst 3, 1) := by decide +kernel
theorem dX7_addGroup_82 : decode cX7_addGroup 82 = .ok (.iadd, 1) := by decide +kernel
theorem dX7_addGroup_83 : decode cX7_addGroup 83 = .ok (.iconst 1, 1) := by decide +kernel
theorem dX7_addGroup_84 : decode cX7_addGroup 84 = .ok (.iadd, 1) := by decide +kernel
theorem dX7_addGroup_85 : decode cX7_addGroup 85 = .ok (.iload_n 3, 1) := by decide +kernel
theorem dX7_addGroup_86 : decode cX7_addGroup 86 = .ok (.iastore, 1) := by decide +kernel
theorem dX7_addGroup_87 : decode cX7_addGroup 87 = .ok (.aload_n 0, 1) := by decide +kernel
theorem dX7_addGroup_88 : decode cX7_addGroup 88 = .ok (.getfield 7, 3) := by decide +kernel
theorem dX7_addGroup_91 : decode cX7_addGroup 91 = .ok (.sipush 128, 3) := by decide +kernel
theorem dX7_addGroup_94 : decode cX7_addGroup 94 = .ok (.bipush 10, 2) := by decide +kernel
theorem dX7_addGroup_96 : decode cX7_addGroup 96 = .ok (.iload 5, 2) := by decide +kernel
theorem dX7_addGroup_98 : decode cX7_addGroup 98 = .ok (.imul, 1) := by decide +kernel
theorem dX7_addGroup_99 : decode cX7_addGroup 99 = .ok (.iadd, 1) := by decide +kernel
theorem dX7_addGroup_100 : decode cX7_addGroup 100 = .ok (.iconst 3, 1) := by decide +kernel
theorem dX7_addGroup_101 : decode cX7_addGroup 101 = .ok (.iadd, 1) := by decide +kernel
theorem dX7_addGroup_102 : decode cX7_addGroup 102 = .ok (.iconst 2, 1) := by decide +kernel
theorem dX7_addGroup_103 : decode cX7_addGroup 103 = .ok (.iadd, 1) := by decide +kernel
theorem dX7_addGroup_104 : decode cX7_addGroup 104 = .ok (.iload 4, 2) := by decide +kernel
theorem dX7_addGroup_106 : decode cX7_addGroup 106 = .ok (.iastore, 1) := by decide +kernel
theorem dX7_addGroup_107 : decode cX7_addGroup 107 = .ok (.aload_n 0, 1) := by decide +kernel
theorem dX7_addGroup_108 : decode cX7_addGroup 108 = .ok (.iload 5, 2) := by decide +kernel
theorem dX7_addGroup_110 : decode cX7_addGroup 110 = .ok (.invokevirtual 69, 3) := by decide +kernel
theorem dX7_addGroup_113 : decode cX7_addGroup 113 = .ok (.ireturn, 1) := by decide +kernel
theorem dX7_addRect_0 : decode cX7_addRect 0 = .ok (.aload_n 0, 1) := by decide +kernel
theorem dX7_addRect_1 : decode cX7_addRect 1 = .ok (.iload_n 1, 1) := by decide +kernel
theorem dX7_addRect_2 : decode cX7_addRect 2 = .ok (.invokevirtual 88, 3) := by decide +kernel
theorem dX7_addRect_5 : decode cX7_addRect 5 = .ok (.ifCond .ne 5, 3) := by decide +kernel
theorem dX7_addRect_8 : decode cX7_addRect 8 = .ok (.iconst (-1), 1) := by decide +kernel
theorem dX7_addRect_9 : decode cX7_addRect 9 = .ok (.ireturn, 1) := by decide +kernel
theorem dX7_addRect_10 : decode cX7_addRect 10 = .ok (.aload_n 0, 1) := by decide +kernel
theorem dX7_addRect_11 : decode cX7_addRect 11 = .ok (.iload_n 1, 1) := by decide +kernel
theorem dX7_addRect_12 : decode cX7_addRect 12 = .ok (.iconst 1, 1) := by decide +kernel
theorem dX7_addRect_13 : decode cX7_addRect 13 = .ok (.invokevirtual 95, 3) := by decide +kernel
theorem dX7_addRect_16 : decode cX7_addRect 16 = .ok (.istore_n 2, 1) := by decide +kernel
theorem dX7_addRect_17 : decode cX7_addRect 17 = .ok (.iload_n 2, 1) := by decide +kernel
theorem dX7_addRect_18 : decode cX7_addRect 18 = .ok (.ifCond .ge 5, 3) := by decide +kernel
theorem dX7_addRect_21 : decode cX7_addRect 21 = .ok (.iload_n 2, 1) := by decide +kernel
theorem dX7_addRect_22 : decode cX7_addRect 22 = .ok (.ireturn, 1) := by decide +kernel
theorem dX7_addRect_23 : decode cX7_addRect 23 = .ok (.iconst 0, 1) := by decide +kernel
theorem dX7_addRect_24 : decode cX7_addRect 24 = .ok (.istore_n 3, 1) := by decide +kernel
theorem dX7_addRect_25 : decode cX7_addRect 25 = .ok (.iload_n 3, 1) := by decide +kernel
theorem dX7_addRect_26 : decode cX7_addRect 26 = .ok (.iconst 3, 1) := by decide +kernel
theorem dX7_addRect_27 : decode cX7_addRect 27 = .ok (.if_icmp .ge 34, 3) := by decide +kernel
theorem dX7_addRect_30 : decode cX7_addRect 30 = .ok (.aload_n 0, 1) := by decide +kernel
theorem dX7_addRect_31 : decode cX7_addRect 31 = .ok (.getfield 7, 3) := by decide +kernel
theorem dX7_addRect_34 : decode cX7_addRect 34 = .ok (.sipush 128, 3) := by decide +kernel
theorem dX7_addRect_37 : decode cX7_addRect 37 = .ok (.bipush 10, 2) := by decide +kernel
theorem dX7_addRect_39 : decode cX7_addRect 39 = .ok (.iload_n 2, 1) := by decide +kernel
theorem dX7_addRect_40 : decode cX7_addRect 40 = .ok (.imul, 1) := by decide +kernel
theorem dX7_addRect_41 : decode cX7_addRect 41 = .ok (.iadd, 1) := by decide +kernel
theorem dX7_addRect_42 : decode cX7_addRect 42 = .ok (.iconst 3, 1) := by decide +kernel
theorem dX7_addRect_43 : decode cX7_addRect 43 = .ok (.iadd, 1) := by decide +kernel
theorem dX7_addRect_44 : decode cX7_addRect 44 = .ok (.iconst 4, 1) := by decide +kernel
theorem dX7_addRect_45 : decode cX7_addRect 45 = .ok (.iadd, 1) := by decide +kernel
theorem dX7_addRect_46 : decode cX7_addRect 46 = .ok (.iload_n 3, 1) := by decide +kernel
theorem dX7_addRect_47 : decode cX7_addRect 47 = .ok (.iadd, 1) := by decide +kernel
theorem dX7_addRect_48 : decode cX7_addRect 48 = .ok (.aload_n 0, 1) := by decide +kernel
theorem dX7_addRect_49 : decode cX7_addRect 49 = .ok (.getfield 22, 3) := by decide +kernel
theorem dX7_addRect_52 : decode cX7_addRect 52 = .ok (.iload_n 3, 1) := by decide +kernel
theorem dX7_addRect_53 : decode cX7_addRect 53 = .ok (.iaload, 1) := by decide +kernel
theorem dX7_addRect_54 : decode cX7_addRect 54 = .ok (.iastore, 1) := by decide +kernel
theorem dX7_addRect_55 : decode cX7_addRect 55 = .ok (.iinc 3 1, 3) := by decide +kernel
theorem dX7_addRect_58 : decode cX7_addRect 58 = .ok (.goto (-33), 3) := by decide +kernel
theorem dX7_addRect_61 : decode cX7_addRect 61 = .ok (.aload_n 0, 1) := by decide +kernel
theorem dX7_addRect_62 : decode cX7_addRect 62 = .ok (.iload_n 2, 1) := by decide +kernel
theorem dX7_addRect_63 : decode cX7_addRect 63 = .ok (.invokevirtual 69, 3) := by decide +kernel
theorem dX7_addRect_66 : decode cX7_addRect 66 = .ok (.ireturn, 1) := by decide +kernel
theorem dX7_addSpot_0 : decode cX7_addSpot 0 = .ok (.aload_n 0, 1) := by decide +kernel
theorem dX7_addSpot_1 : decode cX7_addSpot 1 = .ok (.iload_n 1, 1) := by decide +kernel
theorem dX7_addSpot_2 : decode cX7_addSpot 2 = .ok (.invokevirtual 88, 3) := by decide +kernel
theorem dX7_addSpot_5 : decode cX7_addSpot 5 = .ok (.ifCond .eq 23, 3) := by decide +kernel
theorem dX7_addSpot_8 : decode cX7_addSpot 8 = .ok (.iload_n 2, 1) := by decide +kernel
theorem dX7_addSpot_9 : decode cX7_addSpot 9 = .ok (.iconst 0, 1) := by decide +kernel
theorem dX7_addSpot_10 : decode cX7_addSpot 10 = .ok (.iconst 2, 1) := by decide +kernel
theorem dX7_addSpot_11 : decode cX7_addSpot 11 = .ok (.invokestatic 73, 3) := by decide +kernel
theorem dX7_addSpot_14 : decode cX7_addSpot 14 = .ok (.ifCond .eq 14, 3) := by decide +kernel
theorem dX7_addSpot_17 : decode cX7_addSpot 17 = .ok (.iload_n 3, 1) := by decide +kernel
theorem dX7_addSpot_18 : decode cX7_addSpot 18 = .ok (.iconst 0, 1) := by decide +kernel
theorem dX7_addSpot_19 : decode cX7_addSpot 19 = .ok (.sipush 255, 3) := by decide +kernel
theorem dX7_addSpot_22 : decode cX7_addSpot 22 = .ok (.invokestatic 73, 3) := by decide +kernel
theorem dX7_addSpot_25 : decode cX7_addSpot 25 = .ok (.ifCond .ne 5, 3) := by decide +kernel
theorem dX7_addSpot_28 : decode cX7_addSpot 28 = .ok (.iconst (-1), 1) := by decide +kernel
theorem dX7_addSpot_29 : decode cX7_addSpot 29 = .ok (.ireturn, 1) := by decide +kernel
theorem dX7_addSpot_30 : decode cX7_addSpot 30 = .ok (.aload_n 0, 1) := by decide +kernel
theorem dX7_addSpot_31 : decode cX7_addSpot 31 = .ok (.iload_n 1, 1) := by decide +kernel
theorem dX7_addSpot_32 : decode cX7_addSpot 32 = .ok (.iconst 2, 1) := by decide +kernel
theorem dX7_addSpot_33 : decode cX7_addSpot 33 = .ok (.invokevirtual 95, 3) := by decide +kernel
theorem dX7_addSpot_36 : decode cX7_addSpot 36 = .ok (.istore 4, 2) := by decide +kernel
theorem dX7_addSpot_38 : decode cX7_addSpot 38 = .ok (.iload 4, 2) := by decide +kernel
theorem dX7_addSpot_40 : decode cX7_addSpot 40 = .ok (.ifCond .ge 6, 3) := by decide +kernel
theorem dX7_addSpot_43 : decode cX7_addSpot 43 = .ok (.iload 4, 2) := by decide +kernel
theorem dX7_addSpot_45 : decode cX7_addSpot 45 = .ok (.ireturn, 1) := by decide +kernel
theorem dX7_addSpot_46 : decode cX7_addSpot 46 = .ok (.aload_n 0, 1) := by decide +kernel
theorem dX7_addSpot_47 : decode cX7_addSpot 47 = .ok (.getfield 7, 3) := by decide +kernel
theorem dX7_addSpot_50 : decode cX7_addSpot 50 = .ok (.sipush 128, 3) := by decide +kernel
theorem dX7_addSpot_53 : decode cX7_addSpot 53 = .ok (.bipush 10, 2) := by decide +kernel
theorem dX7_addSpot_55 : decode cX7_addSpot 55 = .ok (.iload 4, 2) := by decide +kernel
theorem dX7_addSpot_57 : decode cX7_addSpot 57 = .ok (.imul, 1) := by decide +kernel
theorem dX7_addSpot_58 : decode cX7_addSpot 58 = .ok (.iadd, 1) := by decide +kernel
theorem dX7_addSpot_59 : decode cX7_addSpot 59 = .ok (.iconst 3, 1) := by decide +kernel
theorem dX7_addSpot_60 : decode cX7_addSpot 60 = .ok (.iadd, 1) := by decide +kernel
theorem dX7_addSpot_61 : decode cX7_addSpot 61 = .ok (.iconst 4, 1) := by decide +kernel
theorem dX7_addSpot_62 : decode cX7_addSpot 62 = .ok (.iadd, 1) := by decide +kernel
theorem dX7_addSpot_63 : decode cX7_addSpot 63 = .ok (.iload_n 2, 1) := by decide +kernel
theorem dX7_addSpot_64 : decode cX7_addSpot 64 = .ok (.iastore, 1) := by decide +kernel
theorem dX7_addSpot_65 : decode cX7_addSpot 65 = .ok (.aload_n 0, 1) := by decide +kernel
theorem dX7_addSpot_66 : decode cX7_addSpot 66 = .ok (.getfield 7, 3) := by decide +kernel
theorem dX7_addSpot_69 : decode cX7_addSpot 69 = .ok (.sipush 128, 3) := by decide +kernel
theorem dX7_addSpot_72 : decode cX7_addSpot 72 = .ok (.bipush 10, 2) := by decide +kernel
theorem dX7_addSpot_74 : decode cX7_addSpot 74 = .ok (.iload 4, 2) := by decide +kernel
theorem dX7_addSpot_76 : decode cX7_addSpot 76 = .ok (.imul, 1) := by decide +kernel
theorem dX7_addSpot_77 : decode cX7_addSpot 77 = .ok (.iadd, 1) := by decide +kernel
theorem dX7_addSpot_78 : decode cX7_addSpot 78 = .ok (.iconst 3, 1) := by decide +kernel
theorem dX7_addSpot_79 : decode cX7_addSpot 79 = .ok (.iadd, 1) := by decide +kernel
theorem dX7_addSpot_80 : decode cX7_addSpot 80 = .ok (.iconst 5, 1) := by decide +kernel
theorem dX7_addSpot_81 : decode cX7_addSpot 81 = .ok (.iadd, 1) := by decide +kernel
theorem dX7_addSpot_82 : decode cX7_addSpot 82 = .ok (.iload_n 3, 1) := by decide +kernel
theorem dX7_addSpot_83 : decode cX7_addSpot 83 = .ok (.iastore, 1) := by decide +kernel
theorem dX7_addSpot_84 : decode cX7_addSpot 84 = .ok (.aload_n 0, 1) := by decide +kernel
theorem dX7_addSpot_85 : decode cX7_addSpot 85 = .ok (.iload 4, 2) := by decide +kernel
theorem dX7_addSpot_87 : decode cX7_addSpot 87 = .ok (.invokevirtual 69, 3) := by decide +kernel
theorem dX7_addSpot_90 : decode cX7_addSpot 90 = .ok (.ireturn, 1) := by decide +kernel
theorem dX7_setBox_0 : decode cX7_setBox 0 = .ok (.iload_n 1, 1) := by decide +kernel
theorem dX7_setBox_1 : decode cX7_setBox 1 = .ok (.invokestatic 92, 3) := by decide +kernel
theorem dX7_setBox_4 : decode cX7_setBox 4 = .ok (.ifCond .eq 31, 3) := by decide +kernel
theorem dX7_setBox_7 : decode cX7_setBox 7 = .ok (.iload_n 2, 1) := by decide +kernel
theorem dX7_setBox_8 : decode cX7_setBox 8 = .ok (.invokestatic 92, 3) := by decide +kernel
theorem dX7_setBox_11 : decode cX7_setBox 11 = .ok (.ifCond .eq 24, 3) := by decide +kernel
theorem dX7_setBox_14 : decode cX7_setBox 14 = .ok (.iload_n 3, 1) := by decide +kernel
theorem dX7_setBox_15 : decode cX7_setBox 15 = .ok (.iconst 1, 1) := by decide +kernel
theorem dX7_setBox_16 : decode cX7_setBox 16 = .ok (.bipush 12, 2) := by decide +kernel
theorem dX7_setBox_18 : decode cX7_setBox 18 = .ok (.invokestatic 73, 3) := by decide +kernel
theorem dX7_setBox_21 : decode cX7_setBox 21 = .ok (.ifCond .eq 14, 3) := by decide +kernel
theorem dX7_setBox_24 : decode cX7_setBox 24 = .ok (.iload 4, 2) := by decide +kernel
theorem dX7_setBox_26 : decode cX7_setBox 26 = .ok (.iconst 1, 1) := by decide +kernel
theorem dX7_setBox_27 : decode cX7_setBox 27 = .ok (.bipush 12, 2) := by decide +kernel
theorem dX7_setBox_29 : decode cX7_setBox 29 = .ok (.invokestatic 73, 3) := by decide +kernel
theorem dX7_setBox_32 : decode cX7_setBox 32 = .ok (.ifCond .ne 5, 3) := by decide +kernel
theorem dX7_setBox_35 : decode cX7_setBox 35 = .ok (.iconst (-1), 1) := by decide +kernel
theorem dX7_setBox_36 : decode cX7_setBox 36 = .ok (.ireturn, 1) := by decide +kernel
theorem dX7_setBox_37 : decode cX7_setBox 37 = .ok (.aload_n 0, 1) := by decide +kernel
theorem dX7_setBox_38 : decode cX7_setBox 38 = .ok (.getfield 19, 3) := by decide +kernel
theorem dX7_setBox_41 : decode cX7_setBox 41 = .ok (.iconst 0, 1) := by decide +kernel
theorem dX7_setBox_42 : decode cX7_setBox 42 = .ok (.iload_n 1, 1) := by decide +kernel
theorem dX7_setBox_43 : decode cX7_setBox 43 = .ok (.iastore, 1) := by decide +kernel
theorem dX7_setBox_44 : decode cX7_setBox 44 = .ok (.aload_n 0, 1) := by decide +kernel
theorem dX7_setBox_45 : decode cX7_setBox 45 = .ok (.getfield 19, 3) := by decide +kernel
theorem dX7_setBox_48 : decode cX7_setBox 48 = .ok (.iconst 1, 1) := by decide +kernel
theorem dX7_setBox_49 : decode cX7_setBox 49 = .ok (.iload_n 2, 1) := by decide +kernel
theorem dX7_setBox_50 : decode cX7_setBox 50 = .ok (.iastore, 1) := by decide +kernel
theorem dX7_setBox_51 : decode cX7_setBox 51 = .ok (.aload_n 0, 1) := by decide +kernel
theorem dX7_setBox_52 : decode cX7_setBox 52 = .ok (.getfield 19, 3) := by decide +kernel
theorem dX7_setBox_55 : decode cX7_setBox 55 = .ok (.iconst 2, 1) := by decide +kernel
theorem dX7_setBox_56 : decode cX7_setBox 56 = .ok (.iload_n 3, 1) := by decide +kernel
theorem dX7_setBox_57 : decode cX7_setBox 57 = .ok (.iastore, 1) := by decide +kernel
theorem dX7_setBox_58 : decode cX7_setBox 58 = .ok (.aload_n 0, 1) := by decide +kernel
theorem dX7_setBox_59 : decode cX7_setBox 59 = .ok (.getfield 19, 3) := by decide +kernel
theorem dX7_setBox_62 : decode cX7_setBox 62 = .ok (.iconst 3, 1) := by decide +kernel
theorem dX7_setBox_63 : decode cX7_setBox 63 = .ok (.iload 4, 2) := by decide +kernel
theorem dX7_setBox_65 : decode cX7_setBox 65 = .ok (.iastore, 1) := by decide +kernel
theorem dX7_setBox_66 : decode cX7_setBox 66 = .ok (.iload_n 3, 1) := by decide +kernel
theorem dX7_setBox_67 : decode cX7_setBox 67 = .ok (.iload 4, 2) := by decide +kernel
theorem dX7_setBox_69 : decode cX7_setBox 69 = .ok (.imul, 1) := by decide +kernel
theorem dX7_setBox_70 : decode cX7_setBox 70 = .ok (.ireturn, 1) := by decide +kernel
theorem dX7_setInk_0 : decode cX7_setInk 0 = .ok (.iload_n 1, 1) := by decide +kernel
theorem dX7_setInk_1 : decode cX7_setInk 1 = .ok (.iconst 0, 1) := by decide +kernel
theorem dX7_setInk_2 : decode cX7_setInk 2 = .ok (.sipush 255, 3) := by decide +kernel
theorem dX7_setInk_5 : decode cX7_setInk 5 = .ok (.invokestatic 73, 3) := by decide +kernel
theorem dX7_setInk_8 : decode cX7_setInk 8 = .ok (.ifCond .eq 25, 3) := by decide +kernel
theorem dX7_setInk_11 : decode cX7_setInk 11 = .ok (.iload_n 2, 1) := by decide +kernel
theorem dX7_setInk_12 : decode cX7_setInk 12 = .ok (.iconst 0, 1) := by decide +kernel
theorem dX7_setInk_13 : decode cX7_setInk 13 = .ok (.sipush 255, 3) := by decide +kernel
theorem dX7_setInk_16 : decode cX7_setInk 16 = .ok (.invokestatic 73, 3) := by decide +kernel
theorem dX7_setInk_19 : decode cX7_setInk 19 = .ok (.ifCond .eq 14, 3) := by decide +kernel
theorem dX7_setInk_22 : decode cX7_setInk 22 = .ok (.iload_n 3, 1) := by decide +kernel
theorem dX7_setInk_23 : decode cX7_setInk 23 = .ok (.iconst 0, 1) := by decide +kernel
theorem dX7_setInk_24 : decode cX7_setInk 24 = .ok (.sipush 255, 3) := by decide +kernel
theorem dX7_setInk_27 : decode cX7_setInk 27 = .ok (.invokestatic 73, 3) := by decide +kernel
theorem dX7_setInk_30 : decode cX7_setInk 30 = .ok (.ifCond .ne 5, 3) := by decide +kernel
theorem dX7_setInk_33 : decode cX7_setInk 33 = .ok (.iconst (-1), 1) := by decide +kernel
theorem dX7_setInk_34 : decode cX7_setInk 34 = .ok (.ireturn, 1) := by decide +kernel
theorem dX7_setInk_35 : decode cX7_setInk 35 = .ok (.aload_n 0, 1) := by decide +kernel
theorem dX7_setInk_36 : decode cX7_setInk 36 = .ok (.getfield 22, 3) := by decide +kernel
theorem dX7_setInk_39 : decode cX7_setInk 39 = .ok (.iconst 0, 1) := by decide +kernel
theorem dX7_setInk_40 : decode cX7_setInk 40 = .ok (.iload_n 1, 1) := by decide +kernel
theorem dX7_setInk_41 : decode cX7_setInk 41 = .ok (.iastore, 1) := by decide +kernel
theorem dX7_setInk_42 : decode cX7_setInk 42 = .ok (.aload_n 0, 1) := by decide +kernel
theorem dX7_setInk_43 : decode cX7_setInk 43 = .ok (.getfield 22, 3) := by decide +kernel
theorem dX7_setInk_46 : decode cX7_setInk 46 = .ok (.iconst 1, 1) := by decide +kernel
theorem dX7_setInk_47 : decode cX7_setInk 47 = .ok (.iload_n 2, 1) := by decide +kernel
theorem dX7_setInk_48 : decode cX7_setInk 48 = .ok (.iastore, 1) := by decide +kernel
theorem dX7_setInk_49 : decode cX7_setInk 49 = .ok (.aload_n 0, 1) := by decide +kernel
theorem dX7_setInk_50 : decode cX7_setInk 50 = .ok (.getfield 22, 3) := by decide +kernel
theorem dX7_setInk_53 : decode cX7_setInk 53 = .ok (.iconst 2, 1) := by decide +kernel
theorem dX7_setInk_54 : decode cX7_setInk 54 = .ok (.iload_n 3, 1) := by decide +kernel
theorem dX7_setInk_55 : decode cX7_setInk 55 = .ok (.iastore, 1) := by decide +kernel
theorem dX7_setInk_56 : decode cX7_setInk 56 = .ok (.iload_n 1, 1) := by decide +kernel
theorem dX7_setInk_57 : decode cX7_setInk 57 = .ok (.iload_n 2, 1) := by decide +kernel
theorem dX7_setInk_58 : decode cX7_setInk 58 = .ok (.iadd, 1) := by decide +kernel
theorem dX7_setInk_59 : decode cX7_setInk 59 = .ok (.iload_n 3, 1) := by decide +kernel
theorem dX7_setInk_60 : decode cX7_setInk 60 = .ok (.iadd, 1) := by decide +kernel
theorem dX7_setInk_61 : decode cX7_setInk 61 = .ok (.ireturn, 1) := by decide +kernel
theorem dX7_countBelow_0 : decode cX7_countBelow 0 = .ok (.iconst 0, 1) := by decide +kernel
theorem dX7_countBelow_1 : decode cX7_countBelow 1 = .ok (.istore_n 2, 1) := by decide +kernel
theorem dX7_countBelow_2 : decode cX7_countBelow 2 = .ok (.iconst 1, 1) := by decide +kernel
theorem dX7_countBelow_3 : decode cX7_countBelow 3 = .ok (.istore_n 3, 1) := by decide +kernel
theorem dX7_countBelow_4 : decode cX7_countBelow 4 = .ok (.iload_n 3, 1) := by decide +kernel
theorem dX7_countBelow_5 : decode cX7_countBelow 5 = .ok (.bipush 24, 2) := by decide +kernel
theorem dX7_countBelow_7 : decode cX7_countBelow 7 = .ok (.if_icmp .ge 40, 3) := by decide +kernel
theorem dX7_countBelow_10 : decode cX7_countBelow 10 = .ok (.iload_n 2, 1) := by decide +kernel
theorem dX7_countBelow_11 : decode cX7_countBelow 11 = .ok (.iload_n 3, 1) := by decide +kernel
theorem dX7_countBelow_12 : decode cX7_countBelow 12 = .ok (.iload_n 1, 1) := by decide +kernel
theorem dX7_countBelow_13 : decode cX7_countBelow 13 = .ok (.if_icmp .eq 25, 3) := by decide +kernel
theorem dX7_countBelow_16 : decode cX7_countBelow 16 = .ok (.aload_n 0, 1) := by decide +kernel
theorem dX7_countBelow_17 : decode cX7_countBelow 17 = .ok (.iload_n 3, 1) := by decide +kernel
theorem dX7_countBelow_18 : decode cX7_countBelow 18 = .ok (.iconst 0, 1) := by decide +kernel
theorem dX7_countBelow_19 : decode cX7_countBelow 19 = .ok (.invokevirtual 77, 3) := by decide +kernel
theorem dX7_countBelow_22 : decode cX7_countBelow 22 = .ok (.ifCond .lt 16, 3) := by decide +kernel
theorem dX7_countBelow_25 : decode cX7_countBelow 25 = .ok (.aload_n 0, 1) := by decide +kernel
theorem dX7_countBelow_26 : decode cX7_countBelow 26 = .ok (.iload_n 3, 1) := by decide +kernel
theorem dX7_countBelow_27 : decode cX7_countBelow 27 = .ok (.iload_n 1, 1) := by decide +kernel
theorem dX7_countBelow_28 : decode cX7_countBelow 28 = .ok (.invokevirtual 98, 3) := by decide +kernel
theorem dX7_countBelow_31 : decode cX7_countBelow 31 = .ok (.ifCond .eq 7, 3) := by decide +kernel
theorem dX7_countBelow_34 : decode cX7_countBelow 34 = .ok (.iconst 1, 1) := by decide +kernel
theorem dX7_countBelow_35 : decode cX7_countBelow 35 = .ok (.goto 4, 3) := by decide +kernel
theorem dX7_countBelow_38 : decode cX7_countBelow 38 = .ok (.iconst 0, 1) := by decide +kernel
theorem dX7_countBelow_39 : decode cX7_countBelow 39 = .ok (.iadd, 1) := by decide +kernel
theorem dX7_countBelow_40 : decode cX7_countBelow 40 = .ok (.istore_n 2, 1) := by decide +kernel
theorem dX7_countBelow_41 : decode cX7_countBelow 41 = .ok (.iinc 3 1, 3) := by decide +kernel
theorem dX7_countBelow_44 : decode cX7_countBelow 44 = .ok (.goto (-40), 3) := by decide +kernel
theorem dX7_countBelow_47 : decode cX7_countBelow 47 = .ok (.iload_n 2, 1) := by decide +kernel
theorem dX7_countBelow_48 : decode cX7_countBelow 48 = .ok (.ireturn, 1) := by decide +kernel
theorem dX7_remove_0 : decode cX7_remove 0 = .ok (.aload_n 0, 1) := by decide +kernel
theorem dX7_remove_1 : decode cX7_remove 1 = .ok (.iload_n 1, 1) := by decide +kernel
theorem dX7_remove_2 : decode cX7_remove 2 = .ok (.invokevirtual 88, 3) := by decide +kernel
theorem dX7_remove_5 : decode cX7_remove 5 = .ok (.ifCond .ne 5, 3) := by decide +kernel
theorem dX7_remove_8 : decode cX7_remove 8 = .ok (.iconst (-1), 1) := by decide +kernel
theorem dX7_remove_9 : decode cX7_remove 9 = .ok (.ireturn, 1) := by decide +kernel
theorem dX7_remove_10 : decode cX7_remove 10 = .ok (.iload_n 1, 1) := by decide +kernel
theorem dX7_remove_11 : decode cX7_remove 11 = .ok (.ifCond .ne 6, 3) := by decide +kernel
theorem dX7_remove_14 : decode cX7_remove 14 = .ok (.bipush (-2), 2) := by decide +kernel
theorem dX7_remove_16 : decode cX7_remove 16 = .ok (.ireturn, 1) := by decide +kernel
theorem dX7_remove_17 : decode cX7_remove 17 = .ok (.aload_n 0, 1) := by decide +kernel
theorem dX7_remove_18 : decode cX7_remove 18 = .ok (.invokevirtual 66, 3) := by decide +kernel
theorem dX7_remove_21 : decode cX7_remove 21 = .ok (.iconst 0, 1) := by decide +kernel
theorem dX7_remove_22 : decode cX7_remove 22 = .ok (.istore_n 2, 1) := by decide +kernel
theorem dX7_remove_23 : decode cX7_remove 23 = .ok (.iconst 0, 1) := by decide +kernel
theorem dX7_remove_24 : decode cX7_remove 24 = .ok (.istore_n 3, 1) := by decide +kernel
theorem dX7_remove_25 : decode cX7_remove 25 = .ok (.iload_n 3, 1) := by decide +kernel
theorem dX7_remove_26 : decode cX7_remove 26 = .ok (.bipush 24, 2) := by decide +kernel
theorem dX7_remove_28 : decode cX7_remove 28 = .ok (.if_icmp .ge 38, 3) := by decide +kernel
theorem dX7_remove_31 : decode cX7_remove 31 = .ok (.aload_n 0, 1) := by decide +kernel
theorem dX7_remove_32 : decode cX7_remove 32 = .ok (.getfield 25, 3) := by decide +kernel
theorem dX7_remove_35 : decode cX7_remove 35 = .ok (.iload_n 3, 1) := by decide +kernel
theorem dX7_remove_36 : decode cX7_remove 36 = .ok (.aload_n 0, 1) := by decide +kernel
theorem dX7_remove_37 : decode cX7_remove 37 = .ok (.iload_n 3, 1) := by decide +kernel
theorem dX7_remove_38 : decode cX7_remove 38 = .ok (.iconst 0, 1) := by decide +kernel
theorem dX7_remove_39 : decode cX7_remove 39 = .ok (.invokevirtual 77, 3) := by decide +kernel
theorem dX7_remove_42 : decode cX7_remove 42 = .ok (.ifCond .lt 16, 3) := by decide +kernel
theorem dX7_remove_45 : decode cX7_remove 45 = .ok (.aload_n 0, 1) := by decide +kernel
theorem dX7_remove_46 : decode cX7_remove 46 = .ok (.iload_n 3, 1) := by decide +kernel
theorem dX7_remove_47 : decode cX7_remove 47 = .ok (.iload_n 1, 1) := by decide +kernel
theorem dX7_remove_48 : decode cX7_remove 48 = .ok (.invokevirtual 98, 3) := by decide +kernel
theorem dX7_remove_51 : decode cX7_remove 51 = .ok (.ifCond .eq 7, 3) := by decide +kernel
theorem dX7_remove_54 : decode cX7_remove 54 = .ok (.iconst 1, 1) := by decide +kernel
theorem dX7_remove_55 : decode cX7_remove 55 = .ok (.goto 4, 3) := by decide +kernel
theorem dX7_remove_58 : decode cX7_remove 58 = .ok (.iconst 0, 1) := by decide +kernel
theorem dX7_remove_59 : decode cX7_remove 59 = .ok (.bastore, 1) := by decide +kernel
theorem dX7_remove_60 : decode cX7_remove 60 = .ok (.iinc 3 1, 3) := by decide +kernel
theorem dX7_remove_63 : decode cX7_remove 63 = .ok (.goto (-38), 3) := by decide +kernel
theorem dX7_remove_66 : decode cX7_remove 66 = .ok (.iconst 0, 1) := by decide +kernel
theorem dX7_remove_67 : decode cX7_remove 67 = .ok (.istore_n 3, 1) := by decide +kernel
theorem dX7_remove_68 : decode cX7_remove 68 = .ok (.iload_n 3, 1) := by decide +kernel
theorem dX7_remove_69 : decode cX7_remove 69 = .ok (.bipush 24, 2) := by decide +kernel
theorem dX7_remove_71 : decode cX7_remove 71 = .ok (.if_icmp .ge 35, 3) := by decide +kernel
theorem dX7_remove_74 : decode cX7_remove 74 = .ok (.aload_n 0, 1) := by decide +kernel
theorem dX7_remove_75 : decode cX7_remove 75 = .ok (.getfield 25, 3) := by decide +kernel
theorem dX7_remove_78 : decode cX7_remove 78 = .ok (.iload_n 3, 1) := by decide +kernel
theorem dX7_remove_79 : decode cX7_remove 79 = .ok (.baload, 1) := by decide +kernel
theorem dX7_remove_80 : decode cX7_remove 80 = .ok (.ifCond .eq 20, 3) := by decide +kernel
theorem dX7_remove_83 : decode cX7_remove 83 = .ok (.aload_n 0, 1) := by decide +kernel
theorem dX7_remove_84 : decode cX7_remove 84 = .ok (.getfield 7, 3) := by decide +kernel
theorem dX7_remove_87 : decode cX7_remove 87 = .ok (.sipush 128, 3) := by decide +kernel
theorem dX7_remove_90 : decode cX7_remove 90 = .ok (.bipush 10, 2) := by decide +kernel
theorem dX7_remove_92 : decode cX7_remove 92 = .ok (.iload_n 3, 1) := by decide +kernel
theorem dX7_remove_93 : decode cX7_remove 93 = .ok (.imul, 1) := by decide +kernel
theorem dX7_remove_94 : decode cX7_remove 94 = .ok (.iadd, 1) := by decide +kernel
theorem dX7_remove_95 : decode cX7_remove 95 = .ok (.iconst (-1), 1) := by decide +kernel
theorem dX7_remove_96 : decode cX7_remove 96 = .ok (.iastore, 1) := by decide +kernel
theorem dX7_remove_97 : decode cX7_remove 97 = .ok (.iinc 2 1, 3) := by decide +kernel
theorem dX7_remove_100 : decode cX7_remove 100 = .ok (.iinc 3 1, 3) := by decide +kernel
theorem dX7_remove_103 : decode cX7_remove 103 = .ok (.goto (-35), 3) := by decide +kernel
theorem dX7_remove_106 : decode cX7_remove 106 = .ok (.aload_n 0, 1) := by decide +kernel
theorem dX7_remove_107 : decode cX7_remove 107 = .ok (.iload_n 2, 1) := by decide +kernel
theorem dX7_remove_108 : decode cX7_remove 108 = .ok (.invokevirtual 69, 3) := by decide +kernel
theorem dX7_remove_111 : decode cX7_remove 111 = .ok (.ireturn, 1) := by decide +kernel
theorem dX7_move_0 : decode cX7_move 0 = .ok (.aload_n 0, 1) := by decide +kernel
theorem dX7_move_1 : decode cX7_move 1 = .ok (.iload_n 1, 1) := by decide +kernel
theorem dX7_move_2 : decode cX7_move 2 = .ok (.invokevirtual 88, 3) := by decide +kernel
theorem dX7_move_5 : decode cX7_move 5 = .ok (.ifCond .eq 11, 3) := by decide +kernel
theorem dX7_move_8 : decode cX7_move 8 = .ok (.aload_n 0, 1) := by decide +kernel
theorem dX7_move_9 : decode cX7_move 9 = .ok (.iload_n 2, 1) := by decide +kernel
theorem dX7_move_10 : decode cX7_move 10 = .ok (.invokevirtual 88, 3) := by decide +kernel
theorem dX7_move_13 : decode cX7_move 13 = .ok (.ifCond .ne 5, 3) := by decide +kernel
theorem dX7_move_16 : decode cX7_move 16 = .ok (.iconst (-1), 1) := by decide +kernel
theorem dX7_move_17 : decode cX7_move 17 = .ok (.ireturn, 1) := by decide +kernel
theorem dX7_move_18 : decode cX7_move 18 = .ok (.iload_n 1, 1) := by decide +kernel
theorem dX7_move_19 : decode cX7_move 19 = .ok (.ifCond .eq 21, 3) := by decide +kernel
theorem dX7_move_22 : decode cX7_move 22 = .ok (.aload_n 0, 1) := by decide +kernel
theorem dX7_move_23 : decode cX7_move 23 = .ok (.iload_n 2, 1) := by decide +kernel
theorem dX7_move_24 : decode cX7_move 24 = .ok (.iconst 0, 1) := by decide +kernel
theorem dX7_move_25 : decode cX7_move 25 = .ok (.invokevirtual 77, 3) := by decide +kernel
theorem dX7_move_28 : decode cX7_move 28 = .ok (.ifCond .ne 12, 3) := by decide +kernel
theorem dX7_move_31 : decode cX7_move 31 = .ok (.aload_n 0, 1) := by decide +kernel
theorem dX7_move_32 : decode cX7_move 32 = .ok (.iload_n 2, 1) := by decide +kernel
theorem dX7_move_33 : decode cX7_move 33 = .ok (.iload_n 1, 1) := by decide +kernel
theorem dX7_move_34 : decode cX7_move 34 = .ok (.invokevirtual 98, 3) := by decide +kernel
theorem dX7_move_37 : decode cX7_move 37 = .ok (.ifCond .eq 6, 3) := by decide +kernel
theorem dX7_move_40 : decode cX7_move 40 = .ok (.bipush (-2), 2) := by decide +kernel
theorem dX7_move_42 : decode cX7_move 42 = .ok (.ireturn, 1) := by decide +kernel
theorem dX7_move_43 : decode cX7_move 43 = .ok (.aload_n 0, 1) := by decide +kernel
theorem dX7_move_44 : decode cX7_move 44 = .ok (.iload_n 2, 1) := by decide +kernel
theorem dX7_move_45 : decode cX7_move 45 = .ok (.invokevirtual 81, 3) := by decide +kernel
theorem dX7_move_48 : decode cX7_move 48 = .ok (.iconst 1, 1) := by decide +kernel
theorem dX7_move_49 : decode cX7_move 49 = .ok (.iadd, 1) := by decide +kernel
theorem dX7_move_50 : decode cX7_move 50 = .ok (.aload_n 0, 1) := by decide +kernel
theorem dX7_move_51 : decode cX7_move 51 = .ok (.iload_n 1, 1) := by decide +kernel
theorem dX7_move_52 : decode cX7_move 52 = .ok (.invokevirtual 81, 3) := by decide +kernel
theorem dX7_move_55 : decode cX7_move 55 = .ok (.isub, 1) := by decide +kernel
theorem dX7_move_56 : decode cX7_move 56 = .ok (.istore_n 3, 1) := by decide +kernel
theorem dX7_move_57 : decode cX7_move 57 = .ok (.iconst 1, 1) := by decide +kernel
theorem dX7_move_58 : decode cX7_move 58 = .ok (.istore 4, 2) := by decide +kernel
theorem dX7_move_60 : decode cX7_move 60 = .ok (.iload 4, 2) := by decide +kernel
theorem dX7_move_62 : decode cX7_move 62 = .ok (.bipush 24, 2) := by decide +kernel
theorem dX7_move_64 : decode cX7_move 64 = .ok (.if_icmp .ge 44, 3) := by decide +kernel
theorem dX7_move_67 : decode cX7_move 67 = .ok (.aload_n 0, 1) := by decide +kernel
theorem dX7_move_68 : decode cX7_move 68 = .ok (.iload 4, 2) := by decide +kernel
theorem dX7_move_70 : decode cX7_move 70 = .ok (.iconst 0, 1) := by decide +kernel
theorem dX7_move_71 : decode cX7_move 71 = .ok (.invokevirtual 77, 3) := by decide +kernel
theorem dX7_move_74 : decode cX7_move 74 = .ok (.ifCond .lt 28, 3) := by decide +kernel
theorem dX7_move_77 : decode cX7_move 77 = .ok (.aload_n 0, 1) := by decide +kernel
theorem dX7_move_78 : decode cX7_move 78 = .ok (.iload 4, 2) := by decide +kernel
theorem dX7_move_80 : decode cX7_move 80 = .ok (.iload_n 1, 1) := by decide +kernel
theorem dX7_move_81 : decode cX7_move 81 = .ok (.invokevirtual 98, 3) := by decide +kernel
theorem dX7_move_84 : decode cX7_move 84 = .ok (.ifCond .eq 18, 3) := by decide +kernel
theorem dX7_move_87 : decode cX7_move 87 = .ok (.aload_n 0, 1) := by decide +kernel
theorem dX7_move_88 : decode cX7_move 88 = .ok (.iload 4, 2) := by decide +kernel
theorem dX7_move_90 : decode cX7_move 90 = .ok (.invokevirtual 81, 3) := by decide +kernel
theorem dX7_move_93 : decode cX7_move 93 = .ok (.iload_n 3, 1) := by decide +kernel
theorem dX7_move_94 : decode cX7_move 94 = .ok (.iadd, 1) := by decide +kernel
theorem dX7_move_95 : decode cX7_move 95 = .ok (.iconst 4, 1) := by decide +kernel
theorem dX7_move_96 : decode cX7_move 96 = .ok (.if_icmp .le 6, 3) := by decide +kernel
theorem dX7_move_99 : decode cX7_move 99 = .ok (.bipush (-2), 2) := by decide +kernel
theorem dX7_move_101 : decode cX7_move 101 = .ok (.ireturn, 1) := by decide +kernel
theorem dX7_move_102 : decode cX7_move 102 = .ok (.iinc 4 1, 3) := by decide +kernel
theorem dX7_move_105 : decode cX7_move 105 = .ok (.goto (-45), 3) := by decide +kernel
theorem dX7_move_108 : decode cX7_move 108 = .ok (.aload_n 0, 1) := by decide +kernel
theorem dX7_move_109 : decode cX7_move 109 = .ok (.invokevirtual 66, 3) := by decide +kernel
theorem dX7_move_112 : decode cX7_move 112 = .ok (.aload_n 0, 1) := by decide +kernel
theorem dX7_move_113 : decode cX7_move 113 = .ok (.getfield 7, 3) := by decide +kernel
theorem dX7_move_116 : decode cX7_move 116 = .ok (.bipush 8, 2) := by decide +kernel
theorem dX7_move_118 : decode cX7_move 118 = .ok (.dup2, 1) := by decide +kernel
theorem dX7_move_119 : decode cX7_move 119 = .ok (.iaload, 1) := by decide +kernel
theorem dX7_move_120 : decode cX7_move 120 = .ok (.iconst 1, 1) := by decide +kernel
theorem dX7_move_121 : decode cX7_move 121 = .ok (.iadd, 1) := by decide +kernel
theorem dX7_move_122 : decode cX7_move 122 = .ok (.iastore, 1) := by decide +kernel
theorem dX7_move_123 : decode cX7_move 123 = .ok (.aload_n 0, 1) := by decide +kernel
theorem dX7_move_124 : decode cX7_move 124 = .ok (.getfield 7, 3) := by decide +kernel
theorem dX7_move_127 : decode cX7_move 127 = .ok (.sipush 128, 3) := by decide +kernel
theorem dX7_move_130 : decode cX7_move 130 = .ok (.bipush 10, 2) := by decide +kernel
theorem dX7_move_132 : decode cX7_move 132 = .ok (.iload_n 1, 1) := by decide +kernel
theorem dX7_move_133 : decode cX7_move 133 = .ok (.imul, 1) := by decide +kernel
theorem dX7_move_134 : decode cX7_move 134 = .ok (.iadd, 1) := by decide +kernel
theorem dX7_move_135 : decode cX7_move 135 = .ok (.iconst 1, 1) := by decide +kernel
theorem dX7_move_136 : decode cX7_move 136 = .ok (.iadd, 1) := by decide +kernel
theorem dX7_move_137 : decode cX7_move 137 = .ok (.iload_n 2, 1) := by decide +kernel
theorem dX7_move_138 : decode cX7_move 138 = .ok (.iastore, 1) := by decide +kernel
theorem dX7_move_139 : decode cX7_move 139 = .ok (.aload_n 0, 1) := by decide +kernel
theorem dX7_move_140 : decode cX7_move 140 = .ok (.getfield 7, 3) := by decide +kernel
theorem dX7_move_143 : decode cX7_move 143 = .ok (.sipush 128, 3) := by decide +kernel
theorem dX7_move_146 : decode cX7_move 146 = .ok (.bipush 10, 2) := by decide +kernel
theorem dX7_move_148 : decode cX7_move 148 = .ok (.iload_n 1, 1) := by decide +kernel
theorem dX7_move_149 : decode cX7_move 149 = .ok (.imul, 1) := by decide +kernel
theorem dX7_move_150 : decode cX7_move 150 = .ok (.iadd, 1) := by decide +kernel
theorem dX7_move_151 : decode cX7_move 151 = .ok (.iconst 2, 1) := by decide +kernel
theorem dX7_move_152 : decode cX7_move 152 = .ok (.iadd, 1) := by decide +kernel
theorem dX7_move_153 : decode cX7_move 153 = .ok (.aload_n 0, 1) := by decide +kernel
theorem dX7_move_154 : decode cX7_move 154 = .ok (.getfield 7, 3) := by decide +kernel
theorem dX7_move_157 : decode cX7_move 157 = .ok (.bipush 8, 2) := by decide +kernel
theorem dX7_move_159 : decode cX7_move 159 = .ok (.iaload, 1) := by decide +kernel
theorem dX7_move_160 : decode cX7_move 160 = .ok (.iastore, 1) := by decide +kernel
theorem dX7_move_161 : decode cX7_move 161 = .ok (.aload_n 0, 1) := by decide +kernel
theorem dX7_move_162 : decode cX7_move 162 = .ok (.aload_n 0, 1) := by decide +kernel
theorem dX7_move_163 : decode cX7_move 163 = .ok (.iload_n 1, 1) := by decide +kernel
theorem dX7_move_164 : decode cX7_move 164 = .ok (.invokevirtual 81, 3) := by decide +kernel
theorem dX7_move_167 : decode cX7_move 167 = .ok (.invokevirtual 69, 3) := by decide +kernel
theorem dX7_move_170 : decode cX7_move 170 = .ok (.ireturn, 1) := by decide +kernel
theorem dX7_isChild_0 : decode cX7_isChild 0 = .ok (.iload_n 1, 1) := by decide +kernel
theorem dX7_isChild_1 : decode cX7_isChild 1 = .ok (.ifCond .le 26, 3) := by decide +kernel
theorem dX7_isChild_4 : decode cX7_isChild 4 = .ok (.aload_n 0, 1) := by decide +kernel
theorem dX7_isChild_5 : decode cX7_isChild 5 = .ok (.iload_n 1, 1) := by decide +kernel
theorem dX7_isChild_6 : decode cX7_isChild 6 = .ok (.iconst 0, 1) := by decide +kernel
theorem dX7_isChild_7 : decode cX7_isChild 7 = .ok (.invokevirtual 77, 3) := by decide +kernel
theorem dX7_isChild_10 : decode cX7_isChild 10 = .ok (.ifCond .lt 17, 3) := by decide +kernel
theorem dX7_isChild_13 : decode cX7_isChild 13 = .ok (.aload_n 0, 1) := by decide +kernel
theorem dX7_isChild_14 : decode cX7_isChild 14 = .ok (.iload_n 1, 1) := by decide +kernel
theorem dX7_isChild_15 : decode cX7_isChild 15 = .ok (.iconst 1, 1) := by decide +kernel
theorem dX7_isChild_16 : decode cX7_isChild 16 = .ok (.invokevirtual 77, 3) := by decide +kernel
theorem dX7_isChild_19 : decode cX7_isChild 19 = .ok (.iload_n 2, 1) := by decide +kernel
theorem dX7_isChild_20 : decode cX7_isChild 20 = .ok (.if_icmp .ne 7, 3) := by decide +kernel
theorem dX7_isChild_23 : decode cX7_isChild 23 = .ok (.iconst 1, 1) := by decide +kernel
theorem dX7_isChild_24 : decode cX7_isChild 24 = .ok (.goto 4, 3) := by decide +kernel
theorem dX7_isChild_27 : decode cX7_isChild 27 = .ok (.iconst 0, 1) := by decide +kernel
theorem dX7_isChild_28 : decode cX7_isChild 28 = .ok (.ireturn, 1) := by decide +kernel
theorem dX7_children_0 : decode cX7_children 0 = .ok (.iconst 0, 1) := by decide +kernel
theorem dX7_children_1 : decode cX7_children 1 = .ok (.istore_n 3, 1) := by decide +kernel
theorem dX7_children_2 : decode cX7_children 2 = .ok (.iconst 1, 1) := by decide +kernel
theorem dX7_children_3 : decode cX7_children 3 = .ok (.istore 4, 2) := by decide +kernel
theorem dX7_children_5 : decode cX7_children 5 = .ok (.iload 4, 2) := by decide +kernel
theorem dX7_children_7 : decode cX7_children 7 = .ok (.bipush 24, 2) := by decide +kernel
theorem dX7_children_9 : decode cX7_children 9 = .ok (.if_icmp .ge 38, 3) := by decide +kernel
theorem dX7_children_12 : decode cX7_children 12 = .ok (.iload_n 3, 1) := by decide +kernel
theorem dX7_children_13 : decode cX7_children 13 = .ok (.aload_n 0, 1) := by decide +kernel
theorem dX7_children_14 : decode cX7_children 14 = .ok (.iload 4, 2) := by decide +kernel
theorem dX7_children_16 : decode cX7_children 16 = .ok (.iload_n 1, 1) := by decide +kernel
theorem dX7_children_17 : decode cX7_children 17 = .ok (.invokevirtual 102, 3) := by decide +kernel
theorem dX7_children_20 : decode cX7_children 20 = .ok (.ifCond .eq 18, 3) := by decide +kernel
theorem dX7_children_23 : decode cX7_children 23 = .ok (.aload_n 0, 1) := by decide +kernel
theorem dX7_children_24 : decode cX7_children 24 = .ok (.iload 4, 2) := by decide +kernel
theorem dX7_children_26 : decode cX7_children 26 = .ok (.iconst 2, 1) := by decide +kernel
theorem dX7_children_27 : decode cX7_children 27 = .ok (.invokevirtual 77, 3) := by decide +kernel
theorem dX7_children_30 : decode cX7_children 30 = .ok (.iload_n 2, 1) := by decide +kernel
theorem dX7_children_31 : decode cX7_children 31 = .ok (.if_icmp .ge 7, 3) := by decide +kernel
theorem dX7_children_34 : decode cX7_children 34 = .ok (.iconst 1, 1) := by decide +kernel
theorem dX7_children_35 : decode cX7_children 35 = .ok (.goto 4, 3) := by decide +kernel
theorem dX7_children_38 : decode cX7_children 38 = .ok (.iconst 0, 1) := by decide +kernel
theorem dX7_children_39 : decode cX7_children 39 = .ok (.iadd, 1) := by decide +kernel
theorem dX7_children_40 : decode cX7_children 40 = .ok (.istore_n 3, 1) := by decide +kernel
theorem dX7_children_41 : decode cX7_children 41 = .ok (.iinc 4 1, 3) := by decide +kernel
theorem dX7_children_44 : decode cX7_children 44 = .ok (.goto (-39), 3) := by decide +kernel
theorem dX7_children_47 : decode cX7_children 47 = .ok (.iload_n 3, 1) := by decide +kernel
theorem dX7_children_48 : decode cX7_children 48 = .ok (.ireturn, 1) := by decide +kernel
theorem dX7_nodeInfo_0 : decode cX7_nodeInfo 0 = .ok (.aload_n 0, 1) := by decide +kernel
theorem dX7_nodeInfo_1 : decode cX7_nodeInfo 1 = .ok (.iload_n 1, 1) := by decide +kernel
theorem dX7_nodeInfo_2 : decode cX7_nodeInfo 2 = .ok (.invokevirtual 88, 3) := by decide +kernel
theorem dX7_nodeInfo_5 : decode cX7_nodeInfo 5 = .ok (.ifCond .eq 12, 3) := by decide +kernel
theorem dX7_nodeInfo_8 : decode cX7_nodeInfo 8 = .ok (.iload_n 2, 1) := by decide +kernel
theorem dX7_nodeInfo_9 : decode cX7_nodeInfo 9 = .ok (.iconst 0, 1) := by decide +kernel
theorem dX7_nodeInfo_10 : decode cX7_nodeInfo 10 = .ok (.iconst 5, 1) := by decide +kernel
theorem dX7_nodeInfo_11 : decode cX7_nodeInfo 11 = .ok (.invokestatic 73, 3) := by decide +kernel
theorem dX7_nodeInfo_14 : decode cX7_nodeInfo 14 = .ok (.ifCond .ne 5, 3) := by decide +kernel
theorem dX7_nodeInfo_17 : decode cX7_nodeInfo 17 = .ok (.iconst (-1), 1) := by decide +kernel
theorem dX7_nodeInfo_18 : decode cX7_nodeInfo 18 = .ok (.ireturn, 1) := by decide +kernel
theorem dX7_nodeInfo_19 : decode cX7_nodeInfo 19 = .ok (.iload_n 2, 1) := by decide +kernel
theorem dX7_nodeInfo_20 : decode cX7_nodeInfo 20 = .ok (.tableswitch 77 0 4 #[36, 43, 50, 56, 71], 36) := by decide +kernel
theorem dX7_nodeInfo_56 : decode cX7_nodeInfo 56 = .ok (.aload_n 0, 1) := by decide +kernel
theorem dX7_nodeInfo_57 : decode cX7_nodeInfo 57 = .ok (.iload_n 1, 1) := by decide +kernel
theorem dX7_nodeInfo_58 : decode cX7_nodeInfo 58 = .ok (.iconst 0, 1) := by decide +kernel
theorem dX7_nodeInfo_59 : decode cX7_nodeInfo 59 = .ok (.invokevirtual 77, 3) := by decide +kernel
theorem dX7_nodeInfo_62 : decode cX7_nodeInfo 62 = .ok (.ireturn, 1) := by decide +kernel
theorem dX7_nodeInfo_63 : decode cX7_nodeInfo 63 = .ok (.aload_n 0, 1) := by decide +kernel
theorem dX7_nodeInfo_64 : decode cX7_nodeInfo 64 = .ok (.iload_n 1, 1) := by decide +kernel
theorem dX7_nodeInfo_65 : decode cX7_nodeInfo 65 = .ok (.iconst 1, 1) := by decide +kernel
theorem dX7_nodeInfo_66 : decode cX7_nodeInfo 66 = .ok (.invokevirtual 77, 3) := by decide +kernel
theorem dX7_nodeInfo_69 : decode cX7_nodeInfo 69 = .ok (.ireturn, 1) := by decide +kernel
theorem dX7_nodeInfo_70 : decode cX7_nodeInfo 70 = .ok (.aload_n 0, 1) := by decide +kernel
theorem dX7_nodeInfo_71 : decode cX7_nodeInfo 71 = .ok (.iload_n 1, 1) := by decide +kernel
theorem dX7_nodeInfo_72 : decode cX7_nodeInfo 72 = .ok (.invokevirtual 81, 3) := by decide +kernel
theorem dX7_nodeInfo_75 : decode cX7_nodeInfo 75 = .ok (.ireturn, 1) := by decide +kernel
theorem dX7_nodeInfo_76 : decode cX7_nodeInfo 76 = .ok (.aload_n 0, 1) := by decide +kernel
theorem dX7_nodeInfo_77 : decode cX7_nodeInfo 77 = .ok (.iload_n 1, 1) := by decide +kernel
theorem dX7_nodeInfo_78 : decode cX7_nodeInfo 78 = .ok (.aload_n 0, 1) := by decide +kernel
theorem dX7_nodeInfo_79 : decode cX7_nodeInfo 79 = .ok (.getfield 7, 3) := by decide +kernel
theorem dX7_nodeInfo_82 : decode cX7_nodeInfo 82 = .ok (.bipush 8, 2) := by decide +kernel
theorem dX7_nodeInfo_84 : decode cX7_nodeInfo 84 = .ok (.iaload, 1) := by decide +kernel
theorem dX7_nodeInfo_85 : decode cX7_nodeInfo 85 = .ok (.iconst 1, 1) := by decide +kernel
theorem dX7_nodeInfo_86 : decode cX7_nodeInfo 86 = .ok (.iadd, 1) := by decide +kernel
theorem dX7_nodeInfo_87 : decode cX7_nodeInfo 87 = .ok (.invokevirtual 105, 3) := by decide +kernel
theorem dX7_nodeInfo_90 : decode cX7_nodeInfo 90 = .ok (.ireturn, 1) := by decide +kernel
theorem dX7_nodeInfo_91 : decode cX7_nodeInfo 91 = .ok (.aload_n 0, 1) := by decide +kernel
theorem dX7_nodeInfo_92 : decode cX7_nodeInfo 92 = .ok (.iload_n 1, 1) := by decide +kernel
theorem dX7_nodeInfo_93 : decode cX7_nodeInfo 93 = .ok (.invokevirtual 108, 3) := by decide +kernel
theorem dX7_nodeInfo_96 : decode cX7_nodeInfo 96 = .ok (.ireturn, 1) := by decide +kernel
theorem dX7_nodeInfo_97 : decode cX7_nodeInfo 97 = .ok (.iload_n 1, 1) := by decide +kernel
theorem dX7_nodeInfo_98 : decode cX7_nodeInfo 98 = .ok (.ifCond .ne 7, 3) := by decide +kernel
theorem dX7_nodeInfo_101 : decode cX7_nodeInfo 101 = .ok (.iconst 0, 1) := by decide +kernel
theorem dX7_nodeInfo_102 : decode cX7_nodeInfo 102 = .ok (.goto 19, 3) := by decide +kernel
theorem dX7_nodeInfo_105 : decode cX7_nodeInfo 105 = .ok (.aload_n 0, 1) := by decide +kernel
theorem dX7_nodeInfo_106 : decode cX7_nodeInfo 106 = .ok (.aload_n 0, 1) := by decide +kernel
theorem dX7_nodeInfo_107 : decode cX7_nodeInfo 107 = .ok (.iload_n 1, 1) := by decide +kernel
theorem dX7_nodeInfo_108 : decode cX7_nodeInfo 108 = .ok (.iconst 1, 1) := by decide +kernel
theorem dX7_nodeInfo_109 : decode cX7_nodeInfo 109 = .ok (.invokevirtual 77, 3) := by decide +kernel
theorem dX7_nodeInfo_112 : decode cX7_nodeInfo 112 = .ok (.aload_n 0, 1) := by decide +kernel
theorem dX7_nodeInfo_113 : decode cX7_nodeInfo 113 = .ok (.iload_n 1, 1) := by decide +kernel
theorem dX7_nodeInfo_114 : decode cX7_nodeInfo 114 = .ok (.iconst 2, 1) := by decide +kernel
theorem dX7_nodeInfo_115 : decode cX7_nodeInfo 115 = .ok (.invokevirtual 77, 3) := by decide +kernel
theorem dX7_nodeInfo_118 : decode cX7_nodeInfo 118 = .ok (.invokevirtual 105, 3) := by decide +kernel
theorem dX7_nodeInfo_121 : decode cX7_nodeInfo 121 = .ok (.ireturn, 1) := by decide +kernel
theorem dX7_nodeCount_0 : decode cX7_nodeCount 0 = .ok (.aload_n 0, 1) := by decide +kernel
theorem dX7_nodeCount_1 : decode cX7_nodeCount 1 = .ok (.iconst 0, 1) := by decide +kernel
theorem dX7_nodeCount_2 : decode cX7_nodeCount 2 = .ok (.invokevirtual 108, 3) := by decide +kernel
theorem dX7_nodeCount_5 : decode cX7_nodeCount 5 = .ok (.iconst 1, 1) := by decide +kernel
theorem dX7_nodeCount_6 : decode cX7_nodeCount 6 = .ok (.iadd, 1) := by decide +kernel
theorem dX7_nodeCount_7 : decode cX7_nodeCount 7 = .ok (.ireturn, 1) := by decide +kernel
theorem dX7_set_0 : decode cX7_set 0 = .ok (.iload_n 1, 1) := by decide +kernel
theorem dX7_set_1 : decode cX7_set 1 = .ok (.iconst 0, 1) := by decide +kernel
theorem dX7_set_2 : decode cX7_set 2 = .ok (.iconst 2, 1) := by decide +kernel
theorem dX7_set_3 : decode cX7_set 3 = .ok (.invokestatic 73, 3) := by decide +kernel
theorem dX7_set_6 : decode cX7_set 6 = .ok (.ifCond .eq 34, 3) := by decide +kernel
theorem dX7_set_9 : decode cX7_set 9 = .ok (.iload_n 2, 1) := by decide +kernel
theorem dX7_set_10 : decode cX7_set 10 = .ok (.iconst 0, 1) := by decide +kernel
theorem dX7_set_11 : decode cX7_set 11 = .ok (.iload_n 1, 1) := by decide +kernel
theorem dX7_set_12 : decode cX7_set 12 = .ok (.ifCond .ne 8, 3) := by decide +kernel
theorem dX7_set_15 : decode cX7_set 15 = .ok (.bipush 100, 2) := by decide +kernel
theorem dX7_set_17 : decode cX7_set 17 = .ok (.goto 17, 3) := by decide +kernel
theorem dX7_set_20 : decode cX7_set 20 = .ok (.iload_n 1, 1) := by decide +kernel
theorem dX7_set_21 : decode cX7_set 21 = .ok (.iconst 1, 1) := by decide +kernel
theorem dX7_set_22 : decode cX7_set 22 = .ok (.if_icmp .ne 9, 3) := by decide +kernel
theorem dX7_set_25 : decode cX7_set 25 = .ok (.sipush 255, 3) := by decide +kernel
theorem dX7_set_28 : decode cX7_set 28 = .ok (.goto 6, 3) := by decide +kernel
theorem dX7_set_31 : decode cX7_set 31 = .ok (.sipush 1785, 3) := by decide +kernel
theorem dX7_set_34 : decode cX7_set 34 = .ok (.invokestatic 73, 3) := by decide +kernel
theorem dX7_set_37 : decode cX7_set 37 = .ok (.ifCond .ne 5, 3) := by decide +kernel
theorem dX7_set_40 : decode cX7_set 40 = .ok (.iconst (-1), 1) := by decide +kernel
theorem dX7_set_41 : decode cX7_set 41 = .ok (.ireturn, 1) := by decide +kernel
theorem dX7_set_42 : decode cX7_set 42 = .ok (.aload_n 0, 1) := by decide +kernel
theorem dX7_set_43 : decode cX7_set 43 = .ok (.iconst 2, 1) := by decide +kernel
theorem dX7_set_44 : decode cX7_set 44 = .ok (.iload_n 1, 1) := by decide +kernel
theorem dX7_set_45 : decode cX7_set 45 = .ok (.iadd, 1) := by decide +kernel
theorem dX7_set_46 : decode cX7_set 46 = .ok (.iload_n 2, 1) := by decide +kernel
theorem dX7_set_47 : decode cX7_set 47 = .ok (.invokevirtual 111, 3) := by decide +kernel
theorem dX7_set_50 : decode cX7_set 50 = .ok (.ireturn, 1) := by decide +kernel
theorem dX7_setKnockout_0 : decode cX7_setKnockout 0 = .ok (.iload_n 1, 1) := by decide +kernel
theorem dX7_setKnockout_1 : decode cX7_setKnockout 1 = .ok (.iconst 0, 1) := by decide +kernel
theorem dX7_setKnockout_2 : decode cX7_setKnockout 2 = .ok (.iconst 2, 1) := by decide +kernel
theorem dX7_setKnockout_3 : decode cX7_setKnockout 3 = .ok (.invokestatic 73, 3) := by decide +kernel
theorem dX7_setKnockout_6 : decode cX7_setKnockout 6 = .ok (.ifCond .eq 23, 3) := by decide +kernel
theorem dX7_setKnockout_9 : decode cX7_setKnockout 9 = .ok (.iload_n 2, 1) := by decide +kernel
theorem dX7_setKnockout_10 : decode cX7_setKnockout 10 = .ok (.iconst 0, 1) := by decide +kernel
theorem dX7_setKnockout_11 : decode cX7_setKnockout 11 = .ok (.iconst 1, 1) := by decide +kernel
theorem dX7_setKnockout_12 : decode cX7_setKnockout 12 = .ok (.invokestatic 73, 3) := by decide +kernel
theorem dX7_setKnockout_15 : decode cX7_setKnockout 15 = .ok (.ifCond .eq 14, 3) := by decide +kernel
theorem dX7_setKnockout_18 : decode cX7_setKnockout 18 = .ok (.aload_n 0, 1) := by decide +kernel
theorem dX7_setKnockout_19 : decode cX7_setKnockout 19 = .ok (.iconst 5, 1) := by decide +kernel
theorem dX7_setKnockout_20 : decode cX7_setKnockout 20 = .ok (.iload_n 1, 1) := by decide +kernel
theorem dX7_setKnockout_21 : decode cX7_setKnockout 21 = .ok (.iadd, 1) := by decide +kernel
theorem dX7_setKnockout_22 : decode cX7_setKnockout 22 = .ok (.iload_n 2, 1) := by decide +kernel
theorem dX7_setKnockout_23 : decode cX7_setKnockout 23 = .ok (.invokevirtual 111, 3) := by decide +kernel
theorem dX7_setKnockout_26 : decode cX7_setKnockout 26 = .ok (.goto 4, 3) := by decide +kernel
theorem dX7_setKnockout_29 : decode cX7_setKnockout 29 = .ok (.iconst (-1), 1) := by decide +kernel
theorem dX7_setKnockout_30 : decode cX7_setKnockout 30 = .ok (.ireturn, 1) := by decide +kernel
theorem dX7_isPlate_0 : decode cX7_isPlate 0 = .ok (.iload_n 0, 1) := by decide +kernel
theorem dX7_isPlate_1 : decode cX7_isPlate 1 = .ok (.iconst 0, 1) := by decide +kernel
theorem dX7_isPlate_2 : decode cX7_isPlate 2 = .ok (.bipush 6, 2) := by decide +kernel
theorem dX7_isPlate_4 : decode cX7_isPlate 4 = .ok (.invokestatic 73, 3) := by decide +kernel
theorem dX7_isPlate_7 : decode cX7_isPlate 7 = .ok (.ireturn, 1) := by decide +kernel
theorem dX7_isValue_0 : decode cX7_isValue 0 = .ok (.iload_n 0, 1) := by decide +kernel
theorem dX7_isValue_1 : decode cX7_isValue 1 = .ok (.iconst 0, 1) := by decide +kernel
theorem dX7_isValue_2 : decode cX7_isValue 2 = .ok (.sipush 255, 3) := by decide +kernel
theorem dX7_isValue_5 : decode cX7_isValue 5 = .ok (.invokestatic 73, 3) := by decide +kernel
theorem dX7_isValue_8 : decode cX7_isValue 8 = .ok (.ireturn, 1) := by decide +kernel
theorem dX7_pointAt_0 : decode cX7_pointAt 0 = .ok (.bipush 9, 2) := by decide +kernel
theorem dX7_pointAt_2 : decode cX7_pointAt 2 = .ok (.bipush 17, 2) := by decide +kernel
theorem dX7_pointAt_4 : decode cX7_pointAt 4 = .ok (.iload_n 1, 1) := by decide +kernel
theorem dX7_pointAt_5 : decode cX7_pointAt 5 = .ok (.imul, 1) := by decide +kernel
theorem dX7_pointAt_6 : decode cX7_pointAt 6 = .ok (.iadd, 1) := by decide +kernel
theorem dX7_pointAt_7 : decode cX7_pointAt 7 = .ok (.istore_n 3, 1) := by decide +kernel
theorem dX7_pointAt_8 : decode cX7_pointAt 8 = .ok (.iconst 0, 1) := by decide +kernel
theorem dX7_pointAt_9 : decode cX7_pointAt 9 = .ok (.istore 4, 2) := by decide +kernel
theorem dX7_pointAt_11 : decode cX7_pointAt 11 = .ok (.aload_n 0, 1) := by decide +kernel
theorem dX7_pointAt_12 : decode cX7_pointAt 12 = .ok (.getfield 7, 3) := by decide +kernel
theorem dX7_pointAt_15 : decode cX7_pointAt 15 = .ok (.iload_n 3, 1) := by decide +kernel
theorem dX7_pointAt_16 : decode cX7_pointAt 16 = .ok (.iconst 1, 1) := by decide +kernel
theorem dX7_pointAt_17 : decode cX7_pointAt 17 = .ok (.iadd, 1) := by decide +kernel
theorem dX7_pointAt_18 : decode cX7_pointAt 18 = .ok (.iconst 2, 1) := by decide +kernel
theorem dX7_pointAt_19 : decode cX7_pointAt 19 = .ok (.iload 4, 2) := by decide +kernel
theorem dX7_pointAt_21 : decode cX7_pointAt 21 = .ok (.imul, 1) := by decide +kernel
theorem dX7_pointAt_22 : decode cX7_pointAt 22 = .ok (.iadd, 1) := by decide +kernel
theorem dX7_pointAt_23 : decode cX7_pointAt 23 = .ok (.iaload, 1) := by decide +kernel
theorem dX7_pointAt_24 : decode cX7_pointAt 24 = .ok (.iload_n 2, 1) := by decide +kernel
theorem dX7_pointAt_25 : decode cX7_pointAt 25 = .ok (.if_icmp .ge 9, 3) := by decide +kernel
theorem dX7_pointAt_28 : decode cX7_pointAt 28 = .ok (.iinc 4 1, 3) := by decide +kernel
theorem dX7_pointAt_31 : decode cX7_pointAt 31 = .ok (.goto (-20), 3) := by decide +kernel
theorem dX7_pointAt_34 : decode cX7_pointAt 34 = .ok (.iload 4, 2) := by decide +kernel
theorem dX7_pointAt_36 : decode cX7_pointAt 36 = .ok (.ireturn, 1) := by decide +kernel
theorem dX7_valueOf_0 : decode cX7_valueOf 0 = .ok (.bipush 9, 2) := by decide +kernel
theorem dX7_valueOf_2 : decode cX7_valueOf 2 = .ok (.bipush 17, 2) := by decide +kernel
theorem dX7_valueOf_4 : decode cX7_valueOf 4 = .ok (.iload_n 1, 1) := by decide +kernel
theorem dX7_valueOf_5 : decode cX7_valueOf 5 = .ok (.imul, 1) := by decide +kernel
theorem dX7_valueOf_6 : decode cX7_valueOf 6 = .ok (.iadd, 1) := by decide +kernel
theorem dX7_valueOf_7 : decode cX7_valueOf 7 = .ok (.istore_n 3, 1) := by decide +kernel
theorem dX7_valueOf_8 : decode cX7_valueOf 8 = .ok (.aload_n 0, 1) := by decide +kernel
theorem dX7_valueOf_9 : decode cX7_valueOf 9 = .ok (.iload_n 1, 1) := by decide +kernel
theorem dX7_valueOf_10 : decode cX7_valueOf 10 = .ok (.iload_n 2, 1) := by decide +kernel
theorem dX7_valueOf_11 : decode cX7_valueOf 11 = .ok (.invokevirtual 114, 3) := by decide +kernel
theorem dX7_valueOf_14 : decode cX7_valueOf 14 = .ok (.istore 4, 2) := by decide +kernel
theorem dX7_valueOf_16 : decode cX7_valueOf 16 = .ok (.aload_n 0, 1) := by decide +kernel
theorem dX7_valueOf_17 : decode cX7_valueOf 17 = .ok (.getfield 7, 3) := by decide +kernel
theorem dX7_valueOf_20 : decode cX7_valueOf 20 = .ok (.iload_n 3, 1) := by decide +kernel
theorem dX7_valueOf_21 : decode cX7_valueOf 21 = .ok (.iconst 1, 1) := by decide +kernel
theorem dX7_valueOf_22 : decode cX7_valueOf 22 = .ok (.iadd, 1) := by decide +kernel
theorem dX7_valueOf_23 : decode cX7_valueOf 23 = .ok (.iconst 2, 1) := by decide +kernel
theorem dX7_valueOf_24 : decode cX7_valueOf 24 = .ok (.iload 4, 2) := by decide +kernel
theorem dX7_valueOf_26 : decode cX7_valueOf 26 = .ok (.imul, 1) := by decide +kernel
theorem dX7_valueOf_27 : decode cX7_valueOf 27 = .ok (.iadd, 1) := by decide +kernel
theorem dX7_valueOf_28 : decode cX7_valueOf 28 = .ok (.iaload, 1) := by decide +kernel
theorem dX7_valueOf_29 : decode cX7_valueOf 29 = .ok (.istore 5, 2) := by decide +kernel
theorem dX7_valueOf_31 : decode cX7_valueOf 31 = .ok (.aload_n 0, 1) := by decide +kernel
theorem dX7_valueOf_32 : decode cX7_valueOf 32 = .ok (.getfield 7, 3) := by decide +kernel
theorem dX7_valueOf_35 : decode cX7_valueOf 35 = .ok (.iload_n 3, 1) := by decide +kernel
theorem dX7_valueOf_36 : decode cX7_valueOf 36 = .ok (.iconst 2, 1) := by decide +kernel
theorem dX7_valueOf_37 : decode cX7_valueOf 37 = .ok (.iadd, 1) := by decide +kernel
theorem dX7_valueOf_38 : decode cX7_valueOf 38 = .ok (.iconst 2, 1) := by decide +kernel
theorem dX7_valueOf_39 : decode cX7_valueOf 39 = .ok (.iload 4, 2) := by decide +kernel
theorem dX7_valueOf_41 : decode cX7_valueOf 41 = .ok (.imul, 1) := by decide +kernel
theorem dX7_valueOf_42 : decode cX7_valueOf 42 = .ok (.iadd, 1) := by decide +kernel
theorem dX7_valueOf_43 : decode cX7_valueOf 43 = .ok (.iaload, 1) := by decide +kernel
theorem dX7_valueOf_44 : decode cX7_valueOf 44 = .ok (.istore 6, 2) := by decide +kernel
theorem dX7_valueOf_46 : decode cX7_valueOf 46 = .ok (.iload 5, 2) := by decide +kernel
theorem dX7_valueOf_48 : decode cX7_valueOf 48 = .ok (.iload_n 2, 1) := by decide +kernel
theorem dX7_valueOf_49 : decode cX7_valueOf 49 = .ok (.if_icmp .ne 6, 3) := by decide +kernel
theorem dX7_valueOf_52 : decode cX7_valueOf 52 = .ok (.iload 6, 2) := by decide +kernel
theorem dX7_valueOf_54 : decode cX7_valueOf 54 = .ok (.ireturn, 1) := by decide +kernel
theorem dX7_valueOf_55 : decode cX7_valueOf 55 = .ok (.aload_n 0, 1) := by decide +kernel
theorem dX7_valueOf_56 : decode cX7_valueOf 56 = .ok (.getfield 7, 3) := by decide +kernel
theorem dX7_valueOf_59 : decode cX7_valueOf 59 = .ok (.iload_n 3, 1) := by decide +kernel
theorem dX7_valueOf_60 : decode cX7_valueOf 60 = .ok (.iconst 2, 1) := by decide +kernel
theorem dX7_valueOf_61 : decode cX7_valueOf 61 = .ok (.iload 4, 2) := by decide +kernel
theorem dX7_valueOf_63 : decode cX7_valueOf 63 = .ok (.imul, 1) := by decide +kernel
theorem dX7_valueOf_64 : decode cX7_valueOf 64 = .ok (.iadd, 1) := by decide +kernel
theorem dX7_valueOf_65 : decode cX7_valueOf 65 = .ok (.iconst 1, 1) := by decide +kernel
theorem dX7_valueOf_66 : decode cX7_valueOf 66 = .ok (.isub, 1) := by decide +kernel
theorem dX7_valueOf_67 : decode cX7_valueOf 67 = .ok (.iaload, 1) := by decide +kernel
theorem dX7_valueOf_68 : decode cX7_valueOf 68 = .ok (.istore 7, 2) := by decide +kernel
theorem dX7_valueOf_70 : decode cX7_valueOf 70 = .ok (.aload_n 0, 1) := by decide +kernel
theorem dX7_valueOf_71 : decode cX7_valueOf 71 = .ok (.getfield 7, 3) := by decide +kernel
theorem dX7_valueOf_74 : decode cX7_valueOf 74 = .ok (.iload_n 3, 1) := by decide +kernel
theorem dX7_valueOf_75 : decode cX7_valueOf 75 = .ok (.iconst 2, 1) := by decide +kernel
theorem dX7_valueOf_76 : decode cX7_valueOf 76 = .ok (.iload 4, 2) := by decide +kernel
theorem dX7_valueOf_78 : decode cX7_valueOf 78 = .ok (.imul, 1) := by decide +kernel
theorem dX7_valueOf_79 : decode cX7_valueOf 79 = .ok (.iadd, 1) := by decide +kernel
theorem dX7_valueOf_80 : decode cX7_valueOf 80 = .ok (.iaload, 1) := by decide +kernel
theorem dX7_valueOf_81 : decode cX7_valueOf 81 = .ok (.istore 8, 2) := by decide +kernel
theorem dX7_valueOf_83 : decode cX7_valueOf 83 = .ok (.iload 8, 2) := by decide +kernel
theorem dX7_valueOf_85 : decode cX7_valueOf 85 = .ok (.iload 6, 2) := by decide +kernel
theorem dX7_valueOf_87 : decode cX7_valueOf 87 = .ok (.iload 8, 2) := by decide +kernel
theorem dX7_valueOf_89 : decode cX7_valueOf 89 = .ok (.isub, 1) := by decide +kernel
theorem dX7_valueOf_90 : decode cX7_valueOf 90 = .ok (.iload_n 2, 1) := by decide +kernel
theorem dX7_valueOf_91 : decode cX7_valueOf 91 = .ok (.iload 7, 2) := by decide +kernel
theorem dX7_valueOf_93 : decode cX7_valueOf 93 = .ok (.isub, 1) := by decide +kernel
theorem dX7_valueOf_94 : decode cX7_valueOf 94 = .ok (.imul, 1) := by decide +kernel
theorem dX7_valueOf_95 : decode cX7_valueOf 95 = .ok (.iload 5, 2) := by decide +kernel
theorem dX7_valueOf_97 : decode cX7_valueOf 97 = .ok (.iload 7, 2) := by decide +kernel
theorem dX7_valueOf_99 : decode cX7_valueOf 99 = .ok (.isub, 1) := by decide +kernel
theorem dX7_valueOf_100 : decode cX7_valueOf 100 = .ok (.idiv, 1) := by decide +kernel
theorem dX7_valueOf_101 : decode cX7_valueOf 101 = .ok (.iadd, 1) := by decide +kernel
theorem dX7_valueOf_102 : decode cX7_valueOf 102 = .ok (.ireturn, 1) := by decide +kernel
theorem dX7_setPoint_0 : decode cX7_setPoint 0 = .ok (.iload_n 1, 1) := by decide +kernel
theorem dX7_setPoint_1 : decode cX7_setPoint 1 = .ok (.invokestatic 117, 3) := by decide +kernel
theorem dX7_setPoint_4 : decode cX7_setPoint 4 = .ok (.ifCond .eq 17, 3) := by decide +kernel
theorem dX7_setPoint_7 : decode cX7_setPoint 7 = .ok (.iload_n 2, 1) := by decide +kernel
theorem dX7_setPoint_8 : decode cX7_setPoint 8 = .ok (.invokestatic 120, 3) := by decide +kernel
theorem dX7_setPoint_11 : decode cX7_setPoint 11 = .ok (.ifCond .eq 10, 3) := by decide +kernel
theorem dX7_setPoint_14 : decode cX7_setPoint 14 = .ok (.iload_n 3, 1) := by decide +kernel
theorem dX7_setPoint_15 : decode cX7_setPoint 15 = .ok (.invokestatic 120, 3) := by decide +kernel
theorem dX7_setPoint_18 : decode cX7_setPoint 18 = .ok (.ifCond .ne 5, 3) := by decide +kernel
theorem dX7_setPoint_21 : decode cX7_setPoint 21 = .ok (.iconst (-1), 1) := by decide +kernel
theorem dX7_setPoint_22 : decode cX7_setPoint 22 = .ok (.ireturn, 1) := by decide +kernel
theorem dX7_setPoint_23 : decode cX7_setPoint 23 = .ok (.bipush 9, 2) := by decide +kernel
theorem dX7_setPoint_25 : decode cX7_setPoint 25 = .ok (.bipush 17, 2) := by decide +kernel
theorem dX7_setPoint_27 : decode cX7_setPoint 27 = .ok (.iload_n 1, 1) := by decide +kernel
theorem dX7_setPoint_28 : decode cX7_setPoint 28 = .ok (.imul, 1) := by decide +kernel
theorem dX7_setPoint_29 : decode cX7_setPoint 29 = .ok (.iadd, 1) := by decide +kernel
theorem dX7_setPoint_30 : decode cX7_setPoint 30 = .ok (.istore 4, 2) := by decide +kernel
theorem dX7_setPoint_32 : decode cX7_setPoint 32 = .ok (.aload_n 0, 1) := by decide +kernel
theorem dX7_setPoint_33 : decode cX7_setPoint 33 = .ok (.getfield 7, 3) := by decide +kernel
theorem dX7_setPoint_36 : decode cX7_setPoint 36 = .ok (.iload 4, 2) := by decide +kernel
theorem dX7_setPoint_38 : decode cX7_setPoint 38 = .ok (.iaload, 1) := by decide +kernel
theorem dX7_setPoint_39 : decode cX7_setPoint 39 = .ok (.istore 5, 2) := by decide +kernel
theorem dX7_setPoint_41 : decode cX7_setPoint 41 = .ok (.aload_n 0, 1) := by decide +kernel
theorem dX7_setPoint_42 : decode cX7_setPoint 42 = .ok (.iload_n 1, 1) := by decide +kernel
theorem dX7_setPoint_43 : decode cX7_setPoint 43 = .ok (.iload_n 2, 1) := by decide +kernel
theorem dX7_setPoint_44 : decode cX7_setPoint 44 = .ok (.invokevirtual 114, 3) := by decide +kernel
theorem dX7_setPoint_47 : decode cX7_setPoint 47 = .ok (.istore 6, 2) := by decide +kernel
theorem dX7_setPoint_49 : decode cX7_setPoint 49 = .ok (.aload_n 0, 1) := by decide +kernel
theorem dX7_setPoint_50 : decode cX7_setPoint 50 = .ok (.getfield 7, 3) := by decide +kernel
theorem dX7_setPoint_53 : decode cX7_setPoint 53 = .ok (.iload 4, 2) := by decide +kernel
theorem dX7_setPoint_55 : decode cX7_setPoint 55 = .ok (.iconst 1, 1) := by decide +kernel
theorem dX7_setPoint_56 : decode cX7_setPoint 56 = .ok (.iadd, 1) := by decide +kernel
theorem dX7_setPoint_57 : decode cX7_setPoint 57 = .ok (.iconst 2, 1) := by decide +kernel
theorem dX7_setPoint_58 : decode cX7_setPoint 58 = .ok (.iload 6, 2) := by decide +kernel
theorem dX7_setPoint_60 : decode cX7_setPoint 60 = .ok (.imul, 1) := by decide +kernel
theorem dX7_setPoint_61 : decode cX7_setPoint 61 = .ok (.iadd, 1) := by decide +kernel
theorem dX7_setPoint_62 : decode cX7_setPoint 62 = .ok (.iaload, 1) := by decide +kernel
theorem dX7_setPoint_63 : decode cX7_setPoint 63 = .ok (.iload_n 2, 1) := by decide +kernel
theorem dX7_setPoint_64 : decode cX7_setPoint 64 = .ok (.if_icmp .ne 7, 3) := by decide +kernel
theorem dX7_setPoint_67 : decode cX7_setPoint 67 = .ok (.iconst 1, 1) := by decide +kernel
theorem dX7_setPoint_68 : decode cX7_setPoint 68 = .ok (.goto 4, 3) := by decide +kernel
theorem dX7_setPoint_71 : decode cX7_setPoint 71 = .ok (.iconst 0, 1) := by decide +kernel
theorem dX7_setPoint_72 : decode cX7_setPoint 72 = .ok (.istore 7, 2) := by decide +kernel
theorem dX7_setPoint_74 : decode cX7_setPoint 74 = .ok (.iload 7, 2) := by decide +kernel
theorem dX7_setPoint_76 : decode cX7_setPoint 76 = .ok (.ifCond .eq 10, 3) := by decide +kernel
theorem dX7_setPoint_79 : decode cX7_setPoint 79 = .ok (.iload 6, 2) := by decide +kernel
theorem dX7_setPoint_81 : decode cX7_setPoint 81 = .ok (.iconst 1, 1) := by decide +kernel
theorem dX7_setPoint_82 : decode cX7_setPoint 82 = .ok (.iadd, 1) := by decide +kernel
theorem dX7_setPoint_83 : decode cX7_setPoint 83 = .ok (.goto 5, 3) := by decide +kernel
theorem dX7_setPoint_86 : decode cX7_setPoint 86 = .ok (.iload 6, 2) := by decide +kernel
theorem dX7_setPoint_88 : decode cX7_setPoint 88 = .ok (.istore 8, 2) := by decide +kernel
theorem dX7_setPoint_90 : decode cX7_setPoint 90 = .ok (.iload 6, 2) := by decide +kernel
theorem dX7_setPoint_92 : decode cX7_setPoint 92 = .ok (.ifCond .le 19, 3) := by decide +kernel
theorem dX7_setPoint_95 : decode cX7_setPoint 95 = .ok (.aload_n 0, 1) := by decide +kernel
theorem dX7_setPoint_96 : decode cX7_setPoint 96 = .ok (.getfield 7, 3) := by decide +kernel
theorem dX7_setPoint_99 : decode cX7_setPoint 99 = .ok (.iload 4, 2) := by decide +kernel
theorem dX7_setPoint_101 : decode cX7_setPoint 101 = .ok (.iconst 2, 1) := by decide +kernel
theorem dX7_setPoint_102 : decode cX7_setPoint 102 = .ok (.iload 6, 2) := by decide +kernel
theorem dX7_setPoint_104 : decode cX7_setPoint 104 = .ok (.imul, 1) := by decide +kernel
theorem dX7_setPoint_105 : decode cX7_setPoint 105 = .ok (.iadd, 1) := by decide +kernel
theorem dX7_setPoint_106 : decode cX7_setPoint 106 = .ok (.iaload, 1) := by decide +kernel
theorem dX7_setPoint_107 : decode cX7_setPoint 107 = .ok (.iload_n 3, 1) := by decide +kernel
theorem dX7_setPoint_108 : decode cX7_setPoint 108 = .ok (.if_icmp .gt 28, 3) := by decide +kernel
theorem dX7_setPoint_111 : decode cX7_setPoint 111 = .ok (.iload 8, 2) := by decide +kernel
theorem dX7_setPoint_113 : decode cX7_setPoint 113 = .ok (.iload 5, 2) := by decide +kernel
theorem dX7_setPoint_115 : decode cX7_setPoint 115 = .ok (.if_icmp .ge 24, 3) := by decide +kernel
theorem dX7_setPoint_118 : decode cX7_setPoint 118 = .ok (.aload_n 0, 1) := by decide +kernel
theorem dX7_setPoint_119 : decode cX7_setPoint 119 = .ok (.getfield 7, 3) := by decide +kernel
theorem dX7_setPoint_122 : decode cX7_setPoint 122 = .ok (.iload 4, 2) := by decide +kernel
theorem dX7_setPoint_124 : decode cX7_setPoint 124 = .ok (.iconst 2, 1) := by decide +kernel
theorem dX7_setPoint_125 : decode cX7_setPoint 125 = .ok (.iadd, 1) := by decide +kernel
theorem dX7_setPoint_126 : decode cX7_setPoint 126 = .ok (.iconst 2, 1) := by decide +kernel
theorem dX7_setPoint_127 : decode cX7_setPoint 127 = .ok (.iload 8, 2) := by decide +kernel
theorem dX7_setPoint_129 : decode cX7_setPoint 129 = .ok (.imul, 1) := by decide +kernel
theorem dX7_setPoint_130 : decode cX7_setPoint 130 = .ok (.iadd, 1) := by decide +kernel
theorem dX7_setPoint_131 : decode cX7_setPoint 131 = .ok (.iaload, 1) := by decide +kernel
theorem dX7_setPoint_132 : decode cX7_setPoint 132 = .ok (.iload_n 3, 1) := by decide +kernel
theorem dX7_setPoint_133 : decode cX7_setPoint 133 = .ok (.if_icmp .ge 6, 3) := by decide +kernel
theorem dX7_setPoint_136 : decode cX7_setPoint 136 = .ok (.bipush (-2), 2) := by decide +kernel
theorem dX7_setPoint_138 : decode cX7_setPoint 138 = .ok (.ireturn, 1) := by decide +kernel
theorem dX7_setPoint_139 : decode cX7_setPoint 139 = .ok (.iload 7, 2) := by decide +kernel
theorem dX7_setPoint_141 : decode cX7_setPoint 141 = .ok (.ifCond .ne 13, 3) := by decide +kernel
theorem dX7_setPoint_144 : decode cX7_setPoint 144 = .ok (.iload 5, 2) := by decide +kernel
theorem dX7_setPoint_146 : decode cX7_setPoint 146 = .ok (.bipush 8, 2) := by decide +kernel
theorem dX7_setPoint_148 : decode cX7_setPoint 148 = .ok (.if_icmp .ne 6, 3) := by decide +kernel
theorem dX7_setPoint_151 : decode cX7_setPoint 151 = .ok (.bipush (-3), 2) := by decide +kernel
theorem dX7_setPoint_153 : decode cX7_setPoint 153 = .ok (.ireturn, 1) := by decide +kernel
theorem dX7_setPoint_154 : decode cX7_setPoint 154 = .ok (.aload_n 0, 1) := by decide +kernel
theorem dX7_setPoint_155 : decode cX7_setPoint 155 = .ok (.invokevirtual 66, 3) := by decide +kernel
theorem dX7_setPoint_158 : decode cX7_setPoint 158 = .ok (.iload 7, 2) := by decide +kernel
theorem dX7_setPoint_160 : decode cX7_setPoint 160 = .ok (.ifCond .ne 72, 3) := by decide +kernel
theorem dX7_setPoint_163 : decode cX7_setPoint 163 = .ok (.iconst 2, 1) := by decide +kernel
theorem dX7_setPoint_164 : decode cX7_setPoint 164 = .ok (.iload 5, 2) := by decide +kernel
theorem dX7_setPoint_166 : decode cX7_setPoint 166 = .ok (.imul, 1) := by decide +kernel
theorem dX7_setPoint_167 : decode cX7_setPoint 167 = .ok (.istore 9, 2) := by decide +kernel
theorem dX7_setPoint_169 : decode cX7_setPoint 169 = .ok (.iload 9, 2) := by decide +kernel
theorem dX7_setPoint_171 : decode cX7_setPoint 171 = .ok (.iconst 2, 1) := by decide +kernel
theorem dX7_setPoint_172 : decode cX7_setPoint 172 = .ok (.iload 6, 2) := by decide +kernel
theorem dX7_setPoint_174 : decode cX7_setPoint 174 = .ok (.imul, 1) := by decide +kernel
theorem dX7_setPoint_175 : decode cX7_setPoint 175 = .ok (.if_icmp .le 31, 3) := by decide +kernel
theorem dX7_setPoint_178 : decode cX7_setPoint 178 = .ok (.aload_n 0, 1) := by decide +kernel
theorem dX7_setPoint_179 : decode cX7_setPoint 179 = .ok (.getfield 7, 3) := by decide +kernel
theorem dX7_setPoint_182 : decode cX7_setPoint 182 = .ok (.iload 4, 2) := by decide +kernel
theorem dX7_setPoint_184 : decode cX7_setPoint 184 = .ok (.iconst 2, 1) := by decide +kernel
theorem dX7_setPoint_185 : decode cX7_setPoint 185 = .ok (.iadd, 1) := by decide +kernel
theorem dX7_setPoint_186 : decode cX7_setPoint 186 = .ok (.iload 9, 2) := by decide +kernel
theorem dX7_setPoint_188 : decode cX7_setPoint 188 = .ok (.iadd, 1) := by decide +kernel
theorem dX7_setPoint_189 : decode cX7_setPoint 189 = .ok (.aload_n 0, 1) := by decide +kernel
theorem dX7_setPoint_190 : decode cX7_setPoint 190 = .ok (.getfield 7, 3) := by decide +kernel
theorem dX7_setPoint_193 : decode cX7_setPoint 193 = .ok (.iload 4, 2) := by decide +kernel
theorem dX7_setPoint_195 : decode cX7_setPoint 195 = .ok (.iload 9, 2) := by decide +kernel
theorem dX7_setPoint_197 : decode cX7_setPoint 197 = .ok (.iadd, 1) := by decide +kernel
theorem dX7_setPoint_198 : decode cX7_setPoint 198 = .ok (.iaload, 1) := by decide +kernel
theorem dX7_setPoint_199 : decode cX7_setPoint 199 = .ok (.iastore, 1) := by decide +kernel
theorem dX7_setPoint_200 : decode cX7_setPoint 200 = .ok (.iinc 9 (-1), 3) := by decide +kernel
theorem dX7_setPoint_203 : decode cX7_setPoint 203 = .ok (.goto (-34), 3) := by decide +kernel
theorem dX7_setPoint_206 : decode cX7_setPoint 206 = .ok (.aload_n 0, 1) := by decide +kernel
theorem dX7_setPoint_207 : decode cX7_setPoint 207 = .ok (.getfield 7, 3) := by decide +kernel
theorem dX7_setPoint_210 : decode cX7_setPoint 210 = .ok (.iload 4, 2) := by decide +kernel
theorem dX7_setPoint_212 : decode cX7_setPoint 212 = .ok (.dup2, 1) := by decide +kernel
theorem dX7_setPoint_213 : decode cX7_setPoint 213 = .ok (.iaload, 1) := by decide +kernel
theorem dX7_setPoint_214 : decode cX7_setPoint 214 = .ok (.iconst 1, 1) := by decide +kernel
theorem dX7_setPoint_215 : decode cX7_setPoint 215 = .ok (.iadd, 1) := by decide +kernel
theorem dX7_setPoint_216 : decode cX7_setPoint 216 = .ok (.iastore, 1) := by decide +kernel
theorem dX7_setPoint_217 : decode cX7_setPoint 217 = .ok (.aload_n 0, 1) := by decide +kernel
theorem dX7_setPoint_218 : decode cX7_setPoint 218 = .ok (.getfield 7, 3) := by decide +kernel
theorem dX7_setPoint_221 : decode cX7_setPoint 221 = .ok (.iload 4, 2) := by decide +kernel
theorem dX7_setPoint_223 : decode cX7_setPoint 223 = .ok (.iconst 1, 1) := by decide +kernel
theorem dX7_setPoint_224 : decode cX7_setPoint 224 = .ok (.iadd, 1) := by decide +kernel
theorem dX7_setPoint_225 : decode cX7_setPoint 225 = .ok (.iconst 2, 1) := by decide +kernel
theorem dX7_setPoint_226 : decode cX7_setPoint 226 = .ok (.iload 6, 2) := by decide +kernel
theorem dX7_setPoint_228 : decode cX7_setPoint 228 = .ok (.imul, 1) := by decide +kernel
theorem dX7_setPoint_229 : decode cX7_setPoint 229 = .ok (.iadd, 1) := by decide +kernel
theorem dX7_setPoint_230 : decode cX7_setPoint 230 = .ok (.iload_n 2, 1) := by decide +kernel
theorem dX7_setPoint_231 : decode cX7_setPoint 231 = .ok (.iastore, 1) := by decide +kernel
theorem dX7_setPoint_232 : decode cX7_setPoint 232 = .ok (.aload_n 0, 1) := by decide +kernel
theorem dX7_setPoint_233 : decode cX7_setPoint 233 = .ok (.getfield 7, 3) := by decide +kernel
theorem dX7_setPoint_236 : decode cX7_setPoint 236 = .ok (.iload 4, 2) := by decide +kernel
theorem dX7_setPoint_238 : decode cX7_setPoint 238 = .ok (.iconst 2, 1) := by decide +kernel
theorem dX7_setPoint_239 : decode cX7_setPoint 239 = .ok (.iadd, 1) := by decide +kernel
theorem dX7_setPoint_240 : decode cX7_setPoint 240 = .ok (.iconst 2, 1) := by decide +kernel
theorem dX7_setPoint_241 : decode cX7_setPoint 241 = .ok (.iload 6, 2) := by decide +kernel
theorem dX7_setPoint_243 : decode cX7_setPoint 243 = .ok (.imul, 1) := by decide +kernel
theorem dX7_setPoint_244 : decode cX7_setPoint 244 = .ok (.iadd, 1) := by decide +kernel
theorem dX7_setPoint_245 : decode cX7_setPoint 245 = .ok (.iload_n 3, 1) := by decide +kernel
theorem dX7_setPoint_246 : decode cX7_setPoint 246 = .ok (.iastore, 1) := by decide +kernel
theorem dX7_setPoint_247 : decode cX7_setPoint 247 = .ok (.aload_n 0, 1) := by decide +kernel
theorem dX7_setPoint_248 : decode cX7_setPoint 248 = .ok (.aload_n 0, 1) := by decide +kernel
theorem dX7_setPoint_249 : decode cX7_setPoint 249 = .ok (.getfield 7, 3) := by decide +kernel
theorem dX7_setPoint_252 : decode cX7_setPoint 252 = .ok (.iload 4, 2) := by decide +kernel
theorem dX7_setPoint_254 : decode cX7_setPoint 254 = .ok (.iaload, 1) := by decide +kernel
theorem dX7_setPoint_255 : decode cX7_setPoint 255 = .ok (.invokevirtual 69, 3) := by decide +kernel
theorem dX7_setPoint_258 : decode cX7_setPoint 258 = .ok (.ireturn, 1) := by decide +kernel
theorem dX7_removePoint_0 : decode cX7_removePoint 0 = .ok (.iload_n 1, 1) := by decide +kernel
theorem dX7_removePoint_1 : decode cX7_removePoint 1 = .ok (.invokestatic 117, 3) := by decide +kernel
theorem dX7_removePoint_4 : decode cX7_removePoint 4 = .ok (.ifCond .eq 14, 3) := by decide +kernel
theorem dX7_removePoint_7 : decode cX7_removePoint 7 = .ok (.iload_n 2, 1) := by decide +kernel
theorem dX7_removePoint_8 : decode cX7_removePoint 8 = .ok (.iconst 1, 1) := by decide +kernel
theorem dX7_removePoint_9 : decode cX7_removePoint 9 = .ok (.sipush 254, 3) := by decide +kernel
theorem dX7_removePoint_12 : decode cX7_removePoint 12 = .ok (.invokestatic 73, 3) := by decide +kernel
theorem dX7_removePoint_15 : decode cX7_removePoint 15 = .ok (.ifCond .ne 5, 3) := by decide +kernel
theorem dX7_removePoint_18 : decode cX7_removePoint 18 = .ok (.iconst (-1), 1) := by decide +kernel
theorem dX7_removePoint_19 : decode cX7_removePoint 19 = .ok (.ireturn, 1) := by decide +kernel
theorem dX7_removePoint_20 : decode cX7_removePoint 20 = .ok (.bipush 9, 2) := by decide +kernel
theorem dX7_removePoint_22 : decode cX7_removePoint 22 = .ok (.bipush 17, 2) := by decide +kernel
theorem dX7_removePoint_24 : decode cX7_removePoint 24 = .ok (.iload_n 1, 1) := by decide +kernel
theorem dX7_removePoint_25 : decode cX7_removePoint 25 = .ok (.imul, 1) := by decide +kernel
theorem dX7_removePoint_26 : decode cX7_removePoint 26 = .ok (.iadd, 1) := by decide +kernel
theorem dX7_removePoint_27 : decode cX7_removePoint 27 = .ok (.istore_n 3, 1) := by decide +kernel
theorem dX7_removePoint_28 : decode cX7_removePoint 28 = .ok (.aload_n 0, 1) := by decide +kernel
theorem dX7_removePoint_29 : decode cX7_removePoint 29 = .ok (.iload_n 1, 1) := by decide +kernel
theorem dX7_removePoint_30 : decode cX7_removePoint 30 = .ok (.iload_n 2, 1) := by decide +kernel
theorem dX7_removePoint_31 : decode cX7_removePoint 31 = .ok (.invokevirtual 114, 3) := by decide +kernel
theorem dX7_removePoint_34 : decode cX7_removePoint 34 = .ok (.istore 4, 2) := by decide +kernel
theorem dX7_removePoint_36 : decode cX7_removePoint 36 = .ok (.aload_n 0, 1) := by decide +kernel
theorem dX7_removePoint_37 : decode cX7_removePoint 37 = .ok (.getfield 7, 3) := by decide +kernel
theorem dX7_removePoint_40 : decode cX7_removePoint 40 = .ok (.iload_n 3, 1) := by decide +kernel
theorem dX7_removePoint_41 : decode cX7_removePoint 41 = .ok (.iconst 1, 1) := by decide +kernel
theorem dX7_removePoint_42 : decode cX7_removePoint 42 = .ok (.iadd, 1) := by decide +kernel
theorem dX7_removePoint_43 : decode cX7_removePoint 43 = .ok (.iconst 2, 1) := by decide +kernel
theorem dX7_removePoint_44 : decode cX7_removePoint 44 = .ok (.iload 4, 2) := by decide +kernel
theorem dX7_removePoint_46 : decode cX7_removePoint 46 = .ok (.imul, 1) := by decide +kernel
theorem dX7_removePoint_47 : decode cX7_removePoint 47 = .ok (.iadd, 1) := by decide +kernel
theorem dX7_removePoint_48 : decode cX7_removePoint 48 = .ok (.iaload, 1) := by decide +kernel
theorem dX7_removePoint_49 : decode cX7_removePoint 49 = .ok (.iload_n 2, 1) := by decide +kernel
theorem dX7_removePoint_50 : decode cX7_removePoint 50 = .ok (.if_icmp .eq 6, 3) := by decide +kernel
theorem dX7_removePoint_53 : decode cX7_removePoint 53 = .ok (.bipush (-4), 2) := by decide +kernel
theorem dX7_removePoint_55 : decode cX7_removePoint 55 = .ok (.ireturn, 1) := by decide +kernel
theorem dX7_removePoint_56 : decode cX7_removePoint 56 = .ok (.aload_n 0, 1) := by decide +kernel
theorem dX7_removePoint_57 : decode cX7_removePoint 57 = .ok (.invokevirtual 66, 3) := by decide +kernel
theorem dX7_removePoint_60 : decode cX7_removePoint 60 = .ok (.aload_n 0, 1) := by decide +kernel
theorem dX7_removePoint_61 : decode cX7_removePoint 61 = .ok (.getfield 7, 3) := by decide +kernel
theorem dX7_removePoint_64 : decode cX7_removePoint 64 = .ok (.iload_n 3, 1) := by decide +kernel
theorem dX7_removePoint_65 : decode cX7_removePoint 65 = .ok (.iconst 2, 1) := by decide +kernel
theorem dX7_removePoint_66 : decode cX7_removePoint 66 = .ok (.iadd, 1) := by decide +kernel
theorem dX7_removePoint_67 : decode cX7_removePoint 67 = .ok (.iconst 2, 1) := by decide +kernel
theorem dX7_removePoint_68 : decode cX7_removePoint 68 = .ok (.iload 4, 2) := by decide +kernel
theorem dX7_removePoint_70 : decode cX7_removePoint 70 = .ok (.imul, 1) := by decide +kernel
theorem dX7_removePoint_71 : decode cX7_removePoint 71 = .ok (.iadd, 1) := by decide +kernel
theorem dX7_removePoint_72 : decode cX7_removePoint 72 = .ok (.iaload, 1) := by decide +kernel
theorem dX7_removePoint_73 : decode cX7_removePoint 73 = .ok (.istore 5, 2) := by decide +kernel
theorem dX7_removePoint_75 : decode cX7_removePoint 75 = .ok (.aload_n 0, 1) := by decide +kernel
theorem dX7_removePoint_76 : decode cX7_removePoint 76 = .ok (.getfield 7, 3) := by decide +kernel
theorem dX7_removePoint_79 : decode cX7_removePoint 79 = .ok (.iload_n 3, 1) := by decide +kernel
theorem dX7_removePoint_80 : decode cX7_removePoint 80 = .ok (.dup2, 1) := by decide +kernel
theorem dX7_removePoint_81 : decode cX7_removePoint 81 = .ok (.iaload, 1) := by decide +kernel
theorem dX7_removePoint_82 : decode cX7_removePoint 82 = .ok (.iconst 1, 1) := by decide +kernel
theorem dX7_removePoint_83 : decode cX7_removePoint 83 = .ok (.isub, 1) := by decide +kernel
theorem dX7_removePoint_84 : decode cX7_removePoint 84 = .ok (.iastore, 1) := by decide +kernel
theorem dX7_removePoint_85 : decode cX7_removePoint 85 = .ok (.iconst 2, 1) := by decide +kernel
theorem dX7_removePoint_86 : decode cX7_removePoint 86 = .ok (.iload 4, 2) := by decide +kernel
theorem dX7_removePoint_88 : decode cX7_removePoint 88 = .ok (.imul, 1) := by decide +kernel
theorem dX7_removePoint_89 : decode cX7_removePoint 89 = .ok (.iconst 1, 1) := by decide +kernel
theorem dX7_removePoint_90 : decode cX7_removePoint 90 = .ok (.iadd, 1) := by decide +kernel
theorem dX7_removePoint_91 : decode cX7_removePoint 91 = .ok (.istore 6, 2) := by decide +kernel
theorem dX7_removePoint_93 : decode cX7_removePoint 93 = .ok (.iload 6, 2) := by decide +kernel
theorem dX7_removePoint_95 : decode cX7_removePoint 95 = .ok (.iconst 2, 1) := by decide +kernel
theorem dX7_removePoint_96 : decode cX7_removePoint 96 = .ok (.aload_n 0, 1) := by decide +kernel
theorem dX7_removePoint_97 : decode cX7_removePoint 97 = .ok (.getfield 7, 3) := by decide +kernel
theorem dX7_removePoint_100 : decode cX7_removePoint 100 = .ok (.iload_n 3, 1) := by decide +kernel
theorem dX7_removePoint_101 : decode cX7_removePoint 101 = .ok (.iaload, 1) := by decide +kernel
theorem dX7_removePoint_102 : decode cX7_removePoint 102 = .ok (.imul, 1) := by decide +kernel
theorem dX7_removePoint_103 : decode cX7_removePoint 103 = .ok (.if_icmp .gt 29, 3) := by decide +kernel
theorem dX7_removePoint_106 : decode cX7_removePoint 106 = .ok (.aload_n 0, 1) := by decide +kernel
theorem dX7_removePoint_107 : decode cX7_removePoint 107 = .ok (.getfield 7, 3) := by decide +kernel
theorem dX7_removePoint_110 : decode cX7_removePoint 110 = .ok (.iload_n 3, 1) := by decide +kernel
theorem dX7_removePoint_111 : decode cX7_removePoint 111 = .ok (.iload 6, 2) := by decide +kernel
theorem dX7_removePoint_113 : decode cX7_removePoint 113 = .ok (.iadd, 1) := by decide +kernel
theorem dX7_removePoint_114 : decode cX7_removePoint 114 = .ok (.aload_n 0, 1) := by decide +kernel
theorem dX7_removePoint_115 : decode cX7_removePoint 115 = .ok (.getfield 7, 3) := by decide +kernel
theorem dX7_removePoint_118 : decode cX7_removePoint 118 = .ok (.iload_n 3, 1) := by decide +kernel
theorem dX7_removePoint_119 : decode cX7_removePoint 119 = .ok (.iload 6, 2) := by decide +kernel
theorem dX7_removePoint_121 : decode cX7_removePoint 121 = .ok (.iadd, 1) := by decide +kernel
theorem dX7_removePoint_122 : decode cX7_removePoint 122 = .ok (.iconst 2, 1) := by decide +kernel
theorem dX7_removePoint_123 : decode cX7_removePoint 123 = .ok (.iadd, 1) := by decide +kernel
theorem dX7_removePoint_124 : decode cX7_removePoint 124 = .ok (.iaload, 1) := by decide +kernel
theorem dX7_removePoint_125 : decode cX7_removePoint 125 = .ok (.iastore, 1) := by decide +kernel
theorem dX7_removePoint_126 : decode cX7_removePoint 126 = .ok (.iinc 6 1, 3) := by decide +kernel
theorem dX7_removePoint_129 : decode cX7_removePoint 129 = .ok (.goto (-36), 3) := by decide +kernel
theorem dX7_removePoint_132 : decode cX7_removePoint 132 = .ok (.aload_n 0, 1) := by decide +kernel
theorem dX7_removePoint_133 : decode cX7_removePoint 133 = .ok (.iload 5, 2) := by decide +kernel
theorem dX7_removePoint_135 : decode cX7_removePoint 135 = .ok (.invokevirtual 69, 3) := by decide +kernel
theorem dX7_removePoint_138 : decode cX7_removePoint 138 = .ok (.ireturn, 1) := by decide +kernel
theorem dX7_curve_0 : decode cX7_curve 0 = .ok (.iload_n 1, 1) := by decide +kernel
theorem dX7_curve_1 : decode cX7_curve 1 = .ok (.invokestatic 117, 3) := by decide +kernel
theorem dX7_curve_4 : decode cX7_curve 4 = .ok (.ifCond .eq 19, 3) := by decide +kernel
theorem dX7_curve_7 : decode cX7_curve 7 = .ok (.iload_n 2, 1) := by decide +kernel
theorem dX7_curve_8 : decode cX7_curve 8 = .ok (.invokestatic 120, 3) := by decide +kernel
theorem dX7_curve_11 : decode cX7_curve 11 = .ok (.ifCond .eq 12, 3) := by decide +kernel
theorem dX7_curve_14 : decode cX7_curve 14 = .ok (.aload_n 0, 1) := by decide +kernel
theorem dX7_curve_15 : decode cX7_curve 15 = .ok (.iload_n 1, 1) := by decide +kernel
theorem dX7_curve_16 : decode cX7_curve 16 = .ok (.iload_n 2, 1) := by decide +kernel
theorem dX7_curve_17 : decode cX7_curve 17 = .ok (.invokevirtual 123, 3) := by decide +kernel
theorem dX7_curve_20 : decode cX7_curve 20 = .ok (.goto 4, 3) := by decide +kernel
theorem dX7_curve_23 : decode cX7_curve 23 = .ok (.iconst (-1), 1) := by decide +kernel
theorem dX7_curve_24 : decode cX7_curve 24 = .ok (.ireturn, 1) := by decide +kernel
theorem dX7_inverse_0 : decode cX7_inverse 0 = .ok (.iload_n 1, 1) := by decide +kernel
theorem dX7_inverse_1 : decode cX7_inverse 1 = .ok (.invokestatic 117, 3) := by decide +kernel
theorem dX7_inverse_4 : decode cX7_inverse 4 = .ok (.ifCond .eq 10, 3) := by decide +kernel
theorem dX7_inverse_7 : decode cX7_inverse 7 = .ok (.iload_n 2, 1) := by decide +kernel
theorem dX7_inverse_8 : decode cX7_inverse 8 = .ok (.invokestatic 120, 3) := by decide +kernel
theorem dX7_inverse_11 : decode cX7_inverse 11 = .ok (.ifCond .ne 5, 3) := by decide +kernel
theorem dX7_inverse_14 : decode cX7_inverse 14 = .ok (.iconst (-1), 1) := by decide +kernel
theorem dX7_inverse_15 : decode cX7_inverse 15 = .ok (.ireturn, 1) := by decide +kernel
theorem dX7_inverse_16 : decode cX7_inverse 16 = .ok (.iconst 0, 1) := by decide +kernel
theorem dX7_inverse_17 : decode cX7_inverse 17 = .ok (.istore_n 3, 1) := by decide +kernel
theorem dX7_inverse_18 : decode cX7_inverse 18 = .ok (.iload_n 3, 1) := by decide +kernel
theorem dX7_inverse_19 : decode cX7_inverse 19 = .ok (.sipush 256, 3) := by decide +kernel
theorem dX7_inverse_22 : decode cX7_inverse 22 = .ok (.if_icmp .ge 19, 3) := by decide +kernel
theorem dX7_inverse_25 : decode cX7_inverse 25 = .ok (.aload_n 0, 1) := by decide +kernel
theorem dX7_inverse_26 : decode cX7_inverse 26 = .ok (.iload_n 1, 1) := by decide +kernel
theorem dX7_inverse_27 : decode cX7_inverse 27 = .ok (.iload_n 3, 1) := by decide +kernel
theorem dX7_inverse_28 : decode cX7_inverse 28 = .ok (.invokevirtual 123, 3) := by decide +kernel
theorem dX7_inverse_31 : decode cX7_inverse 31 = .ok (.iload_n 2, 1) := by decide +kernel
theorem dX7_inverse_32 : decode cX7_inverse 32 = .ok (.if_icmp .ge 9, 3) := by decide +kernel
theorem dX7_inverse_35 : decode cX7_inverse 35 = .ok (.iinc 3 1, 3) := by decide +kernel
theorem dX7_inverse_38 : decode cX7_inverse 38 = .ok (.goto (-20), 3) := by decide +kernel
theorem dX7_inverse_41 : decode cX7_inverse 41 = .ok (.iload_n 3, 1) := by decide +kernel
theorem dX7_inverse_42 : decode cX7_inverse 42 = .ok (.sipush 256, 3) := by decide +kernel
theorem dX7_inverse_45 : decode cX7_inverse 45 = .ok (.if_icmp .ge 7, 3) := by decide +kernel
theorem dX7_inverse_48 : decode cX7_inverse 48 = .ok (.iload_n 3, 1) := by decide +kernel
theorem dX7_inverse_49 : decode cX7_inverse 49 = .ok (.goto 5, 3) := by decide +kernel
theorem dX7_inverse_52 : decode cX7_inverse 52 = .ok (.bipush (-4), 2) := by decide +kernel
theorem dX7_inverse_54 : decode cX7_inverse 54 = .ok (.ireturn, 1) := by decide +kernel
theorem dX7_simplify_0 : decode cX7_simplify 0 = .ok (.iload_n 1, 1) := by decide +kernel
theorem dX7_simplify_1 : decode cX7_simplify 1 = .ok (.invokestatic 117, 3) := by decide +kernel
theorem dX7_simplify_4 : decode cX7_simplify 4 = .ok (.ifCond .ne 5, 3) := by decide +kernel
theorem dX7_simplify_7 : decode cX7_simplify 7 = .ok (.iconst (-1), 1) := by decide +kernel
theorem dX7_simplify_8 : decode cX7_simplify 8 = .ok (.ireturn, 1) := by decide +kernel
theorem dX7_simplify_9 : decode cX7_simplify 9 = .ok (.aload_n 0, 1) := by decide +kernel
theorem dX7_simplify_10 : decode cX7_simplify 10 = .ok (.invokevirtual 66, 3) := by decide +kernel
theorem dX7_simplify_13 : decode cX7_simplify 13 = .ok (.iconst 0, 1) := by decide +kernel
theorem dX7_simplify_14 : decode cX7_simplify 14 = .ok (.istore_n 2, 1) := by decide +kernel
theorem dX7_simplify_15 : decode cX7_simplify 15 = .ok (.iload_n 2, 1) := by decide +kernel
theorem dX7_simplify_16 : decode cX7_simplify 16 = .ok (.sipush 256, 3) := by decide +kernel
theorem dX7_simplify_19 : decode cX7_simplify 19 = .ok (.if_icmp .ge 21, 3) := by decide +kernel
theorem dX7_simplify_22 : decode cX7_simplify 22 = .ok (.aload_n 0, 1) := by decide +kernel
theorem dX7_simplify_23 : decode cX7_simplify 23 = .ok (.getfield 29, 3) := by decide +kernel
theorem dX7_simplify_26 : decode cX7_simplify 26 = .ok (.iload_n 2, 1) := by decide +kernel
theorem dX7_simplify_27 : decode cX7_simplify 27 = .ok (.aload_n 0, 1) := by decide +kernel
theorem dX7_simplify_28 : decode cX7_simplify 28 = .ok (.iload_n 1, 1) := by decide +kernel
theorem dX7_simplify_29 : decode cX7_simplify 29 = .ok (.iload_n 2, 1) := by decide +kernel
theorem dX7_simplify_30 : decode cX7_simplify 30 = .ok (.invokevirtual 123, 3) := by decide +kernel
theorem dX7_simplify_33 : decode cX7_simplify 33 = .ok (.iastore, 1) := by decide +kernel
theorem dX7_simplify_34 : decode cX7_simplify 34 = .ok (.iinc 2 1, 3) := by decide +kernel
theorem dX7_simplify_37 : decode cX7_simplify 37 = .ok (.goto (-22), 3) := by decide +kernel
theorem dX7_simplify_40 : decode cX7_simplify 40 = .ok (.bipush 9, 2) := by decide +kernel
theorem dX7_simplify_42 : decode cX7_simplify 42 = .ok (.bipush 17, 2) := by decide +kernel
theorem dX7_simplify_44 : decode cX7_simplify 44 = .ok (.iload_n 1, 1) := by decide +kernel
theorem dX7_simplify_45 : decode cX7_simplify 45 = .ok (.imul, 1) := by decide +kernel
theorem dX7_simplify_46 : decode cX7_simplify 46 = .ok (.iadd, 1) := by decide +kernel
theorem dX7_simplify_47 : decode cX7_simplify 47 = .ok (.istore_n 2, 1) := by decide +kernel
theorem dX7_simplify_48 : decode cX7_simplify 48 = .ok (.aload_n 0, 1) := by decide +kernel
theorem dX7_simplify_49 : decode cX7_simplify 49 = .ok (.getfield 7, 3) := by decide +kernel
theorem dX7_simplify_52 : decode cX7_simplify 52 = .ok (.iload_n 2, 1) := by decide +kernel
theorem dX7_simplify_53 : decode cX7_simplify 53 = .ok (.iconst 4, 1) := by decide +kernel
theorem dX7_simplify_54 : decode cX7_simplify 54 = .ok (.iastore, 1) := by decide +kernel
theorem dX7_simplify_55 : decode cX7_simplify 55 = .ok (.iconst 0, 1) := by decide +kernel
theorem dX7_simplify_56 : decode cX7_simplify 56 = .ok (.istore_n 3, 1) := by decide +kernel
theorem dX7_simplify_57 : decode cX7_simplify 57 = .ok (.iload_n 3, 1) := by decide +kernel
theorem dX7_simplify_58 : decode cX7_simplify 58 = .ok (.iconst 4, 1) := by decide +kernel
theorem dX7_simplify_59 : decode cX7_simplify 59 = .ok (.if_icmp .ge 46, 3) := by decide +kernel
theorem dX7_simplify_62 : decode cX7_simplify 62 = .ok (.aload_n 0, 1) := by decide +kernel
theorem dX7_simplify_63 : decode cX7_simplify 63 = .ok (.getfield 7, 3) := by decide +kernel
theorem dX7_simplify_66 : decode cX7_simplify 66 = .ok (.iload_n 2, 1) := by decide +kernel
theorem dX7_simplify_67 : decode cX7_simplify 67 = .ok (.iconst 1, 1) := by decide +kernel
theorem dX7_simplify_68 : decode cX7_simplify 68 = .ok (.iadd, 1) := by decide +kernel
theorem dX7_simplify_69 : decode cX7_simplify 69 = .ok (.iconst 2, 1) := by decide +kernel
theorem dX7_simplify_70 : decode cX7_simplify 70 = .ok (.iload_n 3, 1) := by decide +kernel
theorem dX7_simplify_71 : decode cX7_simplify 71 = .ok (.imul, 1) := by decide +kernel
theorem dX7_simplify_72 : decode cX7_simplify 72 = .ok (.iadd, 1) := by decide +kernel
theorem dX7_simplify_73 : decode cX7_simplify 73 = .ok (.bipush 85, 2) := by decide +kernel
theorem dX7_simplify_75 : decode cX7_simplify 75 = .ok (.iload_n 3, 1) := by decide +kernel
theorem dX7_simplify_76 : decode cX7_simplify 76 = .ok (.imul, 1) := by decide +kernel
theorem dX7_simplify_77 : decode cX7_simplify 77 = .ok (.iastore, 1) := by decide +kernel
theorem dX7_simplify_78 : decode cX7_simplify 78 = .ok (.aload_n 0, 1) := by decide +kernel
theorem dX7_simplify_79 : decode cX7_simplify 79 = .ok (.getfield 7, 3) := by decide +kernel
theorem dX7_simplify_82 : decode cX7_simplify 82 = .ok (.iload_n 2, 1) := by decide +kernel
theorem dX7_simplify_83 : decode cX7_simplify 83 = .ok (.iconst 2, 1) := by decide +kernel
theorem dX7_simplify_84 : decode cX7_simplify 84 = .ok (.iadd, 1) := by decide +kernel
theorem dX7_simplify_85 : decode cX7_simplify 85 = .ok (.iconst 2, 1) := by decide +kernel
theorem dX7_simplify_86 : decode cX7_simplify 86 = .ok (.iload_n 3, 1) := by decide +kernel
theorem dX7_simplify_87 : decode cX7_simplify 87 = .ok (.imul, 1) := by decide +kernel
theorem dX7_simplify_88 : decode cX7_simplify 88 = .ok (.iadd, 1) := by decide +kernel
theorem dX7_simplify_89 : decode cX7_simplify 89 = .ok (.aload_n 0, 1) := by decide +kernel
theorem dX7_simplify_90 : decode cX7_simplify 90 = .ok (.getfield 29, 3) := by decide +kernel
theorem dX7_simplify_93 : decode cX7_simplify 93 = .ok (.bipush 85, 2) := by decide +kernel
theorem dX7_simplify_95 : decode cX7_simplify 95 = .ok (.iload_n 3, 1) := by decide +kernel
theorem dX7_simplify_96 : decode cX7_simplify 96 = .ok (.imul, 1) := by decide +kernel
theorem dX7_simplify_97 : decode cX7_simplify 97 = .ok (.iaload, 1) := by decide +kernel
theorem dX7_simplify_98 : decode cX7_simplify 98 = .ok (.iastore, 1) := by decide +kernel
theorem dX7_simplify_99 : decode cX7_simplify 99 = .ok (.iinc 3 1, 3) := by decide +kernel
theorem dX7_simplify_102 : decode cX7_simplify 102 = .ok (.goto (-45), 3) := by decide +kernel
theorem dX7_simplify_105 : decode cX7_simplify 105 = .ok (.iconst 0, 1) := by decide +kernel
theorem dX7_simplify_106 : decode cX7_simplify 106 = .ok (.istore_n 3, 1) := by decide +kernel
theorem dX7_simplify_107 : decode cX7_simplify 107 = .ok (.iconst 0, 1) := by decide +kernel
theorem dX7_simplify_108 : decode cX7_simplify 108 = .ok (.istore 4, 2) := by decide +kernel
theorem dX7_simplify_110 : decode cX7_simplify 110 = .ok (.iload 4, 2) := by decide +kernel
theorem dX7_simplify_112 : decode cX7_simplify 112 = .ok (.sipush 256, 3) := by decide +kernel
theorem dX7_simplify_115 : decode cX7_simplify 115 = .ok (.if_icmp .ge 54, 3) := by decide +kernel
theorem dX7_simplify_118 : decode cX7_simplify 118 = .ok (.aload_n 0, 1) := by decide +kernel
theorem dX7_simplify_119 : decode cX7_simplify 119 = .ok (.iload_n 1, 1) := by decide +kernel
theorem dX7_simplify_120 : decode cX7_simplify 120 = .ok (.iload 4, 2) := by decide +kernel
theorem dX7_simplify_122 : decode cX7_simplify 122 = .ok (.invokevirtual 123, 3) := by decide +kernel
theorem dX7_simplify_125 : decode cX7_simplify 125 = .ok (.aload_n 0, 1) := by decide +kernel
theorem dX7_simplify_126 : decode cX7_simplify 126 = .ok (.getfield 29, 3) := by decide +kernel
theorem dX7_simplify_129 : decode cX7_simplify 129 = .ok (.iload 4, 2) := by decide +kernel
theorem dX7_simplify_131 : decode cX7_simplify 131 = .ok (.iaload, 1) := by decide +kernel
theorem dX7_simplify_132 : decode cX7_simplify 132 = .ok (.isub, 1) := by decide +kernel
theorem dX7_simplify_133 : decode cX7_simplify 133 = .ok (.istore 5, 2) := by decide +kernel
theorem dX7_simplify_135 : decode cX7_simplify 135 = .ok (.iload 5, 2) := by decide +kernel
theorem dX7_simplify_137 : decode cX7_simplify 137 = .ok (.ifCond .ge 9, 3) := by decide +kernel
theorem dX7_simplify_140 : decode cX7_simplify 140 = .ok (.iload 5, 2) := by decide +kernel
theorem dX7_simplify_142 : decode cX7_simplify 142 = .ok (.ineg, 1) := by decide +kernel
theorem dX7_simplify_143 : decode cX7_simplify 143 = .ok (.goto 5, 3) := by decide +kernel
theorem dX7_simplify_146 : decode cX7_simplify 146 = .ok (.iload 5, 2) := by decide +kernel
theorem dX7_simplify_148 : decode cX7_simplify 148 = .ok (.istore 5, 2) := by decide +kernel
theorem dX7_simplify_150 : decode cX7_simplify 150 = .ok (.iload 5, 2) := by decide +kernel
theorem dX7_simplify_152 : decode cX7_simplify 152 = .ok (.iload_n 3, 1) := by decide +kernel
theorem dX7_simplify_153 : decode cX7_simplify 153 = .ok (.if_icmp .le 8, 3) := by decide +kernel
theorem dX7_simplify_156 : decode cX7_simplify 156 = .ok (.iload 5, 2) := by decide +kernel
theorem dX7_simplify_158 : decode cX7_simplify 158 = .ok (.goto 4, 3) := by decide +kernel
theorem dX7_simplify_161 : decode cX7_simplify 161 = .ok (.iload_n 3, 1) := by decide +kernel
theorem dX7_simplify_162 : decode cX7_simplify 162 = .ok (.istore_n 3, 1) := by decide +kernel
theorem dX7_simplify_163 : decode cX7_simplify 163 = .ok (.iinc 4 1, 3) := by decide +kernel
theorem dX7_simplify_166 : decode cX7_simplify 166 = .ok (.goto (-56), 3) := by decide +kernel
theorem dX7_simplify_169 : decode cX7_simplify 169 = .ok (.aload_n 0, 1) := by decide +kernel
theorem dX7_simplify_170 : decode cX7_simplify 170 = .ok (.iload_n 3, 1) := by decide +kernel
theorem dX7_simplify_171 : decode cX7_simplify 171 = .ok (.invokevirtual 69, 3) := by decide +kernel
theorem dX7_simplify_174 : decode cX7_simplify 174 = .ok (.ireturn, 1) := by decide +kernel
theorem dX7_lastChild_0 : decode cX7_lastChild 0 = .ok (.bipush (-4), 2) := by decide +kernel
theorem dX7_lastChild_2 : decode cX7_lastChild 2 = .ok (.istore_n 3, 1) := by decide +kernel
theorem dX7_lastChild_3 : decode cX7_lastChild 3 = .ok (.iconst 1, 1) := by decide +kernel
theorem dX7_lastChild_4 : decode cX7_lastChild 4 = .ok (.istore 4, 2) := by decide +kernel
theorem dX7_lastChild_6 : decode cX7_lastChild 6 = .ok (.iload 4, 2) := by decide +kernel
theorem dX7_lastChild_8 : decode cX7_lastChild 8 = .ok (.bipush 24, 2) := by decide +kernel
theorem dX7_lastChild_10 : decode cX7_lastChild 10 = .ok (.if_icmp .ge 53, 3) := by decide +kernel
theorem dX7_lastChild_13 : decode cX7_lastChild 13 = .ok (.aload_n 0, 1) := by decide +kernel
theorem dX7_lastChild_14 : decode cX7_lastChild 14 = .ok (.iload 4, 2) := by decide +kernel
theorem dX7_lastChild_16 : decode cX7_lastChild 16 = .ok (.iload_n 1, 1) := by decide +kernel
theorem dX7_lastChild_17 : decode cX7_lastChild 17 = .ok (.invokevirtual 102, 3) := by decide +kernel
theorem dX7_lastChild_20 : decode cX7_lastChild 20 = .ok (.ifCond .eq 37, 3) := by decide +kernel
theorem dX7_lastChild_23 : decode cX7_lastChild 23 = .ok (.aload_n 0, 1) := by decide +kernel
theorem dX7_lastChild_24 : decode cX7_lastChild 24 = .ok (.iload 4, 2) := by decide +kernel
theorem dX7_lastChild_26 : decode cX7_lastChild 26 = .ok (.iconst 2, 1) := by decide +kernel
theorem dX7_lastChild_27 : decode cX7_lastChild 27 = .ok (.invokevirtual 77, 3) := by decide +kernel
theorem dX7_lastChild_30 : decode cX7_lastChild 30 = .ok (.iload_n 2, 1) := by decide +kernel
theorem dX7_lastChild_31 : decode cX7_lastChild 31 = .ok (.if_icmp .ge 26, 3) := by decide +kernel
theorem dX7_lastChild_34 : decode cX7_lastChild 34 = .ok (.iload_n 3, 1) := by decide +kernel
theorem dX7_lastChild_35 : decode cX7_lastChild 35 = .ok (.ifCond .lt 19, 3) := by decide +kernel
theorem dX7_lastChild_38 : decode cX7_lastChild 38 = .ok (.aload_n 0, 1) := by decide +kernel
theorem dX7_lastChild_39 : decode cX7_lastChild 39 = .ok (.iload 4, 2) := by decide +kernel
theorem dX7_lastChild_41 : decode cX7_lastChild 41 = .ok (.iconst 2, 1) := by decide +kernel
theorem dX7_lastChild_42 : decode cX7_lastChild 42 = .ok (.invokevirtual 77, 3) := by decide +kernel
theorem dX7_lastChild_45 : decode cX7_lastChild 45 = .ok (.aload_n 0, 1) := by decide +kernel
theorem dX7_lastChild_46 : decode cX7_lastChild 46 = .ok (.iload_n 3, 1) := by decide +kernel
theorem dX7_lastChild_47 : decode cX7_lastChild 47 = .ok (.iconst 2, 1) := by decide +kernel
theorem dX7_lastChild_48 : decode cX7_lastChild 48 = .ok (.invokevirtual 77, 3) := by decide +kernel
theorem dX7_lastChild_51 : decode cX7_lastChild 51 = .ok (.if_icmp .le 6, 3) := by decide +kernel
theorem dX7_lastChild_54 : decode cX7_lastChild 54 = .ok (.iload 4, 2) := by decide +kernel
theorem dX7_lastChild_56 : decode cX7_lastChild 56 = .ok (.istore_n 3, 1) := by decide +kernel
theorem dX7_lastChild_57 : decode cX7_lastChild 57 = .ok (.iinc 4 1, 3) := by decide +kernel
theorem dX7_lastChild_60 : decode cX7_lastChild 60 = .ok (.goto (-54), 3) := by decide +kernel
theorem dX7_lastChild_63 : decode cX7_lastChild 63 = .ok (.iload_n 3, 1) := by decide +kernel
theorem dX7_lastChild_64 : decode cX7_lastChild 64 = .ok (.ireturn, 1) := by decide +kernel
theorem dX7_lays_0 : decode cX7_lays 0 = .ok (.aload_n 0, 1) := by decide +kernel
theorem dX7_lays_1 : decode cX7_lays 1 = .ok (.iconst 0, 1) := by decide +kernel
theorem dX7_lays_2 : decode cX7_lays 2 = .ok (.putfield 126, 3) := by decide +kernel
theorem dX7_lays_5 : decode cX7_lays 5 = .ok (.aload_n 0, 1) := by decide +kernel
theorem dX7_lays_6 : decode cX7_lays 6 = .ok (.getfield 35, 3) := by decide +kernel
theorem dX7_lays_9 : decode cX7_lays 9 = .ok (.iconst 0, 1) := by decide +kernel
theorem dX7_lays_10 : decode cX7_lays 10 = .ok (.iconst 0, 1) := by decide +kernel
theorem dX7_lays_11 : decode cX7_lays 11 = .ok (.iastore, 1) := by decide +kernel
theorem dX7_lays_12 : decode cX7_lays 12 = .ok (.iconst 1, 1) := by decide +kernel
theorem dX7_lays_13 : decode cX7_lays 13 = .ok (.istore_n 1, 1) := by decide +kernel
theorem dX7_lays_14 : decode cX7_lays 14 = .ok (.iload_n 1, 1) := by decide +kernel
theorem dX7_lays_15 : decode cX7_lays 15 = .ok (.ifCond .le 220, 3) := by decide +kernel
theorem dX7_lays_18 : decode cX7_lays 18 = .ok (.iinc 1 (-1), 3) := by decide +kernel
theorem dX7_lays_21 : decode cX7_lays 21 = .ok (.aload_n 0, 1) := by decide +kernel
theorem dX7_lays_22 : decode cX7_lays 22 = .ok (.getfield 35, 3) := by decide +kernel
theorem dX7_lays_25 : decode cX7_lays 25 = .ok (.iload_n 1, 1) := by decide +kernel
theorem dX7_lays_26 : decode cX7_lays 26 = .ok (.iaload, 1) := by decide +kernel
theorem dX7_lays_27 : decode cX7_lays 27 = .ok (.istore_n 2, 1) := by decide +kernel
theorem dX7_lays_28 : decode cX7_lays 28 = .ok (.aload_n 0, 1) := by decide +kernel
theorem dX7_lays_29 : decode cX7_lays 29 = .ok (.getfield 32, 3) := by decide +kernel
theorem dX7_lays_32 : decode cX7_lays 32 = .ok (.aload_n 0, 1) := by decide +kernel
theorem dX7_lays_33 : decode cX7_lays 33 = .ok (.getfield 126, 3) := by decide +kernel
theorem dX7_lays_36 : decode cX7_lays 36 = .ok (.iload_n 2, 1) := by decide +kernel
theorem dX7_lays_37 : decode cX7_lays 37 = .ok (.iastore, 1) := by decide +kernel
theorem dX7_lays_38 : decode cX7_lays 38 = .ok (.aload_n 0, 1) := by decide +kernel
theorem dX7_lays_39 : decode cX7_lays 39 = .ok (.dup, 1) := by decide +kernel
theorem dX7_lays_40 : decode cX7_lays 40 = .ok (.getfield 126, 3) := by decide +kernel
theorem dX7_lays_43 : decode cX7_lays 43 = .ok (.iconst 1, 1) := by decide +kernel
theorem dX7_lays_44 : decode cX7_lays 44 = .ok (.iadd, 1) := by decide +kernel
theorem dX7_lays_45 : decode cX7_lays 45 = .ok (.putfield 126, 3) := by decide +kernel
theorem dX7_lays_48 : decode cX7_lays 48 = .ok (.aload_n 0, 1) := by decide +kernel
theorem dX7_lays_49 : decode cX7_lays 49 = .ok (.iload_n 2, 1) := by decide +kernel
theorem dX7_lays_50 : decode cX7_lays 50 = .ok (.iconst 1, 1) := by decide +kernel
theorem dX7_lays_51 : decode cX7_lays 51 = .ok (.invokevirtual 77, 3) := by decide +kernel
theorem dX7_lays_54 : decode cX7_lays 54 = .ok (.istore_n 3, 1) := by decide +kernel
theorem dX7_lays_55 : decode cX7_lays 55 = .ok (.aload_n 0, 1) := by decide +kernel
theorem dX7_lays_56 : decode cX7_lays 56 = .ok (.iload_n 2, 1) := by decide +kernel
theorem dX7_lays_57 : decode cX7_lays 57 = .ok (.iconst 0, 1) := by decide +kernel
theorem dX7_lays_58 : decode cX7_lays 58 = .ok (.invokevirtual 77, 3) := by decide +kernel
theorem dX7_lays_61 : decode cX7_lays 61 = .ok (.ifCond .ne 7, 3) := by decide +kernel
theorem dX7_lays_64 : decode cX7_lays 64 = .ok (.iconst 1, 1) := by decide +kernel
theorem dX7_lays_65 : decode cX7_lays 65 = .ok (.goto 4, 3) := by decide +kernel
theorem dX7_lays_68 : decode cX7_lays 68 = .ok (.iconst 0, 1) := by decide +kernel
theorem dX7_lays_69 : decode cX7_lays 69 = .ok (.istore 4, 2) := by decide +kernel
theorem dX7_lays_71 : decode cX7_lays 71 = .ok (.aload_n 0, 1) := by decide +kernel
theorem dX7_lays_72 : decode cX7_lays 72 = .ok (.getfield 38, 3) := by decide +kernel
theorem dX7_lays_75 : decode cX7_lays 75 = .ok (.iload_n 2, 1) := by decide +kernel
theorem dX7_lays_76 : decode cX7_lays 76 = .ok (.iload_n 2, 1) := by decide +kernel
theorem dX7_lays_77 : decode cX7_lays 77 = .ok (.ifCond .ne 8, 3) := by decide +kernel
theorem dX7_lays_80 : decode cX7_lays 80 = .ok (.bipush 100, 2) := by decide +kernel
theorem dX7_lays_82 : decode cX7_lays 82 = .ok (.goto 28, 3) := by decide +kernel
theorem dX7_lays_85 : decode cX7_lays 85 = .ok (.iload 4, 2) := by decide +kernel
theorem dX7_lays_87 : decode cX7_lays 87 = .ok (.ifCond .eq 22, 3) := by decide +kernel
theorem dX7_lays_90 : decode cX7_lays 90 = .ok (.aload_n 0, 1) := by decide +kernel
theorem dX7_lays_91 : decode cX7_lays 91 = .ok (.getfield 38, 3) := by decide +kernel
theorem dX7_lays_94 : decode cX7_lays 94 = .ok (.iload_n 3, 1) := by decide +kernel
theorem dX7_lays_95 : decode cX7_lays 95 = .ok (.iaload, 1) := by decide +kernel
theorem dX7_lays_96 : decode cX7_lays 96 = .ok (.aload_n 0, 1) := by decide +kernel
theorem dX7_lays_97 : decode cX7_lays 97 = .ok (.iload_n 2, 1) := by decide +kernel
theorem dX7_lays_98 : decode cX7_lays 98 = .ok (.iconst 3, 1) := by decide +kernel
theorem dX7_lays_99 : decode cX7_lays 99 = .ok (.invokevirtual 77, 3) := by decide +kernel
theorem dX7_lays_102 : decode cX7_lays 102 = .ok (.imul, 1) := by decide +kernel
theorem dX7_lays_103 : decode cX7_lays 103 = .ok (.bipush 100, 2) := by decide +kernel
theorem dX7_lays_105 : decode cX7_lays 105 = .ok (.idiv, 1) := by decide +kernel
theorem dX7_lays_106 : decode cX7_lays 106 = .ok (.goto 4, 3) := by decide +kernel
theorem dX7_lays_109 : decode cX7_lays 109 = .ok (.iconst 0, 1) := by decide +kernel
theorem dX7_lays_110 : decode cX7_lays 110 = .ok (.iastore, 1) := by decide +kernel
theorem dX7_lays_111 : decode cX7_lays 111 = .ok (.aload_n 0, 1) := by decide +kernel
theorem dX7_lays_112 : decode cX7_lays 112 = .ok (.getfield 41, 3) := by decide +kernel
theorem dX7_lays_115 : decode cX7_lays 115 = .ok (.iload_n 2, 1) := by decide +kernel
theorem dX7_lays_116 : decode cX7_lays 116 = .ok (.iload_n 2, 1) := by decide +kernel
theorem dX7_lays_117 : decode cX7_lays 117 = .ok (.ifCond .ne 7, 3) := by decide +kernel
theorem dX7_lays_120 : decode cX7_lays 120 = .ok (.iconst 0, 1) := by decide +kernel
theorem dX7_lays_121 : decode cX7_lays 121 = .ok (.goto 25, 3) := by decide +kernel
theorem dX7_lays_124 : decode cX7_lays 124 = .ok (.iload 4, 2) := by decide +kernel
theorem dX7_lays_126 : decode cX7_lays 126 = .ok (.ifCond .eq 19, 3) := by decide +kernel
theorem dX7_lays_129 : decode cX7_lays 129 = .ok (.aload_n 0, 1) := by decide +kernel
theorem dX7_lays_130 : decode cX7_lays 130 = .ok (.getfield 41, 3) := by decide +kernel
theorem dX7_lays_133 : decode cX7_lays 133 = .ok (.iload_n 3, 1) := by decide +kernel
theorem dX7_lays_134 : decode cX7_lays 134 = .ok (.iaload, 1) := by decide +kernel
theorem dX7_lays_135 : decode cX7_lays 135 = .ok (.aload_n 0, 1) := by decide +kernel
theorem dX7_lays_136 : decode cX7_lays 136 = .ok (.iload_n 2, 1) := by decide +kernel
theorem dX7_lays_137 : decode cX7_lays 137 = .ok (.iconst 4, 1) := by decide +kernel
theorem dX7_lays_138 : decode cX7_lays 138 = .ok (.invokevirtual 77, 3) := by decide +kernel
theorem dX7_lays_141 : decode cX7_lays 141 = .ok (.iadd, 1) := by decide +kernel
theorem dX7_lays_142 : decode cX7_lays 142 = .ok (.goto 4, 3) := by decide +kernel
theorem dX7_lays_145 : decode cX7_lays 145 = .ok (.iconst 0, 1) := by decide +kernel
theorem dX7_lays_146 : decode cX7_lays 146 = .ok (.iastore, 1) := by decide +kernel
theorem dX7_lays_147 : decode cX7_lays 147 = .ok (.aload_n 0, 1) := by decide +kernel
theorem dX7_lays_148 : decode cX7_lays 148 = .ok (.getfield 44, 3) := by decide +kernel
theorem dX7_lays_151 : decode cX7_lays 151 = .ok (.iload_n 2, 1) := by decide +kernel
theorem dX7_lays_152 : decode cX7_lays 152 = .ok (.iload_n 2, 1) := by decide +kernel
theorem dX7_lays_153 : decode cX7_lays 153 = .ok (.ifCond .ne 7, 3) := by decide +kernel
theorem dX7_lays_156 : decode cX7_lays 156 = .ok (.iconst 0, 1) := by decide +kernel
theorem dX7_lays_157 : decode cX7_lays 157 = .ok (.goto 25, 3) := by decide +kernel
theorem dX7_lays_160 : decode cX7_lays 160 = .ok (.iload 4, 2) := by decide +kernel
theorem dX7_lays_162 : decode cX7_lays 162 = .ok (.ifCond .eq 19, 3) := by decide +kernel
theorem dX7_lays_165 : decode cX7_lays 165 = .ok (.aload_n 0, 1) := by decide +kernel
theorem dX7_lays_166 : decode cX7_lays 166 = .ok (.getfield 44, 3) := by decide +kernel
theorem dX7_lays_169 : decode cX7_lays 169 = .ok (.iload_n 3, 1) := by decide +kernel
theorem dX7_lays_170 : decode cX7_lays 170 = .ok (.iaload, 1) := by decide +kernel
theorem dX7_lays_171 : decode cX7_lays 171 = .ok (.aload_n 0, 1) := by decide +kernel
theorem dX7_lays_172 : decode cX7_lays 172 = .ok (.iload_n 2, 1) := by decide +kernel
theorem dX7_lays_173 : decode cX7_lays 173 = .ok (.iconst 5, 1) := by decide +kernel
theorem dX7_lays_174 : decode cX7_lays 174 = .ok (.invokevirtual 77, 3) := by decide +kernel
theorem dX7_lays_177 : decode cX7_lays 177 = .ok (.iadd, 1) := by decide +kernel
theorem dX7_lays_178 : decode cX7_lays 178 = .ok (.goto 4, 3) := by decide +kernel
theorem dX7_lays_181 : decode cX7_lays 181 = .ok (.iconst 0, 1) := by decide +kernel
theorem dX7_lays_182 : decode cX7_lays 182 = .ok (.iastore, 1) := by decide +kernel
theorem dX7_lays_183 : decode cX7_lays 183 = .ok (.aload_n 0, 1) := by decide +kernel
theorem dX7_lays_184 : decode cX7_lays 184 = .ok (.iload_n 2, 1) := by decide +kernel
theorem dX7_lays_185 : decode cX7_lays 185 = .ok (.aload_n 0, 1) := by decide +kernel
theorem dX7_lays_186 : decode cX7_lays 186 = .ok (.getfield 7, 3) := by decide +kernel
theorem dX7_lays_189 : decode cX7_lays 189 = .ok (.bipush 8, 2) := by decide +kernel
theorem dX7_lays_191 : decode cX7_lays 191 = .ok (.iaload, 1) := by decide +kernel
theorem dX7_lays_192 : decode cX7_lays 192 = .ok (.iconst 1, 1) := by decide +kernel
theorem dX7_lays_193 : decode cX7_lays 193 = .ok (.iadd, 1) := by decide +kernel
theorem dX7_lays_194 : decode cX7_lays 194 = .ok (.invokevirtual 129, 3) := by decide +kernel
theorem dX7_lays_197 : decode cX7_lays 197 = .ok (.istore 5, 2) := by decide +kernel
theorem dX7_lays_199 : decode cX7_lays 199 = .ok (.iload 5, 2) := by decide +kernel
theorem dX7_lays_201 : decode cX7_lays 201 = .ok (.ifCond .lt 31, 3) := by decide +kernel
theorem dX7_lays_204 : decode cX7_lays 204 = .ok (.aload_n 0, 1) := by decide +kernel
theorem dX7_lays_205 : decode cX7_lays 205 = .ok (.getfield 35, 3) := by decide +kernel
theorem dX7_lays_208 : decode cX7_lays 208 = .ok (.iload_n 1, 1) := by decide +kernel
theorem dX7_lays_209 : decode cX7_lays 209 = .ok (.iload 5, 2) := by decide +kernel
theorem dX7_lays_211 : decode cX7_lays 211 = .ok (.iastore, 1) := by decide +kernel
theorem dX7_lays_212 : decode cX7_lays 212 = .ok (.iinc 1 1, 3) := by decide +kernel
theorem dX7_lays_215 : decode cX7_lays 215 = .ok (.aload_n 0, 1) := by decide +kernel
theorem dX7_lays_216 : decode cX7_lays 216 = .ok (.iload_n 2, 1) := by decide +kernel
theorem dX7_lays_217 : decode cX7_lays 217 = .ok (.aload_n 0, 1) := by decide +kernel
theorem dX7_lays_218 : decode cX7_lays 218 = .ok (.iload 5, 2) := by decide +kernel
theorem dX7_lays_220 : decode cX7_lays 220 = .ok (.iconst 2, 1) := by decide +kernel
theorem dX7_lays_221 : decode cX7_lays 221 = .ok (.invokevirtual 77, 3) := by decide +kernel
theorem dX7_lays_224 : decode cX7_lays 224 = .ok (.invokevirtual 129, 3) := by decide +kernel
theorem dX7_lays_227 : decode cX7_lays 227 = .ok (.istore 5, 2) := by decide +kernel
theorem dX7_lays_229 : decode cX7_lays 229 = .ok (.goto (-30), 3) := by decide +kernel
theorem dX7_lays_232 : decode cX7_lays 232 = .ok (.goto (-218), 3) := by decide +kernel
theorem dX7_lays_235 : decode cX7_lays 235 = .ok (.return_, 1) := by decide +kernel
theorem dX7_isIn_0 : decode cX7_isIn 0 = .ok (.aload_n 0, 1) := by decide +kernel
theorem dX7_isIn_1 : decode cX7_isIn 1 = .ok (.iload_n 1, 1) := by decide +kernel
theorem dX7_isIn_2 : decode cX7_isIn 2 = .ok (.iconst 1, 1) := by decide +kernel
theorem dX7_isIn_3 : decode cX7_isIn 3 = .ok (.invokevirtual 77, 3) := by decide +kernel
theorem dX7_isIn_6 : decode cX7_isIn 6 = .ok (.istore 4, 2) := by decide +kernel
theorem dX7_isIn_8 : decode cX7_isIn 8 = .ok (.iload_n 2, 1) := by decide +kernel
theorem dX7_isIn_9 : decode cX7_isIn 9 = .ok (.iload_n 1, 1) := by decide +kernel
theorem dX7_isIn_10 : decode cX7_isIn 10 = .ok (.ifCond .ne 7, 3) := by decide +kernel
theorem dX7_isIn_13 : decode cX7_isIn 13 = .ok (.iconst 0, 1) := by decide +kernel
theorem dX7_isIn_14 : decode cX7_isIn 14 = .ok (.goto 10, 3) := by decide +kernel
theorem dX7_isIn_17 : decode cX7_isIn 17 = .ok (.aload_n 0, 1) := by decide +kernel
theorem dX7_isIn_18 : decode cX7_isIn 18 = .ok (.getfield 41, 3) := by decide +kernel
theorem dX7_isIn_21 : decode cX7_isIn 21 = .ok (.iload 4, 2) := by decide +kernel
theorem dX7_isIn_23 : decode cX7_isIn 23 = .ok (.iaload, 1) := by decide +kernel
theorem dX7_isIn_24 : decode cX7_isIn 24 = .ok (.isub, 1) := by decide +kernel
theorem dX7_isIn_25 : decode cX7_isIn 25 = .ok (.istore 5, 2) := by decide +kernel
theorem dX7_isIn_27 : decode cX7_isIn 27 = .ok (.iload_n 3, 1) := by decide +kernel
theorem dX7_isIn_28 : decode cX7_isIn 28 = .ok (.iload_n 1, 1) := by decide +kernel
theorem dX7_isIn_29 : decode cX7_isIn 29 = .ok (.ifCond .ne 7, 3) := by decide +kernel
theorem dX7_isIn_32 : decode cX7_isIn 32 = .ok (.iconst 0, 1) := by decide +kernel
theorem dX7_isIn_33 : decode cX7_isIn 33 = .ok (.goto 10, 3) := by decide +kernel
theorem dX7_isIn_36 : decode cX7_isIn 36 = .ok (.aload_n 0, 1) := by decide +kernel
theorem dX7_isIn_37 : decode cX7_isIn 37 = .ok (.getfield 44, 3) := by decide +kernel
theorem dX7_isIn_40 : decode cX7_isIn 40 = .ok (.iload 4, 2) := by decide +kernel
theorem dX7_isIn_42 : decode cX7_isIn 42 = .ok (.iaload, 1) := by decide +kernel
theorem dX7_isIn_43 : decode cX7_isIn 43 = .ok (.isub, 1) := by decide +kernel
theorem dX7_isIn_44 : decode cX7_isIn 44 = .ok (.istore 6, 2) := by decide +kernel
theorem dX7_isIn_46 : decode cX7_isIn 46 = .ok (.aload_n 0, 1) := by decide +kernel
theorem dX7_isIn_47 : decode cX7_isIn 47 = .ok (.iload_n 1, 1) := by decide +kernel
theorem dX7_isIn_48 : decode cX7_isIn 48 = .ok (.iconst 0, 1) := by decide +kernel
theorem dX7_isIn_49 : decode cX7_isIn 49 = .ok (.invokevirtual 77, 3) := by decide +kernel
theorem dX7_isIn_52 : decode cX7_isIn 52 = .ok (.ifCond .eq 66, 3) := by decide +kernel
theorem dX7_isIn_55 : decode cX7_isIn 55 = .ok (.iload 5, 2) := by decide +kernel
theorem dX7_isIn_57 : decode cX7_isIn 57 = .ok (.aload_n 0, 1) := by decide +kernel
theorem dX7_isIn_58 : decode cX7_isIn 58 = .ok (.iload_n 1, 1) := by decide +kernel
theorem dX7_isIn_59 : decode cX7_isIn 59 = .ok (.iconst 3, 1) := by decide +kernel
theorem dX7_isIn_60 : decode cX7_isIn 60 = .ok (.invokevirtual 77, 3) := by decide +kernel
theorem dX7_isIn_63 : decode cX7_isIn 63 = .ok (.aload_n 0, 1) := by decide +kernel
theorem dX7_isIn_64 : decode cX7_isIn 64 = .ok (.iload_n 1, 1) := by decide +kernel
theorem dX7_isIn_65 : decode cX7_isIn 65 = .ok (.iconst 3, 1) := by decide +kernel
theorem dX7_isIn_66 : decode cX7_isIn 66 = .ok (.invokevirtual 77, 3) := by decide +kernel
theorem dX7_isIn_69 : decode cX7_isIn 69 = .ok (.aload_n 0, 1) := by decide +kernel
theorem dX7_isIn_70 : decode cX7_isIn 70 = .ok (.iload_n 1, 1) := by decide +kernel
theorem dX7_isIn_71 : decode cX7_isIn 71 = .ok (.iconst 5, 1) := by decide +kernel
theorem dX7_isIn_72 : decode cX7_isIn 72 = .ok (.invokevirtual 77, 3) := by decide +kernel
theorem dX7_isIn_75 : decode cX7_isIn 75 = .ok (.iadd, 1) := by decide +kernel
theorem dX7_isIn_76 : decode cX7_isIn 76 = .ok (.iconst 1, 1) := by decide +kernel
theorem dX7_isIn_77 : decode cX7_isIn 77 = .ok (.isub, 1) := by decide +kernel
theorem dX7_isIn_78 : decode cX7_isIn 78 = .ok (.invokestatic 73, 3) := by decide +kernel
theorem dX7_isIn_81 : decode cX7_isIn 81 = .ok (.ifCond .eq 37, 3) := by decide +kernel
theorem dX7_isIn_84 : decode cX7_isIn 84 = .ok (.iload 6, 2) := by decide +kernel
theorem dX7_isIn_86 : decode cX7_isIn 86 = .ok (.aload_n 0, 1) := by decide +kernel
theorem dX7_isIn_87 : decode cX7_isIn 87 = .ok (.iload_n 1, 1) := by decide +kernel
theorem dX7_isIn_88 : decode cX7_isIn 88 = .ok (.iconst 4, 1) := by decide +kernel
theorem dX7_isIn_89 : decode cX7_isIn 89 = .ok (.invokevirtual 77, 3) := by decide +kernel
theorem dX7_isIn_92 : decode cX7_isIn 92 = .ok (.aload_n 0, 1) := by decide +kernel
theorem dX7_isIn_93 : decode cX7_isIn 93 = .ok (.iload_n 1, 1) := by decide +kernel
theorem dX7_isIn_94 : decode cX7_isIn 94 = .ok (.iconst 4, 1) := by decide +kernel
theorem dX7_isIn_95 : decode cX7_isIn 95 = .ok (.invokevirtual 77, 3) := by decide +kernel
theorem dX7_isIn_98 : decode cX7_isIn 98 = .ok (.aload_n 0, 1) := by decide +kernel
theorem dX7_isIn_99 : decode cX7_isIn 99 = .ok (.iload_n 1, 1) := by decide +kernel
theorem dX7_isIn_100 : decode cX7_isIn 100 = .ok (.bipush 6, 2) := by decide +kernel
theorem dX7_isIn_102 : decode cX7_isIn 102 = .ok (.invokevirtual 77, 3) := by decide +kernel
theorem dX7_isIn_105 : decode cX7_isIn 105 = .ok (.iadd, 1) := by decide +kernel
theorem dX7_isIn_106 : decode cX7_isIn 106 = .ok (.iconst 1, 1) := by decide +kernel
theorem dX7_isIn_107 : decode cX7_isIn 107 = .ok (.isub, 1) := by decide +kernel
theorem dX7_isIn_108 : decode cX7_isIn 108 = .ok (.invokestatic 73, 3) := by decide +kernel
theorem dX7_isIn_111 : decode cX7_isIn 111 = .ok (.ifCond .eq 7, 3) := by decide +kernel
theorem dX7_isIn_114 : decode cX7_isIn 114 = .ok (.iconst 1, 1) := by decide +kernel
theorem dX7_isIn_115 : decode cX7_isIn 115 = .ok (.goto 4, 3) := by decide +kernel
theorem dX7_isIn_118 : decode cX7_isIn 118 = .ok (.iconst 0, 1) := by decide +kernel
theorem dX7_isIn_119 : decode cX7_isIn 119 = .ok (.ireturn, 1) := by decide +kernel
theorem dX7_moves_0 : decode cX7_moves 0 = .ok (.aload_n 0, 1) := by decide +kernel
theorem dX7_moves_1 : decode cX7_moves 1 = .ok (.getfield 47, 3) := by decide +kernel
theorem dX7_moves_4 : decode cX7_moves 4 = .ok (.iload_n 1, 1) := by decide +kernel
theorem dX7_moves_5 : decode cX7_moves 5 = .ok (.dup2, 1) := by decide +kernel
theorem dX7_moves_6 : decode cX7_moves 6 = .ok (.iaload, 1) := by decide +kernel
theorem dX7_moves_7 : decode cX7_moves 7 = .ok (.iload_n 2, 1) := by decide +kernel
theorem dX7_moves_8 : decode cX7_moves 8 = .ok (.aload_n 0, 1) := by decide +kernel
theorem dX7_moves_9 : decode cX7_moves 9 = .ok (.getfield 47, 3) := by decide +kernel
theorem dX7_moves_12 : decode cX7_moves 12 = .ok (.iload_n 1, 1) := by decide +kernel
theorem dX7_moves_13 : decode cX7_moves 13 = .ok (.iaload, 1) := by decide +kernel
theorem dX7_moves_14 : decode cX7_moves 14 = .ok (.isub, 1) := by decide +kernel
theorem dX7_moves_15 : decode cX7_moves 15 = .ok (.iload_n 3, 1) := by decide +kernel
theorem dX7_moves_16 : decode cX7_moves 16 = .ok (.imul, 1) := by decide +kernel
theorem dX7_moves_17 : decode cX7_moves 17 = .ok (.bipush 100, 2) := by decide +kernel
theorem dX7_moves_19 : decode cX7_moves 19 = .ok (.invokestatic 132, 3) := by decide +kernel
theorem dX7_moves_22 : decode cX7_moves 22 = .ok (.iadd, 1) := by decide +kernel
theorem dX7_moves_23 : decode cX7_moves 23 = .ok (.iastore, 1) := by decide +kernel
theorem dX7_moves_24 : decode cX7_moves 24 = .ok (.return_, 1) := by decide +kernel
theorem dX7_touches_0 : decode cX7_touches 0 = .ok (.aload_n 0, 1) := by decide +kernel
theorem dX7_touches_1 : decode cX7_touches 1 = .ok (.getfield 38, 3) := by decide +kernel
theorem dX7_touches_4 : decode cX7_touches 4 = .ok (.aload_n 0, 1) := by decide +kernel
theorem dX7_touches_5 : decode cX7_touches 5 = .ok (.iload_n 1, 1) := by decide +kernel
theorem dX7_touches_6 : decode cX7_touches 6 = .ok (.iconst 1, 1) := by decide +kernel
theorem dX7_touches_7 : decode cX7_touches 7 = .ok (.invokevirtual 77, 3) := by decide +kernel
theorem dX7_touches_10 : decode cX7_touches 10 = .ok (.iaload, 1) := by decide +kernel
theorem dX7_touches_11 : decode cX7_touches 11 = .ok (.istore_n 2, 1) := by decide +kernel
theorem dX7_touches_12 : decode cX7_touches 12 = .ok (.aload_n 0, 1) := by decide +kernel
theorem dX7_touches_13 : decode cX7_touches 13 = .ok (.iload_n 1, 1) := by decide +kernel
theorem dX7_touches_14 : decode cX7_touches 14 = .ok (.iconst 0, 1) := by decide +kernel
theorem dX7_touches_15 : decode cX7_touches 15 = .ok (.invokevirtual 77, 3) := by decide +kernel
theorem dX7_touches_18 : decode cX7_touches 18 = .ok (.iconst 1, 1) := by decide +kernel
theorem dX7_touches_19 : decode cX7_touches 19 = .ok (.if_icmp .ne 43, 3) := by decide +kernel
theorem dX7_touches_22 : decode cX7_touches 22 = .ok (.iconst 0, 1) := by decide +kernel
theorem dX7_touches_23 : decode cX7_touches 23 = .ok (.istore_n 3, 1) := by decide +kernel
theorem dX7_touches_24 : decode cX7_touches 24 = .ok (.iload_n 3, 1) := by decide +kernel
theorem dX7_touches_25 : decode cX7_touches 25 = .ok (.iconst 3, 1) := by decide +kernel
theorem dX7_touches_26 : decode cX7_touches 26 = .ok (.if_icmp .ge 33, 3) := by decide +kernel
theorem dX7_touches_29 : decode cX7_touches 29 = .ok (.aload_n 0, 1) := by decide +kernel
theorem dX7_touches_30 : decode cX7_touches 30 = .ok (.iload_n 3, 1) := by decide +kernel
theorem dX7_touches_31 : decode cX7_touches 31 = .ok (.aload_n 0, 1) := by decide +kernel
theorem dX7_touches_32 : decode cX7_touches 32 = .ok (.iload_n 1, 1) := by decide +kernel
theorem dX7_touches_33 : decode cX7_touches 33 = .ok (.bipush 7, 2) := by decide +kernel
theorem dX7_touches_35 : decode cX7_touches 35 = .ok (.iload_n 3, 1) := by decide +kernel
theorem dX7_touches_36 : decode cX7_touches 36 = .ok (.iadd, 1) := by decide +kernel
theorem dX7_touches_37 : decode cX7_touches 37 = .ok (.invokevirtual 77, 3) := by decide +kernel
theorem dX7_touches_40 : decode cX7_touches 40 = .ok (.iload_n 2, 1) := by decide +kernel
theorem dX7_touches_41 : decode cX7_touches 41 = .ok (.invokevirtual 135, 3) := by decide +kernel
theorem dX7_touches_44 : decode cX7_touches 44 = .ok (.aload_n 0, 1) := by decide +kernel
theorem dX7_touches_45 : decode cX7_touches 45 = .ok (.iconst 3, 1) := by decide +kernel
theorem dX7_touches_46 : decode cX7_touches 46 = .ok (.iload_n 3, 1) := by decide +kernel
theorem dX7_touches_47 : decode cX7_touches 47 = .ok (.iadd, 1) := by decide +kernel
theorem dX7_touches_48 : decode cX7_touches 48 = .ok (.iconst 0, 1) := by decide +kernel
theorem dX7_touches_49 : decode cX7_touches 49 = .ok (.iload_n 2, 1) := by decide +kernel
theorem dX7_touches_50 : decode cX7_touches 50 = .ok (.invokevirtual 135, 3) := by decide +kernel
theorem dX7_touches_53 : decode cX7_touches 53 = .ok (.iinc 3 1, 3) := by decide +kernel
theorem dX7_touches_56 : decode cX7_touches 56 = .ok (.goto (-32), 3) := by decide +kernel
theorem dX7_touches_59 : decode cX7_touches 59 = .ok (.goto 91, 3) := by decide +kernel
theorem dX7_touches_62 : decode cX7_touches 62 = .ok (.aload_n 0, 1) := by decide +kernel
theorem dX7_touches_63 : decode cX7_touches 63 = .ok (.iload_n 1, 1) := by decide +kernel
theorem dX7_touches_64 : decode cX7_touches 64 = .ok (.bipush 7, 2) := by decide +kernel
theorem dX7_touches_66 : decode cX7_touches 66 = .ok (.invokevirtual 77, 3) := by decide +kernel
theorem dX7_touches_69 : decode cX7_touches 69 = .ok (.istore_n 3, 1) := by decide +kernel
theorem dX7_touches_70 : decode cX7_touches 70 = .ok (.aload_n 0, 1) := by decide +kernel
theorem dX7_touches_71 : decode cX7_touches 71 = .ok (.iconst 3, 1) := by decide +kernel
theorem dX7_touches_72 : decode cX7_touches 72 = .ok (.iload_n 3, 1) := by decide +kernel
theorem dX7_touches_73 : decode cX7_touches 73 = .ok (.iadd, 1) := by decide +kernel
theorem dX7_touches_74 : decode cX7_touches 74 = .ok (.aload_n 0, 1) := by decide +kernel
theorem dX7_touches_75 : decode cX7_touches 75 = .ok (.iload_n 1, 1) := by decide +kernel
theorem dX7_touches_76 : decode cX7_touches 76 = .ok (.bipush 8, 2) := by decide +kernel
theorem dX7_touches_78 : decode cX7_touches 78 = .ok (.invokevirtual 77, 3) := by decide +kernel
theorem dX7_touches_81 : decode cX7_touches 81 = .ok (.iload_n 2, 1) := by decide +kernel
theorem dX7_touches_82 : decode cX7_touches 82 = .ok (.invokevirtual 135, 3) := by decide +kernel
theorem dX7_touches_85 : decode cX7_touches 85 = .ok (.iconst 0, 1) := by decide +kernel
theorem dX7_touches_86 : decode cX7_touches 86 = .ok (.istore 4, 2) := by decide +kernel
theorem dX7_touches_88 : decode cX7_touches 88 = .ok (.iload 4, 2) := by decide +kernel
theorem dX7_touches_90 : decode cX7_touches 90 = .ok (.iconst 3, 1) := by decide +kernel
theorem dX7_touches_91 : decode cX7_touches 91 = .ok (.if_icmp .ge 59, 3) := by decide +kernel
theorem dX7_touches_94 : decode cX7_touches 94 = .ok (.aload_n 0, 1) := by decide +kernel
theorem dX7_touches_95 : decode cX7_touches 95 = .ok (.getfield 7, 3) := by decide +kernel
theorem dX7_touches_98 : decode cX7_touches 98 = .ok (.iconst 5, 1) := by decide +kernel
theorem dX7_touches_99 : decode cX7_touches 99 = .ok (.iload_n 3, 1) := by decide +kernel
theorem dX7_touches_100 : decode cX7_touches 100 = .ok (.iadd, 1) := by decide +kernel
theorem dX7_touches_101 : decode cX7_touches 101 = .ok (.iaload, 1) := by decide +kernel
theorem dX7_touches_102 : decode cX7_touches 102 = .ok (.iconst 1, 1) := by decide +kernel
theorem dX7_touches_103 : decode cX7_touches 103 = .ok (.if_icmp .ne 47, 3) := by decide +kernel
theorem dX7_touches_106 : decode cX7_touches 106 = .ok (.aload_n 0, 1) := by decide +kernel
theorem dX7_touches_107 : decode cX7_touches 107 = .ok (.iload 4, 2) := by decide +kernel
theorem dX7_touches_109 : decode cX7_touches 109 = .ok (.sipush 255, 3) := by decide +kernel
theorem dX7_touches_112 : decode cX7_touches 112 = .ok (.iload_n 2, 1) := by decide +kernel
theorem dX7_touches_113 : decode cX7_touches 113 = .ok (.invokevirtual 135, 3) := by decide +kernel
theorem dX7_touches_116 : decode cX7_touches 116 = .ok (.aload_n 0, 1) := by decide +kernel
theorem dX7_touches_117 : decode cX7_touches 117 = .ok (.iconst 3, 1) := by decide +kernel
theorem dX7_touches_118 : decode cX7_touches 118 = .ok (.iload 4, 2) := by decide +kernel
theorem dX7_touches_120 : decode cX7_touches 120 = .ok (.iadd, 1) := by decide +kernel
theorem dX7_touches_121 : decode cX7_touches 121 = .ok (.iload 4, 2) := by decide +kernel
theorem dX7_touches_123 : decode cX7_touches 123 = .ok (.iload_n 3, 1) := by decide +kernel
theorem dX7_touches_124 : decode cX7_touches 124 = .ok (.if_icmp .ne 15, 3) := by decide +kernel
theorem dX7_touches_127 : decode cX7_touches 127 = .ok (.aload_n 0, 1) := by decide +kernel
theorem dX7_touches_128 : decode cX7_touches 128 = .ok (.getfield 47, 3) := by decide +kernel
theorem dX7_touches_131 : decode cX7_touches 131 = .ok (.iconst 3, 1) := by decide +kernel
theorem dX7_touches_132 : decode cX7_touches 132 = .ok (.iload 4, 2) := by decide +kernel
theorem dX7_touches_134 : decode cX7_touches 134 = .ok (.iadd, 1) := by decide +kernel
theorem dX7_touches_135 : decode cX7_touches 135 = .ok (.iaload, 1) := by decide +kernel
theorem dX7_touches_136 : decode cX7_touches 136 = .ok (.goto 4, 3) := by decide +kernel
theorem dX7_touches_139 : decode cX7_touches 139 = .ok (.iconst 0, 1) := by decide +kernel
theorem dX7_touches_140 : decode cX7_touches 140 = .ok (.iload_n 2, 1) := by decide +kernel
theorem dX7_touches_141 : decode cX7_touches 141 = .ok (.invokevirtual 135, 3) := by decide +kernel
theorem dX7_touches_144 : decode cX7_touches 144 = .ok (.iinc 4 1, 3) := by decide +kernel
theorem dX7_touches_147 : decode cX7_touches 147 = .ok (.goto (-59), 3) := by decide +kernel
theorem dX7_touches_150 : decode cX7_touches 150 = .ok (.return_, 1) := by decide +kernel
theorem dX7_renders_0 : decode cX7_renders 0 = .ok (.iconst 0, 1) := by decide +kernel
theorem dX7_renders_1 : decode cX7_renders 1 = .ok (.istore_n 3, 1) := by decide +kernel
theorem dX7_renders_2 : decode cX7_renders 2 = .ok (.iload_n 3, 1) := by decide +kernel
theorem dX7_renders_3 : decode cX7_renders 3 = .ok (.bipush 6, 2) := by decide +kernel
theorem dX7_renders_5 : decode cX7_renders 5 = .ok (.if_icmp .ge 27, 3) := by decide +kernel
theorem dX7_renders_8 : decode cX7_renders 8 = .ok (.aload_n 0, 1) := by decide +kernel
theorem dX7_renders_9 : decode cX7_renders 9 = .ok (.getfield 47, 3) := by decide +kernel
theorem dX7_renders_12 : decode cX7_renders 12 = .ok (.iload_n 3, 1) := by decide +kernel
theorem dX7_renders_13 : decode cX7_renders 13 = .ok (.iload_n 3, 1) := by decide +kernel
theorem dX7_renders_14 : decode cX7_renders 14 = .ok (.iconst 3, 1) := by decide +kernel
theorem dX7_renders_15 : decode cX7_renders 15 = .ok (.if_icmp .ge 9, 3) := by decide +kernel
theorem dX7_renders_18 : decode cX7_renders 18 = .ok (.sipush 255, 3) := by decide +kernel
theorem dX7_renders_21 : decode cX7_renders 21 = .ok (.goto 4, 3) := by decide +kernel
theorem dX7_renders_24 : decode cX7_renders 24 = .ok (.iconst 0, 1) := by decide +kernel
theorem dX7_renders_25 : decode cX7_renders 25 = .ok (.iastore, 1) := by decide +kernel
theorem dX7_renders_26 : decode cX7_renders 26 = .ok (.iinc 3 1, 3) := by decide +kernel
theorem dX7_renders_29 : decode cX7_renders 29 = .ok (.goto (-27), 3) := by decide +kernel
theorem dX7_renders_32 : decode cX7_renders 32 = .ok (.iconst 0, 1) := by decide +kernel
theorem dX7_renders_33 : decode cX7_renders 33 = .ok (.istore_n 3, 1) := by decide +kernel
theorem dX7_renders_34 : decode cX7_renders 34 = .ok (.iload_n 3, 1) := by decide +kernel
theorem dX7_renders_35 : decode cX7_renders 35 = .ok (.aload_n 0, 1) := by decide +kernel
theorem dX7_renders_36 : decode cX7_renders 36 = .ok (.getfield 126, 3) := by decide +kernel
theorem dX7_renders_39 : decode cX7_renders 39 = .ok (.if_icmp .ge 34, 3) := by decide +kernel
theorem dX7_renders_42 : decode cX7_renders 42 = .ok (.aload_n 0, 1) := by decide +kernel
theorem dX7_renders_43 : decode cX7_renders 43 = .ok (.aload_n 0, 1) := by decide +kernel
theorem dX7_renders_44 : decode cX7_renders 44 = .ok (.getfield 32, 3) := by decide +kernel
theorem dX7_renders_47 : decode cX7_renders 47 = .ok (.iload_n 3, 1) := by decide +kernel
theorem dX7_renders_48 : decode cX7_renders 48 = .ok (.iaload, 1) := by decide +kernel
theorem dX7_renders_49 : decode cX7_renders 49 = .ok (.iload_n 1, 1) := by decide +kernel
theorem dX7_renders_50 : decode cX7_renders 50 = .ok (.iload_n 2, 1) := by decide +kernel
theorem dX7_renders_51 : decode cX7_renders 51 = .ok (.invokevirtual 139, 3) := by decide +kernel
theorem dX7_renders_54 : decode cX7_renders 54 = .ok (.ifCond .eq 13, 3) := by decide +kernel
theorem dX7_renders_57 : decode cX7_renders 57 = .ok (.aload_n 0, 1) := by decide +kernel
theorem dX7_renders_58 : decode cX7_renders 58 = .ok (.aload_n 0, 1) := by decide +kernel
theorem dX7_renders_59 : decode cX7_renders 59 = .ok (.getfield 32, 3) := by decide +kernel
theorem dX7_renders_62 : decode cX7_renders 62 = .ok (.iload_n 3, 1) := by decide +kernel
theorem dX7_renders_63 : decode cX7_renders 63 = .ok (.iaload, 1) := by decide +kernel
theorem dX7_renders_64 : decode cX7_renders 64 = .ok (.invokevirtual 142, 3) := by decide +kernel
theorem dX7_renders_67 : decode cX7_renders 67 = .ok (.iinc 3 1, 3) := by decide +kernel
theorem dX7_renders_70 : decode cX7_renders 70 = .ok (.goto (-36), 3) := by decide +kernel
theorem dX7_renders_73 : decode cX7_renders 73 = .ok (.return_, 1) := by decide +kernel
theorem dX7_separates_0 : decode cX7_separates 0 = .ok (.sipush 255, 3) := by decide +kernel
theorem dX7_separates_3 : decode cX7_separates 3 = .ok (.istore_n 2, 1) := by decide +kernel
theorem dX7_separates_4 : decode cX7_separates 4 = .ok (.iconst 0, 1) := by decide +kernel
theorem dX7_separates_5 : decode cX7_separates 5 = .ok (.istore_n 3, 1) := by decide +kernel
theorem dX7_separates_6 : decode cX7_separates 6 = .ok (.iload_n 3, 1) := by decide +kernel
theorem dX7_separates_7 : decode cX7_separates 7 = .ok (.iconst 3, 1) := by decide +kernel
theorem dX7_separates_8 : decode cX7_separates 8 = .ok (.if_icmp .ge 62, 3) := by decide +kernel
theorem dX7_separates_11 : decode cX7_separates 11 = .ok (.aload_n 0, 1) := by decide +kernel
theorem dX7_separates_12 : decode cX7_separates 12 = .ok (.getfield 50, 3) := by decide +kernel
theorem dX7_separates_15 : decode cX7_separates 15 = .ok (.iload_n 3, 1) := by decide +kernel
theorem dX7_separates_16 : decode cX7_separates 16 = .ok (.sipush 255, 3) := by decide +kernel
theorem dX7_separates_19 : decode cX7_separates 19 = .ok (.aload_n 0, 1) := by decide +kernel
theorem dX7_separates_20 : decode cX7_separates 20 = .ok (.getfield 47, 3) := by decide +kernel
theorem dX7_separates_23 : decode cX7_separates 23 = .ok (.iload_n 3, 1) := by decide +kernel
theorem dX7_separates_24 : decode cX7_separates 24 = .ok (.iaload, 1) := by decide +kernel
theorem dX7_separates_25 : decode cX7_separates 25 = .ok (.isub, 1) := by decide +kernel
theorem dX7_separates_26 : decode cX7_separates 26 = .ok (.iastore, 1) := by decide +kernel
theorem dX7_separates_27 : decode cX7_separates 27 = .ok (.aload_n 0, 1) := by decide +kernel
theorem dX7_separates_28 : decode cX7_separates 28 = .ok (.getfield 50, 3) := by decide +kernel
theorem dX7_separates_31 : decode cX7_separates 31 = .ok (.iconst 4, 1) := by decide +kernel
theorem dX7_separates_32 : decode cX7_separates 32 = .ok (.iload_n 3, 1) := by decide +kernel
theorem dX7_separates_33 : decode cX7_separates 33 = .ok (.iadd, 1) := by decide +kernel
theorem dX7_separates_34 : decode cX7_separates 34 = .ok (.aload_n 0, 1) := by decide +kernel
theorem dX7_separates_35 : decode cX7_separates 35 = .ok (.getfield 47, 3) := by decide +kernel
theorem dX7_separates_38 : decode cX7_separates 38 = .ok (.iconst 3, 1) := by decide +kernel
theorem dX7_separates_39 : decode cX7_separates 39 = .ok (.iload_n 3, 1) := by decide +kernel
theorem dX7_separates_40 : decode cX7_separates 40 = .ok (.iadd, 1) := by decide +kernel
theorem dX7_separates_41 : decode cX7_separates 41 = .ok (.iaload, 1) := by decide +kernel
theorem dX7_separates_42 : decode cX7_separates 42 = .ok (.iastore, 1) := by decide +kernel
theorem dX7_separates_43 : decode cX7_separates 43 = .ok (.aload_n 0, 1) := by decide +kernel
theorem dX7_separates_44 : decode cX7_separates 44 = .ok (.getfield 50, 3) := by decide +kernel
theorem dX7_separates_47 : decode cX7_separates 47 = .ok (.iload_n 3, 1) := by decide +kernel
theorem dX7_separates_48 : decode cX7_separates 48 = .ok (.iaload, 1) := by decide +kernel
theorem dX7_separates_49 : decode cX7_separates 49 = .ok (.iload_n 2, 1) := by decide +kernel
theorem dX7_separates_50 : decode cX7_separates 50 = .ok (.if_icmp .ge 12, 3) := by decide +kernel
theorem dX7_separates_53 : decode cX7_separates 53 = .ok (.aload_n 0, 1) := by decide +kernel
theorem dX7_separates_54 : decode cX7_separates 54 = .ok (.getfield 50, 3) := by decide +kernel
theorem dX7_separates_57 : decode cX7_separates 57 = .ok (.iload_n 3, 1) := by decide +kernel
theorem dX7_separates_58 : decode cX7_separates 58 = .ok (.iaload, 1) := by decide +kernel
theorem dX7_separates_59 : decode cX7_separates 59 = .ok (.goto 4, 3) := by decide +kernel
theorem dX7_separates_62 : decode cX7_separates 62 = .ok (.iload_n 2, 1) := by decide +kernel
theorem dX7_separates_63 : decode cX7_separates 63 = .ok (.istore_n 2, 1) := by decide +kernel
theorem dX7_separates_64 : decode cX7_separates 64 = .ok (.iinc 3 1, 3) := by decide +kernel
theorem dX7_separates_67 : decode cX7_separates 67 = .ok (.goto (-61), 3) := by decide +kernel
theorem dX7_separates_70 : decode cX7_separates 70 = .ok (.iload_n 2, 1) := by decide +kernel
theorem dX7_separates_71 : decode cX7_separates 71 = .ok (.aload_n 0, 1) := by decide +kernel
theorem dX7_separates_72 : decode cX7_separates 72 = .ok (.getfield 7, 3) := by decide +kernel
theorem dX7_separates_75 : decode cX7_separates 75 = .ok (.iconst 3, 1) := by decide +kernel
theorem dX7_separates_76 : decode cX7_separates 76 = .ok (.iaload, 1) := by decide +kernel
theorem dX7_separates_77 : decode cX7_separates 77 = .ok (.if_icmp .le 14, 3) := by decide +kernel
theorem dX7_separates_80 : decode cX7_separates 80 = .ok (.iload_n 2, 1) := by decide +kernel
theorem dX7_separates_81 : decode cX7_separates 81 = .ok (.aload_n 0, 1) := by decide +kernel
theorem dX7_separates_82 : decode cX7_separates 82 = .ok (.getfield 7, 3) := by decide +kernel
theorem dX7_separates_85 : decode cX7_separates 85 = .ok (.iconst 3, 1) := by decide +kernel
theorem dX7_separates_86 : decode cX7_separates 86 = .ok (.iaload, 1) := by decide +kernel
theorem dX7_separates_87 : decode cX7_separates 87 = .ok (.isub, 1) := by decide +kernel
theorem dX7_separates_88 : decode cX7_separates 88 = .ok (.goto 4, 3) := by decide +kernel
theorem dX7_separates_91 : decode cX7_separates 91 = .ok (.iconst 0, 1) := by decide +kernel
theorem dX7_separates_92 : decode cX7_separates 92 = .ok (.istore_n 3, 1) := by decide +kernel
theorem dX7_separates_93 : decode cX7_separates 93 = .ok (.aload_n 0, 1) := by decide +kernel
theorem dX7_separates_94 : decode cX7_separates 94 = .ok (.getfield 50, 3) := by decide +kernel
theorem dX7_separates_97 : decode cX7_separates 97 = .ok (.iconst 3, 1) := by decide +kernel
theorem dX7_separates_98 : decode cX7_separates 98 = .ok (.iload_n 3, 1) := by decide +kernel
theorem dX7_separates_99 : decode cX7_separates 99 = .ok (.iload_n 1, 1) := by decide +kernel
theorem dX7_separates_100 : decode cX7_separates 100 = .ok (.imul, 1) := by decide +kernel
theorem dX7_separates_101 : decode cX7_separates 101 = .ok (.bipush 100, 2) := by decide +kernel
theorem dX7_separates_103 : decode cX7_separates 103 = .ok (.idiv, 1) := by decide +kernel
theorem dX7_separates_104 : decode cX7_separates 104 = .ok (.iastore, 1) := by decide +kernel
theorem dX7_separates_105 : decode cX7_separates 105 = .ok (.iconst 0, 1) := by decide +kernel
theorem dX7_separates_106 : decode cX7_separates 106 = .ok (.istore 4, 2) := by decide +kernel
theorem dX7_separates_108 : decode cX7_separates 108 = .ok (.iload 4, 2) := by decide +kernel
theorem dX7_separates_110 : decode cX7_separates 110 = .ok (.iconst 3, 1) := by decide +kernel
theorem dX7_separates_111 : decode cX7_separates 111 = .ok (.if_icmp .ge 25, 3) := by decide +kernel
theorem dX7_separates_114 : decode cX7_separates 114 = .ok (.aload_n 0, 1) := by decide +kernel
theorem dX7_separates_115 : decode cX7_separates 115 = .ok (.getfield 50, 3) := by decide +kernel
theorem dX7_separates_118 : decode cX7_separates 118 = .ok (.iload 4, 2) := by decide +kernel
theorem dX7_separates_120 : decode cX7_separates 120 = .ok (.dup2, 1) := by decide +kernel
theorem dX7_separates_121 : decode cX7_separates 121 = .ok (.iaload, 1) := by decide +kernel
theorem dX7_separates_122 : decode cX7_separates 122 = .ok (.aload_n 0, 1) := by decide +kernel
theorem dX7_separates_123 : decode cX7_separates 123 = .ok (.getfield 50, 3) := by decide +kernel
theorem dX7_separates_126 : decode cX7_separates 126 = .ok (.iconst 3, 1) := by decide +kernel
theorem dX7_separates_127 : decode cX7_separates 127 = .ok (.iaload, 1) := by decide +kernel
theorem dX7_separates_128 : decode cX7_separates 128 = .ok (.isub, 1) := by decide +kernel
theorem dX7_separates_129 : decode cX7_separates 129 = .ok (.iastore, 1) := by decide +kernel
theorem dX7_separates_130 : decode cX7_separates 130 = .ok (.iinc 4 1, 3) := by decide +kernel
theorem dX7_separates_133 : decode cX7_separates 133 = .ok (.goto (-25), 3) := by decide +kernel
theorem dX7_separates_136 : decode cX7_separates 136 = .ok (.iconst 0, 1) := by decide +kernel
theorem dX7_separates_137 : decode cX7_separates 137 = .ok (.istore 4, 2) := by decide +kernel
theorem dX7_separates_139 : decode cX7_separates 139 = .ok (.iload 4, 2) := by decide +kernel
theorem dX7_separates_141 : decode cX7_separates 141 = .ok (.bipush 7, 2) := by decide +kernel
theorem dX7_separates_143 : decode cX7_separates 143 = .ok (.if_icmp .ge 43, 3) := by decide +kernel
theorem dX7_separates_146 : decode cX7_separates 146 = .ok (.aload_n 0, 1) := by decide +kernel
theorem dX7_separates_147 : decode cX7_separates 147 = .ok (.getfield 50, 3) := by decide +kernel
theorem dX7_separates_150 : decode cX7_separates 150 = .ok (.iload 4, 2) := by decide +kernel
theorem dX7_separates_152 : decode cX7_separates 152 = .ok (.aload_n 0, 1) := by decide +kernel
theorem dX7_separates_153 : decode cX7_separates 153 = .ok (.iload 4, 2) := by decide +kernel
theorem dX7_separates_155 : decode cX7_separates 155 = .ok (.aload_n 0, 1) := by decide +kernel
theorem dX7_separates_156 : decode cX7_separates 156 = .ok (.getfield 50, 3) := by decide +kernel
theorem dX7_separates_159 : decode cX7_separates 159 = .ok (.iload 4, 2) := by decide +kernel
theorem dX7_separates_161 : decode cX7_separates 161 = .ok (.iaload, 1) := by decide +kernel
theorem dX7_separates_162 : decode cX7_separates 162 = .ok (.invokevirtual 123, 3) := by decide +kernel
theorem dX7_separates_165 : decode cX7_separates 165 = .ok (.iastore, 1) := by decide +kernel
theorem dX7_separates_166 : decode cX7_separates 166 = .ok (.aload_n 0, 1) := by decide +kernel
theorem dX7_separates_167 : decode cX7_separates 167 = .ok (.getfield 53, 3) := by decide +kernel
theorem dX7_separates_170 : decode cX7_separates 170 = .ok (.iload 4, 2) := by decide +kernel
theorem dX7_separates_172 : decode cX7_separates 172 = .ok (.aload_n 0, 1) := by decide +kernel
theorem dX7_separates_173 : decode cX7_separates 173 = .ok (.getfield 50, 3) := by decide +kernel
theorem dX7_separates_176 : decode cX7_separates 176 = .ok (.iload 4, 2) := by decide +kernel
theorem dX7_separates_178 : decode cX7_separates 178 = .ok (.iaload, 1) := by decide +kernel
theorem dX7_separates_179 : decode cX7_separates 179 = .ok (.iastore, 1) := by decide +kernel
theorem dX7_separates_180 : decode cX7_separates 180 = .ok (.iinc 4 1, 3) := by decide +kernel
theorem dX7_separates_183 : decode cX7_separates 183 = .ok (.goto (-44), 3) := by decide +kernel
theorem dX7_separates_186 : decode cX7_separates 186 = .ok (.aload_n 0, 1) := by decide +kernel
theorem dX7_separates_187 : decode cX7_separates 187 = .ok (.invokevirtual 146, 3) := by decide +kernel
theorem dX7_separates_190 : decode cX7_separates 190 = .ok (.return_, 1) := by decide +kernel
theorem dX7_limits_0 : decode cX7_limits 0 = .ok (.aload_n 0, 1) := by decide +kernel
theorem dX7_limits_1 : decode cX7_limits 1 = .ok (.getfield 50, 3) := by decide +kernel
theorem dX7_limits_4 : decode cX7_limits 4 = .ok (.iconst 4, 1) := by decide +kernel
theorem dX7_limits_5 : decode cX7_limits 5 = .ok (.iaload, 1) := by decide +kernel
theorem dX7_limits_6 : decode cX7_limits 6 = .ok (.aload_n 0, 1) := by decide +kernel
theorem dX7_limits_7 : decode cX7_limits 7 = .ok (.getfield 50, 3) := by decide +kernel
theorem dX7_limits_10 : decode cX7_limits 10 = .ok (.iconst 5, 1) := by decide +kernel
theorem dX7_limits_11 : decode cX7_limits 11 = .ok (.iaload, 1) := by decide +kernel
theorem dX7_limits_12 : decode cX7_limits 12 = .ok (.iadd, 1) := by decide +kernel
theorem dX7_limits_13 : decode cX7_limits 13 = .ok (.aload_n 0, 1) := by decide +kernel
theorem dX7_limits_14 : decode cX7_limits 14 = .ok (.getfield 50, 3) := by decide +kernel
theorem dX7_limits_17 : decode cX7_limits 17 = .ok (.bipush 6, 2) := by decide +kernel
theorem dX7_limits_19 : decode cX7_limits 19 = .ok (.iaload, 1) := by decide +kernel
theorem dX7_limits_20 : decode cX7_limits 20 = .ok (.iadd, 1) := by decide +kernel
theorem dX7_limits_21 : decode cX7_limits 21 = .ok (.istore_n 1, 1) := by decide +kernel
theorem dX7_limits_22 : decode cX7_limits 22 = .ok (.aload_n 0, 1) := by decide +kernel
theorem dX7_limits_23 : decode cX7_limits 23 = .ok (.getfield 7, 3) := by decide +kernel
theorem dX7_limits_26 : decode cX7_limits 26 = .ok (.iconst 4, 1) := by decide +kernel
theorem dX7_limits_27 : decode cX7_limits 27 = .ok (.iaload, 1) := by decide +kernel
theorem dX7_limits_28 : decode cX7_limits 28 = .ok (.aload_n 0, 1) := by decide +kernel
theorem dX7_limits_29 : decode cX7_limits 29 = .ok (.getfield 50, 3) := by decide +kernel
theorem dX7_limits_32 : decode cX7_limits 32 = .ok (.iconst 3, 1) := by decide +kernel
theorem dX7_limits_33 : decode cX7_limits 33 = .ok (.iaload, 1) := by decide +kernel
theorem dX7_limits_34 : decode cX7_limits 34 = .ok (.isub, 1) := by decide +kernel
theorem dX7_limits_35 : decode cX7_limits 35 = .ok (.iload_n 1, 1) := by decide +kernel
theorem dX7_limits_36 : decode cX7_limits 36 = .ok (.isub, 1) := by decide +kernel
theorem dX7_limits_37 : decode cX7_limits 37 = .ok (.istore_n 2, 1) := by decide +kernel
theorem dX7_limits_38 : decode cX7_limits 38 = .ok (.aload_n 0, 1) := by decide +kernel
theorem dX7_limits_39 : decode cX7_limits 39 = .ok (.getfield 50, 3) := by decide +kernel
theorem dX7_limits_42 : decode cX7_limits 42 = .ok (.iconst 0, 1) := by decide +kernel
theorem dX7_limits_43 : decode cX7_limits 43 = .ok (.iaload, 1) := by decide +kernel
theorem dX7_limits_44 : decode cX7_limits 44 = .ok (.aload_n 0, 1) := by decide +kernel
theorem dX7_limits_45 : decode cX7_limits 45 = .ok (.getfield 50, 3) := by decide +kernel
theorem dX7_limits_48 : decode cX7_limits 48 = .ok (.iconst 1, 1) := by decide +kernel
theorem dX7_limits_49 : decode cX7_limits 49 = .ok (.iaload, 1) := by decide +kernel
theorem dX7_limits_50 : decode cX7_limits 50 = .ok (.iadd, 1) := by decide +kernel
theorem dX7_limits_51 : decode cX7_limits 51 = .ok (.aload_n 0, 1) := by decide +kernel
theorem dX7_limits_52 : decode cX7_limits 52 = .ok (.getfield 50, 3) := by decide +kernel
theorem dX7_limits_55 : decode cX7_limits 55 = .ok (.iconst 2, 1) := by decide +kernel
theorem dX7_limits_56 : decode cX7_limits 56 = .ok (.iaload, 1) := by decide +kernel
theorem dX7_limits_57 : decode cX7_limits 57 = .ok (.iadd, 1) := by decide +kernel
theorem dX7_limits_58 : decode cX7_limits 58 = .ok (.istore_n 3, 1) := by decide +kernel
theorem dX7_limits_59 : decode cX7_limits 59 = .ok (.iconst 0, 1) := by decide +kernel
theorem dX7_limits_60 : decode cX7_limits 60 = .ok (.istore 4, 2) := by decide +kernel
theorem dX7_limits_62 : decode cX7_limits 62 = .ok (.iload 4, 2) := by decide +kernel
theorem dX7_limits_64 : decode cX7_limits 64 = .ok (.iconst 3, 1) := by decide +kernel
theorem dX7_limits_65 : decode cX7_limits 65 = .ok (.if_icmp .ge 50, 3) := by decide +kernel
theorem dX7_limits_68 : decode cX7_limits 68 = .ok (.aload_n 0, 1) := by decide +kernel
theorem dX7_limits_69 : decode cX7_limits 69 = .ok (.getfield 53, 3) := by decide +kernel
theorem dX7_limits_72 : decode cX7_limits 72 = .ok (.iload 4, 2) := by decide +kernel
theorem dX7_limits_74 : decode cX7_limits 74 = .ok (.iload_n 2, 1) := by decide +kernel
theorem dX7_limits_75 : decode cX7_limits 75 = .ok (.ifCond .ge 7, 3) := by decide +kernel
theorem dX7_limits_78 : decode cX7_limits 78 = .ok (.iconst 0, 1) := by decide +kernel
theorem dX7_limits_79 : decode cX7_limits 79 = .ok (.goto 29, 3) := by decide +kernel
theorem dX7_limits_82 : decode cX7_limits 82 = .ok (.iload_n 3, 1) := by decide +kernel
theorem dX7_limits_83 : decode cX7_limits 83 = .ok (.iload_n 2, 1) := by decide +kernel
theorem dX7_limits_84 : decode cX7_limits 84 = .ok (.if_icmp .le 17, 3) := by decide +kernel
theorem dX7_limits_87 : decode cX7_limits 87 = .ok (.aload_n 0, 1) := by decide +kernel
theorem dX7_limits_88 : decode cX7_limits 88 = .ok (.getfield 50, 3) := by decide +kernel
theorem dX7_limits_91 : decode cX7_limits 91 = .ok (.iload 4, 2) := by decide +kernel
theorem dX7_limits_93 : decode cX7_limits 93 = .ok (.iaload, 1) := by decide +kernel
theorem dX7_limits_94 : decode cX7_limits 94 = .ok (.iload_n 2, 1) := by decide +kernel
theorem dX7_limits_95 : decode cX7_limits 95 = .ok (.imul, 1) := by decide +kernel
theorem dX7_limits_96 : decode cX7_limits 96 = .ok (.iload_n 3, 1) := by decide +kernel
theorem dX7_limits_97 : decode cX7_limits 97 = .ok (.idiv, 1) := by decide +kernel
theorem dX7_limits_98 : decode cX7_limits 98 = .ok (.goto 10, 3) := by decide +kernel
theorem dX7_limits_101 : decode cX7_limits 101 = .ok (.aload_n 0, 1) := by decide +kernel
theorem dX7_limits_102 : decode cX7_limits 102 = .ok (.getfield 50, 3) := by decide +kernel
theorem dX7_limits_105 : decode cX7_limits 105 = .ok (.iload 4, 2) := by decide +kernel
theorem dX7_limits_107 : decode cX7_limits 107 = .ok (.iaload, 1) := by decide +kernel
theorem dX7_limits_108 : decode cX7_limits 108 = .ok (.iastore, 1) := by decide +kernel
theorem dX7_limits_109 : decode cX7_limits 109 = .ok (.iinc 4 1, 3) := by decide +kernel
theorem dX7_limits_112 : decode cX7_limits 112 = .ok (.goto (-50), 3) := by decide +kernel
theorem dX7_limits_115 : decode cX7_limits 115 = .ok (.iload_n 2, 1) := by decide +kernel
theorem dX7_limits_116 : decode cX7_limits 116 = .ok (.ifCond .ge 90, 3) := by decide +kernel
theorem dX7_limits_119 : decode cX7_limits 119 = .ok (.aload_n 0, 1) := by decide +kernel
theorem dX7_limits_120 : decode cX7_limits 120 = .ok (.getfield 53, 3) := by decide +kernel
theorem dX7_limits_123 : decode cX7_limits 123 = .ok (.iconst 3, 1) := by decide +kernel
theorem dX7_limits_124 : decode cX7_limits 124 = .ok (.aload_n 0, 1) := by decide +kernel
theorem dX7_limits_125 : decode cX7_limits 125 = .ok (.getfield 7, 3) := by decide +kernel
theorem dX7_limits_128 : decode cX7_limits 128 = .ok (.iconst 4, 1) := by decide +kernel
theorem dX7_limits_129 : decode cX7_limits 129 = .ok (.iaload, 1) := by decide +kernel
theorem dX7_limits_130 : decode cX7_limits 130 = .ok (.iload_n 1, 1) := by decide +kernel
theorem dX7_limits_131 : decode cX7_limits 131 = .ok (.if_icmp .le 14, 3) := by decide +kernel
theorem dX7_limits_134 : decode cX7_limits 134 = .ok (.aload_n 0, 1) := by decide +kernel
theorem dX7_limits_135 : decode cX7_limits 135 = .ok (.getfield 7, 3) := by decide +kernel
theorem dX7_limits_138 : decode cX7_limits 138 = .ok (.iconst 4, 1) := by decide +kernel
theorem dX7_limits_139 : decode cX7_limits 139 = .ok (.iaload, 1) := by decide +kernel
theorem dX7_limits_140 : decode cX7_limits 140 = .ok (.iload_n 1, 1) := by decide +kernel
theorem dX7_limits_141 : decode cX7_limits 141 = .ok (.isub, 1) := by decide +kernel
theorem dX7_limits_142 : decode cX7_limits 142 = .ok (.goto 4, 3) := by decide +kernel
theorem dX7_limits_145 : decode cX7_limits 145 = .ok (.iconst 0, 1) := by decide +kernel
theorem dX7_limits_146 : decode cX7_limits 146 = .ok (.iastore, 1) := by decide +kernel
theorem dX7_limits_147 : decode cX7_limits 147 = .ok (.iconst 4, 1) := by decide +kernel
theorem dX7_limits_148 : decode cX7_limits 148 = .ok (.istore 4, 2) := by decide +kernel
theorem dX7_limits_150 : decode cX7_limits 150 = .ok (.iload 4, 2) := by decide +kernel
theorem dX7_limits_152 : decode cX7_limits 152 = .ok (.bipush 7, 2) := by decide +kernel
theorem dX7_limits_154 : decode cX7_limits 154 = .ok (.if_icmp .ge 52, 3) := by decide +kernel
theorem dX7_limits_157 : decode cX7_limits 157 = .ok (.aload_n 0, 1) := by decide +kernel
theorem dX7_limits_158 : decode cX7_limits 158 = .ok (.getfield 53, 3) := by decide +kernel
theorem dX7_limits_161 : decode cX7_limits 161 = .ok (.iload 4, 2) := by decide +kernel
theorem dX7_limits_163 : decode cX7_limits 163 = .ok (.aload_n 0, 1) := by decide +kernel
theorem dX7_limits_164 : decode cX7_limits 164 = .ok (.getfield 7, 3) := by decide +kernel
theorem dX7_limits_167 : decode cX7_limits 167 = .ok (.iconst 4, 1) := by decide +kernel
theorem dX7_limits_168 : decode cX7_limits 168 = .ok (.iaload, 1) := by decide +kernel
theorem dX7_limits_169 : decode cX7_limits 169 = .ok (.iload_n 1, 1) := by decide +kernel
theorem dX7_limits_170 : decode cX7_limits 170 = .ok (.if_icmp .ge 22, 3) := by decide +kernel
theorem dX7_limits_173 : decode cX7_limits 173 = .ok (.aload_n 0, 1) := by decide +kernel
theorem dX7_limits_174 : decode cX7_limits 174 = .ok (.getfield 50, 3) := by decide +kernel
theorem dX7_limits_177 : decode cX7_limits 177 = .ok (.iload 4, 2) := by decide +kernel
theorem dX7_limits_179 : decode cX7_limits 179 = .ok (.iaload, 1) := by decide +kernel
theorem dX7_limits_180 : decode cX7_limits 180 = .ok (.aload_n 0, 1) := by decide +kernel
theorem dX7_limits_181 : decode cX7_limits 181 = .ok (.getfield 7, 3) := by decide +kernel
theorem dX7_limits_184 : decode cX7_limits 184 = .ok (.iconst 4, 1) := by decide +kernel
theorem dX7_limits_185 : decode cX7_limits 185 = .ok (.iaload, 1) := by decide +kernel
theorem dX7_limits_186 : decode cX7_limits 186 = .ok (.imul, 1) := by decide +kernel
theorem dX7_limits_187 : decode cX7_limits 187 = .ok (.iload_n 1, 1) := by decide +kernel
theorem dX7_limits_188 : decode cX7_limits 188 = .ok (.idiv, 1) := by decide +kernel
theorem dX7_limits_189 : decode cX7_limits 189 = .ok (.goto 10, 3) := by decide +kernel
theorem dX7_limits_192 : decode cX7_limits 192 = .ok (.aload_n 0, 1) := by decide +kernel
theorem dX7_limits_193 : decode cX7_limits 193 = .ok (.getfield 50, 3) := by decide +kernel
theorem dX7_limits_196 : decode cX7_limits 196 = .ok (.iload 4, 2) := by decide +kernel
theorem dX7_limits_198 : decode cX7_limits 198 = .ok (.iaload, 1) := by decide +kernel
theorem dX7_limits_199 : decode cX7_limits 199 = .ok (.iastore, 1) := by decide +kernel
theorem dX7_limits_200 : decode cX7_limits 200 = .ok (.iinc 4 1, 3) := by decide +kernel
theorem dX7_limits_203 : decode cX7_limits 203 = .ok (.goto (-53), 3) := by decide +kernel
theorem dX7_limits_206 : decode cX7_limits 206 = .ok (.return_, 1) := by decide +kernel
theorem dX7_told_0 : decode cX7_told 0 = .ok (.iconst 0, 1) := by decide +kernel
theorem dX7_told_1 : decode cX7_told 1 = .ok (.istore_n 2, 1) := by decide +kernel
theorem dX7_told_2 : decode cX7_told 2 = .ok (.iconst 0, 1) := by decide +kernel
theorem dX7_told_3 : decode cX7_told 3 = .ok (.istore_n 3, 1) := by decide +kernel
theorem dX7_told_4 : decode cX7_told 4 = .ok (.iload_n 3, 1) := by decide +kernel
theorem dX7_told_5 : decode cX7_told 5 = .ok (.bipush 7, 2) := by decide +kernel
theorem dX7_told_7 : decode cX7_told 7 = .ok (.if_icmp .ge 33, 3) := by decide +kernel
theorem dX7_told_10 : decode cX7_told 10 = .ok (.iload_n 2, 1) := by decide +kernel
theorem dX7_told_11 : decode cX7_told 11 = .ok (.iload_n 1, 1) := by decide +kernel
theorem dX7_told_12 : decode cX7_told 12 = .ok (.bipush 7, 2) := by decide +kernel
theorem dX7_told_14 : decode cX7_told 14 = .ok (.if_icmp .eq 8, 3) := by decide +kernel
theorem dX7_told_17 : decode cX7_told 17 = .ok (.iload_n 1, 1) := by decide +kernel
theorem dX7_told_18 : decode cX7_told 18 = .ok (.iload_n 3, 1) := by decide +kernel
theorem dX7_told_19 : decode cX7_told 19 = .ok (.if_icmp .ne 12, 3) := by decide +kernel
theorem dX7_told_22 : decode cX7_told 22 = .ok (.aload_n 0, 1) := by decide +kernel
theorem dX7_told_23 : decode cX7_told 23 = .ok (.getfield 53, 3) := by decide +kernel
theorem dX7_told_26 : decode cX7_told 26 = .ok (.iload_n 3, 1) := by decide +kernel
theorem dX7_told_27 : decode cX7_told 27 = .ok (.iaload, 1) := by decide +kernel
theorem dX7_told_28 : decode cX7_told 28 = .ok (.goto 4, 3) := by decide +kernel
theorem dX7_told_31 : decode cX7_told 31 = .ok (.iconst 0, 1) := by decide +kernel
theorem dX7_told_32 : decode cX7_told 32 = .ok (.iadd, 1) := by decide +kernel
theorem dX7_told_33 : decode cX7_told 33 = .ok (.istore_n 2, 1) := by decide +kernel
theorem dX7_told_34 : decode cX7_told 34 = .ok (.iinc 3 1, 3) := by decide +kernel
theorem dX7_told_37 : decode cX7_told 37 = .ok (.goto (-33), 3) := by decide +kernel
theorem dX7_told_40 : decode cX7_told 40 = .ok (.iload_n 2, 1) := by decide +kernel
theorem dX7_told_41 : decode cX7_told 41 = .ok (.ireturn, 1) := by decide +kernel
theorem dX7_sumEarly_0 : decode cX7_sumEarly 0 = .ok (.iconst 0, 1) := by decide +kernel
theorem dX7_sumEarly_1 : decode cX7_sumEarly 1 = .ok (.istore_n 1, 1) := by decide +kernel
theorem dX7_sumEarly_2 : decode cX7_sumEarly 2 = .ok (.iconst 0, 1) := by decide +kernel
theorem dX7_sumEarly_3 : decode cX7_sumEarly 3 = .ok (.istore_n 2, 1) := by decide +kernel
theorem dX7_sumEarly_4 : decode cX7_sumEarly 4 = .ok (.iload_n 2, 1) := by decide +kernel
theorem dX7_sumEarly_5 : decode cX7_sumEarly 5 = .ok (.bipush 7, 2) := by decide +kernel
theorem dX7_sumEarly_7 : decode cX7_sumEarly 7 = .ok (.if_icmp .ge 18, 3) := by decide +kernel
theorem dX7_sumEarly_10 : decode cX7_sumEarly 10 = .ok (.iload_n 1, 1) := by decide +kernel
theorem dX7_sumEarly_11 : decode cX7_sumEarly 11 = .ok (.aload_n 0, 1) := by decide +kernel
theorem dX7_sumEarly_12 : decode cX7_sumEarly 12 = .ok (.getfield 50, 3) := by decide +kernel
theorem dX7_sumEarly_15 : decode cX7_sumEarly 15 = .ok (.iload_n 2, 1) := by decide +kernel
theorem dX7_sumEarly_16 : decode cX7_sumEarly 16 = .ok (.iaload, 1) := by decide +kernel
theorem dX7_sumEarly_17 : decode cX7_sumEarly 17 = .ok (.iadd, 1) := by decide +kernel
theorem dX7_sumEarly_18 : decode cX7_sumEarly 18 = .ok (.istore_n 1, 1) := by decide +kernel
theorem dX7_sumEarly_19 : decode cX7_sumEarly 19 = .ok (.iinc 2 1, 3) := by decide +kernel
theorem dX7_sumEarly_22 : decode cX7_sumEarly 22 = .ok (.goto (-18), 3) := by decide +kernel
theorem dX7_sumEarly_25 : decode cX7_sumEarly 25 = .ok (.iload_n 1, 1) := by decide +kernel
theorem dX7_sumEarly_26 : decode cX7_sumEarly 26 = .ok (.ireturn, 1) := by decide +kernel
theorem dX7_isPixel_0 : decode cX7_isPixel 0 = .ok (.iload_n 1, 1) := by decide +kernel
theorem dX7_isPixel_1 : decode cX7_isPixel 1 = .ok (.iconst 0, 1) := by decide +kernel
theorem dX7_isPixel_2 : decode cX7_isPixel 2 = .ok (.aload_n 0, 1) := by decide +kernel
theorem dX7_isPixel_3 : decode cX7_isPixel 3 = .ok (.getfield 7, 3) := by decide +kernel
theorem dX7_isPixel_6 : decode cX7_isPixel 6 = .ok (.iconst 0, 1) := by decide +kernel
theorem dX7_isPixel_7 : decode cX7_isPixel 7 = .ok (.iaload, 1) := by decide +kernel
theorem dX7_isPixel_8 : decode cX7_isPixel 8 = .ok (.iconst 1, 1) := by decide +kernel
theorem dX7_isPixel_9 : decode cX7_isPixel 9 = .ok (.isub, 1) := by decide +kernel
theorem dX7_isPixel_10 : decode cX7_isPixel 10 = .ok (.invokestatic 73, 3) := by decide +kernel
theorem dX7_isPixel_13 : decode cX7_isPixel 13 = .ok (.ifCond .eq 23, 3) := by decide +kernel
theorem dX7_isPixel_16 : decode cX7_isPixel 16 = .ok (.iload_n 2, 1) := by decide +kernel
theorem dX7_isPixel_17 : decode cX7_isPixel 17 = .ok (.iconst 0, 1) := by decide +kernel
theorem dX7_isPixel_18 : decode cX7_isPixel 18 = .ok (.aload_n 0, 1) := by decide +kernel
theorem dX7_isPixel_19 : decode cX7_isPixel 19 = .ok (.getfield 7, 3) := by decide +kernel
theorem dX7_isPixel_22 : decode cX7_isPixel 22 = .ok (.iconst 1, 1) := by decide +kernel
theorem dX7_isPixel_23 : decode cX7_isPixel 23 = .ok (.iaload, 1) := by decide +kernel
theorem dX7_isPixel_24 : decode cX7_isPixel 24 = .ok (.iconst 1, 1) := by decide +kernel
theorem dX7_isPixel_25 : decode cX7_isPixel 25 = .ok (.isub, 1) := by decide +kernel
theorem dX7_isPixel_26 : decode cX7_isPixel 26 = .ok (.invokestatic 73, 3) := by decide +kernel
theorem dX7_isPixel_29 : decode cX7_isPixel 29 = .ok (.ifCond .eq 7, 3) := by decide +kernel
theorem dX7_isPixel_32 : decode cX7_isPixel 32 = .ok (.iconst 1, 1) := by decide +kernel
theorem dX7_isPixel_33 : decode cX7_isPixel 33 = .ok (.goto 4, 3) := by decide +kernel
theorem dX7_isPixel_36 : decode cX7_isPixel 36 = .ok (.iconst 0, 1) := by decide +kernel
theorem dX7_isPixel_37 : decode cX7_isPixel 37 = .ok (.ireturn, 1) := by decide +kernel
theorem dX7_rendered_0 : decode cX7_rendered 0 = .ok (.aload_n 0, 1) := by decide +kernel
theorem dX7_rendered_1 : decode cX7_rendered 1 = .ok (.iload_n 1, 1) := by decide +kernel
theorem dX7_rendered_2 : decode cX7_rendered 2 = .ok (.iload_n 2, 1) := by decide +kernel
theorem dX7_rendered_3 : decode cX7_rendered 3 = .ok (.invokevirtual 149, 3) := by decide +kernel
theorem dX7_rendered_6 : decode cX7_rendered 6 = .ok (.ifCond .eq 12, 3) := by decide +kernel
theorem dX7_rendered_9 : decode cX7_rendered 9 = .ok (.iload_n 3, 1) := by decide +kernel
theorem dX7_rendered_10 : decode cX7_rendered 10 = .ok (.iconst 0, 1) := by decide +kernel
theorem dX7_rendered_11 : decode cX7_rendered 11 = .ok (.iconst 5, 1) := by decide +kernel
theorem dX7_rendered_12 : decode cX7_rendered 12 = .ok (.invokestatic 73, 3) := by decide +kernel
theorem dX7_rendered_15 : decode cX7_rendered 15 = .ok (.ifCond .ne 5, 3) := by decide +kernel
theorem dX7_rendered_18 : decode cX7_rendered 18 = .ok (.iconst (-1), 1) := by decide +kernel
theorem dX7_rendered_19 : decode cX7_rendered 19 = .ok (.ireturn, 1) := by decide +kernel
theorem dX7_rendered_20 : decode cX7_rendered 20 = .ok (.aload_n 0, 1) := by decide +kernel
theorem dX7_rendered_21 : decode cX7_rendered 21 = .ok (.invokevirtual 152, 3) := by decide +kernel
theorem dX7_rendered_24 : decode cX7_rendered 24 = .ok (.aload_n 0, 1) := by decide +kernel
theorem dX7_rendered_25 : decode cX7_rendered 25 = .ok (.iload_n 1, 1) := by decide +kernel
theorem dX7_rendered_26 : decode cX7_rendered 26 = .ok (.iload_n 2, 1) := by decide +kernel
theorem dX7_rendered_27 : decode cX7_rendered 27 = .ok (.invokevirtual 155, 3) := by decide +kernel
theorem dX7_rendered_30 : decode cX7_rendered 30 = .ok (.aload_n 0, 1) := by decide +kernel
theorem dX7_rendered_31 : decode cX7_rendered 31 = .ok (.getfield 47, 3) := by decide +kernel
theorem dX7_rendered_34 : decode cX7_rendered 34 = .ok (.iload_n 3, 1) := by decide +kernel
theorem dX7_rendered_35 : decode cX7_rendered 35 = .ok (.iaload, 1) := by decide +kernel
theorem dX7_rendered_36 : decode cX7_rendered 36 = .ok (.ireturn, 1) := by decide +kernel
theorem dX7_ink_0 : decode cX7_ink 0 = .ok (.aload_n 0, 1) := by decide +kernel
theorem dX7_ink_1 : decode cX7_ink 1 = .ok (.iload_n 1, 1) := by decide +kernel
theorem dX7_ink_2 : decode cX7_ink 2 = .ok (.iload_n 2, 1) := by decide +kernel
theorem dX7_ink_3 : decode cX7_ink 3 = .ok (.invokevirtual 149, 3) := by decide +kernel
theorem dX7_ink_6 : decode cX7_ink 6 = .ok (.ifCond .eq 13, 3) := by decide +kernel
theorem dX7_ink_9 : decode cX7_ink 9 = .ok (.iload_n 3, 1) := by decide +kernel
theorem dX7_ink_10 : decode cX7_ink 10 = .ok (.iconst 0, 1) := by decide +kernel
theorem dX7_ink_11 : decode cX7_ink 11 = .ok (.bipush 7, 2) := by decide +kernel
theorem dX7_ink_13 : decode cX7_ink 13 = .ok (.invokestatic 73, 3) := by decide +kernel
theorem dX7_ink_16 : decode cX7_ink 16 = .ok (.ifCond .ne 5, 3) := by decide +kernel
theorem dX7_ink_19 : decode cX7_ink 19 = .ok (.iconst (-1), 1) := by decide +kernel
theorem dX7_ink_20 : decode cX7_ink 20 = .ok (.ireturn, 1) := by decide +kernel
theorem dX7_ink_21 : decode cX7_ink 21 = .ok (.aload_n 0, 1) := by decide +kernel
theorem dX7_ink_22 : decode cX7_ink 22 = .ok (.invokevirtual 152, 3) := by decide +kernel
theorem dX7_ink_25 : decode cX7_ink 25 = .ok (.aload_n 0, 1) := by decide +kernel
theorem dX7_ink_26 : decode cX7_ink 26 = .ok (.iload_n 1, 1) := by decide +kernel
theorem dX7_ink_27 : decode cX7_ink 27 = .ok (.iload_n 2, 1) := by decide +kernel
theorem dX7_ink_28 : decode cX7_ink 28 = .ok (.invokevirtual 155, 3) := by decide +kernel
theorem dX7_ink_31 : decode cX7_ink 31 = .ok (.aload_n 0, 1) := by decide +kernel
theorem dX7_ink_32 : decode cX7_ink 32 = .ok (.aload_n 0, 1) := by decide +kernel
theorem dX7_ink_33 : decode cX7_ink 33 = .ok (.getfield 7, 3) := by decide +kernel
theorem dX7_ink_36 : decode cX7_ink 36 = .ok (.iconst 2, 1) := by decide +kernel
theorem dX7_ink_37 : decode cX7_ink 37 = .ok (.iaload, 1) := by decide +kernel
theorem dX7_ink_38 : decode cX7_ink 38 = .ok (.invokevirtual 159, 3) := by decide +kernel
theorem dX7_ink_41 : decode cX7_ink 41 = .ok (.aload_n 0, 1) := by decide +kernel
theorem dX7_ink_42 : decode cX7_ink 42 = .ok (.iload_n 3, 1) := by decide +kernel
theorem dX7_ink_43 : decode cX7_ink 43 = .ok (.invokevirtual 162, 3) := by decide +kernel
theorem dX7_ink_46 : decode cX7_ink 46 = .ok (.ireturn, 1) := by decide +kernel
theorem dX7_inkOf_0 : decode cX7_inkOf 0 = .ok (.iload_n 1, 1) := by decide +kernel
theorem dX7_inkOf_1 : decode cX7_inkOf 1 = .ok (.iconst 0, 1) := by decide +kernel
theorem dX7_inkOf_2 : decode cX7_inkOf 2 = .ok (.ldc 165, 2) := by decide +kernel
theorem dX7_inkOf_4 : decode cX7_inkOf 4 = .ok (.invokestatic 73, 3) := by decide +kernel
theorem dX7_inkOf_7 : decode cX7_inkOf 7 = .ok (.ifCond .eq 13, 3) := by decide +kernel
theorem dX7_inkOf_10 : decode cX7_inkOf 10 = .ok (.iload_n 2, 1) := by decide +kernel
theorem dX7_inkOf_11 : decode cX7_inkOf 11 = .ok (.iconst 0, 1) := by decide +kernel
theorem dX7_inkOf_12 : decode cX7_inkOf 12 = .ok (.bipush 7, 2) := by decide +kernel
theorem dX7_inkOf_14 : decode cX7_inkOf 14 = .ok (.invokestatic 73, 3) := by decide +kernel
theorem dX7_inkOf_17 : decode cX7_inkOf 17 = .ok (.ifCond .ne 5, 3) := by decide +kernel
theorem dX7_inkOf_20 : decode cX7_inkOf 20 = .ok (.iconst (-1), 1) := by decide +kernel
theorem dX7_inkOf_21 : decode cX7_inkOf 21 = .ok (.ireturn, 1) := by decide +kernel
theorem dX7_inkOf_22 : decode cX7_inkOf 22 = .ok (.aload_n 0, 1) := by decide +kernel
theorem dX7_inkOf_23 : decode cX7_inkOf 23 = .ok (.getfield 47, 3) := by decide +kernel
theorem dX7_inkOf_26 : decode cX7_inkOf 26 = .ok (.iconst 0, 1) := by decide +kernel
theorem dX7_inkOf_27 : decode cX7_inkOf 27 = .ok (.iload_n 1, 1) := by decide +kernel
theorem dX7_inkOf_28 : decode cX7_inkOf 28 = .ok (.ldc 166, 2) := by decide +kernel
theorem dX7_inkOf_30 : decode cX7_inkOf 30 = .ok (.idiv, 1) := by decide +kernel
theorem dX7_inkOf_31 : decode cX7_inkOf 31 = .ok (.iastore, 1) := by decide +kernel
theorem dX7_inkOf_32 : decode cX7_inkOf 32 = .ok (.aload_n 0, 1) := by decide +kernel
theorem dX7_inkOf_33 : decode cX7_inkOf 33 = .ok (.getfield 47, 3) := by decide +kernel
theorem dX7_inkOf_36 : decode cX7_inkOf 36 = .ok (.iconst 1, 1) := by decide +kernel
theorem dX7_inkOf_37 : decode cX7_inkOf 37 = .ok (.iload_n 1, 1) := by decide +kernel
theorem dX7_inkOf_38 : decode cX7_inkOf 38 = .ok (.sipush 256, 3) := by decide +kernel
theorem dX7_inkOf_41 : decode cX7_inkOf 41 = .ok (.idiv, 1) := by decide +kernel
theorem dX7_inkOf_42 : decode cX7_inkOf 42 = .ok (.sipush 256, 3) := by decide +kernel
theorem dX7_inkOf_45 : decode cX7_inkOf 45 = .ok (.irem, 1) := by decide +kernel
theorem dX7_inkOf_46 : decode cX7_inkOf 46 = .ok (.iastore, 1) := by decide +kernel
theorem dX7_inkOf_47 : decode cX7_inkOf 47 = .ok (.aload_n 0, 1) := by decide +kernel
theorem dX7_inkOf_48 : decode cX7_inkOf 48 = .ok (.getfield 47, 3) := by decide +kernel
theorem dX7_inkOf_51 : decode cX7_inkOf 51 = .ok (.iconst 2, 1) := by decide +kernel
theorem dX7_inkOf_52 : decode cX7_inkOf 52 = .ok (.iload_n 1, 1) := by decide +kernel
theorem dX7_inkOf_53 : decode cX7_inkOf 53 = .ok (.sipush 256, 3) := by decide +kernel
theorem dX7_inkOf_56 : decode cX7_inkOf 56 = .ok (.irem, 1) := by decide +kernel
theorem dX7_inkOf_57 : decode cX7_inkOf 57 = .ok (.iastore, 1) := by decide +kernel
theorem dX7_inkOf_58 : decode cX7_inkOf 58 = .ok (.aload_n 0, 1) := by decide +kernel
theorem dX7_inkOf_59 : decode cX7_inkOf 59 = .ok (.getfield 47, 3) := by decide +kernel
theorem dX7_inkOf_62 : decode cX7_inkOf 62 = .ok (.iconst 3, 1) := by decide +kernel
theorem dX7_inkOf_63 : decode cX7_inkOf 63 = .ok (.iconst 0, 1) := by decide +kernel
theorem dX7_inkOf_64 : decode cX7_inkOf 64 = .ok (.iastore, 1) := by decide +kernel
theorem dX7_inkOf_65 : decode cX7_inkOf 65 = .ok (.aload_n 0, 1) := by decide +kernel
theorem dX7_inkOf_66 : decode cX7_inkOf 66 = .ok (.getfield 47, 3) := by decide +kernel
theorem dX7_inkOf_69 : decode cX7_inkOf 69 = .ok (.iconst 4, 1) := by decide +kernel
theorem dX7_inkOf_70 : decode cX7_inkOf 70 = .ok (.iconst 0, 1) := by decide +kernel
theorem dX7_inkOf_71 : decode cX7_inkOf 71 = .ok (.iastore, 1) := by decide +kernel
theorem dX7_inkOf_72 : decode cX7_inkOf 72 = .ok (.aload_n 0, 1) := by decide +kernel
theorem dX7_inkOf_73 : decode cX7_inkOf 73 = .ok (.getfield 47, 3) := by decide +kernel
theorem dX7_inkOf_76 : decode cX7_inkOf 76 = .ok (.iconst 5, 1) := by decide +kernel
theorem dX7_inkOf_77 : decode cX7_inkOf 77 = .ok (.iconst 0, 1) := by decide +kernel
theorem dX7_inkOf_78 : decode cX7_inkOf 78 = .ok (.iastore, 1) := by decide +kernel
theorem dX7_inkOf_79 : decode cX7_inkOf 79 = .ok (.aload_n 0, 1) := by decide +kernel
theorem dX7_inkOf_80 : decode cX7_inkOf 80 = .ok (.aload_n 0, 1) := by decide +kernel
theorem dX7_inkOf_81 : decode cX7_inkOf 81 = .ok (.getfield 7, 3) := by decide +kernel
theorem dX7_inkOf_84 : decode cX7_inkOf 84 = .ok (.iconst 2, 1) := by decide +kernel
theorem dX7_inkOf_85 : decode cX7_inkOf 85 = .ok (.iaload, 1) := by decide +kernel
theorem dX7_inkOf_86 : decode cX7_inkOf 86 = .ok (.invokevirtual 159, 3) := by decide +kernel
theorem dX7_inkOf_89 : decode cX7_inkOf 89 = .ok (.aload_n 0, 1) := by decide +kernel
theorem dX7_inkOf_90 : decode cX7_inkOf 90 = .ok (.iload_n 2, 1) := by decide +kernel
theorem dX7_inkOf_91 : decode cX7_inkOf 91 = .ok (.invokevirtual 162, 3) := by decide +kernel
theorem dX7_inkOf_94 : decode cX7_inkOf 94 = .ok (.ireturn, 1) := by decide +kernel
theorem dX7_touchedBy_0 : decode cX7_touchedBy 0 = .ok (.aload_n 0, 1) := by decide +kernel
theorem dX7_touchedBy_1 : decode cX7_touchedBy 1 = .ok (.iload_n 1, 1) := by decide +kernel
theorem dX7_touchedBy_2 : decode cX7_touchedBy 2 = .ok (.iload_n 2, 1) := by decide +kernel
theorem dX7_touchedBy_3 : decode cX7_touchedBy 3 = .ok (.invokevirtual 149, 3) := by decide +kernel
theorem dX7_touchedBy_6 : decode cX7_touchedBy 6 = .ok (.ifCond .ne 5, 3) := by decide +kernel
theorem dX7_touchedBy_9 : decode cX7_touchedBy 9 = .ok (.iconst (-1), 1) := by decide +kernel
theorem dX7_touchedBy_10 : decode cX7_touchedBy 10 = .ok (.ireturn, 1) := by decide +kernel
theorem dX7_touchedBy_11 : decode cX7_touchedBy 11 = .ok (.aload_n 0, 1) := by decide +kernel
theorem dX7_touchedBy_12 : decode cX7_touchedBy 12 = .ok (.invokevirtual 152, 3) := by decide +kernel
theorem dX7_touchedBy_15 : decode cX7_touchedBy 15 = .ok (.bipush (-4), 2) := by decide +kernel
theorem dX7_touchedBy_17 : decode cX7_touchedBy 17 = .ok (.istore_n 3, 1) := by decide +kernel
theorem dX7_touchedBy_18 : decode cX7_touchedBy 18 = .ok (.iconst 1, 1) := by decide +kernel
theorem dX7_touchedBy_19 : decode cX7_touchedBy 19 = .ok (.istore 4, 2) := by decide +kernel
theorem dX7_touchedBy_21 : decode cX7_touchedBy 21 = .ok (.iload 4, 2) := by decide +kernel
theorem dX7_touchedBy_23 : decode cX7_touchedBy 23 = .ok (.aload_n 0, 1) := by decide +kernel
theorem dX7_touchedBy_24 : decode cX7_touchedBy 24 = .ok (.getfield 126, 3) := by decide +kernel
theorem dX7_touchedBy_27 : decode cX7_touchedBy 27 = .ok (.if_icmp .ge 51, 3) := by decide +kernel
theorem dX7_touchedBy_30 : decode cX7_touchedBy 30 = .ok (.aload_n 0, 1) := by decide +kernel
theorem dX7_touchedBy_31 : decode cX7_touchedBy 31 = .ok (.getfield 32, 3) := by decide +kernel
theorem dX7_touchedBy_34 : decode cX7_touchedBy 34 = .ok (.iload 4, 2) := by decide +kernel
theorem dX7_touchedBy_36 : decode cX7_touchedBy 36 = .ok (.iaload, 1) := by decide +kernel
theorem dX7_touchedBy_37 : decode cX7_touchedBy 37 = .ok (.istore 5, 2) := by decide +kernel
theorem dX7_touchedBy_39 : decode cX7_touchedBy 39 = .ok (.aload_n 0, 1) := by decide +kernel
theorem dX7_touchedBy_40 : decode cX7_touchedBy 40 = .ok (.iload 5, 2) := by decide +kernel
theorem dX7_touchedBy_42 : decode cX7_touchedBy 42 = .ok (.iload_n 1, 1) := by decide +kernel
theorem dX7_touchedBy_43 : decode cX7_touchedBy 43 = .ok (.iload_n 2, 1) := by decide +kernel
theorem dX7_touchedBy_44 : decode cX7_touchedBy 44 = .ok (.invokevirtual 139, 3) := by decide +kernel
theorem dX7_touchedBy_47 : decode cX7_touchedBy 47 = .ok (.ifCond .eq 23, 3) := by decide +kernel
theorem dX7_touchedBy_50 : decode cX7_touchedBy 50 = .ok (.aload_n 0, 1) := by decide +kernel
theorem dX7_touchedBy_51 : decode cX7_touchedBy 51 = .ok (.getfield 38, 3) := by decide +kernel
theorem dX7_touchedBy_54 : decode cX7_touchedBy 54 = .ok (.aload_n 0, 1) := by decide +kernel
theorem dX7_touchedBy_55 : decode cX7_touchedBy 55 = .ok (.iload 5, 2) := by decide +kernel
theorem dX7_touchedBy_57 : decode cX7_touchedBy 57 = .ok (.iconst 1, 1) := by decide +kernel
theorem dX7_touchedBy_58 : decode cX7_touchedBy 58 = .ok (.invokevirtual 77, 3) := by decide +kernel
theorem dX7_touchedBy_61 : decode cX7_touchedBy 61 = .ok (.iaload, 1) := by decide +kernel
theorem dX7_touchedBy_62 : decode cX7_touchedBy 62 = .ok (.ifCond .le 8, 3) := by decide +kernel
theorem dX7_touchedBy_65 : decode cX7_touchedBy 65 = .ok (.iload 5, 2) := by decide +kernel
theorem dX7_touchedBy_67 : decode cX7_touchedBy 67 = .ok (.goto 4, 3) := by decide +kernel
theorem dX7_touchedBy_70 : decode cX7_touchedBy 70 = .ok (.iload_n 3, 1) := by decide +kernel
theorem dX7_touchedBy_71 : decode cX7_touchedBy 71 = .ok (.istore_n 3, 1) := by decide +kernel
theorem dX7_touchedBy_72 : decode cX7_touchedBy 72 = .ok (.iinc 4 1, 3) := by decide +kernel
theorem dX7_touchedBy_75 : decode cX7_touchedBy 75 = .ok (.goto (-54), 3) := by decide +kernel
theorem dX7_touchedBy_78 : decode cX7_touchedBy 78 = .ok (.iload_n 3, 1) := by decide +kernel
theorem dX7_touchedBy_79 : decode cX7_touchedBy 79 = .ok (.ireturn, 1) := by decide +kernel
theorem dX7_pixelAt_0 : decode cX7_pixelAt 0 = .ok (.aload_n 0, 1) := by decide +kernel
theorem dX7_pixelAt_1 : decode cX7_pixelAt 1 = .ok (.iload_n 1, 1) := by decide +kernel
theorem dX7_pixelAt_2 : decode cX7_pixelAt 2 = .ok (.aload_n 0, 1) := by decide +kernel
theorem dX7_pixelAt_3 : decode cX7_pixelAt 3 = .ok (.getfield 7, 3) := by decide +kernel
theorem dX7_pixelAt_6 : decode cX7_pixelAt 6 = .ok (.iconst 0, 1) := by decide +kernel
theorem dX7_pixelAt_7 : decode cX7_pixelAt 7 = .ok (.iaload, 1) := by decide +kernel
theorem dX7_pixelAt_8 : decode cX7_pixelAt 8 = .ok (.irem, 1) := by decide +kernel
theorem dX7_pixelAt_9 : decode cX7_pixelAt 9 = .ok (.iload_n 1, 1) := by decide +kernel
theorem dX7_pixelAt_10 : decode cX7_pixelAt 10 = .ok (.aload_n 0, 1) := by decide +kernel
theorem dX7_pixelAt_11 : decode cX7_pixelAt 11 = .ok (.getfield 7, 3) := by decide +kernel
theorem dX7_pixelAt_14 : decode cX7_pixelAt 14 = .ok (.iconst 0, 1) := by decide +kernel
theorem dX7_pixelAt_15 : decode cX7_pixelAt 15 = .ok (.iaload, 1) := by decide +kernel
theorem dX7_pixelAt_16 : decode cX7_pixelAt 16 = .ok (.idiv, 1) := by decide +kernel
theorem dX7_pixelAt_17 : decode cX7_pixelAt 17 = .ok (.invokevirtual 155, 3) := by decide +kernel
theorem dX7_pixelAt_20 : decode cX7_pixelAt 20 = .ok (.aload_n 0, 1) := by decide +kernel
theorem dX7_pixelAt_21 : decode cX7_pixelAt 21 = .ok (.iload_n 2, 1) := by decide +kernel
theorem dX7_pixelAt_22 : decode cX7_pixelAt 22 = .ok (.invokevirtual 159, 3) := by decide +kernel
theorem dX7_pixelAt_25 : decode cX7_pixelAt 25 = .ok (.return_, 1) := by decide +kernel
theorem dX7_pixels_0 : decode cX7_pixels 0 = .ok (.aload_n 0, 1) := by decide +kernel
theorem dX7_pixels_1 : decode cX7_pixels 1 = .ok (.getfield 7, 3) := by decide +kernel
theorem dX7_pixels_4 : decode cX7_pixels 4 = .ok (.iconst 0, 1) := by decide +kernel
theorem dX7_pixels_5 : decode cX7_pixels 5 = .ok (.iaload, 1) := by decide +kernel
theorem dX7_pixels_6 : decode cX7_pixels 6 = .ok (.aload_n 0, 1) := by decide +kernel
theorem dX7_pixels_7 : decode cX7_pixels 7 = .ok (.getfield 7, 3) := by decide +kernel
theorem dX7_pixels_10 : decode cX7_pixels 10 = .ok (.iconst 1, 1) := by decide +kernel
theorem dX7_pixels_11 : decode cX7_pixels 11 = .ok (.iaload, 1) := by decide +kernel
theorem dX7_pixels_12 : decode cX7_pixels 12 = .ok (.imul, 1) := by decide +kernel
theorem dX7_pixels_13 : decode cX7_pixels 13 = .ok (.ireturn, 1) := by decide +kernel
theorem dX7_covered_0 : decode cX7_covered 0 = .ok (.aload_n 0, 1) := by decide +kernel
theorem dX7_covered_1 : decode cX7_covered 1 = .ok (.invokevirtual 152, 3) := by decide +kernel
theorem dX7_covered_4 : decode cX7_covered 4 = .ok (.iconst 0, 1) := by decide +kernel
theorem dX7_covered_5 : decode cX7_covered 5 = .ok (.istore_n 3, 1) := by decide +kernel
theorem dX7_covered_6 : decode cX7_covered 6 = .ok (.iconst 0, 1) := by decide +kernel
theorem dX7_covered_7 : decode cX7_covered 7 = .ok (.istore 4, 2) := by decide +kernel
theorem dX7_covered_9 : decode cX7_covered 9 = .ok (.iload 4, 2) := by decide +kernel
theorem dX7_covered_11 : decode cX7_covered 11 = .ok (.aload_n 0, 1) := by decide +kernel
theorem dX7_covered_12 : decode cX7_covered 12 = .ok (.invokevirtual 167, 3) := by decide +kernel
theorem dX7_covered_15 : decode cX7_covered 15 = .ok (.if_icmp .ge 24, 3) := by decide +kernel
theorem dX7_covered_18 : decode cX7_covered 18 = .ok (.aload_n 0, 1) := by decide +kernel
theorem dX7_covered_19 : decode cX7_covered 19 = .ok (.iload 4, 2) := by decide +kernel
theorem dX7_covered_21 : decode cX7_covered 21 = .ok (.iload_n 2, 1) := by decide +kernel
theorem dX7_covered_22 : decode cX7_covered 22 = .ok (.invokevirtual 170, 3) := by decide +kernel
theorem dX7_covered_25 : decode cX7_covered 25 = .ok (.iload_n 3, 1) := by decide +kernel
theorem dX7_covered_26 : decode cX7_covered 26 = .ok (.aload_n 0, 1) := by decide +kernel
theorem dX7_covered_27 : decode cX7_covered 27 = .ok (.iload_n 1, 1) := by decide +kernel
theorem dX7_covered_28 : decode cX7_covered 28 = .ok (.invokevirtual 162, 3) := by decide +kernel
theorem dX7_covered_31 : decode cX7_covered 31 = .ok (.iadd, 1) := by decide +kernel
theorem dX7_covered_32 : decode cX7_covered 32 = .ok (.istore_n 3, 1) := by decide +kernel
theorem dX7_covered_33 : decode cX7_covered 33 = .ok (.iinc 4 1, 3) := by decide +kernel
theorem dX7_covered_36 : decode cX7_covered 36 = .ok (.goto (-27), 3) := by decide +kernel
theorem dX7_covered_39 : decode cX7_covered 39 = .ok (.iload_n 3, 1) := by decide +kernel
theorem dX7_covered_40 : decode cX7_covered 40 = .ok (.ireturn, 1) := by decide +kernel
theorem dX7_coverage_0 : decode cX7_coverage 0 = .ok (.iload_n 1, 1) := by decide +kernel
theorem dX7_coverage_1 : decode cX7_coverage 1 = .ok (.iconst 0, 1) := by decide +kernel
theorem dX7_coverage_2 : decode cX7_coverage 2 = .ok (.bipush 7, 2) := by decide +kernel
theorem dX7_coverage_4 : decode cX7_coverage 4 = .ok (.invokestatic 73, 3) := by decide +kernel
theorem dX7_coverage_7 : decode cX7_coverage 7 = .ok (.ifCond .eq 17, 3) := by decide +kernel
theorem dX7_coverage_10 : decode cX7_coverage 10 = .ok (.aload_n 0, 1) := by decide +kernel
theorem dX7_coverage_11 : decode cX7_coverage 11 = .ok (.iload_n 1, 1) := by decide +kernel
theorem dX7_coverage_12 : decode cX7_coverage 12 = .ok (.aload_n 0, 1) := by decide +kernel
theorem dX7_coverage_13 : decode cX7_coverage 13 = .ok (.getfield 7, 3) := by decide +kernel
theorem dX7_coverage_16 : decode cX7_coverage 16 = .ok (.iconst 2, 1) := by decide +kernel
theorem dX7_coverage_17 : decode cX7_coverage 17 = .ok (.iaload, 1) := by decide +kernel
theorem dX7_coverage_18 : decode cX7_coverage 18 = .ok (.invokevirtual 173, 3) := by decide +kernel
theorem dX7_coverage_21 : decode cX7_coverage 21 = .ok (.goto 4, 3) := by decide +kernel
theorem dX7_coverage_24 : decode cX7_coverage 24 = .ok (.iconst (-1), 1) := by decide +kernel
theorem dX7_coverage_25 : decode cX7_coverage 25 = .ok (.ireturn, 1) := by decide +kernel
theorem dX7_plateAt_0 : decode cX7_plateAt 0 = .ok (.iload_n 1, 1) := by decide +kernel
theorem dX7_plateAt_1 : decode cX7_plateAt 1 = .ok (.invokestatic 117, 3) := by decide +kernel
theorem dX7_plateAt_4 : decode cX7_plateAt 4 = .ok (.ifCond .ne 5, 3) := by decide +kernel
theorem dX7_plateAt_7 : decode cX7_plateAt 7 = .ok (.iconst (-1), 1) := by decide +kernel
theorem dX7_plateAt_8 : decode cX7_plateAt 8 = .ok (.ireturn, 1) := by decide +kernel
theorem dX7_plateAt_9 : decode cX7_plateAt 9 = .ok (.iconst 0, 1) := by decide +kernel
theorem dX7_plateAt_10 : decode cX7_plateAt 10 = .ok (.istore_n 2, 1) := by decide +kernel
theorem dX7_plateAt_11 : decode cX7_plateAt 11 = .ok (.iload_n 2, 1) := by decide +kernel
theorem dX7_plateAt_12 : decode cX7_plateAt 12 = .ok (.bipush 7, 2) := by decide +kernel
theorem dX7_plateAt_14 : decode cX7_plateAt 14 = .ok (.if_icmp .ge 26, 3) := by decide +kernel
theorem dX7_plateAt_17 : decode cX7_plateAt 17 = .ok (.aload_n 0, 1) := by decide +kernel
theorem dX7_plateAt_18 : decode cX7_plateAt 18 = .ok (.getfield 56, 3) := by decide +kernel
theorem dX7_plateAt_21 : decode cX7_plateAt 21 = .ok (.iload_n 2, 1) := by decide +kernel
theorem dX7_plateAt_22 : decode cX7_plateAt 22 = .ok (.aload_n 0, 1) := by decide +kernel
theorem dX7_plateAt_23 : decode cX7_plateAt 23 = .ok (.iload_n 2, 1) := by decide +kernel
theorem dX7_plateAt_24 : decode cX7_plateAt 24 = .ok (.aload_n 0, 1) := by decide +kernel
theorem dX7_plateAt_25 : decode cX7_plateAt 25 = .ok (.getfield 7, 3) := by decide +kernel
theorem dX7_plateAt_28 : decode cX7_plateAt 28 = .ok (.iconst 2, 1) := by decide +kernel
theorem dX7_plateAt_29 : decode cX7_plateAt 29 = .ok (.iaload, 1) := by decide +kernel
theorem dX7_plateAt_30 : decode cX7_plateAt 30 = .ok (.invokevirtual 173, 3) := by decide +kernel
theorem dX7_plateAt_33 : decode cX7_plateAt 33 = .ok (.iastore, 1) := by decide +kernel
theorem dX7_plateAt_34 : decode cX7_plateAt 34 = .ok (.iinc 2 1, 3) := by decide +kernel
theorem dX7_plateAt_37 : decode cX7_plateAt 37 = .ok (.goto (-26), 3) := by decide +kernel
theorem dX7_plateAt_40 : decode cX7_plateAt 40 = .ok (.bipush (-4), 2) := by decide +kernel
theorem dX7_plateAt_42 : decode cX7_plateAt 42 = .ok (.istore_n 2, 1) := by decide +kernel
theorem dX7_plateAt_43 : decode cX7_plateAt 43 = .ok (.iconst 0, 1) := by decide +kernel
theorem dX7_plateAt_44 : decode cX7_plateAt 44 = .ok (.istore_n 3, 1) := by decide +kernel
theorem dX7_plateAt_45 : decode cX7_plateAt 45 = .ok (.iload_n 3, 1) := by decide +kernel
theorem dX7_plateAt_46 : decode cX7_plateAt 46 = .ok (.bipush 7, 2) := by decide +kernel
theorem dX7_plateAt_48 : decode cX7_plateAt 48 = .ok (.if_icmp .ge 88, 3) := by decide +kernel
theorem dX7_plateAt_51 : decode cX7_plateAt 51 = .ok (.iconst 0, 1) := by decide +kernel
theorem dX7_plateAt_52 : decode cX7_plateAt 52 = .ok (.istore 4, 2) := by decide +kernel
theorem dX7_plateAt_54 : decode cX7_plateAt 54 = .ok (.iconst 0, 1) := by decide +kernel
theorem dX7_plateAt_55 : decode cX7_plateAt 55 = .ok (.istore 5, 2) := by decide +kernel
theorem dX7_plateAt_57 : decode cX7_plateAt 57 = .ok (.iload 5, 2) := by decide +kernel
theorem dX7_plateAt_59 : decode cX7_plateAt 59 = .ok (.bipush 7, 2) := by decide +kernel
theorem dX7_plateAt_61 : decode cX7_plateAt 61 = .ok (.if_icmp .ge 57, 3) := by decide +kernel
theorem dX7_plateAt_64 : decode cX7_plateAt 64 = .ok (.iload 4, 2) := by decide +kernel
theorem dX7_plateAt_66 : decode cX7_plateAt 66 = .ok (.aload_n 0, 1) := by decide +kernel
theorem dX7_plateAt_67 : decode cX7_plateAt 67 = .ok (.getfield 56, 3) := by decide +kernel
theorem dX7_plateAt_70 : decode cX7_plateAt 70 = .ok (.iload 5, 2) := by decide +kernel
theorem dX7_plateAt_72 : decode cX7_plateAt 72 = .ok (.iaload, 1) := by decide +kernel
theorem dX7_plateAt_73 : decode cX7_plateAt 73 = .ok (.aload_n 0, 1) := by decide +kernel
theorem dX7_plateAt_74 : decode cX7_plateAt 74 = .ok (.getfield 56, 3) := by decide +kernel
theorem dX7_plateAt_77 : decode cX7_plateAt 77 = .ok (.iload_n 3, 1) := by decide +kernel
theorem dX7_plateAt_78 : decode cX7_plateAt 78 = .ok (.iaload, 1) := by decide +kernel
theorem dX7_plateAt_79 : decode cX7_plateAt 79 = .ok (.if_icmp .gt 25, 3) := by decide +kernel
theorem dX7_plateAt_82 : decode cX7_plateAt 82 = .ok (.aload_n 0, 1) := by decide +kernel
theorem dX7_plateAt_83 : decode cX7_plateAt 83 = .ok (.getfield 56, 3) := by decide +kernel
theorem dX7_plateAt_86 : decode cX7_plateAt 86 = .ok (.iload 5, 2) := by decide +kernel
theorem dX7_plateAt_88 : decode cX7_plateAt 88 = .ok (.iaload, 1) := by decide +kernel
theorem dX7_plateAt_89 : decode cX7_plateAt 89 = .ok (.aload_n 0, 1) := by decide +kernel
theorem dX7_plateAt_90 : decode cX7_plateAt 90 = .ok (.getfield 56, 3) := by decide +kernel
theorem dX7_plateAt_93 : decode cX7_plateAt 93 = .ok (.iload_n 3, 1) := by decide +kernel
theorem dX7_plateAt_94 : decode cX7_plateAt 94 = .ok (.iaload, 1) := by decide +kernel
theorem dX7_plateAt_95 : decode cX7_plateAt 95 = .ok (.if_icmp .ne 13, 3) := by decide +kernel
theorem dX7_plateAt_98 : decode cX7_plateAt 98 = .ok (.iload 5, 2) := by decide +kernel
theorem dX7_plateAt_100 : decode cX7_plateAt 100 = .ok (.iload_n 3, 1) := by decide +kernel
theorem dX7_plateAt_101 : decode cX7_plateAt 101 = .ok (.if_icmp .ge 7, 3) := by decide +kernel
theorem dX7_plateAt_104 : decode cX7_plateAt 104 = .ok (.iconst 1, 1) := by decide +kernel
theorem dX7_plateAt_105 : decode cX7_plateAt 105 = .ok (.goto 4, 3) := by decide +kernel
theorem dX7_plateAt_108 : decode cX7_plateAt 108 = .ok (.iconst 0, 1) := by decide +kernel
theorem dX7_plateAt_109 : decode cX7_plateAt 109 = .ok (.iadd, 1) := by decide +kernel
theorem dX7_plateAt_110 : decode cX7_plateAt 110 = .ok (.istore 4, 2) := by decide +kernel
theorem dX7_plateAt_112 : decode cX7_plateAt 112 = .ok (.iinc 5 1, 3) := by decide +kernel
theorem dX7_plateAt_115 : decode cX7_plateAt 115 = .ok (.goto (-58), 3) := by decide +kernel
theorem dX7_plateAt_118 : decode cX7_plateAt 118 = .ok (.iload 4, 2) := by decide +kernel
theorem dX7_plateAt_120 : decode cX7_plateAt 120 = .ok (.iload_n 1, 1) := by decide +kernel
theorem dX7_plateAt_121 : decode cX7_plateAt 121 = .ok (.if_icmp .ne 7, 3) := by decide +kernel
theorem dX7_plateAt_124 : decode cX7_plateAt 124 = .ok (.iload_n 3, 1) := by decide +kernel
theorem dX7_plateAt_125 : decode cX7_plateAt 125 = .ok (.goto 4, 3) := by decide +kernel
theorem dX7_plateAt_128 : decode cX7_plateAt 128 = .ok (.iload_n 2, 1) := by decide +kernel
theorem dX7_plateAt_129 : decode cX7_plateAt 129 = .ok (.istore_n 2, 1) := by decide +kernel
theorem dX7_plateAt_130 : decode cX7_plateAt 130 = .ok (.iinc 3 1, 3) := by decide +kernel
theorem dX7_plateAt_133 : decode cX7_plateAt 133 = .ok (.goto (-88), 3) := by decide +kernel
theorem dX7_plateAt_136 : decode cX7_plateAt 136 = .ok (.iload_n 2, 1) := by decide +kernel
theorem dX7_plateAt_137 : decode cX7_plateAt 137 = .ok (.ireturn, 1) := by decide +kernel
theorem dX7_greatestSum_0 : decode cX7_greatestSum 0 = .ok (.aload_n 0, 1) := by decide +kernel
theorem dX7_greatestSum_1 : decode cX7_greatestSum 1 = .ok (.invokevirtual 152, 3) := by decide +kernel
theorem dX7_greatestSum_4 : decode cX7_greatestSum 4 = .ok (.iconst 0, 1) := by decide +kernel
theorem dX7_greatestSum_5 : decode cX7_greatestSum 5 = .ok (.istore_n 1, 1) := by decide +kernel
theorem dX7_greatestSum_6 : decode cX7_greatestSum 6 = .ok (.iconst 0, 1) := by decide +kernel
theorem dX7_greatestSum_7 : decode cX7_greatestSum 7 = .ok (.istore_n 2, 1) := by decide +kernel
theorem dX7_greatestSum_8 : decode cX7_greatestSum 8 = .ok (.iload_n 2, 1) := by decide +kernel
theorem dX7_greatestSum_9 : decode cX7_greatestSum 9 = .ok (.aload_n 0, 1) := by decide +kernel
theorem dX7_greatestSum_10 : decode cX7_greatestSum 10 = .ok (.invokevirtual 167, 3) := by decide +kernel
theorem dX7_greatestSum_13 : decode cX7_greatestSum 13 = .ok (.if_icmp .ge 41, 3) := by decide +kernel
theorem dX7_greatestSum_16 : decode cX7_greatestSum 16 = .ok (.aload_n 0, 1) := by decide +kernel
theorem dX7_greatestSum_17 : decode cX7_greatestSum 17 = .ok (.iload_n 2, 1) := by decide +kernel
theorem dX7_greatestSum_18 : decode cX7_greatestSum 18 = .ok (.aload_n 0, 1) := by decide +kernel
theorem dX7_greatestSum_19 : decode cX7_greatestSum 19 = .ok (.getfield 7, 3) := by decide +kernel
theorem dX7_greatestSum_22 : decode cX7_greatestSum 22 = .ok (.iconst 2, 1) := by decide +kernel
theorem dX7_greatestSum_23 : decode cX7_greatestSum 23 = .ok (.iaload, 1) := by decide +kernel
theorem dX7_greatestSum_24 : decode cX7_greatestSum 24 = .ok (.invokevirtual 170, 3) := by decide +kernel
theorem dX7_greatestSum_27 : decode cX7_greatestSum 27 = .ok (.aload_n 0, 1) := by decide +kernel
theorem dX7_greatestSum_28 : decode cX7_greatestSum 28 = .ok (.bipush 7, 2) := by decide +kernel
theorem dX7_greatestSum_30 : decode cX7_greatestSum 30 = .ok (.invokevirtual 162, 3) := by decide +kernel
theorem dX7_greatestSum_33 : decode cX7_greatestSum 33 = .ok (.iload_n 1, 1) := by decide +kernel
theorem dX7_greatestSum_34 : decode cX7_greatestSum 34 = .ok (.if_icmp .le 12, 3) := by decide +kernel
theorem dX7_greatestSum_37 : decode cX7_greatestSum 37 = .ok (.aload_n 0, 1) := by decide +kernel
theorem dX7_greatestSum_38 : decode cX7_greatestSum 38 = .ok (.bipush 7, 2) := by decide +kernel
theorem dX7_greatestSum_40 : decode cX7_greatestSum 40 = .ok (.invokevirtual 162, 3) := by decide +kernel
theorem dX7_greatestSum_43 : decode cX7_greatestSum 43 = .ok (.goto 4, 3) := by decide +kernel
theorem dX7_greatestSum_46 : decode cX7_greatestSum 46 = .ok (.iload_n 1, 1) := by decide +kernel
theorem dX7_greatestSum_47 : decode cX7_greatestSum 47 = .ok (.istore_n 1, 1) := by decide +kernel
theorem dX7_greatestSum_48 : decode cX7_greatestSum 48 = .ok (.iinc 2 1, 3) := by decide +kernel
theorem dX7_greatestSum_51 : decode cX7_greatestSum 51 = .ok (.goto (-43), 3) := by decide +kernel
theorem dX7_greatestSum_54 : decode cX7_greatestSum 54 = .ok (.iload_n 1, 1) := by decide +kernel
theorem dX7_greatestSum_55 : decode cX7_greatestSum 55 = .ok (.ireturn, 1) := by decide +kernel
theorem dX7_limitedPixels_0 : decode cX7_limitedPixels 0 = .ok (.aload_n 0, 1) := by decide +kernel
theorem dX7_limitedPixels_1 : decode cX7_limitedPixels 1 = .ok (.invokevirtual 152, 3) := by decide +kernel
theorem dX7_limitedPixels_4 : decode cX7_limitedPixels 4 = .ok (.iconst 0, 1) := by decide +kernel
theorem dX7_limitedPixels_5 : decode cX7_limitedPixels 5 = .ok (.istore_n 1, 1) := by decide +kernel
theorem dX7_limitedPixels_6 : decode cX7_limitedPixels 6 = .ok (.iconst 0, 1) := by decide +kernel
theorem dX7_limitedPixels_7 : decode cX7_limitedPixels 7 = .ok (.istore_n 2, 1) := by decide +kernel
theorem dX7_limitedPixels_8 : decode cX7_limitedPixels 8 = .ok (.iload_n 2, 1) := by decide +kernel
theorem dX7_limitedPixels_9 : decode cX7_limitedPixels 9 = .ok (.aload_n 0, 1) := by decide +kernel
theorem dX7_limitedPixels_10 : decode cX7_limitedPixels 10 = .ok (.invokevirtual 167, 3) := by decide +kernel
theorem dX7_limitedPixels_13 : decode cX7_limitedPixels 13 = .ok (.if_icmp .ge 77, 3) := by decide +kernel
theorem dX7_limitedPixels_16 : decode cX7_limitedPixels 16 = .ok (.aload_n 0, 1) := by decide +kernel
theorem dX7_limitedPixels_17 : decode cX7_limitedPixels 17 = .ok (.iload_n 2, 1) := by decide +kernel
theorem dX7_limitedPixels_18 : decode cX7_limitedPixels 18 = .ok (.aload_n 0, 1) := by decide +kernel
theorem dX7_limitedPixels_19 : decode cX7_limitedPixels 19 = .ok (.getfield 7, 3) := by decide +kernel
theorem dX7_limitedPixels_22 : decode cX7_limitedPixels 22 = .ok (.iconst 2, 1) := by decide +kernel
theorem dX7_limitedPixels_23 : decode cX7_limitedPixels 23 = .ok (.iaload, 1) := by decide +kernel
theorem dX7_limitedPixels_24 : decode cX7_limitedPixels 24 = .ok (.invokevirtual 170, 3) := by decide +kernel
theorem dX7_limitedPixels_27 : decode cX7_limitedPixels 27 = .ok (.iconst 1, 1) := by decide +kernel
theorem dX7_limitedPixels_28 : decode cX7_limitedPixels 28 = .ok (.istore_n 3, 1) := by decide +kernel
theorem dX7_limitedPixels_29 : decode cX7_limitedPixels 29 = .ok (.iconst 0, 1) := by decide +kernel
theorem dX7_limitedPixels_30 : decode cX7_limitedPixels 30 = .ok (.istore 4, 2) := by decide +kernel
theorem dX7_limitedPixels_32 : decode cX7_limitedPixels 32 = .ok (.iload 4, 2) := by decide +kernel
theorem dX7_limitedPixels_34 : decode cX7_limitedPixels 34 = .ok (.bipush 7, 2) := by decide +kernel
theorem dX7_limitedPixels_36 : decode cX7_limitedPixels 36 = .ok (.if_icmp .ge 36, 3) := by decide +kernel
theorem dX7_limitedPixels_39 : decode cX7_limitedPixels 39 = .ok (.iload_n 3, 1) := by decide +kernel
theorem dX7_limitedPixels_40 : decode cX7_limitedPixels 40 = .ok (.ifCond .eq 24, 3) := by decide +kernel
theorem dX7_limitedPixels_43 : decode cX7_limitedPixels 43 = .ok (.aload_n 0, 1) := by decide +kernel
theorem dX7_limitedPixels_44 : decode cX7_limitedPixels 44 = .ok (.getfield 50, 3) := by decide +kernel
theorem dX7_limitedPixels_47 : decode cX7_limitedPixels 47 = .ok (.iload 4, 2) := by decide +kernel
theorem dX7_limitedPixels_49 : decode cX7_limitedPixels 49 = .ok (.iaload, 1) := by decide +kernel
theorem dX7_limitedPixels_50 : decode cX7_limitedPixels 50 = .ok (.aload_n 0, 1) := by decide +kernel
theorem dX7_limitedPixels_51 : decode cX7_limitedPixels 51 = .ok (.getfield 53, 3) := by decide +kernel
theorem dX7_limitedPixels_54 : decode cX7_limitedPixels 54 = .ok (.iload 4, 2) := by decide +kernel
theorem dX7_limitedPixels_56 : decode cX7_limitedPixels 56 = .ok (.iaload, 1) := by decide +kernel
theorem dX7_limitedPixels_57 : decode cX7_limitedPixels 57 = .ok (.if_icmp .ne 7, 3) := by decide +kernel
theorem dX7_limitedPixels_60 : decode cX7_limitedPixels 60 = .ok (.iconst 1, 1) := by decide +kernel
theorem dX7_limitedPixels_61 : decode cX7_limitedPixels 61 = .ok (.goto 4, 3) := by decide +kernel
theorem dX7_limitedPixels_64 : decode cX7_limitedPixels 64 = .ok (.iconst 0, 1) := by decide +kernel
theorem dX7_limitedPixels_65 : decode cX7_limitedPixels 65 = .ok (.istore_n 3, 1) := by decide +kernel
theorem dX7_limitedPixels_66 : decode cX7_limitedPixels 66 = .ok (.iinc 4 1, 3) := by decide +kernel
theorem dX7_limitedPixels_69 : decode cX7_limitedPixels 69 = .ok (.goto (-37), 3) := by decide +kernel
theorem dX7_limitedPixels_72 : decode cX7_limitedPixels 72 = .ok (.iload_n 1, 1) := by decide +kernel
theorem dX7_limitedPixels_73 : decode cX7_limitedPixels 73 = .ok (.iload_n 3, 1) := by decide +kernel
theorem dX7_limitedPixels_74 : decode cX7_limitedPixels 74 = .ok (.ifCond .eq 7, 3) := by decide +kernel
theorem dX7_limitedPixels_77 : decode cX7_limitedPixels 77 = .ok (.iconst 0, 1) := by decide +kernel
theorem dX7_limitedPixels_78 : decode cX7_limitedPixels 78 = .ok (.goto 4, 3) := by decide +kernel
theorem dX7_limitedPixels_81 : decode cX7_limitedPixels 81 = .ok (.iconst 1, 1) := by decide +kernel
theorem dX7_limitedPixels_82 : decode cX7_limitedPixels 82 = .ok (.iadd, 1) := by decide +kernel
theorem dX7_limitedPixels_83 : decode cX7_limitedPixels 83 = .ok (.istore_n 1, 1) := by decide +kernel
theorem dX7_limitedPixels_84 : decode cX7_limitedPixels 84 = .ok (.iinc 2 1, 3) := by decide +kernel
theorem dX7_limitedPixels_87 : decode cX7_limitedPixels 87 = .ok (.goto (-79), 3) := by decide +kernel
theorem dX7_limitedPixels_90 : decode cX7_limitedPixels 90 = .ok (.iload_n 1, 1) := by decide +kernel
theorem dX7_limitedPixels_91 : decode cX7_limitedPixels 91 = .ok (.ireturn, 1) := by decide +kernel
theorem dX7_isInk_0 : decode cX7_isInk 0 = .ok (.iconst 1, 1) := by decide +kernel
theorem dX7_isInk_1 : decode cX7_isInk 1 = .ok (.istore_n 2, 1) := by decide +kernel
theorem dX7_isInk_2 : decode cX7_isInk 2 = .ok (.iconst 0, 1) := by decide +kernel
theorem dX7_isInk_3 : decode cX7_isInk 3 = .ok (.istore_n 3, 1) := by decide +kernel
theorem dX7_isInk_4 : decode cX7_isInk 4 = .ok (.iload_n 3, 1) := by decide +kernel
theorem dX7_isInk_5 : decode cX7_isInk 5 = .ok (.bipush 7, 2) := by decide +kernel
theorem dX7_isInk_7 : decode cX7_isInk 7 = .ok (.if_icmp .ge 39, 3) := by decide +kernel
theorem dX7_isInk_10 : decode cX7_isInk 10 = .ok (.iload_n 2, 1) := by decide +kernel
theorem dX7_isInk_11 : decode cX7_isInk 11 = .ok (.ifCond .eq 27, 3) := by decide +kernel
theorem dX7_isInk_14 : decode cX7_isInk 14 = .ok (.aload_n 0, 1) := by decide +kernel
theorem dX7_isInk_15 : decode cX7_isInk 15 = .ok (.getfield 59, 3) := by decide +kernel
theorem dX7_isInk_18 : decode cX7_isInk 18 = .ok (.bipush 9, 2) := by decide +kernel
theorem dX7_isInk_20 : decode cX7_isInk 20 = .ok (.iload_n 1, 1) := by decide +kernel
theorem dX7_isInk_21 : decode cX7_isInk 21 = .ok (.imul, 1) := by decide +kernel
theorem dX7_isInk_22 : decode cX7_isInk 22 = .ok (.iload_n 3, 1) := by decide +kernel
theorem dX7_isInk_23 : decode cX7_isInk 23 = .ok (.iadd, 1) := by decide +kernel
theorem dX7_isInk_24 : decode cX7_isInk 24 = .ok (.iaload, 1) := by decide +kernel
theorem dX7_isInk_25 : decode cX7_isInk 25 = .ok (.aload_n 0, 1) := by decide +kernel
theorem dX7_isInk_26 : decode cX7_isInk 26 = .ok (.getfield 53, 3) := by decide +kernel
theorem dX7_isInk_29 : decode cX7_isInk 29 = .ok (.iload_n 3, 1) := by decide +kernel
theorem dX7_isInk_30 : decode cX7_isInk 30 = .ok (.iaload, 1) := by decide +kernel
theorem dX7_isInk_31 : decode cX7_isInk 31 = .ok (.if_icmp .ne 7, 3) := by decide +kernel
theorem dX7_isInk_34 : decode cX7_isInk 34 = .ok (.iconst 1, 1) := by decide +kernel
theorem dX7_isInk_35 : decode cX7_isInk 35 = .ok (.goto 4, 3) := by decide +kernel
theorem dX7_isInk_38 : decode cX7_isInk 38 = .ok (.iconst 0, 1) := by decide +kernel
theorem dX7_isInk_39 : decode cX7_isInk 39 = .ok (.istore_n 2, 1) := by decide +kernel
theorem dX7_isInk_40 : decode cX7_isInk 40 = .ok (.iinc 3 1, 3) := by decide +kernel
theorem dX7_isInk_43 : decode cX7_isInk 43 = .ok (.goto (-39), 3) := by decide +kernel
theorem dX7_isInk_46 : decode cX7_isInk 46 = .ok (.iload_n 2, 1) := by decide +kernel
theorem dX7_isInk_47 : decode cX7_isInk 47 = .ok (.ireturn, 1) := by decide +kernel
theorem dX7_counts_0 : decode cX7_counts 0 = .ok (.aload_n 0, 1) := by decide +kernel
theorem dX7_counts_1 : decode cX7_counts 1 = .ok (.invokevirtual 152, 3) := by decide +kernel
theorem dX7_counts_4 : decode cX7_counts 4 = .ok (.aload_n 0, 1) := by decide +kernel
theorem dX7_counts_5 : decode cX7_counts 5 = .ok (.iconst 0, 1) := by decide +kernel
theorem dX7_counts_6 : decode cX7_counts 6 = .ok (.putfield 176, 3) := by decide +kernel
theorem dX7_counts_9 : decode cX7_counts 9 = .ok (.iconst 0, 1) := by decide +kernel
theorem dX7_counts_10 : decode cX7_counts 10 = .ok (.istore_n 1, 1) := by decide +kernel
theorem dX7_counts_11 : decode cX7_counts 11 = .ok (.iload_n 1, 1) := by decide +kernel
theorem dX7_counts_12 : decode cX7_counts 12 = .ok (.aload_n 0, 1) := by decide +kernel
theorem dX7_counts_13 : decode cX7_counts 13 = .ok (.invokevirtual 167, 3) := by decide +kernel
theorem dX7_counts_16 : decode cX7_counts 16 = .ok (.if_icmp .ge 140, 3) := by decide +kernel
theorem dX7_counts_19 : decode cX7_counts 19 = .ok (.aload_n 0, 1) := by decide +kernel
theorem dX7_counts_20 : decode cX7_counts 20 = .ok (.iload_n 1, 1) := by decide +kernel
theorem dX7_counts_21 : decode cX7_counts 21 = .ok (.aload_n 0, 1) := by decide +kernel
theorem dX7_counts_22 : decode cX7_counts 22 = .ok (.getfield 7, 3) := by decide +kernel
theorem dX7_counts_25 : decode cX7_counts 25 = .ok (.iconst 2, 1) := by decide +kernel
theorem dX7_counts_26 : decode cX7_counts 26 = .ok (.iaload, 1) := by decide +kernel
theorem dX7_counts_27 : decode cX7_counts 27 = .ok (.invokevirtual 170, 3) := by decide +kernel
theorem dX7_counts_30 : decode cX7_counts 30 = .ok (.iconst 0, 1) := by decide +kernel
theorem dX7_counts_31 : decode cX7_counts 31 = .ok (.istore_n 2, 1) := by decide +kernel
theorem dX7_counts_32 : decode cX7_counts 32 = .ok (.iload_n 2, 1) := by decide +kernel
theorem dX7_counts_33 : decode cX7_counts 33 = .ok (.aload_n 0, 1) := by decide +kernel
theorem dX7_counts_34 : decode cX7_counts 34 = .ok (.getfield 176, 3) := by decide +kernel
theorem dX7_counts_37 : decode cX7_counts 37 = .ok (.if_icmp .ge 17, 3) := by decide +kernel
theorem dX7_counts_40 : decode cX7_counts 40 = .ok (.aload_n 0, 1) := by decide +kernel
theorem dX7_counts_41 : decode cX7_counts 41 = .ok (.iload_n 2, 1) := by decide +kernel
theorem dX7_counts_42 : decode cX7_counts 42 = .ok (.invokevirtual 179, 3) := by decide +kernel
theorem dX7_counts_45 : decode cX7_counts 45 = .ok (.ifCond .ne 9, 3) := by decide +kernel
theorem dX7_counts_48 : decode cX7_counts 48 = .ok (.iinc 2 1, 3) := by decide +kernel
theorem dX7_counts_51 : decode cX7_counts 51 = .ok (.goto (-19), 3) := by decide +kernel
theorem dX7_counts_54 : decode cX7_counts 54 = .ok (.iload_n 2, 1) := by decide +kernel
theorem dX7_counts_55 : decode cX7_counts 55 = .ok (.aload_n 0, 1) := by decide +kernel
theorem dX7_counts_56 : decode cX7_counts 56 = .ok (.getfield 176, 3) := by decide +kernel
theorem dX7_counts_59 : decode cX7_counts 59 = .ok (.if_icmp .ne 75, 3) := by decide +kernel
theorem dX7_counts_62 : decode cX7_counts 62 = .ok (.iconst 0, 1) := by decide +kernel
theorem dX7_counts_63 : decode cX7_counts 63 = .ok (.istore_n 3, 1) := by decide +kernel
theorem dX7_counts_64 : decode cX7_counts 64 = .ok (.iload_n 3, 1) := by decide +kernel
theorem dX7_counts_65 : decode cX7_counts 65 = .ok (.bipush 7, 2) := by decide +kernel
theorem dX7_counts_67 : decode cX7_counts 67 = .ok (.if_icmp .ge 26, 3) := by decide +kernel
theorem dX7_counts_70 : decode cX7_counts 70 = .ok (.aload_n 0, 1) := by decide +kernel
theorem dX7_counts_71 : decode cX7_counts 71 = .ok (.getfield 59, 3) := by decide +kernel
theorem dX7_counts_74 : decode cX7_counts 74 = .ok (.bipush 9, 2) := by decide +kernel
theorem dX7_counts_76 : decode cX7_counts 76 = .ok (.iload_n 2, 1) := by decide +kernel
theorem dX7_counts_77 : decode cX7_counts 77 = .ok (.imul, 1) := by decide +kernel
theorem dX7_counts_78 : decode cX7_counts 78 = .ok (.iload_n 3, 1) := by decide +kernel
theorem dX7_counts_79 : decode cX7_counts 79 = .ok (.iadd, 1) := by decide +kernel
theorem dX7_counts_80 : decode cX7_counts 80 = .ok (.aload_n 0, 1) := by decide +kernel
theorem dX7_counts_81 : decode cX7_counts 81 = .ok (.getfield 53, 3) := by decide +kernel
theorem dX7_counts_84 : decode cX7_counts 84 = .ok (.iload_n 3, 1) := by decide +kernel
theorem dX7_counts_85 : decode cX7_counts 85 = .ok (.iaload, 1) := by decide +kernel
theorem dX7_counts_86 : decode cX7_counts 86 = .ok (.iastore, 1) := by decide +kernel
theorem dX7_counts_87 : decode cX7_counts 87 = .ok (.iinc 3 1, 3) := by decide +kernel
theorem dX7_counts_90 : decode cX7_counts 90 = .ok (.goto (-26), 3) := by decide +kernel
theorem dX7_counts_93 : decode cX7_counts 93 = .ok (.aload_n 0, 1) := by decide +kernel
theorem dX7_counts_94 : decode cX7_counts 94 = .ok (.getfield 59, 3) := by decide +kernel
theorem dX7_counts_97 : decode cX7_counts 97 = .ok (.bipush 9, 2) := by decide +kernel
theorem dX7_counts_99 : decode cX7_counts 99 = .ok (.iload_n 2, 1) := by decide +kernel
theorem dX7_counts_100 : decode cX7_counts 100 = .ok (.imul, 1) := by decide +kernel
theorem dX7_counts_101 : decode cX7_counts 101 = .ok (.bipush 7, 2) := by decide +kernel
theorem dX7_counts_103 : decode cX7_counts 103 = .ok (.iadd, 1) := by decide +kernel
theorem dX7_counts_104 : decode cX7_counts 104 = .ok (.aload_n 0, 1) := by decide +kernel
theorem dX7_counts_105 : decode cX7_counts 105 = .ok (.bipush 7, 2) := by decide +kernel
theorem dX7_counts_107 : decode cX7_counts 107 = .ok (.invokevirtual 162, 3) := by decide +kernel
theorem dX7_counts_110 : decode cX7_counts 110 = .ok (.iastore, 1) := by decide +kernel
theorem dX7_counts_111 : decode cX7_counts 111 = .ok (.aload_n 0, 1) := by decide +kernel
theorem dX7_counts_112 : decode cX7_counts 112 = .ok (.getfield 59, 3) := by decide +kernel
theorem dX7_counts_115 : decode cX7_counts 115 = .ok (.bipush 9, 2) := by decide +kernel
theorem dX7_counts_117 : decode cX7_counts 117 = .ok (.iload_n 2, 1) := by decide +kernel
theorem dX7_counts_118 : decode cX7_counts 118 = .ok (.imul, 1) := by decide +kernel
theorem dX7_counts_119 : decode cX7_counts 119 = .ok (.bipush 8, 2) := by decide +kernel
theorem dX7_counts_121 : decode cX7_counts 121 = .ok (.iadd, 1) := by decide +kernel
theorem dX7_counts_122 : decode cX7_counts 122 = .ok (.iconst 0, 1) := by decide +kernel
theorem dX7_counts_123 : decode cX7_counts 123 = .ok (.iastore, 1) := by decide +kernel
theorem dX7_counts_124 : decode cX7_counts 124 = .ok (.aload_n 0, 1) := by decide +kernel
theorem dX7_counts_125 : decode cX7_counts 125 = .ok (.dup, 1) := by decide +kernel
theorem dX7_counts_126 : decode cX7_counts 126 = .ok (.getfield 176, 3) := by decide +kernel
theorem dX7_counts_129 : decode cX7_counts 129 = .ok (.iconst 1, 1) := by decide +kernel
theorem dX7_counts_130 : decode cX7_counts 130 = .ok (.iadd, 1) := by decide +kernel
theorem dX7_counts_131 : decode cX7_counts 131 = .ok (.putfield 176, 3) := by decide +kernel
theorem dX7_counts_134 : decode cX7_counts 134 = .ok (.aload_n 0, 1) := by decide +kernel
theorem dX7_counts_135 : decode cX7_counts 135 = .ok (.getfield 59, 3) := by decide +kernel
theorem dX7_counts_138 : decode cX7_counts 138 = .ok (.bipush 9, 2) := by decide +kernel
theorem dX7_counts_140 : decode cX7_counts 140 = .ok (.iload_n 2, 1) := by decide +kernel
theorem dX7_counts_141 : decode cX7_counts 141 = .ok (.imul, 1) := by decide +kernel
theorem dX7_counts_142 : decode cX7_counts 142 = .ok (.bipush 8, 2) := by decide +kernel
theorem dX7_counts_144 : decode cX7_counts 144 = .ok (.iadd, 1) := by decide +kernel
theorem dX7_counts_145 : decode cX7_counts 145 = .ok (.dup2, 1) := by decide +kernel
theorem dX7_counts_146 : decode cX7_counts 146 = .ok (.iaload, 1) := by decide +kernel
theorem dX7_counts_147 : decode cX7_counts 147 = .ok (.iconst 1, 1) := by decide +kernel
theorem dX7_counts_148 : decode cX7_counts 148 = .ok (.iadd, 1) := by decide +kernel
theorem dX7_counts_149 : decode cX7_counts 149 = .ok (.iastore, 1) := by decide +kernel
theorem dX7_counts_150 : decode cX7_counts 150 = .ok (.iinc 1 1, 3) := by decide +kernel
theorem dX7_counts_153 : decode cX7_counts 153 = .ok (.goto (-142), 3) := by decide +kernel
theorem dX7_counts_156 : decode cX7_counts 156 = .ok (.return_, 1) := by decide +kernel
theorem dX7_isAhead_0 : decode cX7_isAhead 0 = .ok (.aload_n 0, 1) := by decide +kernel
theorem dX7_isAhead_1 : decode cX7_isAhead 1 = .ok (.getfield 59, 3) := by decide +kernel
theorem dX7_isAhead_4 : decode cX7_isAhead 4 = .ok (.bipush 9, 2) := by decide +kernel
theorem dX7_isAhead_6 : decode cX7_isAhead 6 = .ok (.iload_n 1, 1) := by decide +kernel
theorem dX7_isAhead_7 : decode cX7_isAhead 7 = .ok (.imul, 1) := by decide +kernel
theorem dX7_isAhead_8 : decode cX7_isAhead 8 = .ok (.bipush 8, 2) := by decide +kernel
theorem dX7_isAhead_10 : decode cX7_isAhead 10 = .ok (.iadd, 1) := by decide +kernel
theorem dX7_isAhead_11 : decode cX7_isAhead 11 = .ok (.iaload, 1) := by decide +kernel
theorem dX7_isAhead_12 : decode cX7_isAhead 12 = .ok (.aload_n 0, 1) := by decide +kernel
theorem dX7_isAhead_13 : decode cX7_isAhead 13 = .ok (.getfield 59, 3) := by decide +kernel
theorem dX7_isAhead_16 : decode cX7_isAhead 16 = .ok (.bipush 9, 2) := by decide +kernel
theorem dX7_isAhead_18 : decode cX7_isAhead 18 = .ok (.iload_n 2, 1) := by decide +kernel
theorem dX7_isAhead_19 : decode cX7_isAhead 19 = .ok (.imul, 1) := by decide +kernel
theorem dX7_isAhead_20 : decode cX7_isAhead 20 = .ok (.bipush 8, 2) := by decide +kernel
theorem dX7_isAhead_22 : decode cX7_isAhead 22 = .ok (.iadd, 1) := by decide +kernel
theorem dX7_isAhead_23 : decode cX7_isAhead 23 = .ok (.iaload, 1) := by decide +kernel
theorem dX7_isAhead_24 : decode cX7_isAhead 24 = .ok (.if_icmp .eq 36, 3) := by decide +kernel
theorem dX7_isAhead_27 : decode cX7_isAhead 27 = .ok (.aload_n 0, 1) := by decide +kernel
theorem dX7_isAhead_28 : decode cX7_isAhead 28 = .ok (.getfield 59, 3) := by decide +kernel
theorem dX7_isAhead_31 : decode cX7_isAhead 31 = .ok (.bipush 9, 2) := by decide +kernel
theorem dX7_isAhead_33 : decode cX7_isAhead 33 = .ok (.iload_n 1, 1) := by decide +kernel
theorem dX7_isAhead_34 : decode cX7_isAhead 34 = .ok (.imul, 1) := by decide +kernel
theorem dX7_isAhead_35 : decode cX7_isAhead 35 = .ok (.bipush 8, 2) := by decide +kernel
theorem dX7_isAhead_37 : decode cX7_isAhead 37 = .ok (.iadd, 1) := by decide +kernel
theorem dX7_isAhead_38 : decode cX7_isAhead 38 = .ok (.iaload, 1) := by decide +kernel
theorem dX7_isAhead_39 : decode cX7_isAhead 39 = .ok (.aload_n 0, 1) := by decide +kernel
theorem dX7_isAhead_40 : decode cX7_isAhead 40 = .ok (.getfield 59, 3) := by decide +kernel
theorem dX7_isAhead_43 : decode cX7_isAhead 43 = .ok (.bipush 9, 2) := by decide +kernel
theorem dX7_isAhead_45 : decode cX7_isAhead 45 = .ok (.iload_n 2, 1) := by decide +kernel
theorem dX7_isAhead_46 : decode cX7_isAhead 46 = .ok (.imul, 1) := by decide +kernel
theorem dX7_isAhead_47 : decode cX7_isAhead 47 = .ok (.bipush 8, 2) := by decide +kernel
theorem dX7_isAhead_49 : decode cX7_isAhead 49 = .ok (.iadd, 1) := by decide +kernel
theorem dX7_isAhead_50 : decode cX7_isAhead 50 = .ok (.iaload, 1) := by decide +kernel
theorem dX7_isAhead_51 : decode cX7_isAhead 51 = .ok (.if_icmp .le 7, 3) := by decide +kernel
theorem dX7_isAhead_54 : decode cX7_isAhead 54 = .ok (.iconst 1, 1) := by decide +kernel
theorem dX7_isAhead_55 : decode cX7_isAhead 55 = .ok (.goto 4, 3) := by decide +kernel
theorem dX7_isAhead_58 : decode cX7_isAhead 58 = .ok (.iconst 0, 1) := by decide +kernel
theorem dX7_isAhead_59 : decode cX7_isAhead 59 = .ok (.ireturn, 1) := by decide +kernel
theorem dX7_isAhead_60 : decode cX7_isAhead 60 = .ok (.aload_n 0, 1) := by decide +kernel
theorem dX7_isAhead_61 : decode cX7_isAhead 61 = .ok (.getfield 59, 3) := by decide +kernel
theorem dX7_isAhead_64 : decode cX7_isAhead 64 = .ok (.bipush 9, 2) := by decide +kernel
theorem dX7_isAhead_66 : decode cX7_isAhead 66 = .ok (.iload_n 1, 1) := by decide +kernel
theorem dX7_isAhead_67 : decode cX7_isAhead 67 = .ok (.imul, 1) := by decide +kernel
theorem dX7_isAhead_68 : decode cX7_isAhead 68 = .ok (.bipush 7, 2) := by decide +kernel
theorem dX7_isAhead_70 : decode cX7_isAhead 70 = .ok (.iadd, 1) := by decide +kernel
theorem dX7_isAhead_71 : decode cX7_isAhead 71 = .ok (.iaload, 1) := by decide +kernel
theorem dX7_isAhead_72 : decode cX7_isAhead 72 = .ok (.aload_n 0, 1) := by decide +kernel
theorem dX7_isAhead_73 : decode cX7_isAhead 73 = .ok (.getfield 59, 3) := by decide +kernel
theorem dX7_isAhead_76 : decode cX7_isAhead 76 = .ok (.bipush 9, 2) := by decide +kernel
theorem dX7_isAhead_78 : decode cX7_isAhead 78 = .ok (.iload_n 2, 1) := by decide +kernel
theorem dX7_isAhead_79 : decode cX7_isAhead 79 = .ok (.imul, 1) := by decide +kernel
theorem dX7_isAhead_80 : decode cX7_isAhead 80 = .ok (.bipush 7, 2) := by decide +kernel
theorem dX7_isAhead_82 : decode cX7_isAhead 82 = .ok (.iadd, 1) := by decide +kernel
theorem dX7_isAhead_83 : decode cX7_isAhead 83 = .ok (.iaload, 1) := by decide +kernel
theorem dX7_isAhead_84 : decode cX7_isAhead 84 = .ok (.if_icmp .eq 36, 3) := by decide +kernel
theorem dX7_isAhead_87 : decode cX7_isAhead 87 = .ok (.aload_n 0, 1) := by decide +kernel
theorem dX7_isAhead_88 : decode cX7_isAhead 88 = .ok (.getfield 59, 3) := by decide +kernel
theorem dX7_isAhead_91 : decode cX7_isAhead 91 = .ok (.bipush 9, 2) := by decide +kernel
theorem dX7_isAhead_93 : decode cX7_isAhead 93 = .ok (.iload_n 1, 1) := by decide +kernel
theorem dX7_isAhead_94 : decode cX7_isAhead 94 = .ok (.imul, 1) := by decide +kernel
theorem dX7_isAhead_95 : decode cX7_isAhead 95 = .ok (.bipush 7, 2) := by decide +kernel
theorem dX7_isAhead_97 : decode cX7_isAhead 97 = .ok (.iadd, 1) := by decide +kernel
theorem dX7_isAhead_98 : decode cX7_isAhead 98 = .ok (.iaload, 1) := by decide +kernel
theorem dX7_isAhead_99 : decode cX7_isAhead 99 = .ok (.aload_n 0, 1) := by decide +kernel
theorem dX7_isAhead_100 : decode cX7_isAhead 100 = .ok (.getfield 59, 3) := by decide +kernel
theorem dX7_isAhead_103 : decode cX7_isAhead 103 = .ok (.bipush 9, 2) := by decide +kernel
theorem dX7_isAhead_105 : decode cX7_isAhead 105 = .ok (.iload_n 2, 1) := by decide +kernel
theorem dX7_isAhead_106 : decode cX7_isAhead 106 = .ok (.imul, 1) := by decide +kernel
theorem dX7_isAhead_107 : decode cX7_isAhead 107 = .ok (.bipush 7, 2) := by decide +kernel
theorem dX7_isAhead_109 : decode cX7_isAhead 109 = .ok (.iadd, 1) := by decide +kernel
theorem dX7_isAhead_110 : decode cX7_isAhead 110 = .ok (.iaload, 1) := by decide +kernel
theorem dX7_isAhead_111 : decode cX7_isAhead 111 = .ok (.if_icmp .ge 7, 3) := by decide +kernel
theorem dX7_isAhead_114 : decode cX7_isAhead 114 = .ok (.iconst 1, 1) := by decide +kernel
theorem dX7_isAhead_115 : decode cX7_isAhead 115 = .ok (.goto 4, 3) := by decide +kernel
theorem dX7_isAhead_118 : decode cX7_isAhead 118 = .ok (.iconst 0, 1) := by decide +kernel
theorem dX7_isAhead_119 : decode cX7_isAhead 119 = .ok (.ireturn, 1) := by decide +kernel
theorem dX7_isAhead_120 : decode cX7_isAhead 120 = .ok (.iconst 0, 1) := by decide +kernel
theorem dX7_isAhead_121 : decode cX7_isAhead 121 = .ok (.istore_n 3, 1) := by decide +kernel
theorem dX7_isAhead_122 : decode cX7_isAhead 122 = .ok (.iload_n 3, 1) := by decide +kernel
theorem dX7_isAhead_123 : decode cX7_isAhead 123 = .ok (.bipush 6, 2) := by decide +kernel
theorem dX7_isAhead_125 : decode cX7_isAhead 125 = .ok (.if_icmp .ge 34, 3) := by decide +kernel
theorem dX7_isAhead_128 : decode cX7_isAhead 128 = .ok (.aload_n 0, 1) := by decide +kernel
theorem dX7_isAhead_129 : decode cX7_isAhead 129 = .ok (.getfield 59, 3) := by decide +kernel
theorem dX7_isAhead_132 : decode cX7_isAhead 132 = .ok (.bipush 9, 2) := by decide +kernel
theorem dX7_isAhead_134 : decode cX7_isAhead 134 = .ok (.iload_n 1, 1) := by decide +kernel
theorem dX7_isAhead_135 : decode cX7_isAhead 135 = .ok (.imul, 1) := by decide +kernel
theorem dX7_isAhead_136 : decode cX7_isAhead 136 = .ok (.iload_n 3, 1) := by decide +kernel
theorem dX7_isAhead_137 : decode cX7_isAhead 137 = .ok (.iadd, 1) := by decide +kernel
theorem dX7_isAhead_138 : decode cX7_isAhead 138 = .ok (.iaload, 1) := by decide +kernel
theorem dX7_isAhead_139 : decode cX7_isAhead 139 = .ok (.aload_n 0, 1) := by decide +kernel
theorem dX7_isAhead_140 : decode cX7_isAhead 140 = .ok (.getfield 59, 3) := by decide +kernel
theorem dX7_isAhead_143 : decode cX7_isAhead 143 = .ok (.bipush 9, 2) := by decide +kernel
theorem dX7_isAhead_145 : decode cX7_isAhead 145 = .ok (.iload_n 2, 1) := by decide +kernel
theorem dX7_isAhead_146 : decode cX7_isAhead 146 = .ok (.imul, 1) := by decide +kernel
theorem dX7_isAhead_147 : decode cX7_isAhead 147 = .ok (.iload_n 3, 1) := by decide +kernel
theorem dX7_isAhead_148 : decode cX7_isAhead 148 = .ok (.iadd, 1) := by decide +kernel
theorem dX7_isAhead_149 : decode cX7_isAhead 149 = .ok (.iaload, 1) := by decide +kernel
theorem dX7_isAhead_150 : decode cX7_isAhead 150 = .ok (.if_icmp .ne 9, 3) := by decide +kernel
theorem dX7_isAhead_153 : decode cX7_isAhead 153 = .ok (.iinc 3 1, 3) := by decide +kernel
theorem dX7_isAhead_156 : decode cX7_isAhead 156 = .ok (.goto (-34), 3) := by decide +kernel
theorem dX7_isAhead_159 : decode cX7_isAhead 159 = .ok (.aload_n 0, 1) := by decide +kernel
theorem dX7_isAhead_160 : decode cX7_isAhead 160 = .ok (.getfield 59, 3) := by decide +kernel
theorem dX7_isAhead_163 : decode cX7_isAhead 163 = .ok (.bipush 9, 2) := by decide +kernel
theorem dX7_isAhead_165 : decode cX7_isAhead 165 = .ok (.iload_n 1, 1) := by decide +kernel
theorem dX7_isAhead_166 : decode cX7_isAhead 166 = .ok (.imul, 1) := by decide +kernel
theorem dX7_isAhead_167 : decode cX7_isAhead 167 = .ok (.iload_n 3, 1) := by decide +kernel
theorem dX7_isAhead_168 : decode cX7_isAhead 168 = .ok (.iadd, 1) := by decide +kernel
theorem dX7_isAhead_169 : decode cX7_isAhead 169 = .ok (.iaload, 1) := by decide +kernel
theorem dX7_isAhead_170 : decode cX7_isAhead 170 = .ok (.aload_n 0, 1) := by decide +kernel
theorem dX7_isAhead_171 : decode cX7_isAhead 171 = .ok (.getfield 59, 3) := by decide +kernel
theorem dX7_isAhead_174 : decode cX7_isAhead 174 = .ok (.bipush 9, 2) := by decide +kernel
theorem dX7_isAhead_176 : decode cX7_isAhead 176 = .ok (.iload_n 2, 1) := by decide +kernel
theorem dX7_isAhead_177 : decode cX7_isAhead 177 = .ok (.imul, 1) := by decide +kernel
theorem dX7_isAhead_178 : decode cX7_isAhead 178 = .ok (.iload_n 3, 1) := by decide +kernel
theorem dX7_isAhead_179 : decode cX7_isAhead 179 = .ok (.iadd, 1) := by decide +kernel
theorem dX7_isAhead_180 : decode cX7_isAhead 180 = .ok (.iaload, 1) := by decide +kernel
theorem dX7_isAhead_181 : decode cX7_isAhead 181 = .ok (.if_icmp .ge 7, 3) := by decide +kernel
theorem dX7_isAhead_184 : decode cX7_isAhead 184 = .ok (.iconst 1, 1) := by decide +kernel
theorem dX7_isAhead_185 : decode cX7_isAhead 185 = .ok (.goto 4, 3) := by decide +kernel
theorem dX7_isAhead_188 : decode cX7_isAhead 188 = .ok (.iconst 0, 1) := by decide +kernel
theorem dX7_isAhead_189 : decode cX7_isAhead 189 = .ok (.ireturn, 1) := by decide +kernel
theorem dX7_inkCount_0 : decode cX7_inkCount 0 = .ok (.aload_n 0, 1) := by decide +kernel
theorem dX7_inkCount_1 : decode cX7_inkCount 1 = .ok (.invokevirtual 182, 3) := by decide +kernel
theorem dX7_inkCount_4 : decode cX7_inkCount 4 = .ok (.aload_n 0, 1) := by decide +kernel
theorem dX7_inkCount_5 : decode cX7_inkCount 5 = .ok (.getfield 176, 3) := by decide +kernel
theorem dX7_inkCount_8 : decode cX7_inkCount 8 = .ok (.ireturn, 1) := by decide +kernel
theorem dX7_inkAt_0 : decode cX7_inkAt 0 = .ok (.iload_n 1, 1) := by decide +kernel
theorem dX7_inkAt_1 : decode cX7_inkAt 1 = .ok (.ifCond .lt 13, 3) := by decide +kernel
theorem dX7_inkAt_4 : decode cX7_inkAt 4 = .ok (.iload_n 2, 1) := by decide +kernel
theorem dX7_inkAt_5 : decode cX7_inkAt 5 = .ok (.iconst 0, 1) := by decide +kernel
theorem dX7_inkAt_6 : decode cX7_inkAt 6 = .ok (.bipush 8, 2) := by decide +kernel
theorem dX7_inkAt_8 : decode cX7_inkAt 8 = .ok (.invokestatic 73, 3) := by decide +kernel
theorem dX7_inkAt_11 : decode cX7_inkAt 11 = .ok (.ifCond .ne 5, 3) := by decide +kernel
theorem dX7_inkAt_14 : decode cX7_inkAt 14 = .ok (.iconst (-1), 1) := by decide +kernel
theorem dX7_inkAt_15 : decode cX7_inkAt 15 = .ok (.ireturn, 1) := by decide +kernel
theorem dX7_inkAt_16 : decode cX7_inkAt 16 = .ok (.aload_n 0, 1) := by decide +kernel
theorem dX7_inkAt_17 : decode cX7_inkAt 17 = .ok (.invokevirtual 182, 3) := by decide +kernel
theorem dX7_inkAt_20 : decode cX7_inkAt 20 = .ok (.bipush (-4), 2) := by decide +kernel
theorem dX7_inkAt_22 : decode cX7_inkAt 22 = .ok (.istore_n 3, 1) := by decide +kernel
theorem dX7_inkAt_23 : decode cX7_inkAt 23 = .ok (.iconst 0, 1) := by decide +kernel
theorem dX7_inkAt_24 : decode cX7_inkAt 24 = .ok (.istore 4, 2) := by decide +kernel
theorem dX7_inkAt_26 : decode cX7_inkAt 26 = .ok (.iload 4, 2) := by decide +kernel
theorem dX7_inkAt_28 : decode cX7_inkAt 28 = .ok (.aload_n 0, 1) := by decide +kernel
theorem dX7_inkAt_29 : decode cX7_inkAt 29 = .ok (.getfield 176, 3) := by decide +kernel
theorem dX7_inkAt_32 : decode cX7_inkAt 32 = .ok (.if_icmp .ge 81, 3) := by decide +kernel
theorem dX7_inkAt_35 : decode cX7_inkAt 35 = .ok (.iconst 0, 1) := by decide +kernel
theorem dX7_inkAt_36 : decode cX7_inkAt 36 = .ok (.istore 5, 2) := by decide +kernel
theorem dX7_inkAt_38 : decode cX7_inkAt 38 = .ok (.iconst 0, 1) := by decide +kernel
theorem dX7_inkAt_39 : decode cX7_inkAt 39 = .ok (.istore 6, 2) := by decide +kernel
theorem dX7_inkAt_41 : decode cX7_inkAt 41 = .ok (.iload 6, 2) := by decide +kernel
theorem dX7_inkAt_43 : decode cX7_inkAt 43 = .ok (.aload_n 0, 1) := by decide +kernel
theorem dX7_inkAt_44 : decode cX7_inkAt 44 = .ok (.getfield 176, 3) := by decide +kernel
theorem dX7_inkAt_47 : decode cX7_inkAt 47 = .ok (.if_icmp .ge 37, 3) := by decide +kernel
theorem dX7_inkAt_50 : decode cX7_inkAt 50 = .ok (.iload 5, 2) := by decide +kernel
theorem dX7_inkAt_52 : decode cX7_inkAt 52 = .ok (.iload 6, 2) := by decide +kernel
theorem dX7_inkAt_54 : decode cX7_inkAt 54 = .ok (.iload 4, 2) := by decide +kernel
theorem dX7_inkAt_56 : decode cX7_inkAt 56 = .ok (.if_icmp .eq 18, 3) := by decide +kernel
theorem dX7_inkAt_59 : decode cX7_inkAt 59 = .ok (.aload_n 0, 1) := by decide +kernel
theorem dX7_inkAt_60 : decode cX7_inkAt 60 = .ok (.iload 6, 2) := by decide +kernel
theorem dX7_inkAt_62 : decode cX7_inkAt 62 = .ok (.iload 4, 2) := by decide +kernel
theorem dX7_inkAt_64 : decode cX7_inkAt 64 = .ok (.invokevirtual 185, 3) := by decide +kernel
theorem dX7_inkAt_67 : decode cX7_inkAt 67 = .ok (.ifCond .eq 7, 3) := by decide +kernel
theorem dX7_inkAt_70 : decode cX7_inkAt 70 = .ok (.iconst 1, 1) := by decide +kernel
theorem dX7_inkAt_71 : decode cX7_inkAt 71 = .ok (.goto 4, 3) := by decide +kernel
theorem dX7_inkAt_74 : decode cX7_inkAt 74 = .ok (.iconst 0, 1) := by decide +kernel
theorem dX7_inkAt_75 : decode cX7_inkAt 75 = .ok (.iadd, 1) := by decide +kernel
theorem dX7_inkAt_76 : decode cX7_inkAt 76 = .ok (.istore 5, 2) := by decide +kernel
theorem dX7_inkAt_78 : decode cX7_inkAt 78 = .ok (.iinc 6 1, 3) := by decide +kernel
theorem dX7_inkAt_81 : decode cX7_inkAt 81 = .ok (.goto (-40), 3) := by decide +kernel
theorem dX7_inkAt_84 : decode cX7_inkAt 84 = .ok (.iload 5, 2) := by decide +kernel
theorem dX7_inkAt_86 : decode cX7_inkAt 86 = .ok (.iload_n 1, 1) := by decide +kernel
theorem dX7_inkAt_87 : decode cX7_inkAt 87 = .ok (.if_icmp .ne 18, 3) := by decide +kernel
theorem dX7_inkAt_90 : decode cX7_inkAt 90 = .ok (.aload_n 0, 1) := by decide +kernel
theorem dX7_inkAt_91 : decode cX7_inkAt 91 = .ok (.getfield 59, 3) := by decide +kernel
theorem dX7_inkAt_94 : decode cX7_inkAt 94 = .ok (.bipush 9, 2) := by decide +kernel
theorem dX7_inkAt_96 : decode cX7_inkAt 96 = .ok (.iload 4, 2) := by decide +kernel
theorem dX7_inkAt_98 : decode cX7_inkAt 98 = .ok (.imul, 1) := by decide +kernel
theorem dX7_inkAt_99 : decode cX7_inkAt 99 = .ok (.iload_n 2, 1) := by decide +kernel
theorem dX7_inkAt_100 : decode cX7_inkAt 100 = .ok (.iadd, 1) := by decide +kernel
theorem dX7_inkAt_101 : decode cX7_inkAt 101 = .ok (.iaload, 1) := by decide +kernel
theorem dX7_inkAt_102 : decode cX7_inkAt 102 = .ok (.goto 4, 3) := by decide +kernel
theorem dX7_inkAt_105 : decode cX7_inkAt 105 = .ok (.iload_n 3, 1) := by decide +kernel
theorem dX7_inkAt_106 : decode cX7_inkAt 106 = .ok (.istore_n 3, 1) := by decide +kernel
theorem dX7_inkAt_107 : decode cX7_inkAt 107 = .ok (.iinc 4 1, 3) := by decide +kernel
theorem dX7_inkAt_110 : decode cX7_inkAt 110 = .ok (.goto (-84), 3) := by decide +kernel
theorem dX7_inkAt_113 : decode cX7_inkAt 113 = .ok (.iload_n 3, 1) := by decide +kernel
theorem dX7_inkAt_114 : decode cX7_inkAt 114 = .ok (.ireturn, 1) := by decide +kernel
theorem dX7_neededLimit_0 : decode cX7_neededLimit 0 = .ok (.aload_n 0, 1) := by decide +kernel
theorem dX7_neededLimit_1 : decode cX7_neededLimit 1 = .ok (.invokevirtual 152, 3) := by decide +kernel
theorem dX7_neededLimit_4 : decode cX7_neededLimit 4 = .ok (.iconst 0, 1) := by decide +kernel
theorem dX7_neededLimit_5 : decode cX7_neededLimit 5 = .ok (.istore_n 1, 1) := by decide +kernel
theorem dX7_neededLimit_6 : decode cX7_neededLimit 6 = .ok (.iconst 0, 1) := by decide +kernel
theorem dX7_neededLimit_7 : decode cX7_neededLimit 7 = .ok (.istore_n 2, 1) := by decide +kernel
theorem dX7_neededLimit_8 : decode cX7_neededLimit 8 = .ok (.iload_n 2, 1) := by decide +kernel
theorem dX7_neededLimit_9 : decode cX7_neededLimit 9 = .ok (.aload_n 0, 1) := by decide +kernel
theorem dX7_neededLimit_10 : decode cX7_neededLimit 10 = .ok (.invokevirtual 167, 3) := by decide +kernel
theorem dX7_neededLimit_13 : decode cX7_neededLimit 13 = .ok (.if_icmp .ge 37, 3) := by decide +kernel
theorem dX7_neededLimit_16 : decode cX7_neededLimit 16 = .ok (.aload_n 0, 1) := by decide +kernel
theorem dX7_neededLimit_17 : decode cX7_neededLimit 17 = .ok (.iload_n 2, 1) := by decide +kernel
theorem dX7_neededLimit_18 : decode cX7_neededLimit 18 = .ok (.aload_n 0, 1) := by decide +kernel
theorem dX7_neededLimit_19 : decode cX7_neededLimit 19 = .ok (.getfield 7, 3) := by decide +kernel
theorem dX7_neededLimit_22 : decode cX7_neededLimit 22 = .ok (.iconst 2, 1) := by decide +kernel
theorem dX7_neededLimit_23 : decode cX7_neededLimit 23 = .ok (.iaload, 1) := by decide +kernel
theorem dX7_neededLimit_24 : decode cX7_neededLimit 24 = .ok (.invokevirtual 170, 3) := by decide +kernel
theorem dX7_neededLimit_27 : decode cX7_neededLimit 27 = .ok (.aload_n 0, 1) := by decide +kernel
theorem dX7_neededLimit_28 : decode cX7_neededLimit 28 = .ok (.invokevirtual 188, 3) := by decide +kernel
theorem dX7_neededLimit_31 : decode cX7_neededLimit 31 = .ok (.iload_n 1, 1) := by decide +kernel
theorem dX7_neededLimit_32 : decode cX7_neededLimit 32 = .ok (.if_icmp .le 10, 3) := by decide +kernel
theorem dX7_neededLimit_35 : decode cX7_neededLimit 35 = .ok (.aload_n 0, 1) := by decide +kernel
theorem dX7_neededLimit_36 : decode cX7_neededLimit 36 = .ok (.invokevirtual 188, 3) := by decide +kernel
theorem dX7_neededLimit_39 : decode cX7_neededLimit 39 = .ok (.goto 4, 3) := by decide +kernel
theorem dX7_neededLimit_42 : decode cX7_neededLimit 42 = .ok (.iload_n 1, 1) := by decide +kernel
theorem dX7_neededLimit_43 : decode cX7_neededLimit 43 = .ok (.istore_n 1, 1) := by decide +kernel
theorem dX7_neededLimit_44 : decode cX7_neededLimit 44 = .ok (.iinc 2 1, 3) := by decide +kernel
theorem dX7_neededLimit_47 : decode cX7_neededLimit 47 = .ok (.goto (-39), 3) := by decide +kernel
theorem dX7_neededLimit_50 : decode cX7_neededLimit 50 = .ok (.iload_n 1, 1) := by decide +kernel
theorem dX7_neededLimit_51 : decode cX7_neededLimit 51 = .ok (.ireturn, 1) := by decide +kernel
theorem dX7_thriftiestAmount_0 : decode cX7_thriftiestAmount 0 = .ok (.iconst 0, 1) := by decide +kernel
theorem dX7_thriftiestAmount_1 : decode cX7_thriftiestAmount 1 = .ok (.istore_n 1, 1) := by decide +kernel
theorem dX7_thriftiestAmount_2 : decode cX7_thriftiestAmount 2 = .ok (.iconst (-1), 1) := by decide +kernel
theorem dX7_thriftiestAmount_3 : decode cX7_thriftiestAmount 3 = .ok (.istore_n 2, 1) := by decide +kernel
theorem dX7_thriftiestAmount_4 : decode cX7_thriftiestAmount 4 = .ok (.iconst 0, 1) := by decide +kernel
theorem dX7_thriftiestAmount_5 : decode cX7_thriftiestAmount 5 = .ok (.istore_n 3, 1) := by decide +kernel
theorem dX7_thriftiestAmount_6 : decode cX7_thriftiestAmount 6 = .ok (.iload_n 3, 1) := by decide +kernel
theorem dX7_thriftiestAmount_7 : decode cX7_thriftiestAmount 7 = .ok (.bipush 100, 2) := by decide +kernel
theorem dX7_thriftiestAmount_9 : decode cX7_thriftiestAmount 9 = .ok (.if_icmp .gt 33, 3) := by decide +kernel
theorem dX7_thriftiestAmount_12 : decode cX7_thriftiestAmount 12 = .ok (.aload_n 0, 1) := by decide +kernel
theorem dX7_thriftiestAmount_13 : decode cX7_thriftiestAmount 13 = .ok (.bipush 7, 2) := by decide +kernel
theorem dX7_thriftiestAmount_15 : decode cX7_thriftiestAmount 15 = .ok (.iload_n 3, 1) := by decide +kernel
theorem dX7_thriftiestAmount_16 : decode cX7_thriftiestAmount 16 = .ok (.invokevirtual 173, 3) := by decide +kernel
theorem dX7_thriftiestAmount_19 : decode cX7_thriftiestAmount 19 = .ok (.istore 4, 2) := by decide +kernel
theorem dX7_thriftiestAmount_21 : decode cX7_thriftiestAmount 21 = .ok (.iload_n 2, 1) := by decide +kernel
theorem dX7_thriftiestAmount_22 : decode cX7_thriftiestAmount 22 = .ok (.ifCond .lt 9, 3) := by decide +kernel
theorem dX7_thriftiestAmount_25 : decode cX7_thriftiestAmount 25 = .ok (.iload 4, 2) := by decide +kernel
theorem dX7_thriftiestAmount_27 : decode cX7_thriftiestAmount 27 = .ok (.iload_n 2, 1) := by decide +kernel
theorem dX7_thriftiestAmount_28 : decode cX7_thriftiestAmount 28 = .ok (.if_icmp .ge 8, 3) := by decide +kernel
theorem dX7_thriftiestAmount_31 : decode cX7_thriftiestAmount 31 = .ok (.iload_n 3, 1) := by decide +kernel
theorem dX7_thriftiestAmount_32 : decode cX7_thriftiestAmount 32 = .ok (.istore_n 1, 1) := by decide +kernel
theorem dX7_thriftiestAmount_33 : decode cX7_thriftiestAmount 33 = .ok (.iload 4, 2) := by decide +kernel
theorem dX7_thriftiestAmount_35 : decode cX7_thriftiestAmount 35 = .ok (.istore_n 2, 1) := by decide +kernel
theorem dX7_thriftiestAmount_36 : decode cX7_thriftiestAmount 36 = .ok (.iinc 3 1, 3) := by decide +kernel
theorem dX7_thriftiestAmount_39 : decode cX7_thriftiestAmount 39 = .ok (.goto (-33), 3) := by decide +kernel
theorem dX7_thriftiestAmount_42 : decode cX7_thriftiestAmount 42 = .ok (.iload_n 1, 1) := by decide +kernel
theorem dX7_thriftiestAmount_43 : decode cX7_thriftiestAmount 43 = .ok (.ireturn, 1) := by decide +kernel
theorem dX7_isDisordered_0 : decode cX7_isDisordered 0 = .ok (.iconst 0, 1) := by decide +kernel
theorem dX7_isDisordered_1 : decode cX7_isDisordered 1 = .ok (.istore_n 1, 1) := by decide +kernel
theorem dX7_isDisordered_2 : decode cX7_isDisordered 2 = .ok (.iconst 0, 1) := by decide +kernel
theorem dX7_isDisordered_3 : decode cX7_isDisordered 3 = .ok (.istore_n 2, 1) := by decide +kernel
theorem dX7_isDisordered_4 : decode cX7_isDisordered 4 = .ok (.iload_n 2, 1) := by decide +kernel
theorem dX7_isDisordered_5 : decode cX7_isDisordered 5 = .ok (.iconst 3, 1) := by decide +kernel
theorem dX7_isDisordered_6 : decode cX7_isDisordered 6 = .ok (.if_icmp .ge 62, 3) := by decide +kernel
theorem dX7_isDisordered_9 : decode cX7_isDisordered 9 = .ok (.iconst 0, 1) := by decide +kernel
theorem dX7_isDisordered_10 : decode cX7_isDisordered 10 = .ok (.istore_n 3, 1) := by decide +kernel
theorem dX7_isDisordered_11 : decode cX7_isDisordered 11 = .ok (.iload_n 3, 1) := by decide +kernel
theorem dX7_isDisordered_12 : decode cX7_isDisordered 12 = .ok (.iconst 3, 1) := by decide +kernel
theorem dX7_isDisordered_13 : decode cX7_isDisordered 13 = .ok (.if_icmp .ge 49, 3) := by decide +kernel
theorem dX7_isDisordered_16 : decode cX7_isDisordered 16 = .ok (.iload_n 1, 1) := by decide +kernel
theorem dX7_isDisordered_17 : decode cX7_isDisordered 17 = .ok (.ifCond .ne 33, 3) := by decide +kernel
theorem dX7_isDisordered_20 : decode cX7_isDisordered 20 = .ok (.aload_n 0, 1) := by decide +kernel
theorem dX7_isDisordered_21 : decode cX7_isDisordered 21 = .ok (.getfield 50, 3) := by decide +kernel
theorem dX7_isDisordered_24 : decode cX7_isDisordered 24 = .ok (.iload_n 2, 1) := by decide +kernel
theorem dX7_isDisordered_25 : decode cX7_isDisordered 25 = .ok (.iaload, 1) := by decide +kernel
theorem dX7_isDisordered_26 : decode cX7_isDisordered 26 = .ok (.aload_n 0, 1) := by decide +kernel
theorem dX7_isDisordered_27 : decode cX7_isDisordered 27 = .ok (.getfield 50, 3) := by decide +kernel
theorem dX7_isDisordered_30 : decode cX7_isDisordered 30 = .ok (.iload_n 3, 1) := by decide +kernel
theorem dX7_isDisordered_31 : decode cX7_isDisordered 31 = .ok (.iaload, 1) := by decide +kernel
theorem dX7_isDisordered_32 : decode cX7_isDisordered 32 = .ok (.if_icmp .ge 22, 3) := by decide +kernel
theorem dX7_isDisordered_35 : decode cX7_isDisordered 35 = .ok (.aload_n 0, 1) := by decide +kernel
theorem dX7_isDisordered_36 : decode cX7_isDisordered 36 = .ok (.getfield 53, 3) := by decide +kernel
theorem dX7_isDisordered_39 : decode cX7_isDisordered 39 = .ok (.iload_n 2, 1) := by decide +kernel
theorem dX7_isDisordered_40 : decode cX7_isDisordered 40 = .ok (.iaload, 1) := by decide +kernel
theorem dX7_isDisordered_41 : decode cX7_isDisordered 41 = .ok (.aload_n 0, 1) := by decide +kernel
theorem dX7_isDisordered_42 : decode cX7_isDisordered 42 = .ok (.getfield 53, 3) := by decide +kernel
theorem dX7_isDisordered_45 : decode cX7_isDisordered 45 = .ok (.iload_n 3, 1) := by decide +kernel
theorem dX7_isDisordered_46 : decode cX7_isDisordered 46 = .ok (.iaload, 1) := by decide +kernel
theorem dX7_isDisordered_47 : decode cX7_isDisordered 47 = .ok (.if_icmp .le 7, 3) := by decide +kernel
theorem dX7_isDisordered_50 : decode cX7_isDisordered 50 = .ok (.iconst 1, 1) := by decide +kernel
theorem dX7_isDisordered_51 : decode cX7_isDisordered 51 = .ok (.goto 4, 3) := by decide +kernel
theorem dX7_isDisordered_54 : decode cX7_isDisordered 54 = .ok (.iconst 0, 1) := by decide +kernel
theorem dX7_isDisordered_55 : decode cX7_isDisordered 55 = .ok (.istore_n 1, 1) := by decide +kernel
theorem dX7_isDisordered_56 : decode cX7_isDisordered 56 = .ok (.iinc 3 1, 3) := by decide +kernel
theorem dX7_isDisordered_59 : decode cX7_isDisordered 59 = .ok (.goto (-48), 3) := by decide +kernel
theorem dX7_isDisordered_62 : decode cX7_isDisordered 62 = .ok (.iinc 2 1, 3) := by decide +kernel
theorem dX7_isDisordered_65 : decode cX7_isDisordered 65 = .ok (.goto (-61), 3) := by decide +kernel
theorem dX7_isDisordered_68 : decode cX7_isDisordered 68 = .ok (.iload_n 1, 1) := by decide +kernel
theorem dX7_isDisordered_69 : decode cX7_isDisordered 69 = .ok (.ireturn, 1) := by decide +kernel
theorem dX7_disorderedPixels_0 : decode cX7_disorderedPixels 0 = .ok (.aload_n 0, 1) := by decide +kernel
theorem dX7_disorderedPixels_1 : decode cX7_disorderedPixels 1 = .ok (.invokevirtual 152, 3) := by decide +kernel
theorem dX7_disorderedPixels_4 : decode cX7_disorderedPixels 4 = .ok (.iconst 0, 1) := by decide +kernel
theorem dX7_disorderedPixels_5 : decode cX7_disorderedPixels 5 = .ok (.istore_n 1, 1) := by decide +kernel
theorem dX7_disorderedPixels_6 : decode cX7_disorderedPixels 6 = .ok (.iconst 0, 1) := by decide +kernel
theorem dX7_disorderedPixels_7 : decode cX7_disorderedPixels 7 = .ok (.istore_n 2, 1) := by decide +kernel
theorem dX7_disorderedPixels_8 : decode cX7_disorderedPixels 8 = .ok (.iload_n 2, 1) := by decide +kernel
theorem dX7_disorderedPixels_9 : decode cX7_disorderedPixels 9 = .ok (.aload_n 0, 1) := by decide +kernel
theorem dX7_disorderedPixels_10 : decode cX7_disorderedPixels 10 = .ok (.invokevirtual 167, 3) := by decide +kernel
theorem dX7_disorderedPixels_13 : decode cX7_disorderedPixels 13 = .ok (.if_icmp .ge 35, 3) := by decide +kernel
theorem dX7_disorderedPixels_16 : decode cX7_disorderedPixels 16 = .ok (.aload_n 0, 1) := by decide +kernel
theorem dX7_disorderedPixels_17 : decode cX7_disorderedPixels 17 = .ok (.iload_n 2, 1) := by decide +kernel
theorem dX7_disorderedPixels_18 : decode cX7_disorderedPixels 18 = .ok (.aload_n 0, 1) := by decide +kernel
theorem dX7_disorderedPixels_19 : decode cX7_disorderedPixels 19 = .ok (.getfield 7, 3) := by decide +kernel
theorem dX7_disorderedPixels_22 : decode cX7_disorderedPixels 22 = .ok (.iconst 2, 1) := by decide +kernel
theorem dX7_disorderedPixels_23 : decode cX7_disorderedPixels 23 = .ok (.iaload, 1) := by decide +kernel
theorem dX7_disorderedPixels_24 : decode cX7_disorderedPixels 24 = .ok (.invokevirtual 170, 3) := by decide +kernel
theorem dX7_disorderedPixels_27 : decode cX7_disorderedPixels 27 = .ok (.iload_n 1, 1) := by decide +kernel
theorem dX7_disorderedPixels_28 : decode cX7_disorderedPixels 28 = .ok (.aload_n 0, 1) := by decide +kernel
theorem dX7_disorderedPixels_29 : decode cX7_disorderedPixels 29 = .ok (.invokevirtual 191, 3) := by decide +kernel
theorem dX7_disorderedPixels_32 : decode cX7_disorderedPixels 32 = .ok (.ifCond .eq 7, 3) := by decide +kernel
theorem dX7_disorderedPixels_35 : decode cX7_disorderedPixels 35 = .ok (.iconst 1, 1) := by decide +kernel
theorem dX7_disorderedPixels_36 : decode cX7_disorderedPixels 36 = .ok (.goto 4, 3) := by decide +kernel
theorem dX7_disorderedPixels_39 : decode cX7_disorderedPixels 39 = .ok (.iconst 0, 1) := by decide +kernel
theorem dX7_disorderedPixels_40 : decode cX7_disorderedPixels 40 = .ok (.iadd, 1) := by decide +kernel
theorem dX7_disorderedPixels_41 : decode cX7_disorderedPixels 41 = .ok (.istore_n 1, 1) := by decide +kernel
theorem dX7_disorderedPixels_42 : decode cX7_disorderedPixels 42 = .ok (.iinc 2 1, 3) := by decide +kernel
theorem dX7_disorderedPixels_45 : decode cX7_disorderedPixels 45 = .ok (.goto (-37), 3) := by decide +kernel
theorem dX7_disorderedPixels_48 : decode cX7_disorderedPixels 48 = .ok (.iload_n 1, 1) := by decide +kernel
theorem dX7_disorderedPixels_49 : decode cX7_disorderedPixels 49 = .ok (.ireturn, 1) := by decide +kernel
theorem dX7_undo_0 : decode cX7_undo 0 = .ok (.aload_n 0, 1) := by decide +kernel
theorem dX7_undo_1 : decode cX7_undo 1 = .ok (.getfield 62, 3) := by decide +kernel
theorem dX7_undo_4 : decode cX7_undo 4 = .ok (.ifCond .ne 6, 3) := by decide +kernel
theorem dX7_undo_7 : decode cX7_undo 7 = .ok (.bipush (-2), 2) := by decide +kernel
theorem dX7_undo_9 : decode cX7_undo 9 = .ok (.ireturn, 1) := by decide +kernel
theorem dX7_undo_10 : decode cX7_undo 10 = .ok (.aload_n 0, 1) := by decide +kernel
theorem dX7_undo_11 : decode cX7_undo 11 = .ok (.dup, 1) := by decide +kernel
theorem dX7_undo_12 : decode cX7_undo 12 = .ok (.getfield 62, 3) := by decide +kernel
theorem dX7_undo_15 : decode cX7_undo 15 = .ok (.iconst 1, 1) := by decide +kernel
theorem dX7_undo_16 : decode cX7_undo 16 = .ok (.isub, 1) := by decide +kernel
theorem dX7_undo_17 : decode cX7_undo 17 = .ok (.putfield 62, 3) := by decide +kernel
theorem dX7_undo_20 : decode cX7_undo 20 = .ok (.iconst 0, 1) := by decide +kernel
theorem dX7_undo_21 : decode cX7_undo 21 = .ok (.istore_n 1, 1) := by decide +kernel
theorem dX7_undo_22 : decode cX7_undo 22 = .ok (.iload_n 1, 1) := by decide +kernel
theorem dX7_undo_23 : decode cX7_undo 23 = .ok (.sipush 368, 3) := by decide +kernel
theorem dX7_undo_26 : decode cX7_undo 26 = .ok (.if_icmp .ge 30, 3) := by decide +kernel
theorem dX7_undo_29 : decode cX7_undo 29 = .ok (.aload_n 0, 1) := by decide +kernel
theorem dX7_undo_30 : decode cX7_undo 30 = .ok (.getfield 7, 3) := by decide +kernel
theorem dX7_undo_33 : decode cX7_undo 33 = .ok (.iload_n 1, 1) := by decide +kernel
theorem dX7_undo_34 : decode cX7_undo 34 = .ok (.aload_n 0, 1) := by decide +kernel
theorem dX7_undo_35 : decode cX7_undo 35 = .ok (.getfield 13, 3) := by decide +kernel
theorem dX7_undo_38 : decode cX7_undo 38 = .ok (.sipush 368, 3) := by decide +kernel
theorem dX7_undo_41 : decode cX7_undo 41 = .ok (.aload_n 0, 1) := by decide +kernel
theorem dX7_undo_42 : decode cX7_undo 42 = .ok (.getfield 62, 3) := by decide +kernel
theorem dX7_undo_45 : decode cX7_undo 45 = .ok (.imul, 1) := by decide +kernel
theorem dX7_undo_46 : decode cX7_undo 46 = .ok (.iload_n 1, 1) := by decide +kernel
theorem dX7_undo_47 : decode cX7_undo 47 = .ok (.iadd, 1) := by decide +kernel
theorem dX7_undo_48 : decode cX7_undo 48 = .ok (.iaload, 1) := by decide +kernel
theorem dX7_undo_49 : decode cX7_undo 49 = .ok (.iastore, 1) := by decide +kernel
theorem dX7_undo_50 : decode cX7_undo 50 = .ok (.iinc 1 1, 3) := by decide +kernel
theorem dX7_undo_53 : decode cX7_undo 53 = .ok (.goto (-31), 3) := by decide +kernel
theorem dX7_undo_56 : decode cX7_undo 56 = .ok (.aload_n 0, 1) := by decide +kernel
theorem dX7_undo_57 : decode cX7_undo 57 = .ok (.getfield 62, 3) := by decide +kernel
theorem dX7_undo_60 : decode cX7_undo 60 = .ok (.ireturn, 1) := by decide +kernel
theorem dJ9_floorDiv_7cf53_0 : decode cJ9_floorDiv_7cf53 0 = .ok (.iload_n 0, 1) := by decide +kernel
theorem dJ9_floorDiv_7cf53_1 : decode cJ9_floorDiv_7cf53 1 = .ok (.iload_n 1, 1) := by decide +kernel
theorem dJ9_floorDiv_7cf53_2 : decode cJ9_floorDiv_7cf53 2 = .ok (.idiv, 1) := by decide +kernel
theorem dJ9_floorDiv_7cf53_3 : decode cJ9_floorDiv_7cf53 3 = .ok (.istore_n 2, 1) := by decide +kernel
theorem dJ9_floorDiv_7cf53_4 : decode cJ9_floorDiv_7cf53 4 = .ok (.iload_n 0, 1) := by decide +kernel
theorem dJ9_floorDiv_7cf53_5 : decode cJ9_floorDiv_7cf53 5 = .ok (.iload_n 1, 1) := by decide +kernel
theorem dJ9_floorDiv_7cf53_6 : decode cJ9_floorDiv_7cf53 6 = .ok (.ixor, 1) := by decide +kernel
theorem dJ9_floorDiv_7cf53_7 : decode cJ9_floorDiv_7cf53 7 = .ok (.ifCond .ge 14, 3) := by decide +kernel
theorem dJ9_floorDiv_7cf53_10 : decode cJ9_floorDiv_7cf53 10 = .ok (.iload_n 2, 1) := by decide +kernel
theorem dJ9_floorDiv_7cf53_11 : decode cJ9_floorDiv_7cf53 11 = .ok (.iload_n 1, 1) := by decide +kernel
theorem dJ9_floorDiv_7cf53_12 : decode cJ9_floorDiv_7cf53 12 = .ok (.imul, 1) := by decide +kernel
theorem dJ9_floorDiv_7cf53_13 : decode cJ9_floorDiv_7cf53 13 = .ok (.iload_n 0, 1) := by decide +kernel
theorem dJ9_floorDiv_7cf53_14 : decode cJ9_floorDiv_7cf53 14 = .ok (.if_icmp .eq 7, 3) := by decide +kernel
theorem dJ9_floorDiv_7cf53_17 : decode cJ9_floorDiv_7cf53 17 = .ok (.iload_n 2, 1) := by decide +kernel
theorem dJ9_floorDiv_7cf53_18 : decode cJ9_floorDiv_7cf53 18 = .ok (.iconst 1, 1) := by decide +kernel
theorem dJ9_floorDiv_7cf53_19 : decode cJ9_floorDiv_7cf53 19 = .ok (.isub, 1) := by decide +kernel
theorem dJ9_floorDiv_7cf53_20 : decode cJ9_floorDiv_7cf53 20 = .ok (.ireturn, 1) := by decide +kernel
theorem dJ9_floorDiv_7cf53_21 : decode cJ9_floorDiv_7cf53 21 = .ok (.iload_n 2, 1) := by decide +kernel
theorem dJ9_floorDiv_7cf53_22 : decode cJ9_floorDiv_7cf53 22 = .ok (.ireturn, 1) := by decide +kernel
theorem dJ9_abs_0f7a4_0 : decode cJ9_abs_0f7a4 0 = .ok (.iload_n 0, 1) := by decide +kernel
theorem dJ9_abs_0f7a4_1 : decode cJ9_abs_0f7a4 1 = .ok (.ifCond .ge 8, 3) := by decide +kernel
theorem dJ9_abs_0f7a4_4 : decode cJ9_abs_0f7a4 4 = .ok (.iload_n 0, 1) := by decide +kernel
theorem dJ9_abs_0f7a4_5 : decode cJ9_abs_0f7a4 5 = .ok (.ineg, 1) := by decide +kernel
theorem dJ9_abs_0f7a4_6 : decode cJ9_abs_0f7a4 6 = .ok (.goto 4, 3) := by decide +kernel
theorem dJ9_abs_0f7a4_9 : decode cJ9_abs_0f7a4 9 = .ok (.iload_n 0, 1) := by decide +kernel
theorem dJ9_abs_0f7a4_10 : decode cJ9_abs_0f7a4 10 = .ok (.ireturn, 1) := by decide +kernel
theorem dJ9_max_7cf53_0 : decode cJ9_max_7cf53 0 = .ok (.iload_n 0, 1) := by decide +kernel
theorem dJ9_max_7cf53_1 : decode cJ9_max_7cf53 1 = .ok (.iload_n 1, 1) := by decide +kernel
theorem dJ9_max_7cf53_2 : decode cJ9_max_7cf53 2 = .ok (.if_icmp .lt 7, 3) := by decide +kernel
theorem dJ9_max_7cf53_5 : decode cJ9_max_7cf53 5 = .ok (.iload_n 0, 1) := by decide +kernel
theorem dJ9_max_7cf53_6 : decode cJ9_max_7cf53 6 = .ok (.goto 4, 3) := by decide +kernel
theorem dJ9_max_7cf53_9 : decode cJ9_max_7cf53 9 = .ok (.iload_n 1, 1) := by decide +kernel
theorem dJ9_max_7cf53_10 : decode cJ9_max_7cf53 10 = .ok (.ireturn, 1) := by decide +kernel
theorem dJ9_min_7cf53_0 : decode cJ9_min_7cf53 0 = .ok (.iload_n 0, 1) := by decide +kernel
theorem dJ9_min_7cf53_1 : decode cJ9_min_7cf53 1 = .ok (.iload_n 1, 1) := by decide +kernel
theorem dJ9_min_7cf53_2 : decode cJ9_min_7cf53 2 = .ok (.if_icmp .gt 7, 3) := by decide +kernel
theorem dJ9_min_7cf53_5 : decode cJ9_min_7cf53 5 = .ok (.iload_n 0, 1) := by decide +kernel
theorem dJ9_min_7cf53_6 : decode cJ9_min_7cf53 6 = .ok (.goto 4, 3) := by decide +kernel
theorem dJ9_min_7cf53_9 : decode cJ9_min_7cf53 9 = .ok (.iload_n 1, 1) := by decide +kernel
theorem dJ9_min_7cf53_10 : decode cJ9_min_7cf53 10 = .ok (.ireturn, 1) := by decide +kernel
theorem dL_law_0 : decode cL_law 0 = .ok (.new 7, 3) := by decide +kernel
theorem dL_law_3 : decode cL_law 3 = .ok (.dup, 1) := by decide +kernel
theorem dL_law_4 : decode cL_law 4 = .ok (.invokespecial 9, 3) := by decide +kernel
theorem dL_law_7 : decode cL_law 7 = .ok (.astore_n 1, 1) := by decide +kernel
theorem dL_law_8 : decode cL_law 8 = .ok (.new 10, 3) := by decide +kernel
theorem dL_law_11 : decode cL_law 11 = .ok (.dup, 1) := by decide +kernel
theorem dL_law_12 : decode cL_law 12 = .ok (.invokespecial 12, 3) := by decide +kernel
theorem dL_law_15 : decode cL_law 15 = .ok (.astore_n 2, 1) := by decide +kernel
theorem dL_law_16 : decode cL_law 16 = .ok (.iconst 0, 1) := by decide +kernel
theorem dL_law_17 : decode cL_law 17 = .ok (.istore_n 3, 1) := by decide +kernel
theorem dL_law_18 : decode cL_law 18 = .ok (.iload_n 3, 1) := by decide +kernel
theorem dL_law_19 : decode cL_law 19 = .ok (.aload_n 0, 1) := by decide +kernel
theorem dL_law_20 : decode cL_law 20 = .ok (.arraylength, 1) := by decide +kernel
theorem dL_law_21 : decode cL_law 21 = .ok (.iconst 5, 1) := by decide +kernel
theorem dL_law_22 : decode cL_law 22 = .ok (.isub, 1) := by decide +kernel
theorem dL_law_23 : decode cL_law 23 = .ok (.if_icmp .gt 1058, 3) := by decide +kernel
theorem dL_law_26 : decode cL_law 26 = .ok (.aload_n 0, 1) := by decide +kernel
theorem dL_law_27 : decode cL_law 27 = .ok (.iload_n 3, 1) := by decide +kernel
theorem dL_law_28 : decode cL_law 28 = .ok (.iaload, 1) := by decide +kernel
theorem dL_law_29 : decode cL_law 29 = .ok (.bipush 31, 2) := by decide +kernel
theorem dL_law_31 : decode cL_law 31 = .ok (.iand, 1) := by decide +kernel
theorem dL_law_32 : decode cL_law 32 = .ok (.tableswitch 1043 0 30 #[140, 173, 226, 249, 292, 345, 388, 411, 444, 477, 490, 523, 556, 599, 632, 665, 698, 721, 764, 807, 840, 873, 896, 919, 932, 945, 958, 991, 1004, 1017, 1030], 140) := by decide +kernel
theorem dL_law_172 : decode cL_law 172 = .ok (.aload_n 1, 1) := by decide +kernel
theorem dL_law_173 : decode cL_law 173 = .ok (.aload_n 0, 1) := by decide +kernel
theorem dL_law_174 : decode cL_law 174 = .ok (.iload_n 3, 1) := by decide +kernel
theorem dL_law_175 : decode cL_law 175 = .ok (.iconst 1, 1) := by decide +kernel
theorem dL_law_176 : decode cL_law 176 = .ok (.iadd, 1) := by decide +kernel
theorem dL_law_177 : decode cL_law 177 = .ok (.iaload, 1) := by decide +kernel
theorem dL_law_178 : decode cL_law 178 = .ok (.aload_n 0, 1) := by decide +kernel
theorem dL_law_179 : decode cL_law 179 = .ok (.iload_n 3, 1) := by decide +kernel
theorem dL_law_180 : decode cL_law 180 = .ok (.iconst 2, 1) := by decide +kernel
theorem dL_law_181 : decode cL_law 181 = .ok (.iadd, 1) := by decide +kernel
theorem dL_law_182 : decode cL_law 182 = .ok (.iaload, 1) := by decide +kernel
theorem dL_law_183 : decode cL_law 183 = .ok (.invokevirtual 13, 3) := by decide +kernel
theorem dL_law_186 : decode cL_law 186 = .ok (.aload_n 2, 1) := by decide +kernel
theorem dL_law_187 : decode cL_law 187 = .ok (.aload_n 0, 1) := by decide +kernel
theorem dL_law_188 : decode cL_law 188 = .ok (.iload_n 3, 1) := by decide +kernel
theorem dL_law_189 : decode cL_law 189 = .ok (.iconst 1, 1) := by decide +kernel
theorem dL_law_190 : decode cL_law 190 = .ok (.iadd, 1) := by decide +kernel
theorem dL_law_191 : decode cL_law 191 = .ok (.iaload, 1) := by decide +kernel
theorem dL_law_192 : decode cL_law 192 = .ok (.aload_n 0, 1) := by decide +kernel
theorem dL_law_193 : decode cL_law 193 = .ok (.iload_n 3, 1) := by decide +kernel
theorem dL_law_194 : decode cL_law 194 = .ok (.iconst 2, 1) := by decide +kernel
theorem dL_law_195 : decode cL_law 195 = .ok (.iadd, 1) := by decide +kernel
theorem dL_law_196 : decode cL_law 196 = .ok (.iaload, 1) := by decide +kernel
theorem dL_law_197 : decode cL_law 197 = .ok (.invokevirtual 17, 3) := by decide +kernel
theorem dL_law_200 : decode cL_law 200 = .ok (.if_icmp .eq 875, 3) := by decide +kernel
theorem dL_law_203 : decode cL_law 203 = .ok (.iconst 0, 1) := by decide +kernel
theorem dL_law_204 : decode cL_law 204 = .ok (.ireturn, 1) := by decide +kernel
theorem dL_law_205 : decode cL_law 205 = .ok (.aload_n 1, 1) := by decide +kernel
theorem dL_law_206 : decode cL_law 206 = .ok (.aload_n 0, 1) := by decide +kernel
theorem dL_law_207 : decode cL_law 207 = .ok (.iload_n 3, 1) := by decide +kernel
theorem dL_law_208 : decode cL_law 208 = .ok (.iconst 1, 1) := by decide +kernel
theorem dL_law_209 : decode cL_law 209 = .ok (.iadd, 1) := by decide +kernel
theorem dL_law_210 : decode cL_law 210 = .ok (.iaload, 1) := by decide +kernel
theorem dL_law_211 : decode cL_law 211 = .ok (.aload_n 0, 1) := by decide +kernel
theorem dL_law_212 : decode cL_law 212 = .ok (.iload_n 3, 1) := by decide +kernel
theorem dL_law_213 : decode cL_law 213 = .ok (.iconst 2, 1) := by decide +kernel
theorem dL_law_214 : decode cL_law 214 = .ok (.iadd, 1) := by decide +kernel
theorem dL_law_215 : decode cL_law 215 = .ok (.iaload, 1) := by decide +kernel
theorem dL_law_216 : decode cL_law 216 = .ok (.aload_n 0, 1) := by decide +kernel
theorem dL_law_217 : decode cL_law 217 = .ok (.iload_n 3, 1) := by decide +kernel
theorem dL_law_218 : decode cL_law 218 = .ok (.iconst 3, 1) := by decide +kernel
theorem dL_law_219 : decode cL_law 219 = .ok (.iadd, 1) := by decide +kernel
theorem dL_law_220 : decode cL_law 220 = .ok (.iaload, 1) := by decide +kernel
theorem dL_law_221 : decode cL_law 221 = .ok (.aload_n 0, 1) := by decide +kernel
theorem dL_law_222 : decode cL_law 222 = .ok (.iload_n 3, 1) := by decide +kernel
theorem dL_law_223 : decode cL_law 223 = .ok (.iconst 4, 1) := by decide +kernel
theorem dL_law_224 : decode cL_law 224 = .ok (.iadd, 1) := by decide +kernel
theorem dL_law_225 : decode cL_law 225 = .ok (.iaload, 1) := by decide +kernel
theorem dL_law_226 : decode cL_law 226 = .ok (.invokevirtual 18, 3) := by decide +kernel
theorem dL_law_229 : decode cL_law 229 = .ok (.aload_n 2, 1) := by decide +kernel
theorem dL_law_230 : decode cL_law 230 = .ok (.aload_n 0, 1) := by decide +kernel
theorem dL_law_231 : decode cL_law 231 = .ok (.iload_n 3, 1) := by decide +kernel
theorem dL_law_232 : decode cL_law 232 = .ok (.iconst 1, 1) := by decide +kernel
theorem dL_law_233 : decode cL_law 233 = .ok (.iadd, 1) := by decide +kernel
theorem dL_law_234 : decode cL_law 234 = .ok (.iaload, 1) := by decide +kernel
theorem dL_law_235 : decode cL_law 235 = .ok (.aload_n 0, 1) := by decide +kernel
theorem dL_law_236 : decode cL_law 236 = .ok (.iload_n 3, 1) := by decide +kernel
theorem dL_law_237 : decode cL_law 237 = .ok (.iconst 2, 1) := by decide +kernel
theorem dL_law_238 : decode cL_law 238 = .ok (.iadd, 1) := by decide +kernel
theorem dL_law_239 : decode cL_law 239 = .ok (.iaload, 1) := by decide +kernel
theorem dL_law_240 : decode cL_law 240 = .ok (.aload_n 0, 1) := by decide +kernel
theorem dL_law_241 : decode cL_law 241 = .ok (.iload_n 3, 1) := by decide +kernel
theorem dL_law_242 : decode cL_law 242 = .ok (.iconst 3, 1) := by decide +kernel
theorem dL_law_243 : decode cL_law 243 = .ok (.iadd, 1) := by decide +kernel
theorem dL_law_244 : decode cL_law 244 = .ok (.iaload, 1) := by decide +kernel
theorem dL_law_245 : decode cL_law 245 = .ok (.aload_n 0, 1) := by decide +kernel
theorem dL_law_246 : decode cL_law 246 = .ok (.iload_n 3, 1) := by decide +kernel
theorem dL_law_247 : decode cL_law 247 = .ok (.iconst 4, 1) := by decide +kernel
theorem dL_law_248 : decode cL_law 248 = .ok (.iadd, 1) := by decide +kernel
theorem dL_law_249 : decode cL_law 249 = .ok (.iaload, 1) := by decide +kernel
theorem dL_law_250 : decode cL_law 250 = .ok (.invokevirtual 22, 3) := by decide +kernel
theorem dL_law_253 : decode cL_law 253 = .ok (.if_icmp .eq 822, 3) := by decide +kernel
theorem dL_law_256 : decode cL_law 256 = .ok (.iconst 0, 1) := by decide +kernel
theorem dL_law_257 : decode cL_law 257 = .ok (.ireturn, 1) := by decide +kernel
theorem dL_law_258 : decode cL_law 258 = .ok (.aload_n 1, 1) := by decide +kernel
theorem dL_law_259 : decode cL_law 259 = .ok (.aload_n 0, 1) := by decide +kernel
theorem dL_law_260 : decode cL_law 260 = .ok (.iload_n 3, 1) := by decide +kernel
theorem dL_law_261 : decode cL_law 261 = .ok (.iconst 1, 1) := by decide +kernel
theorem dL_law_262 : decode cL_law 262 = .ok (.iadd, 1) := by decide +kernel
theorem dL_law_263 : decode cL_law 263 = .ok (.iaload, 1) := by decide +kernel
theorem dL_law_264 : decode cL_law 264 = .ok (.invokevirtual 23, 3) := by decide +kernel
theorem dL_law_267 : decode cL_law 267 = .ok (.aload_n 2, 1) := by decide +kernel
theorem dL_law_268 : decode cL_law 268 = .ok (.aload_n 0, 1) := by decide +kernel
theorem dL_law_269 : decode cL_law 269 = .ok (.iload_n 3, 1) := by decide +kernel
theorem dL_law_270 : decode cL_law 270 = .ok (.iconst 1, 1) := by decide +kernel
theorem dL_law_271 : decode cL_law 271 = .ok (.iadd, 1) := by decide +kernel
theorem dL_law_272 : decode cL_law 272 = .ok (.iaload, 1) := by decide +kernel
theorem dL_law_273 : decode cL_law 273 = .ok (.invokevirtual 27, 3) := by decide +kernel
theorem dL_law_276 : decode cL_law 276 = .ok (.if_icmp .eq 799, 3) := by decide +kernel
theorem dL_law_279 : decode cL_law 279 = .ok (.iconst 0, 1) := by decide +kernel
theorem dL_law_280 : decode cL_law 280 = .ok (.ireturn, 1) := by decide +kernel
theorem dL_law_281 : decode cL_law 281 = .ok (.aload_n 1, 1) := by decide +kernel
theorem dL_law_282 : decode cL_law 282 = .ok (.aload_n 0, 1) := by decide +kernel
theorem dL_law_283 : decode cL_law 283 = .ok (.iload_n 3, 1) := by decide +kernel
theorem dL_law_284 : decode cL_law 284 = .ok (.iconst 1, 1) := by decide +kernel
theorem dL_law_285 : decode cL_law 285 = .ok (.iadd, 1) := by decide +kernel
theorem dL_law_286 : decode cL_law 286 = .ok (.iaload, 1) := by decide +kernel
theorem dL_law_287 : decode cL_law 287 = .ok (.aload_n 0, 1) := by decide +kernel
theorem dL_law_288 : decode cL_law 288 = .ok (.iload_n 3, 1) := by decide +kernel
theorem dL_law_289 : decode cL_law 289 = .ok (.iconst 2, 1) := by decide +kernel
theorem dL_law_290 : decode cL_law 290 = .ok (.iadd, 1) := by decide +kernel
theorem dL_law_291 : decode cL_law 291 = .ok (.iaload, 1) := by decide +kernel
theorem dL_law_292 : decode cL_law 292 = .ok (.aload_n 0, 1) := by decide +kernel
theorem dL_law_293 : decode cL_law 293 = .ok (.iload_n 3, 1) := by decide +kernel
theorem dL_law_294 : decode cL_law 294 = .ok (.iconst 3, 1) := by decide +kernel
theorem dL_law_295 : decode cL_law 295 = .ok (.iadd, 1) := by decide +kernel
theorem dL_law_296 : decode cL_law 296 = .ok (.iaload, 1) := by decide +kernel
theorem dL_law_297 : decode cL_law 297 = .ok (.invokevirtual 28, 3) := by decide +kernel
theorem dL_law_300 : decode cL_law 300 = .ok (.aload_n 2, 1) := by decide +kernel
theorem dL_law_301 : decode cL_law 301 = .ok (.aload_n 0, 1) := by decide +kernel
theorem dL_law_302 : decode cL_law 302 = .ok (.iload_n 3, 1) := by decide +kernel
theorem dL_law_303 : decode cL_law 303 = .ok (.iconst 1, 1) := by decide +kernel
theorem dL_law_304 : decode cL_law 304 = .ok (.iadd, 1) := by decide +kernel
theorem dL_law_305 : decode cL_law 305 = .ok (.iaload, 1) := by decide +kernel
theorem dL_law_306 : decode cL_law 306 = .ok (.aload_n 0, 1) := by decide +kernel
theorem dL_law_307 : decode cL_law 307 = .ok (.iload_n 3, 1) := by decide +kernel
theorem dL_law_308 : decode cL_law 308 = .ok (.iconst 2, 1) := by decide +kernel
theorem dL_law_309 : decode cL_law 309 = .ok (.iadd, 1) := by decide +kernel
theorem dL_law_310 : decode cL_law 310 = .ok (.iaload, 1) := by decide +kernel
theorem dL_law_311 : decode cL_law 311 = .ok (.aload_n 0, 1) := by decide +kernel
theorem dL_law_312 : decode cL_law 312 = .ok (.iload_n 3, 1) := by decide +kernel
theorem dL_law_313 : decode cL_law 313 = .ok (.iconst 3, 1) := by decide +kernel
theorem dL_law_314 : decode cL_law 314 = .ok (.iadd, 1) := by decide +kernel
theorem dL_law_315 : decode cL_law 315 = .ok (.iaload, 1) := by decide +kernel
theorem dL_law_316 : decode cL_law 316 = .ok (.invokevirtual 32, 3) := by decide +kernel
theorem dL_law_319 : decode cL_law 319 = .ok (.if_icmp .eq 756, 3) := by decide +kernel
theorem dL_law_322 : decode cL_law 322 = .ok (.iconst 0, 1) := by decide +kernel
theorem dL_law_323 : decode cL_law 323 = .ok (.ireturn, 1) := by decide +kernel
theorem dL_law_324 : decode cL_law 324 = .ok (.aload_n 1, 1) := by decide +kernel
theorem dL_law_325 : decode cL_law 325 = .ok (.aload_n 0, 1) := by decide +kernel
theorem dL_law_326 : decode cL_law 326 = .ok (.iload_n 3, 1) := by decide +kernel
theorem dL_law_327 : decode cL_law 327 = .ok (.iconst 1, 1) := by decide +kernel
theorem dL_law_328 : decode cL_law 328 = .ok (.iadd, 1) := by decide +kernel
theorem dL_law_329 : decode cL_law 329 = .ok (.iaload, 1) := by decide +kernel
theorem dL_law_330 : decode cL_law 330 = .ok (.aload_n 0, 1) := by decide +kernel
theorem dL_law_331 : decode cL_law 331 = .ok (.iload_n 3, 1) := by decide +kernel
theorem dL_law_332 : decode cL_law 332 = .ok (.iconst 2, 1) := by decide +kernel
theorem dL_law_333 : decode cL_law 333 = .ok (.iadd, 1) := by decide +kernel
theorem dL_law_334 : decode cL_law 334 = .ok (.iaload, 1) := by decide +kernel
theorem dL_law_335 : decode cL_law 335 = .ok (.aload_n 0, 1) := by decide +kernel
theorem dL_law_336 : decode cL_law 336 = .ok (.iload_n 3, 1) := by decide +kernel
theorem dL_law_337 : decode cL_law 337 = .ok (.iconst 3, 1) := by decide +kernel
theorem dL_law_338 : decode cL_law 338 = .ok (.iadd, 1) := by decide +kernel
theorem dL_law_339 : decode cL_law 339 = .ok (.iaload, 1) := by decide +kernel
theorem dL_law_340 : decode cL_law 340 = .ok (.aload_n 0, 1) := by decide +kernel
theorem dL_law_341 : decode cL_law 341 = .ok (.iload_n 3, 1) := by decide +kernel
theorem dL_law_342 : decode cL_law 342 = .ok (.iconst 4, 1) := by decide +kernel
theorem dL_law_343 : decode cL_law 343 = .ok (.iadd, 1) := by decide +kernel
theorem dL_law_344 : decode cL_law 344 = .ok (.iaload, 1) := by decide +kernel
theorem dL_law_345 : decode cL_law 345 = .ok (.invokevirtual 33, 3) := by decide +kernel
theorem dL_law_348 : decode cL_law 348 = .ok (.aload_n 2, 1) := by decide +kernel
theorem dL_law_349 : decode cL_law 349 = .ok (.aload_n 0, 1) := by decide +kernel
theorem dL_law_350 : decode cL_law 350 = .ok (.iload_n 3, 1) := by decide +kernel
theorem dL_law_351 : decode cL_law 351 = .ok (.iconst 1, 1) := by decide +kernel
theorem dL_law_352 : decode cL_law 352 = .ok (.iadd, 1) := by decide +kernel
theorem dL_law_353 : decode cL_law 353 = .ok (.iaload, 1) := by decide +kernel
theorem dL_law_354 : decode cL_law 354 = .ok (.aload_n 0, 1) := by decide +kernel
theorem dL_law_355 : decode cL_law 355 = .ok (.iload_n 3, 1) := by decide +kernel
theorem dL_law_356 : decode cL_law 356 = .ok (.iconst 2, 1) := by decide +kernel
theorem dL_law_357 : decode cL_law 357 = .ok (.iadd, 1) := by decide +kernel
theorem dL_law_358 : decode cL_law 358 = .ok (.iaload, 1) := by decide +kernel
theorem dL_law_359 : decode cL_law 359 = .ok (.aload_n 0, 1) := by decide +kernel
theorem dL_law_360 : decode cL_law 360 = .ok (.iload_n 3, 1) := by decide +kernel
theorem dL_law_361 : decode cL_law 361 = .ok (.iconst 3, 1) := by decide +kernel
theorem dL_law_362 : decode cL_law 362 = .ok (.iadd, 1) := by decide +kernel
theorem dL_law_363 : decode cL_law 363 = .ok (.iaload, 1) := by decide +kernel
theorem dL_law_364 : decode cL_law 364 = .ok (.aload_n 0, 1) := by decide +kernel
theorem dL_law_365 : decode cL_law 365 = .ok (.iload_n 3, 1) := by decide +kernel
theorem dL_law_366 : decode cL_law 366 = .ok (.iconst 4, 1) := by decide +kernel
theorem dL_law_367 : decode cL_law 367 = .ok (.iadd, 1) := by decide +kernel
theorem dL_law_368 : decode cL_law 368 = .ok (.iaload, 1) := by decide +kernel
theorem dL_law_369 : decode cL_law 369 = .ok (.invokevirtual 36, 3) := by decide +kernel
theorem dL_law_372 : decode cL_law 372 = .ok (.if_icmp .eq 703, 3) := by decide +kernel
theorem dL_law_375 : decode cL_law 375 = .ok (.iconst 0, 1) := by decide +kernel
theorem dL_law_376 : decode cL_law 376 = .ok (.ireturn, 1) := by decide +kernel
theorem dL_law_377 : decode cL_law 377 = .ok (.aload_n 1, 1) := by decide +kernel
theorem dL_law_378 : decode cL_law 378 = .ok (.aload_n 0, 1) := by decide +kernel
theorem dL_law_379 : decode cL_law 379 = .ok (.iload_n 3, 1) := by decide +kernel
theorem dL_law_380 : decode cL_law 380 = .ok (.iconst 1, 1) := by decide +kernel
theorem dL_law_381 : decode cL_law 381 = .ok (.iadd, 1) := by decide +kernel
theorem dL_law_382 : decode cL_law 382 = .ok (.iaload, 1) := by decide +kernel
theorem dL_law_383 : decode cL_law 383 = .ok (.aload_n 0, 1) := by decide +kernel
theorem dL_law_384 : decode cL_law 384 = .ok (.iload_n 3, 1) := by decide +kernel
theorem dL_law_385 : decode cL_law 385 = .ok (.iconst 2, 1) := by decide +kernel
theorem dL_law_386 : decode cL_law 386 = .ok (.iadd, 1) := by decide +kernel
theorem dL_law_387 : decode cL_law 387 = .ok (.iaload, 1) := by decide +kernel
theorem dL_law_388 : decode cL_law 388 = .ok (.aload_n 0, 1) := by decide +kernel
theorem dL_law_389 : decode cL_law 389 = .ok (.iload_n 3, 1) := by decide +kernel
theorem dL_law_390 : decode cL_law 390 = .ok (.iconst 3, 1) := by decide +kernel
theorem dL_law_391 : decode cL_law 391 = .ok (.iadd, 1) := by decide +kernel
theorem dL_law_392 : decode cL_law 392 = .ok (.iaload, 1) := by decide +kernel
theorem dL_law_393 : decode cL_law 393 = .ok (.invokevirtual 37, 3) := by decide +kernel
theorem dL_law_396 : decode cL_law 396 = .ok (.aload_n 2, 1) := by decide +kernel
theorem dL_law_397 : decode cL_law 397 = .ok (.aload_n 0, 1) := by decide +kernel
theorem dL_law_398 : decode cL_law 398 = .ok (.iload_n 3, 1) := by decide +kernel
theorem dL_law_399 : decode cL_law 399 = .ok (.iconst 1, 1) := by decide +kernel
theorem dL_law_400 : decode cL_law 400 = .ok (.iadd, 1) := by decide +kernel
theorem dL_law_401 : decode cL_law 401 = .ok (.iaload, 1) := by decide +kernel
theorem dL_law_402 : decode cL_law 402 = .ok (.aload_n 0, 1) := by decide +kernel
theorem dL_law_403 : decode cL_law 403 = .ok (.iload_n 3, 1) := by decide +kernel
theorem dL_law_404 : decode cL_law 404 = .ok (.iconst 2, 1) := by decide +kernel
theorem dL_law_405 : decode cL_law 405 = .ok (.iadd, 1) := by decide +kernel
theorem dL_law_406 : decode cL_law 406 = .ok (.iaload, 1) := by decide +kernel
theorem dL_law_407 : decode cL_law 407 = .ok (.aload_n 0, 1) := by decide +kernel
theorem dL_law_408 : decode cL_law 408 = .ok (.iload_n 3, 1) := by decide +kernel
theorem dL_law_409 : decode cL_law 409 = .ok (.iconst 3, 1) := by decide +kernel
theorem dL_law_410 : decode cL_law 410 = .ok (.iadd, 1) := by decide +kernel
theorem dL_law_411 : decode cL_law 411 = .ok (.iaload, 1) := by decide +kernel
theorem dL_law_412 : decode cL_law 412 = .ok (.invokevirtual 40, 3) := by decide +kernel
theorem dL_law_415 : decode cL_law 415 = .ok (.if_icmp .eq 660, 3) := by decide +kernel
theorem dL_law_418 : decode cL_law 418 = .ok (.iconst 0, 1) := by decide +kernel
theorem dL_law_419 : decode cL_law 419 = .ok (.ireturn, 1) := by decide +kernel
theorem dL_law_420 : decode cL_law 420 = .ok (.aload_n 1, 1) := by decide +kernel
theorem dL_law_421 : decode cL_law 421 = .ok (.aload_n 0, 1) := by decide +kernel
theorem dL_law_422 : decode cL_law 422 = .ok (.iload_n 3, 1) := by decide +kernel
theorem dL_law_423 : decode cL_law 423 = .ok (.iconst 1, 1) := by decide +kernel
theorem dL_law_424 : decode cL_law 424 = .ok (.iadd, 1) := by decide +kernel
theorem dL_law_425 : decode cL_law 425 = .ok (.iaload, 1) := by decide +kernel
theorem dL_law_426 : decode cL_law 426 = .ok (.invokevirtual 41, 3) := by decide +kernel
theorem dL_law_429 : decode cL_law 429 = .ok (.aload_n 2, 1) := by decide +kernel
theorem dL_law_430 : decode cL_law 430 = .ok (.aload_n 0, 1) := by decide +kernel
theorem dL_law_431 : decode cL_law 431 = .ok (.iload_n 3, 1) := by decide +kernel
theorem dL_law_432 : decode cL_law 432 = .ok (.iconst 1, 1) := by decide +kernel
theorem dL_law_433 : decode cL_law 433 = .ok (.iadd, 1) := by decide +kernel
theorem dL_law_434 : decode cL_law 434 = .ok (.iaload, 1) := by decide +kernel
theorem dL_law_435 : decode cL_law 435 = .ok (.invokevirtual 44, 3) := by decide +kernel
theorem dL_law_438 : decode cL_law 438 = .ok (.if_icmp .eq 637, 3) := by decide +kernel
theorem dL_law_441 : decode cL_law 441 = .ok (.iconst 0, 1) := by decide +kernel
theorem dL_law_442 : decode cL_law 442 = .ok (.ireturn, 1) := by decide +kernel
theorem dL_law_443 : decode cL_law 443 = .ok (.aload_n 1, 1) := by decide +kernel
theorem dL_law_444 : decode cL_law 444 = .ok (.aload_n 0, 1) := by decide +kernel
theorem dL_law_445 : decode cL_law 445 = .ok (.iload_n 3, 1) := by decide +kernel
theorem dL_law_446 : decode cL_law 446 = .ok (.iconst 1, 1) := by decide +kernel
theorem dL_law_447 : decode cL_law 447 = .ok (.iadd, 1) := by decide +kernel
theorem dL_law_448 : decode cL_law 448 = .ok (.iaload, 1) := by decide +kernel
theorem dL_law_449 : decode cL_law 449 = .ok (.aload_n 0, 1) := by decide +kernel
theorem dL_law_450 : decode cL_law 450 = .ok (.iload_n 3, 1) := by decide +kernel
theorem dL_law_451 : decode cL_law 451 = .ok (.iconst 2, 1) := by decide +kernel
theorem dL_law_452 : decode cL_law 452 = .ok (.iadd, 1) := by decide +kernel
theorem dL_law_453 : decode cL_law 453 = .ok (.iaload, 1) := by decide +kernel
theorem dL_law_454 : decode cL_law 454 = .ok (.invokevirtual 45, 3) := by decide +kernel
theorem dL_law_457 : decode cL_law 457 = .ok (.aload_n 2, 1) := by decide +kernel
theorem dL_law_458 : decode cL_law 458 = .ok (.aload_n 0, 1) := by decide +kernel
theorem dL_law_459 : decode cL_law 459 = .ok (.iload_n 3, 1) := by decide +kernel
theorem dL_law_460 : decode cL_law 460 = .ok (.iconst 1, 1) := by decide +kernel
theorem dL_law_461 : decode cL_law 461 = .ok (.iadd, 1) := by decide +kernel
theorem dL_law_462 : decode cL_law 462 = .ok (.iaload, 1) := by decide +kernel
theorem dL_law_463 : decode cL_law 463 = .ok (.aload_n 0, 1) := by decide +kernel
theorem dL_law_464 : decode cL_law 464 = .ok (.iload_n 3, 1) := by decide +kernel
theorem dL_law_465 : decode cL_law 465 = .ok (.iconst 2, 1) := by decide +kernel
theorem dL_law_466 : decode cL_law 466 = .ok (.iadd, 1) := by decide +kernel
theorem dL_law_467 : decode cL_law 467 = .ok (.iaload, 1) := by decide +kernel
theorem dL_law_468 : decode cL_law 468 = .ok (.invokevirtual 48, 3) := by decide +kernel
theorem dL_law_471 : decode cL_law 471 = .ok (.if_icmp .eq 604, 3) := by decide +kernel
theorem dL_law_474 : decode cL_law 474 = .ok (.iconst 0, 1) := by decide +kernel
theorem dL_law_475 : decode cL_law 475 = .ok (.ireturn, 1) := by decide +kernel
theorem dL_law_476 : decode cL_law 476 = .ok (.aload_n 1, 1) := by decide +kernel
theorem dL_law_477 : decode cL_law 477 = .ok (.aload_n 0, 1) := by decide +kernel
theorem dL_law_478 : decode cL_law 478 = .ok (.iload_n 3, 1) := by decide +kernel
theorem dL_law_479 : decode cL_law 479 = .ok (.iconst 1, 1) := by decide +kernel
theorem dL_law_480 : decode cL_law 480 = .ok (.iadd, 1) := by decide +kernel
theorem dL_law_481 : decode cL_law 481 = .ok (.iaload, 1) := by decide +kernel
theorem dL_law_482 : decode cL_law 482 = .ok (.aload_n 0, 1) := by decide +kernel
theorem dL_law_483 : decode cL_law 483 = .ok (.iload_n 3, 1) := by decide +kernel
theorem dL_law_484 : decode cL_law 484 = .ok (.iconst 2, 1) := by decide +kernel
theorem dL_law_485 : decode cL_law 485 = .ok (.iadd, 1) := by decide +kernel
theorem dL_law_486 : decode cL_law 486 = .ok (.iaload, 1) := by decide +kernel
theorem dL_law_487 : decode cL_law 487 = .ok (.invokevirtual 49, 3) := by decide +kernel
theorem dL_law_490 : decode cL_law 490 = .ok (.aload_n 2, 1) := by decide +kernel
theorem dL_law_491 : decode cL_law 491 = .ok (.aload_n 0, 1) := by decide +kernel
theorem dL_law_492 : decode cL_law 492 = .ok (.iload_n 3, 1) := by decide +kernel
theorem dL_law_493 : decode cL_law 493 = .ok (.iconst 1, 1) := by decide +kernel
theorem dL_law_494 : decode cL_law 494 = .ok (.iadd, 1) := by decide +kernel
theorem dL_law_495 : decode cL_law 495 = .ok (.iaload, 1) := by decide +kernel
theorem dL_law_496 : decode cL_law 496 = .ok (.aload_n 0, 1) := by decide +kernel
theorem dL_law_497 : decode cL_law 497 = .ok (.iload_n 3, 1) := by decide +kernel
theorem dL_law_498 : decode cL_law 498 = .ok (.iconst 2, 1) := by decide +kernel
theorem dL_law_499 : decode cL_law 499 = .ok (.iadd, 1) := by decide +kernel
theorem dL_law_500 : decode cL_law 500 = .ok (.iaload, 1) := by decide +kernel
theorem dL_law_501 : decode cL_law 501 = .ok (.invokevirtual 52, 3) := by decide +kernel
theorem dL_law_504 : decode cL_law 504 = .ok (.if_icmp .eq 571, 3) := by decide +kernel
theorem dL_law_507 : decode cL_law 507 = .ok (.iconst 0, 1) := by decide +kernel
theorem dL_law_508 : decode cL_law 508 = .ok (.ireturn, 1) := by decide +kernel
theorem dL_law_509 : decode cL_law 509 = .ok (.aload_n 1, 1) := by decide +kernel
theorem dL_law_510 : decode cL_law 510 = .ok (.invokevirtual 53, 3) := by decide +kernel
theorem dL_law_513 : decode cL_law 513 = .ok (.aload_n 2, 1) := by decide +kernel
theorem dL_law_514 : decode cL_law 514 = .ok (.invokevirtual 57, 3) := by decide +kernel
theorem dL_law_517 : decode cL_law 517 = .ok (.if_icmp .eq 558, 3) := by decide +kernel
theorem dL_law_520 : decode cL_law 520 = .ok (.iconst 0, 1) := by decide +kernel
theorem dL_law_521 : decode cL_law 521 = .ok (.ireturn, 1) := by decide +kernel
theorem dL_law_522 : decode cL_law 522 = .ok (.aload_n 1, 1) := by decide +kernel
theorem dL_law_523 : decode cL_law 523 = .ok (.aload_n 0, 1) := by decide +kernel
theorem dL_law_524 : decode cL_law 524 = .ok (.iload_n 3, 1) := by decide +kernel
theorem dL_law_525 : decode cL_law 525 = .ok (.iconst 1, 1) := by decide +kernel
theorem dL_law_526 : decode cL_law 526 = .ok (.iadd, 1) := by decide +kernel
theorem dL_law_527 : decode cL_law 527 = .ok (.iaload, 1) := by decide +kernel
theorem dL_law_528 : decode cL_law 528 = .ok (.aload_n 0, 1) := by decide +kernel
theorem dL_law_529 : decode cL_law 529 = .ok (.iload_n 3, 1) := by decide +kernel
theorem dL_law_530 : decode cL_law 530 = .ok (.iconst 2, 1) := by decide +kernel
theorem dL_law_531 : decode cL_law 531 = .ok (.iadd, 1) := by decide +kernel
theorem dL_law_532 : decode cL_law 532 = .ok (.iaload, 1) := by decide +kernel
theorem dL_law_533 : decode cL_law 533 = .ok (.invokevirtual 58, 3) := by decide +kernel
theorem dL_law_536 : decode cL_law 536 = .ok (.aload_n 2, 1) := by decide +kernel
theorem dL_law_537 : decode cL_law 537 = .ok (.aload_n 0, 1) := by decide +kernel
theorem dL_law_538 : decode cL_law 538 = .ok (.iload_n 3, 1) := by decide +kernel
theorem dL_law_539 : decode cL_law 539 = .ok (.iconst 1, 1) := by decide +kernel
theorem dL_law_540 : decode cL_law 540 = .ok (.iadd, 1) := by decide +kernel
theorem dL_law_541 : decode cL_law 541 = .ok (.iaload, 1) := by decide +kernel
theorem dL_law_542 : decode cL_law 542 = .ok (.aload_n 0, 1) := by decide +kernel
theorem dL_law_543 : decode cL_law 543 = .ok (.iload_n 3, 1) := by decide +kernel
theorem dL_law_544 : decode cL_law 544 = .ok (.iconst 2, 1) := by decide +kernel
theorem dL_law_545 : decode cL_law 545 = .ok (.iadd, 1) := by decide +kernel
theorem dL_law_546 : decode cL_law 546 = .ok (.iaload, 1) := by decide +kernel
theorem dL_law_547 : decode cL_law 547 = .ok (.invokevirtual 61, 3) := by decide +kernel
theorem dL_law_550 : decode cL_law 550 = .ok (.if_icmp .eq 525, 3) := by decide +kernel
theorem dL_law_553 : decode cL_law 553 = .ok (.iconst 0, 1) := by decide +kernel
theorem dL_law_554 : decode cL_law 554 = .ok (.ireturn, 1) := by decide +kernel
theorem dL_law_555 : decode cL_law 555 = .ok (.aload_n 1, 1) := by decide +kernel
theorem dL_law_556 : decode cL_law 556 = .ok (.aload_n 0, 1) := by decide +kernel
theorem dL_law_557 : decode cL_law 557 = .ok (.iload_n 3, 1) := by decide +kernel
theorem dL_law_558 : decode cL_law 558 = .ok (.iconst 1, 1) := by decide +kernel
theorem dL_law_559 : decode cL_law 559 = .ok (.iadd, 1) := by decide +kernel
theorem dL_law_560 : decode cL_law 560 = .ok (.iaload, 1) := by decide +kernel
theorem dL_law_561 : decode cL_law 561 = .ok (.aload_n 0, 1) := by decide +kernel
theorem dL_law_562 : decode cL_law 562 = .ok (.iload_n 3, 1) := by decide +kernel
theorem dL_law_563 : decode cL_law 563 = .ok (.iconst 2, 1) := by decide +kernel
theorem dL_law_564 : decode cL_law 564 = .ok (.iadd, 1) := by decide +kernel
theorem dL_law_565 : decode cL_law 565 = .ok (.iaload, 1) := by decide +kernel
theorem dL_law_566 : decode cL_law 566 = .ok (.invokevirtual 62, 3) := by decide +kernel
theorem dL_law_569 : decode cL_law 569 = .ok (.aload_n 2, 1) := by decide +kernel
theorem dL_law_570 : decode cL_law 570 = .ok (.aload_n 0, 1) := by decide +kernel
theorem dL_law_571 : decode cL_law 571 = .ok (.iload_n 3, 1) := by decide +kernel
theorem dL_law_572 : decode cL_law 572 = .ok (.iconst 1, 1) := by decide +kernel
theorem dL_law_573 : decode cL_law 573 = .ok (.iadd, 1) := by decide +kernel
theorem dL_law_574 : decode cL_law 574 = .ok (.iaload, 1) := by decide +kernel
theorem dL_law_575 : decode cL_law 575 = .ok (.aload_n 0, 1) := by decide +kernel
theorem dL_law_576 : decode cL_law 576 = .ok (.iload_n 3, 1) := by decide +kernel
theorem dL_law_577 : decode cL_law 577 = .ok (.iconst 2, 1) := by decide +kernel
theorem dL_law_578 : decode cL_law 578 = .ok (.iadd, 1) := by decide +kernel
theorem dL_law_579 : decode cL_law 579 = .ok (.iaload, 1) := by decide +kernel
theorem dL_law_580 : decode cL_law 580 = .ok (.invokevirtual 65, 3) := by decide +kernel
theorem dL_law_583 : decode cL_law 583 = .ok (.if_icmp .eq 492, 3) := by decide +kernel
theorem dL_law_586 : decode cL_law 586 = .ok (.iconst 0, 1) := by decide +kernel
theorem dL_law_587 : decode cL_law 587 = .ok (.ireturn, 1) := by decide +kernel
theorem dL_law_588 : decode cL_law 588 = .ok (.aload_n 1, 1) := by decide +kernel
theorem dL_law_589 : decode cL_law 589 = .ok (.aload_n 0, 1) := by decide +kernel
theorem dL_law_590 : decode cL_law 590 = .ok (.iload_n 3, 1) := by decide +kernel
theorem dL_law_591 : decode cL_law 591 = .ok (.iconst 1, 1) := by decide +kernel
theorem dL_law_592 : decode cL_law 592 = .ok (.iadd, 1) := by decide +kernel
theorem dL_law_593 : decode cL_law 593 = .ok (.iaload, 1) := by decide +kernel
theorem dL_law_594 : decode cL_law 594 = .ok (.aload_n 0, 1) := by decide +kernel
theorem dL_law_595 : decode cL_law 595 = .ok (.iload_n 3, 1) := by decide +kernel
theorem dL_law_596 : decode cL_law 596 = .ok (.iconst 2, 1) := by decide +kernel
theorem dL_law_597 : decode cL_law 597 = .ok (.iadd, 1) := by decide +kernel
theorem dL_law_598 : decode cL_law 598 = .ok (.iaload, 1) := by decide +kernel
theorem dL_law_599 : decode cL_law 599 = .ok (.aload_n 0, 1) := by decide +kernel
theorem dL_law_600 : decode cL_law 600 = .ok (.iload_n 3, 1) := by decide +kernel
theorem dL_law_601 : decode cL_law 601 = .ok (.iconst 3, 1) := by decide +kernel
theorem dL_law_602 : decode cL_law 602 = .ok (.iadd, 1) := by decide +kernel
theorem dL_law_603 : decode cL_law 603 = .ok (.iaload, 1) := by decide +kernel
theorem dL_law_604 : decode cL_law 604 = .ok (.invokevirtual 66, 3) := by decide +kernel
theorem dL_law_607 : decode cL_law 607 = .ok (.aload_n 2, 1) := by decide +kernel
theorem dL_law_608 : decode cL_law 608 = .ok (.aload_n 0, 1) := by decide +kernel
theorem dL_law_609 : decode cL_law 609 = .ok (.iload_n 3, 1) := by decide +kernel
theorem dL_law_610 : decode cL_law 610 = .ok (.iconst 1, 1) := by decide +kernel
theorem dL_law_611 : decode cL_law 611 = .ok (.iadd, 1) := by decide +kernel
theorem dL_law_612 : decode cL_law 612 = .ok (.iaload, 1) := by decide +kernel
theorem dL_law_613 : decode cL_law 613 = .ok (.aload_n 0, 1) := by decide +kernel
theorem dL_law_614 : decode cL_law 614 = .ok (.iload_n 3, 1) := by decide +kernel
theorem dL_law_615 : decode cL_law 615 = .ok (.iconst 2, 1) := by decide +kernel
theorem dL_law_616 : decode cL_law 616 = .ok (.iadd, 1) := by decide +kernel
theorem dL_law_617 : decode cL_law 617 = .ok (.iaload, 1) := by decide +kernel
theorem dL_law_618 : decode cL_law 618 = .ok (.aload_n 0, 1) := by decide +kernel
theorem dL_law_619 : decode cL_law 619 = .ok (.iload_n 3, 1) := by decide +kernel
theorem dL_law_620 : decode cL_law 620 = .ok (.iconst 3, 1) := by decide +kernel
theorem dL_law_621 : decode cL_law 621 = .ok (.iadd, 1) := by decide +kernel
theorem dL_law_622 : decode cL_law 622 = .ok (.iaload, 1) := by decide +kernel
theorem dL_law_623 : decode cL_law 623 = .ok (.invokevirtual 69, 3) := by decide +kernel
theorem dL_law_626 : decode cL_law 626 = .ok (.if_icmp .eq 449, 3) := by decide +kernel
theorem dL_law_629 : decode cL_law 629 = .ok (.iconst 0, 1) := by decide +kernel
theorem dL_law_630 : decode cL_law 630 = .ok (.ireturn, 1) := by decide +kernel
theorem dL_law_631 : decode cL_law 631 = .ok (.aload_n 1, 1) := by decide +kernel
theorem dL_law_632 : decode cL_law 632 = .ok (.aload_n 0, 1) := by decide +kernel
theorem dL_law_633 : decode cL_law 633 = .ok (.iload_n 3, 1) := by decide +kernel
theorem dL_law_634 : decode cL_law 634 = .ok (.iconst 1, 1) := by decide +kernel
theorem dL_law_635 : decode cL_law 635 = .ok (.iadd, 1) := by decide +kernel
theorem dL_law_636 : decode cL_law 636 = .ok (.iaload, 1) := by decide +kernel
theorem dL_law_637 : decode cL_law 637 = .ok (.aload_n 0, 1) := by decide +kernel
theorem dL_law_638 : decode cL_law 638 = .ok (.iload_n 3, 1) := by decide +kernel
theorem dL_law_639 : decode cL_law 639 = .ok (.iconst 2, 1) := by decide +kernel
theorem dL_law_640 : decode cL_law 640 = .ok (.iadd, 1) := by decide +kernel
theorem dL_law_641 : decode cL_law 641 = .ok (.iaload, 1) := by decide +kernel
theorem dL_law_642 : decode cL_law 642 = .ok (.invokevirtual 70, 3) := by decide +kernel
theorem dL_law_645 : decode cL_law 645 = .ok (.aload_n 2, 1) := by decide +kernel
theorem dL_law_646 : decode cL_law 646 = .ok (.aload_n 0, 1) := by decide +kernel
theorem dL_law_647 : decode cL_law 647 = .ok (.iload_n 3, 1) := by decide +kernel
theorem dL_law_648 : decode cL_law 648 = .ok (.iconst 1, 1) := by decide +kernel
theorem dL_law_649 : decode cL_law 649 = .ok (.iadd, 1) := by decide +kernel
theorem dL_law_650 : decode cL_law 650 = .ok (.iaload, 1) := by decide +kernel
theorem dL_law_651 : decode cL_law 651 = .ok (.aload_n 0, 1) := by decide +kernel
theorem dL_law_652 : decode cL_law 652 = .ok (.iload_n 3, 1) := by decide +kernel
theorem dL_law_653 : decode cL_law 653 = .ok (.iconst 2, 1) := by decide +kernel
theorem dL_law_654 : decode cL_law 654 = .ok (.iadd, 1) := by decide +kernel
theorem dL_law_655 : decode cL_law 655 = .ok (.iaload, 1) := by decide +kernel
theorem dL_law_656 : decode cL_law 656 = .ok (.invokevirtual 73, 3) := by decide +kernel
theorem dL_law_659 : decode cL_law 659 = .ok (.if_icmp .eq 416, 3) := by decide +kernel
theorem dL_law_662 : decode cL_law 662 = .ok (.iconst 0, 1) := by decide +kernel
theorem dL_law_663 : decode cL_law 663 = .ok (.ireturn, 1) := by decide +kernel
theorem dL_law_664 : decode cL_law 664 = .ok (.aload_n 1, 1) := by decide +kernel
theorem dL_law_665 : decode cL_law 665 = .ok (.aload_n 0, 1) := by decide +kernel
theorem dL_law_666 : decode cL_law 666 = .ok (.iload_n 3, 1) := by decide +kernel
theorem dL_law_667 : decode cL_law 667 = .ok (.iconst 1, 1) := by decide +kernel
theorem dL_law_668 : decode cL_law 668 = .ok (.iadd, 1) := by decide +kernel
theorem dL_law_669 : decode cL_law 669 = .ok (.iaload, 1) := by decide +kernel
theorem dL_law_670 : decode cL_law 670 = .ok (.aload_n 0, 1) := by decide +kernel
theorem dL_law_671 : decode cL_law 671 = .ok (.iload_n 3, 1) := by decide +kernel
theorem dL_law_672 : decode cL_law 672 = .ok (.iconst 2, 1) := by decide +kernel
theorem dL_law_673 : decode cL_law 673 = .ok (.iadd, 1) := by decide +kernel
theorem dL_law_674 : decode cL_law 674 = .ok (.iaload, 1) := by decide +kernel
theorem dL_law_675 : decode cL_law 675 = .ok (.invokevirtual 74, 3) := by decide +kernel
theorem dL_law_678 : decode cL_law 678 = .ok (.aload_n 2, 1) := by decide +kernel
theorem dL_law_679 : decode cL_law 679 = .ok (.aload_n 0, 1) := by decide +kernel
theorem dL_law_680 : decode cL_law 680 = .ok (.iload_n 3, 1) := by decide +kernel
theorem dL_law_681 : decode cL_law 681 = .ok (.iconst 1, 1) := by decide +kernel
theorem dL_law_682 : decode cL_law 682 = .ok (.iadd, 1) := by decide +kernel
theorem dL_law_683 : decode cL_law 683 = .ok (.iaload, 1) := by decide +kernel
theorem dL_law_684 : decode cL_law 684 = .ok (.aload_n 0, 1) := by decide +kernel
theorem dL_law_685 : decode cL_law 685 = .ok (.iload_n 3, 1) := by decide +kernel
theorem dL_law_686 : decode cL_law 686 = .ok (.iconst 2, 1) := by decide +kernel
theorem dL_law_687 : decode cL_law 687 = .ok (.iadd, 1) := by decide +kernel
theorem dL_law_688 : decode cL_law 688 = .ok (.iaload, 1) := by decide +kernel
theorem dL_law_689 : decode cL_law 689 = .ok (.invokevirtual 77, 3) := by decide +kernel
theorem dL_law_692 : decode cL_law 692 = .ok (.if_icmp .eq 383, 3) := by decide +kernel
theorem dL_law_695 : decode cL_law 695 = .ok (.iconst 0, 1) := by decide +kernel
theorem dL_law_696 : decode cL_law 696 = .ok (.ireturn, 1) := by decide +kernel
theorem dL_law_697 : decode cL_law 697 = .ok (.aload_n 1, 1) := by decide +kernel
theorem dL_law_698 : decode cL_law 698 = .ok (.aload_n 0, 1) := by decide +kernel
theorem dL_law_699 : decode cL_law 699 = .ok (.iload_n 3, 1) := by decide +kernel
theorem dL_law_700 : decode cL_law 700 = .ok (.iconst 1, 1) := by decide +kernel
theorem dL_law_701 : decode cL_law 701 = .ok (.iadd, 1) := by decide +kernel
theorem dL_law_702 : decode cL_law 702 = .ok (.iaload, 1) := by decide +kernel
theorem dL_law_703 : decode cL_law 703 = .ok (.aload_n 0, 1) := by decide +kernel
theorem dL_law_704 : decode cL_law 704 = .ok (.iload_n 3, 1) := by decide +kernel
theorem dL_law_705 : decode cL_law 705 = .ok (.iconst 2, 1) := by decide +kernel
theorem dL_law_706 : decode cL_law 706 = .ok (.iadd, 1) := by decide +kernel
theorem dL_law_707 : decode cL_law 707 = .ok (.iaload, 1) := by decide +kernel
theorem dL_law_708 : decode cL_law 708 = .ok (.invokevirtual 78, 3) := by decide +kernel
theorem dL_law_711 : decode cL_law 711 = .ok (.aload_n 2, 1) := by decide +kernel
theorem dL_law_712 : decode cL_law 712 = .ok (.aload_n 0, 1) := by decide +kernel
theorem dL_law_713 : decode cL_law 713 = .ok (.iload_n 3, 1) := by decide +kernel
theorem dL_law_714 : decode cL_law 714 = .ok (.iconst 1, 1) := by decide +kernel
theorem dL_law_715 : decode cL_law 715 = .ok (.iadd, 1) := by decide +kernel
theorem dL_law_716 : decode cL_law 716 = .ok (.iaload, 1) := by decide +kernel
theorem dL_law_717 : decode cL_law 717 = .ok (.aload_n 0, 1) := by decide +kernel
theorem dL_law_718 : decode cL_law 718 = .ok (.iload_n 3, 1) := by decide +kernel
theorem dL_law_719 : decode cL_law 719 = .ok (.iconst 2, 1) := by decide +kernel
theorem dL_law_720 : decode cL_law 720 = .ok (.iadd, 1) := by decide +kernel
theorem dL_law_721 : decode cL_law 721 = .ok (.iaload, 1) := by decide +kernel
theorem dL_law_722 : decode cL_law 722 = .ok (.invokevirtual 81, 3) := by decide +kernel
theorem dL_law_725 : decode cL_law 725 = .ok (.if_icmp .eq 350, 3) := by decide +kernel
theorem dL_law_728 : decode cL_law 728 = .ok (.iconst 0, 1) := by decide +kernel
theorem dL_law_729 : decode cL_law 729 = .ok (.ireturn, 1) := by decide +kernel
theorem dL_law_730 : decode cL_law 730 = .ok (.aload_n 1, 1) := by decide +kernel
theorem dL_law_731 : decode cL_law 731 = .ok (.aload_n 0, 1) := by decide +kernel
theorem dL_law_732 : decode cL_law 732 = .ok (.iload_n 3, 1) := by decide +kernel
theorem dL_law_733 : decode cL_law 733 = .ok (.iconst 1, 1) := by decide +kernel
theorem dL_law_734 : decode cL_law 734 = .ok (.iadd, 1) := by decide +kernel
theorem dL_law_735 : decode cL_law 735 = .ok (.iaload, 1) := by decide +kernel
theorem dL_law_736 : decode cL_law 736 = .ok (.invokevirtual 82, 3) := by decide +kernel
theorem dL_law_739 : decode cL_law 739 = .ok (.aload_n 2, 1) := by decide +kernel
theorem dL_law_740 : decode cL_law 740 = .ok (.aload_n 0, 1) := by decide +kernel
theorem dL_law_741 : decode cL_law 741 = .ok (.iload_n 3, 1) := by decide +kernel
theorem dL_law_742 : decode cL_law 742 = .ok (.iconst 1, 1) := by decide +kernel
theorem dL_law_743 : decode cL_law 743 = .ok (.iadd, 1) := by decide +kernel
theorem dL_law_744 : decode cL_law 744 = .ok (.iaload, 1) := by decide +kernel
theorem dL_law_745 : decode cL_law 745 = .ok (.invokevirtual 85, 3) := by decide +kernel
theorem dL_law_748 : decode cL_law 748 = .ok (.if_icmp .eq 327, 3) := by decide +kernel
theorem dL_law_751 : decode cL_law 751 = .ok (.iconst 0, 1) := by decide +kernel
theorem dL_law_752 : decode cL_law 752 = .ok (.ireturn, 1) := by decide +kernel
theorem dL_law_753 : decode cL_law 753 = .ok (.aload_n 1, 1) := by decide +kernel
theorem dL_law_754 : decode cL_law 754 = .ok (.aload_n 0, 1) := by decide +kernel
theorem dL_law_755 : decode cL_law 755 = .ok (.iload_n 3, 1) := by decide +kernel
theorem dL_law_756 : decode cL_law 756 = .ok (.iconst 1, 1) := by decide +kernel
theorem dL_law_757 : decode cL_law 757 = .ok (.iadd, 1) := by decide +kernel
theorem dL_law_758 : decode cL_law 758 = .ok (.iaload, 1) := by decide +kernel
theorem dL_law_759 : decode cL_law 759 = .ok (.aload_n 0, 1) := by decide +kernel
theorem dL_law_760 : decode cL_law 760 = .ok (.iload_n 3, 1) := by decide +kernel
theorem dL_law_761 : decode cL_law 761 = .ok (.iconst 2, 1) := by decide +kernel
theorem dL_law_762 : decode cL_law 762 = .ok (.iadd, 1) := by decide +kernel
theorem dL_law_763 : decode cL_law 763 = .ok (.iaload, 1) := by decide +kernel
theorem dL_law_764 : decode cL_law 764 = .ok (.aload_n 0, 1) := by decide +kernel
theorem dL_law_765 : decode cL_law 765 = .ok (.iload_n 3, 1) := by decide +kernel
theorem dL_law_766 : decode cL_law 766 = .ok (.iconst 3, 1) := by decide +kernel
theorem dL_law_767 : decode cL_law 767 = .ok (.iadd, 1) := by decide +kernel
theorem dL_law_768 : decode cL_law 768 = .ok (.iaload, 1) := by decide +kernel
theorem dL_law_769 : decode cL_law 769 = .ok (.invokevirtual 86, 3) := by decide +kernel
theorem dL_law_772 : decode cL_law 772 = .ok (.aload_n 2, 1) := by decide +kernel
theorem dL_law_773 : decode cL_law 773 = .ok (.aload_n 0, 1) := by decide +kernel
theorem dL_law_774 : decode cL_law 774 = .ok (.iload_n 3, 1) := by decide +kernel
theorem dL_law_775 : decode cL_law 775 = .ok (.iconst 1, 1) := by decide +kernel
theorem dL_law_776 : decode cL_law 776 = .ok (.iadd, 1) := by decide +kernel
theorem dL_law_777 : decode cL_law 777 = .ok (.iaload, 1) := by decide +kernel
theorem dL_law_778 : decode cL_law 778 = .ok (.aload_n 0, 1) := by decide +kernel
theorem dL_law_779 : decode cL_law 779 = .ok (.iload_n 3, 1) := by decide +kernel
theorem dL_law_780 : decode cL_law 780 = .ok (.iconst 2, 1) := by decide +kernel
theorem dL_law_781 : decode cL_law 781 = .ok (.iadd, 1) := by decide +kernel
theorem dL_law_782 : decode cL_law 782 = .ok (.iaload, 1) := by decide +kernel
theorem dL_law_783 : decode cL_law 783 = .ok (.aload_n 0, 1) := by decide +kernel
theorem dL_law_784 : decode cL_law 784 = .ok (.iload_n 3, 1) := by decide +kernel
theorem dL_law_785 : decode cL_law 785 = .ok (.iconst 3, 1) := by decide +kernel
theorem dL_law_786 : decode cL_law 786 = .ok (.iadd, 1) := by decide +kernel
theorem dL_law_787 : decode cL_law 787 = .ok (.iaload, 1) := by decide +kernel
theorem dL_law_788 : decode cL_law 788 = .ok (.invokevirtual 89, 3) := by decide +kernel
theorem dL_law_791 : decode cL_law 791 = .ok (.if_icmp .eq 284, 3) := by decide +kernel
theorem dL_law_794 : decode cL_law 794 = .ok (.iconst 0, 1) := by decide +kernel
theorem dL_law_795 : decode cL_law 795 = .ok (.ireturn, 1) := by decide +kernel
theorem dL_law_796 : decode cL_law 796 = .ok (.aload_n 1, 1) := by decide +kernel
theorem dL_law_797 : decode cL_law 797 = .ok (.aload_n 0, 1) := by decide +kernel
theorem dL_law_798 : decode cL_law 798 = .ok (.iload_n 3, 1) := by decide +kernel
theorem dL_law_799 : decode cL_law 799 = .ok (.iconst 1, 1) := by decide +kernel
theorem dL_law_800 : decode cL_law 800 = .ok (.iadd, 1) := by decide +kernel
theorem dL_law_801 : decode cL_law 801 = .ok (.iaload, 1) := by decide +kernel
theorem dL_law_802 : decode cL_law 802 = .ok (.aload_n 0, 1) := by decide +kernel
theorem dL_law_803 : decode cL_law 803 = .ok (.iload_n 3, 1) := by decide +kernel
theorem dL_law_804 : decode cL_law 804 = .ok (.iconst 2, 1) := by decide +kernel
theorem dL_law_805 : decode cL_law 805 = .ok (.iadd, 1) := by decide +kernel
theorem dL_law_806 : decode cL_law 806 = .ok (.iaload, 1) := by decide +kernel
theorem dL_law_807 : decode cL_law 807 = .ok (.aload_n 0, 1) := by decide +kernel
theorem dL_law_808 : decode cL_law 808 = .ok (.iload_n 3, 1) := by decide +kernel
theorem dL_law_809 : decode cL_law 809 = .ok (.iconst 3, 1) := by decide +kernel
theorem dL_law_810 : decode cL_law 810 = .ok (.iadd, 1) := by decide +kernel
theorem dL_law_811 : decode cL_law 811 = .ok (.iaload, 1) := by decide +kernel
theorem dL_law_812 : decode cL_law 812 = .ok (.invokevirtual 90, 3) := by decide +kernel
theorem dL_law_815 : decode cL_law 815 = .ok (.aload_n 2, 1) := by decide +kernel
theorem dL_law_816 : decode cL_law 816 = .ok (.aload_n 0, 1) := by decide +kernel
theorem dL_law_817 : decode cL_law 817 = .ok (.iload_n 3, 1) := by decide +kernel
theorem dL_law_818 : decode cL_law 818 = .ok (.iconst 1, 1) := by decide +kernel
theorem dL_law_819 : decode cL_law 819 = .ok (.iadd, 1) := by decide +kernel
theorem dL_law_820 : decode cL_law 820 = .ok (.iaload, 1) := by decide +kernel
theorem dL_law_821 : decode cL_law 821 = .ok (.aload_n 0, 1) := by decide +kernel
theorem dL_law_822 : decode cL_law 822 = .ok (.iload_n 3, 1) := by decide +kernel
theorem dL_law_823 : decode cL_law 823 = .ok (.iconst 2, 1) := by decide +kernel
theorem dL_law_824 : decode cL_law 824 = .ok (.iadd, 1) := by decide +kernel
theorem dL_law_825 : decode cL_law 825 = .ok (.iaload, 1) := by decide +kernel
theorem dL_law_826 : decode cL_law 826 = .ok (.aload_n 0, 1) := by decide +kernel
theorem dL_law_827 : decode cL_law 827 = .ok (.iload_n 3, 1) := by decide +kernel
theorem dL_law_828 : decode cL_law 828 = .ok (.iconst 3, 1) := by decide +kernel
theorem dL_law_829 : decode cL_law 829 = .ok (.iadd, 1) := by decide +kernel
theorem dL_law_830 : decode cL_law 830 = .ok (.iaload, 1) := by decide +kernel
theorem dL_law_831 : decode cL_law 831 = .ok (.invokevirtual 93, 3) := by decide +kernel
theorem dL_law_834 : decode cL_law 834 = .ok (.if_icmp .eq 241, 3) := by decide +kernel
theorem dL_law_837 : decode cL_law 837 = .ok (.iconst 0, 1) := by decide +kernel
theorem dL_law_838 : decode cL_law 838 = .ok (.ireturn, 1) := by decide +kernel
theorem dL_law_839 : decode cL_law 839 = .ok (.aload_n 1, 1) := by decide +kernel
theorem dL_law_840 : decode cL_law 840 = .ok (.aload_n 0, 1) := by decide +kernel
theorem dL_law_841 : decode cL_law 841 = .ok (.iload_n 3, 1) := by decide +kernel
theorem dL_law_842 : decode cL_law 842 = .ok (.iconst 1, 1) := by decide +kernel
theorem dL_law_843 : decode cL_law 843 = .ok (.iadd, 1) := by decide +kernel
theorem dL_law_844 : decode cL_law 844 = .ok (.iaload, 1) := by decide +kernel
theorem dL_law_845 : decode cL_law 845 = .ok (.aload_n 0, 1) := by decide +kernel
theorem dL_law_846 : decode cL_law 846 = .ok (.iload_n 3, 1) := by decide +kernel
theorem dL_law_847 : decode cL_law 847 = .ok (.iconst 2, 1) := by decide +kernel
theorem dL_law_848 : decode cL_law 848 = .ok (.iadd, 1) := by decide +kernel
theorem dL_law_849 : decode cL_law 849 = .ok (.iaload, 1) := by decide +kernel
theorem dL_law_850 : decode cL_law 850 = .ok (.invokevirtual 94, 3) := by decide +kernel
theorem dL_law_853 : decode cL_law 853 = .ok (.aload_n 2, 1) := by decide +kernel
theorem dL_law_854 : decode cL_law 854 = .ok (.aload_n 0, 1) := by decide +kernel
theorem dL_law_855 : decode cL_law 855 = .ok (.iload_n 3, 1) := by decide +kernel
theorem dL_law_856 : decode cL_law 856 = .ok (.iconst 1, 1) := by decide +kernel
theorem dL_law_857 : decode cL_law 857 = .ok (.iadd, 1) := by decide +kernel
theorem dL_law_858 : decode cL_law 858 = .ok (.iaload, 1) := by decide +kernel
theorem dL_law_859 : decode cL_law 859 = .ok (.aload_n 0, 1) := by decide +kernel
theorem dL_law_860 : decode cL_law 860 = .ok (.iload_n 3, 1) := by decide +kernel
theorem dL_law_861 : decode cL_law 861 = .ok (.iconst 2, 1) := by decide +kernel
theorem dL_law_862 : decode cL_law 862 = .ok (.iadd, 1) := by decide +kernel
theorem dL_law_863 : decode cL_law 863 = .ok (.iaload, 1) := by decide +kernel
theorem dL_law_864 : decode cL_law 864 = .ok (.invokevirtual 97, 3) := by decide +kernel
theorem dL_law_867 : decode cL_law 867 = .ok (.if_icmp .eq 208, 3) := by decide +kernel
theorem dL_law_870 : decode cL_law 870 = .ok (.iconst 0, 1) := by decide +kernel
theorem dL_law_871 : decode cL_law 871 = .ok (.ireturn, 1) := by decide +kernel
theorem dL_law_872 : decode cL_law 872 = .ok (.aload_n 1, 1) := by decide +kernel
theorem dL_law_873 : decode cL_law 873 = .ok (.aload_n 0, 1) := by decide +kernel
theorem dL_law_874 : decode cL_law 874 = .ok (.iload_n 3, 1) := by decide +kernel
theorem dL_law_875 : decode cL_law 875 = .ok (.iconst 1, 1) := by decide +kernel
theorem dL_law_876 : decode cL_law 876 = .ok (.iadd, 1) := by decide +kernel
theorem dL_law_877 : decode cL_law 877 = .ok (.iaload, 1) := by decide +kernel
theorem dL_law_878 : decode cL_law 878 = .ok (.aload_n 0, 1) := by decide +kernel
theorem dL_law_879 : decode cL_law 879 = .ok (.iload_n 3, 1) := by decide +kernel
theorem dL_law_880 : decode cL_law 880 = .ok (.iconst 2, 1) := by decide +kernel
theorem dL_law_881 : decode cL_law 881 = .ok (.iadd, 1) := by decide +kernel
theorem dL_law_882 : decode cL_law 882 = .ok (.iaload, 1) := by decide +kernel
theorem dL_law_883 : decode cL_law 883 = .ok (.invokevirtual 98, 3) := by decide +kernel
theorem dL_law_886 : decode cL_law 886 = .ok (.aload_n 2, 1) := by decide +kernel
theorem dL_law_887 : decode cL_law 887 = .ok (.aload_n 0, 1) := by decide +kernel
theorem dL_law_888 : decode cL_law 888 = .ok (.iload_n 3, 1) := by decide +kernel
theorem dL_law_889 : decode cL_law 889 = .ok (.iconst 1, 1) := by decide +kernel
theorem dL_law_890 : decode cL_law 890 = .ok (.iadd, 1) := by decide +kernel
theorem dL_law_891 : decode cL_law 891 = .ok (.iaload, 1) := by decide +kernel
theorem dL_law_892 : decode cL_law 892 = .ok (.aload_n 0, 1) := by decide +kernel
theorem dL_law_893 : decode cL_law 893 = .ok (.iload_n 3, 1) := by decide +kernel
theorem dL_law_894 : decode cL_law 894 = .ok (.iconst 2, 1) := by decide +kernel
theorem dL_law_895 : decode cL_law 895 = .ok (.iadd, 1) := by decide +kernel
theorem dL_law_896 : decode cL_law 896 = .ok (.iaload, 1) := by decide +kernel
theorem dL_law_897 : decode cL_law 897 = .ok (.invokevirtual 101, 3) := by decide +kernel
theorem dL_law_900 : decode cL_law 900 = .ok (.if_icmp .eq 175, 3) := by decide +kernel
theorem dL_law_903 : decode cL_law 903 = .ok (.iconst 0, 1) := by decide +kernel
theorem dL_law_904 : decode cL_law 904 = .ok (.ireturn, 1) := by decide +kernel
theorem dL_law_905 : decode cL_law 905 = .ok (.aload_n 1, 1) := by decide +kernel
theorem dL_law_906 : decode cL_law 906 = .ok (.aload_n 0, 1) := by decide +kernel
theorem dL_law_907 : decode cL_law 907 = .ok (.iload_n 3, 1) := by decide +kernel
theorem dL_law_908 : decode cL_law 908 = .ok (.iconst 1, 1) := by decide +kernel
theorem dL_law_909 : decode cL_law 909 = .ok (.iadd, 1) := by decide +kernel
theorem dL_law_910 : decode cL_law 910 = .ok (.iaload, 1) := by decide +kernel
theorem dL_law_911 : decode cL_law 911 = .ok (.invokevirtual 102, 3) := by decide +kernel
theorem dL_law_914 : decode cL_law 914 = .ok (.aload_n 2, 1) := by decide +kernel
theorem dL_law_915 : decode cL_law 915 = .ok (.aload_n 0, 1) := by decide +kernel
theorem dL_law_916 : decode cL_law 916 = .ok (.iload_n 3, 1) := by decide +kernel
theorem dL_law_917 : decode cL_law 917 = .ok (.iconst 1, 1) := by decide +kernel
theorem dL_law_918 : decode cL_law 918 = .ok (.iadd, 1) := by decide +kernel
theorem dL_law_919 : decode cL_law 919 = .ok (.iaload, 1) := by decide +kernel
theorem dL_law_920 : decode cL_law 920 = .ok (.invokevirtual 105, 3) := by decide +kernel
theorem dL_law_923 : decode cL_law 923 = .ok (.if_icmp .eq 152, 3) := by decide +kernel
theorem dL_law_926 : decode cL_law 926 = .ok (.iconst 0, 1) := by decide +kernel
theorem dL_law_927 : decode cL_law 927 = .ok (.ireturn, 1) := by decide +kernel
theorem dL_law_928 : decode cL_law 928 = .ok (.aload_n 1, 1) := by decide +kernel
theorem dL_law_929 : decode cL_law 929 = .ok (.aload_n 0, 1) := by decide +kernel
theorem dL_law_930 : decode cL_law 930 = .ok (.iload_n 3, 1) := by decide +kernel
theorem dL_law_931 : decode cL_law 931 = .ok (.iconst 1, 1) := by decide +kernel
theorem dL_law_932 : decode cL_law 932 = .ok (.iadd, 1) := by decide +kernel
theorem dL_law_933 : decode cL_law 933 = .ok (.iaload, 1) := by decide +kernel
theorem dL_law_934 : decode cL_law 934 = .ok (.invokevirtual 106, 3) := by decide +kernel
theorem dL_law_937 : decode cL_law 937 = .ok (.aload_n 2, 1) := by decide +kernel
theorem dL_law_938 : decode cL_law 938 = .ok (.aload_n 0, 1) := by decide +kernel
theorem dL_law_939 : decode cL_law 939 = .ok (.iload_n 3, 1) := by decide +kernel
theorem dL_law_940 : decode cL_law 940 = .ok (.iconst 1, 1) := by decide +kernel
theorem dL_law_941 : decode cL_law 941 = .ok (.iadd, 1) := by decide +kernel
theorem dL_law_942 : decode cL_law 942 = .ok (.iaload, 1) := by decide +kernel
theorem dL_law_943 : decode cL_law 943 = .ok (.invokevirtual 109, 3) := by decide +kernel
theorem dL_law_946 : decode cL_law 946 = .ok (.if_icmp .eq 129, 3) := by decide +kernel
theorem dL_law_949 : decode cL_law 949 = .ok (.iconst 0, 1) := by decide +kernel
theorem dL_law_950 : decode cL_law 950 = .ok (.ireturn, 1) := by decide +kernel
theorem dL_law_951 : decode cL_law 951 = .ok (.aload_n 1, 1) := by decide +kernel
theorem dL_law_952 : decode cL_law 952 = .ok (.invokevirtual 110, 3) := by decide +kernel
theorem dL_law_955 : decode cL_law 955 = .ok (.aload_n 2, 1) := by decide +kernel
theorem dL_law_956 : decode cL_law 956 = .ok (.invokevirtual 113, 3) := by decide +kernel
theorem dL_law_959 : decode cL_law 959 = .ok (.if_icmp .eq 116, 3) := by decide +kernel
theorem dL_law_962 : decode cL_law 962 = .ok (.iconst 0, 1) := by decide +kernel
theorem dL_law_963 : decode cL_law 963 = .ok (.ireturn, 1) := by decide +kernel
theorem dL_law_964 : decode cL_law 964 = .ok (.aload_n 1, 1) := by decide +kernel
theorem dL_law_965 : decode cL_law 965 = .ok (.invokevirtual 114, 3) := by decide +kernel
theorem dL_law_968 : decode cL_law 968 = .ok (.aload_n 2, 1) := by decide +kernel
theorem dL_law_969 : decode cL_law 969 = .ok (.invokevirtual 117, 3) := by decide +kernel
theorem dL_law_972 : decode cL_law 972 = .ok (.if_icmp .eq 103, 3) := by decide +kernel
theorem dL_law_975 : decode cL_law 975 = .ok (.iconst 0, 1) := by decide +kernel
theorem dL_law_976 : decode cL_law 976 = .ok (.ireturn, 1) := by decide +kernel
theorem dL_law_977 : decode cL_law 977 = .ok (.aload_n 1, 1) := by decide +kernel
theorem dL_law_978 : decode cL_law 978 = .ok (.invokevirtual 118, 3) := by decide +kernel
theorem dL_law_981 : decode cL_law 981 = .ok (.aload_n 2, 1) := by decide +kernel
theorem dL_law_982 : decode cL_law 982 = .ok (.invokevirtual 121, 3) := by decide +kernel
theorem dL_law_985 : decode cL_law 985 = .ok (.if_icmp .eq 90, 3) := by decide +kernel
theorem dL_law_988 : decode cL_law 988 = .ok (.iconst 0, 1) := by decide +kernel
theorem dL_law_989 : decode cL_law 989 = .ok (.ireturn, 1) := by decide +kernel
theorem dL_law_990 : decode cL_law 990 = .ok (.aload_n 1, 1) := by decide +kernel
theorem dL_law_991 : decode cL_law 991 = .ok (.aload_n 0, 1) := by decide +kernel
theorem dL_law_992 : decode cL_law 992 = .ok (.iload_n 3, 1) := by decide +kernel
theorem dL_law_993 : decode cL_law 993 = .ok (.iconst 1, 1) := by decide +kernel
theorem dL_law_994 : decode cL_law 994 = .ok (.iadd, 1) := by decide +kernel
theorem dL_law_995 : decode cL_law 995 = .ok (.iaload, 1) := by decide +kernel
theorem dL_law_996 : decode cL_law 996 = .ok (.aload_n 0, 1) := by decide +kernel
theorem dL_law_997 : decode cL_law 997 = .ok (.iload_n 3, 1) := by decide +kernel
theorem dL_law_998 : decode cL_law 998 = .ok (.iconst 2, 1) := by decide +kernel
theorem dL_law_999 : decode cL_law 999 = .ok (.iadd, 1) := by decide +kernel
theorem dL_law_1000 : decode cL_law 1000 = .ok (.iaload, 1) := by decide +kernel
theorem dL_law_1001 : decode cL_law 1001 = .ok (.invokevirtual 122, 3) := by decide +kernel
theorem dL_law_1004 : decode cL_law 1004 = .ok (.aload_n 2, 1) := by decide +kernel
theorem dL_law_1005 : decode cL_law 1005 = .ok (.aload_n 0, 1) := by decide +kernel
theorem dL_law_1006 : decode cL_law 1006 = .ok (.iload_n 3, 1) := by decide +kernel
theorem dL_law_1007 : decode cL_law 1007 = .ok (.iconst 1, 1) := by decide +kernel
theorem dL_law_1008 : decode cL_law 1008 = .ok (.iadd, 1) := by decide +kernel
theorem dL_law_1009 : decode cL_law 1009 = .ok (.iaload, 1) := by decide +kernel
theorem dL_law_1010 : decode cL_law 1010 = .ok (.aload_n 0, 1) := by decide +kernel
theorem dL_law_1011 : decode cL_law 1011 = .ok (.iload_n 3, 1) := by decide +kernel
theorem dL_law_1012 : decode cL_law 1012 = .ok (.iconst 2, 1) := by decide +kernel
theorem dL_law_1013 : decode cL_law 1013 = .ok (.iadd, 1) := by decide +kernel
theorem dL_law_1014 : decode cL_law 1014 = .ok (.iaload, 1) := by decide +kernel
theorem dL_law_1015 : decode cL_law 1015 = .ok (.invokevirtual 125, 3) := by decide +kernel
theorem dL_law_1018 : decode cL_law 1018 = .ok (.if_icmp .eq 57, 3) := by decide +kernel
theorem dL_law_1021 : decode cL_law 1021 = .ok (.iconst 0, 1) := by decide +kernel
theorem dL_law_1022 : decode cL_law 1022 = .ok (.ireturn, 1) := by decide +kernel
theorem dL_law_1023 : decode cL_law 1023 = .ok (.aload_n 1, 1) := by decide +kernel
theorem dL_law_1024 : decode cL_law 1024 = .ok (.invokevirtual 126, 3) := by decide +kernel
theorem dL_law_1027 : decode cL_law 1027 = .ok (.aload_n 2, 1) := by decide +kernel
theorem dL_law_1028 : decode cL_law 1028 = .ok (.invokevirtual 129, 3) := by decide +kernel
theorem dL_law_1031 : decode cL_law 1031 = .ok (.if_icmp .eq 44, 3) := by decide +kernel
theorem dL_law_1034 : decode cL_law 1034 = .ok (.iconst 0, 1) := by decide +kernel
theorem dL_law_1035 : decode cL_law 1035 = .ok (.ireturn, 1) := by decide +kernel
theorem dL_law_1036 : decode cL_law 1036 = .ok (.aload_n 1, 1) := by decide +kernel
theorem dL_law_1037 : decode cL_law 1037 = .ok (.invokevirtual 130, 3) := by decide +kernel
theorem dL_law_1040 : decode cL_law 1040 = .ok (.aload_n 2, 1) := by decide +kernel
theorem dL_law_1041 : decode cL_law 1041 = .ok (.invokevirtual 133, 3) := by decide +kernel
theorem dL_law_1044 : decode cL_law 1044 = .ok (.if_icmp .eq 31, 3) := by decide +kernel
theorem dL_law_1047 : decode cL_law 1047 = .ok (.iconst 0, 1) := by decide +kernel
theorem dL_law_1048 : decode cL_law 1048 = .ok (.ireturn, 1) := by decide +kernel
theorem dL_law_1049 : decode cL_law 1049 = .ok (.aload_n 1, 1) := by decide +kernel
theorem dL_law_1050 : decode cL_law 1050 = .ok (.invokevirtual 134, 3) := by decide +kernel
theorem dL_law_1053 : decode cL_law 1053 = .ok (.aload_n 2, 1) := by decide +kernel
theorem dL_law_1054 : decode cL_law 1054 = .ok (.invokevirtual 137, 3) := by decide +kernel
theorem dL_law_1057 : decode cL_law 1057 = .ok (.if_icmp .eq 18, 3) := by decide +kernel
theorem dL_law_1060 : decode cL_law 1060 = .ok (.iconst 0, 1) := by decide +kernel
theorem dL_law_1061 : decode cL_law 1061 = .ok (.ireturn, 1) := by decide +kernel
theorem dL_law_1062 : decode cL_law 1062 = .ok (.aload_n 1, 1) := by decide +kernel
theorem dL_law_1063 : decode cL_law 1063 = .ok (.invokevirtual 138, 3) := by decide +kernel
theorem dL_law_1066 : decode cL_law 1066 = .ok (.aload_n 2, 1) := by decide +kernel
theorem dL_law_1067 : decode cL_law 1067 = .ok (.invokevirtual 141, 3) := by decide +kernel
theorem dL_law_1070 : decode cL_law 1070 = .ok (.if_icmp .eq 5, 3) := by decide +kernel
theorem dL_law_1073 : decode cL_law 1073 = .ok (.iconst 0, 1) := by decide +kernel
theorem dL_law_1074 : decode cL_law 1074 = .ok (.ireturn, 1) := by decide +kernel
theorem dL_law_1075 : decode cL_law 1075 = .ok (.iinc 3 5, 3) := by decide +kernel
theorem dL_law_1078 : decode cL_law 1078 = .ok (.goto (-1060), 3) := by decide +kernel
theorem dL_law_1081 : decode cL_law 1081 = .ok (.iconst 1, 1) := by decide +kernel
theorem dL_law_1082 : decode cL_law 1082 = .ok (.ireturn, 1) := by decide +kernel
abbrev vwCl : List vw_C := [(RX0, TX0, 3), (RX1, TX1, 2), (RX2, TX2, 18), (RX3, TX3, 3), (RX4, TX4, 8), (RX5, TX5, 4), (RX6, TX6, 8), (RX7, TX7, 20)]
end
section
/-! THE SMALL MACHINE: values are whole numbers and references (0: null, k+1: the cell k), the memory is two tables of numbers and of references by address and place, and the kinds of the addresses. zW: the machine at a place of a method, its memory seen so. -/
/-- the tables' words that stay true -/
def zT : List Cond := lw_tbl.filter goodWord
theorem zT_mem {w : Cond} (i : Nat) (h : lw_tbl[i]? = some w) (g : goodWord w = true) : w ∈ zT := List.mem_filter.mpr ⟨List.mem_of_getElem? h, g⟩
theorem zT_0 {w : Cond} (i : Nat) (h : (k2_sels lw_privs)[i]? = some w) (g : goodWord w = true) : w ∈ zT := List.mem_filter.mpr ⟨List.mem_append_left _ (List.mem_of_getElem? h), g⟩
theorem zT_1 {w : Cond} (i : Nat) (h : tables_1_1[i]? = some w) (g : goodWord w = true) : w ∈ zT := List.mem_filter.mpr ⟨List.mem_append_right _ (List.mem_append_left _ (List.mem_of_getElem? h)), g⟩
theorem zT_2 {w : Cond} (i : Nat) (h : tables_1_2[i]? = some w) (g : goodWord w = true) : w ∈ zT := List.mem_filter.mpr ⟨List.mem_append_right _ (List.mem_append_right _ (List.mem_append_left _ (List.mem_of_getElem? h))), g⟩
theorem zT_3 {w : Cond} (i : Nat) (h : tables_1_3[i]? = some w) (g : goodWord w = true) : w ∈ zT := List.mem_filter.mpr ⟨List.mem_append_right _ (List.mem_append_right _ (List.mem_append_right _ (List.mem_append_left _ (List.mem_of_getElem? h)))), g⟩
theorem zT_4 {w : Cond} (i : Nat) (h : tables_1_4[i]? = some w) (g : goodWord w = true) : w ∈ zT := List.mem_filter.mpr ⟨List.mem_append_right _ (List.mem_append_right _ (List.mem_append_right _ (List.mem_append_right _ (List.mem_append_left _ (List.mem_of_getElem? h))))), g⟩
theorem zT_5 {w : Cond} (i : Nat) (h : tables_1_5[i]? = some w) (g : goodWord w = true) : w ∈ zT := List.mem_filter.mpr ⟨List.mem_append_right _ (List.mem_append_right _ (List.mem_append_right _ (List.mem_append_right _ (List.mem_append_right _ (List.mem_of_getElem? h))))), g⟩
theorem zT_in {w : Cond} (h : w ∈ zT) : w ∈ lw_tbl := (List.mem_filter.mp h).1
theorem z_good : ∀ w ∈ zT, goodWord w = true := fun _ h => (List.mem_filter.mp h).2
abbrev Zv : Type := Int ⊕ Nat
abbrev Zm : Type := ((Nat → Nat × Nat) × Nat) × ((Nat → Int → Int) × (Nat → Int → Nat))
abbrev Zd : Type := va_G × (Nat → ClassId)
abbrev InR (x : Int) : Prop := -2147483648 ≤ x ∧ x ≤ 2147483647
def zrf (a : Nat) : Value := match a with
  | 0 => .null
  | k + 1 => .ref k
def zen (v : Zv) : Value := match v with
  | .inl x => .int (Int32.ofInt x)
  | .inr a => zrf a
def zkd (h : Zm) (a : Nat) : Nat × Nat := h.1.1 a
def zI (h : Zm) (a : Nat) (j : Int) : Int := h.2.1 a j
def zR (h : Zm) (a : Nat) (j : Int) : Nat := h.2.2 a j
def zsI (h : Zm) (a : Nat) (j v : Int) : Zm := (h.1, (fun b k => if b = a ∧ k = j then v else h.2.1 b k), h.2.2)
def zsR (h : Zm) (a : Nat) (j : Int) (v : Nat) : Zm := (h.1, h.2.1, (fun b k => if b = a ∧ k = j then v else h.2.2 b k))
/-- a new cell of kind t with n places at the next address: all 0 -/
def zal (h : Zm) (t n : Nat) : Zm := (((fun b => if b = h.1.2 then (t, n) else h.1.1 b), h.1.2 + 1), (fun b k => if b = h.1.2 then 0 else h.2.1 b k), (fun b k => if b = h.1.2 then 0 else h.2.2 b k))
def zty (c : Nat) : Nat → FieldType := match c with
  | 0 => tyX0
  | 1 => tyX1
  | 2 => tyX2
  | 3 => tyX3
  | 4 => tyX4
  | 5 => tyX5
  | 6 => tyX6
  | _ => tyX7
def zN (c : Nat) : Nat := match c with
  | 0 => 3
  | 1 => 2
  | 2 => 18
  | 3 => 3
  | 4 => 8
  | 5 => 4
  | 6 => 8
  | _ => 20
def zaty (t : Nat) : FieldType := match t with
  | 1 => .int
  | 2 => .boolean
  | 4 => .object RX0
  | 5 => .object RX2
  | 6 => .object RX4
  | _ => .array .int
def zF (c k : Nat) (i : Int) (r : Nat) : Value := if (zty c k).isReference = true then zrf r else .int (Int32.ofInt i)
def zCl (D : Zd) (s : State) (c : Nat) : Prop := ∀ q : vw_C, vwCl[c]? = some q → u_Kn s q.1 q.2.1 q.2.2 (D.1.1 c) (D.1.2 c)
def zKn (D : Zd) (s : State) : Prop := (∀ c : Nat, zCl D s c) ∧ ∀ t : Nat, 1 ≤ t → t ≤ 7 → ArrOfT s (D.2 t) (zaty t) ∧ va_RA s (D.2 t) (zaty t)
/-- the links from one class to another's private methods -/
def zNl : List (String × Nat × MethodName × String) := [(RX1, 20, yX6_sameValues, "SeparationDesk"), (RX1, 24, yX6_sumOf, "SeparationDesk"), (RX2, 73, yX6_within, "SeparationDesk"), (RX3, 88, yX6_within, "SeparationDesk"), (RX3, 134, yX6_sumOf, "SeparationDesk"), (RX5, 42, yX6_within, "SeparationDesk")]
theorem z_aoa {u U : State} (hvm : u.vm.Alike U.vm) (h : (Cond.arrayOver (.array .int)).before #[] u = true) : (Cond.arrayOver (.array .int)).before #[] U = true := by
  have e : (Cond.arrayOver (.array .int)).before #[] U = (Cond.arrayOver (.array .int)).before #[] (u.setVm U.vm) := rfl
  rw [e, Cond.arrayOver_setVmC (args := #[]) (s := u) hvm (.array .int)]
  exact h
def zAoc : List String := [RX0, RX2, RX4]
/-- links from one class to another's private methods, and what the tables say of arrays over our classes -/
def zNs (s : State) : Prop := (∀ q ∈ zNl, va_Nw (.methodLinkNest q.1 q.2.1 q.2.2.1 q.2.2.2) s) ∧ (∀ C ∈ zAoc, va_AO C s) ∧ (Cond.arrayOver (.array .int)).before #[] s = true
theorem zNs.warm {s U : State} (hW : s.WarmedH U.vm) (h : zNs s) : zNs U := ⟨fun q hq => va_Nw.warmM hW (h.1 q hq), fun C hC => va_AO.moved hW.alike (h.2.1 C hC), z_aoa hW.alike h.2.2⟩
theorem zNs.same {s U : State} (hW : s.vm = U.vm) (h : zNs s) : zNs U := ⟨fun q hq => va_Nw.same rfl hW (h.1 q hq), fun C hC => va_AO.moved (by rw [hW]; exact Vm.Alike.refl _) (h.2.1 C hC), z_aoa (by rw [hW]; exact Vm.Alike.refl _) h.2.2⟩
theorem zNl_in : ∀ q ∈ zNl, Cond.methodLinkNest q.1 q.2.1 q.2.2.1 q.2.2.2 ∈ lw_tbl := by
  have h : zNl.map (fun q => Cond.methodLinkNest q.1 q.2.1 q.2.2.1 q.2.2.2) = [654, 655, 553, 573, 600, 352].filterMap (fun i => lw_tbl[i]?) := by decide +kernel
  intro q hq
  have h2 := List.mem_map_of_mem (f := fun q : String × Nat × MethodName × String => Cond.methodLinkNest q.1 q.2.1 q.2.2.1 q.2.2.2) hq
  rw [h] at h2
  obtain ⟨i, -, hi⟩ := List.mem_filterMap.mp h2
  exact List.mem_of_getElem? hi
theorem zKn.moved {D : Zd} {u U : State} (hvm : u.vm.Alike U.vm) (h : zKn D u) : zKn D U := ⟨fun c q hq => u_Kn_moved hvm (h.1 c q hq), fun t h1 h2 => ⟨arrOfT_moved hvm (h.2 t h1 h2).1, (h.2 t h1 h2).2.moved hvm⟩⟩
/-- what the cell behind an address is, by its kind: 1, 2 an array of ints, of booleans; 4 to 7 one of references; 10 + c an object of class c -/
def zAt (D : Zd) (h : Zm) (a : Nat) (H : Heap) : Prop :=
  (((zkd h a).1 = 1 ∨ (zkd h a).1 = 2) → H[a - 1]? = some (arrV (D.2 (zkd h a).1) (zkd h a).2 (fun j => .int (Int32.ofInt (zI h a j)))) ∧ (zkd h a).2 < 2147483648) ∧
  ((4 ≤ (zkd h a).1 ∧ (zkd h a).1 ≤ 7) → H[a - 1]? = some (arrV (D.2 (zkd h a).1) (zkd h a).2 (fun j => zrf (zR h a j))) ∧ (zkd h a).2 < 2147483648) ∧
  (10 ≤ (zkd h a).1 → (zkd h a).1 < 18 ∧ t_OB (a - 1) (D.1.1 ((zkd h a).1 - 10)) (zN ((zkd h a).1 - 10)) (D.1.2 ((zkd h a).1 - 10)) H (fun k => zF ((zkd h a).1 - 10) k (zI h a k) (zR h a k)))
def zRep (D : Zd) (base : Nat) (h : Zm) (H : Heap) : Prop :=
  (H.size + 1 = h.1.2 ∧ base ≤ h.1.2) ∧ (∀ a, (zkd h a).1 ≠ 0 → 1 ≤ a ∧ base ≤ a ∧ a < h.1.2) ∧ (∀ a j, InR (zI h a j)) ∧ ∀ a, zAt D h a H
theorem zAt.kept {D : Zd} {h h' : Zm} {a : Nat} {H H' : Heap} (x : zAt D h a H) (hk : zkd h' a = zkd h a) (hi : ∀ j, zI h' a j = zI h a j) (hr : ∀ j, zR h' a j = zR h a j) (hH : H'[a - 1]? = H[a - 1]?) : zAt D h' a H' := by
  obtain ⟨x1, x2, x3⟩ := x
  unfold zAt
  rw [hk, hH]
  simp only [hi, hr]
  exact ⟨x1, x2, fun q => ⟨(x3 q).1, (x3 q).2.kept hH⟩⟩
theorem zen_cat (v : Zv) : (zen v).category = 1 := by
  cases v with
  | inl x => rfl
  | inr a => cases a <;> rfl
/-- the locals, by their places -/
def zL (ls : Array Slot) (nL : Nat) (ρ : List (Option Zv)) : Prop := ls.size = nL ∧ lv_wf ls ∧ ∀ (i : Nat) (v : Zv), ρ[i]? = some (some v) → ls[i]? = some (.val (zen v))
def zl (ρ : List (Option Zv)) : List (Nat × Value) := (List.range ρ.length).filterMap fun i => (ρ.getD i none).map fun v => (i, zen v)
theorem zl_mem {ρ : List (Option Zv)} {q : Nat × Value} : q ∈ zl ρ ↔ ∃ v : Zv, ρ[q.1]? = some (some v) ∧ q.2 = zen v := by
  unfold zl
  rw [List.mem_filterMap]
  constructor
  · rintro ⟨i, hi, e⟩
    rw [List.mem_range] at hi
    rw [Option.map_eq_some_iff] at e
    obtain ⟨v, e1, e2⟩ := e
    subst e2
    refine ⟨v, ?_, rfl⟩
    simp only [List.getD_eq_getElem?_getD] at e1
    cases hq : ρ[i]? with
    | none => rw [hq] at e1; cases e1
    | some w => rw [hq] at e1; simp at e1; rw [e1]
  · rintro ⟨v, e1, e2⟩
    have hi : q.1 < ρ.length := (List.getElem?_eq_some_iff.mp e1).1
    refine ⟨q.1, List.mem_range.mpr hi, ?_⟩
    simp only [List.getD_eq_getElem?_getD, e1, Option.getD_some, Option.map_some]
    rw [← e2]
theorem zL.has {ls : Array Slot} {nL : Nat} {ρ : List (Option Zv)} (h : zL ls nL ρ) : lv_has ls nL (zl ρ) := ⟨h.1, h.2.1, fun q hq => by
  obtain ⟨v, e1, e2⟩ := zl_mem.mp hq
  rw [e2]
  exact h.2.2 q.1 v e1⟩
theorem zL.stored {ls' : Array Slot} {nL i : Nat} {v : Zv} {ρ : List (Option Zv)} (h : lv_has ls' nL ((i, zen v) :: (zl ρ).filter (fun q => !(q.1 == i) && !(q.1 + 1 == i && q.2.category == 2)))) : zL ls' nL (ρ.set i (some v)) := by
  refine ⟨h.1, h.2.1, fun j w hj => ?_⟩
  by_cases e : j = i
  · subst e
    have hl : j < ρ.length := by
      have := (List.getElem?_eq_some_iff.mp hj).1
      simpa using this
    rw [List.getElem?_set_self hl] at hj
    cases hj
    exact h.2.2 (j, zen v) List.mem_cons_self
  · rw [List.getElem?_set_ne (fun q => e q.symm)] at hj
    refine h.2.2 (j, zen w) (List.mem_cons_of_mem _ (List.mem_filter.mpr ⟨zl_mem.mpr ⟨w, hj, rfl⟩, ?_⟩))
    have hc := zen_cat w
    simp [e, hc]
def zmask : List Bool → List (Option Zv) → List (Option Zv)
  | b :: bs, x :: xs => (if b = true then x else none) :: zmask bs xs
  | _, _ => []
theorem zL.mask {ls : Array Slot} {nL : Nat} : ∀ {ρ : List (Option Zv)} (bs : List Bool) {k : Nat}, (∀ (i : Nat) (v : Zv), ρ[i]? = some (some v) → ls[k + i]? = some (.val (zen v))) → ∀ (i : Nat) (v : Zv), (zmask bs ρ)[i]? = some (some v) → ls[k + i]? = some (.val (zen v))
  | [], bs, k, _ => by
    intro i v hi
    cases bs <;> simp [zmask] at hi
  | x :: xs, [], k, _ => by
    intro i v hi
    simp [zmask] at hi
  | x :: xs, b :: bs, k, h => by
    intro i v hi
    cases i with
    | zero =>
      simp only [zmask, List.getElem?_cons_zero, Option.some.injEq] at hi
      by_cases hb : b = true
      · rw [if_pos hb] at hi
        exact h 0 v (by simp [hi])
      · rw [if_neg hb] at hi
        cases hi
    | succ j =>
      have := zL.mask (ls := ls) (nL := nL) (ρ := xs) bs (k := k + 1) (fun i v hv => by
        have := h (i + 1) v (by simpa using hv)
        rw [show k + 1 + i = k + (i + 1) by omega]
        exact this) j v (by simpa [zmask] using hi)
      rw [show k + (j + 1) = k + 1 + j by omega]
      exact this
section ZW
variable {p : Program} {l : Launch} {e : Env} {R : Room} {s : State} {m : MethodId} {args : Array Value} {below : List Frame} {meth : Method} {c : Code} {D : Zd} {base nL : Nat} {Qf : State → Prop} {cells slots pc pc' : Nat} {ρ : List (Option Zv)} {st : List Zv} {h : Zm} {cc : ByteArray} {own : String} {ret : Option FieldType}
/-- the machine at place pc of a method, with locals ρ, stack st and memory h, comes to an end with Qf -/
def zW (p : Program) (l : Launch) (e : Env) (R : Room) (s : State) (m : MethodId) (args : Array Value) (below : List Frame) (meth : Method) (c : Code) (D : Zd) (base nL : Nat) (Qf : State → Prop) (cells slots pc : Nat) (ρ : List (Option Zv)) (st : List Zv) (h : Zm) : Prop :=
  ∀ (H : Heap) (locs : List Loc) (ls : Array Slot), zRep D base h H → (∀ q : Nat, q + 1 < base → H[q]? = s.heap[q]?) → (∀ q ∈ locs, base ≤ q.base + 1) → zL ls nL ρ → W p l e R s m args below meth c H locs cells slots Qf (F0 m pc ls (st.map zen))
/-- what stays true of a method's run -/
def zOk (p : Program) (s : State) (m : MethodId) (args : Array Value) (meth : Method) (c : Code) (D : Zd) (cc : ByteArray) (nL : Nat) (own : String) (ret : Option FieldType) : Prop :=
  p.tables.exec = Jvm.exec ∧ c.code = cc ∧ c.maxLocals = nL ∧ s.vm.findClass own = some m.cls ∧ (∀ w ∈ zT, w.before args s = true) ∧ (meth.locks = false ∧ zNs s) ∧ meth.sig.returnType = ret ∧ zKn D s
theorem z_mask (bs : List Bool) {ρ' : List (Option Zv)} (hρ : zmask bs ρ = ρ') (k : zW p l e R s m args below meth c D base nL Qf cells slots pc ρ' st h) : zW p l e R s m args below meth c D base nL Qf cells slots pc ρ st h := by
  subst hρ
  intro H locs ls h1 h2 h3 h4
  refine k H locs ls h1 h2 h3 ⟨h4.1, h4.2.1, fun i v hi => ?_⟩
  have := zL.mask (ls := ls) (nL := nL) bs (k := 0) (fun i v hv => by rw [Nat.zero_add]; exact h4.2.2 i v hv) i v hi
  rwa [Nat.zero_add] at this
theorem z_cells {cells' slots' : Nat} (h1 : cells = cells') (h2 : slots = slots') (k : zW p l e R s m args below meth c D base nL Qf cells' slots' pc ρ st h) : zW p l e R s m args below meth c D base nL Qf cells slots pc ρ st h := by
  subst h1
  subst h2
  exact k
theorem z_iconst (hc : zOk p s m args meth c D cc nL own ret) {n : Int} (hd : decode cc pc = .ok (.iconst n, 1)) (k : zW p l e R s m args below meth c D base nL Qf cells slots (pc + 1) ρ (.inl n :: st) h) : zW p l e R s m args below meth c D base nL Qf cells slots pc ρ st h :=
  fun H locs ls h1 h2 h3 h4 => lv_iconst hc.1 hc.2.1 hd rfl (k H locs ls h1 h2 h3 h4)
theorem z_bipush (hc : zOk p s m args meth c D cc nL own ret) {n : Int} (hd : decode cc pc = .ok (.bipush n, 2)) (hv : (Int8.ofInt n).toInt32 = Int32.ofInt n) (k : zW p l e R s m args below meth c D base nL Qf cells slots (pc + 2) ρ (.inl n :: st) h) : zW p l e R s m args below meth c D base nL Qf cells slots pc ρ st h :=
  fun H locs ls h1 h2 h3 h4 => lv_bipush hc.1 hc.2.1 hd hv (k H locs ls h1 h2 h3 h4)
theorem z_sipush (hc : zOk p s m args meth c D cc nL own ret) {n : Int} (hd : decode cc pc = .ok (.sipush n, 3)) (hv : (Int16.ofInt n).toInt32 = Int32.ofInt n) (k : zW p l e R s m args below meth c D base nL Qf cells slots (pc + 3) ρ (.inl n :: st) h) : zW p l e R s m args below meth c D base nL Qf cells slots pc ρ st h :=
  fun H locs ls h1 h2 h3 h4 => lv_sipush hc.1 hc.2.1 hd hv (k H locs ls h1 h2 h3 h4)
theorem z_ldc (hc : zOk p s m args meth c D cc nL own ret) {n : Int} {x : Nat} (hd : decode cc pc = .ok (.ldc x, 2)) (hw : Cond.constant own x (Int32.ofInt n) ∈ zT) (k : zW p l e R s m args below meth c D base nL Qf cells slots (pc + 2) ρ (.inl n :: st) h) : zW p l e R s m args below meth c D base nL Qf cells slots pc ρ st h :=
  fun H locs ls h1 h2 h3 h4 => lv_ldc hc.1 hc.2.1 hc.2.2.2.1 (hc.2.2.2.2.1 _ hw) hd (k H locs ls h1 h2 h3 h4)
theorem z_iload_n (hc : zOk p s m args meth c D cc nL own ret) {i : Fin 4} {x : Int} (hd : decode cc pc = .ok (.iload_n i, 1)) (hx : ρ[(i : Nat)]? = some (some (.inl x))) (k : zW p l e R s m args below meth c D base nL Qf cells slots (pc + 1) ρ (.inl x :: st) h) : zW p l e R s m args below meth c D base nL Qf cells slots pc ρ st h :=
  fun H locs ls h1 h2 h3 h4 => lv_iload_n hc.1 hc.2.1 hd rfl (h4.2.2 _ _ hx) (k H locs ls h1 h2 h3 h4)
theorem z_iload (hc : zOk p s m args meth c D cc nL own ret) {i : Nat} {x : Int} (hd : decode cc pc = .ok (.iload i, 2)) (hx : ρ[i]? = some (some (.inl x))) (k : zW p l e R s m args below meth c D base nL Qf cells slots (pc + 2) ρ (.inl x :: st) h) : zW p l e R s m args below meth c D base nL Qf cells slots pc ρ st h :=
  fun H locs ls h1 h2 h3 h4 => lv_iload hc.1 hc.2.1 hd (h4.2.2 _ _ hx) (k H locs ls h1 h2 h3 h4)
theorem z_aload_n (hc : zOk p s m args meth c D cc nL own ret) {i : Fin 4} {x : Nat} (hd : decode cc pc = .ok (.aload_n i, 1)) (hx : ρ[(i : Nat)]? = some (some (.inr x))) (k : zW p l e R s m args below meth c D base nL Qf cells slots (pc + 1) ρ (.inr x :: st) h) : zW p l e R s m args below meth c D base nL Qf cells slots pc ρ st h := by
  intro H locs ls h1 h2 h3 h4
  have h5 := k H locs ls h1 h2 h3 h4
  have h6 := h4.2.2 _ _ hx
  cases x with
  | zero => exact lv_aload_nN hc.1 hc.2.1 hd rfl h6 h5
  | succ x => exact lv_aload_n hc.1 hc.2.1 hd rfl h6 h5
theorem z_aload (hc : zOk p s m args meth c D cc nL own ret) {i x : Nat} (hd : decode cc pc = .ok (.aload i, 2)) (hx : ρ[i]? = some (some (.inr x))) (k : zW p l e R s m args below meth c D base nL Qf cells slots (pc + 2) ρ (.inr x :: st) h) : zW p l e R s m args below meth c D base nL Qf cells slots pc ρ st h := by
  intro H locs ls h1 h2 h3 h4
  have h5 := k H locs ls h1 h2 h3 h4
  have h6 := h4.2.2 _ _ hx
  cases x with
  | zero => exact lv_aloadN hc.1 hc.2.1 hd h6 h5
  | succ x => exact lv_aload hc.1 hc.2.1 hd h6 h5
theorem z_istore_n (hc : zOk p s m args meth c D cc nL own ret) {i : Fin 4} {x : Int} (hd : decode cc pc = .ok (.istore_n i, 1)) (hi : (i : Nat) < nL) {ρ' : List (Option Zv)} (hρ : ρ.set (i : Nat) (some (.inl x)) = ρ') (k : zW p l e R s m args below meth c D base nL Qf cells slots (pc + 1) ρ' st h) : zW p l e R s m args below meth c D base nL Qf cells slots pc ρ (.inl x :: st) h :=
  fun H locs ls h1 h2 h3 h4 => lv_istore_n hc.1 hc.2.1 hd rfl h4.has hi rfl (fun ls' h' => k H locs ls' h1 h2 h3 (hρ ▸ zL.stored (v := .inl x) h'))
theorem z_istore (hc : zOk p s m args meth c D cc nL own ret) {i : Nat} {x : Int} (hd : decode cc pc = .ok (.istore i, 2)) (hi : i < nL) {ρ' : List (Option Zv)} (hρ : ρ.set i (some (.inl x)) = ρ') (k : zW p l e R s m args below meth c D base nL Qf cells slots (pc + 2) ρ' st h) : zW p l e R s m args below meth c D base nL Qf cells slots pc ρ (.inl x :: st) h :=
  fun H locs ls h1 h2 h3 h4 => lv_istore hc.1 hc.2.1 hd h4.has hi rfl (fun ls' h' => k H locs ls' h1 h2 h3 (hρ ▸ zL.stored (v := .inl x) h'))
theorem z_astore_n (hc : zOk p s m args meth c D cc nL own ret) {i : Fin 4} {x : Nat} (hd : decode cc pc = .ok (.astore_n i, 1)) (hi : (i : Nat) < nL) {ρ' : List (Option Zv)} (hρ : ρ.set (i : Nat) (some (.inr x)) = ρ') (k : zW p l e R s m args below meth c D base nL Qf cells slots (pc + 1) ρ' st h) : zW p l e R s m args below meth c D base nL Qf cells slots pc ρ (.inr x :: st) h := by
  intro H locs ls h1 h2 h3 h4
  cases x with
  | zero => exact lv_astore_nN hc.1 hc.2.1 hd rfl h4.has hi rfl (fun ls' h' => k H locs ls' h1 h2 h3 (hρ ▸ zL.stored (v := .inr 0) h'))
  | succ x => exact lv_astore_n hc.1 hc.2.1 hd rfl h4.has hi rfl (fun ls' h' => k H locs ls' h1 h2 h3 (hρ ▸ zL.stored (v := .inr (x + 1)) h'))
theorem z_astore (hc : zOk p s m args meth c D cc nL own ret) {i x : Nat} (hd : decode cc pc = .ok (.astore i, 2)) (hi : i < nL) {ρ' : List (Option Zv)} (hρ : ρ.set i (some (.inr x)) = ρ') (k : zW p l e R s m args below meth c D base nL Qf cells slots (pc + 2) ρ' st h) : zW p l e R s m args below meth c D base nL Qf cells slots pc ρ (.inr x :: st) h := by
  intro H locs ls h1 h2 h3 h4
  cases x with
  | zero => exact lv_astoreN hc.1 hc.2.1 hd h4.has hi rfl (fun ls' h' => k H locs ls' h1 h2 h3 (hρ ▸ zL.stored (v := .inr 0) h'))
  | succ x => exact lv_astore hc.1 hc.2.1 hd h4.has hi rfl (fun ls' h' => k H locs ls' h1 h2 h3 (hρ ▸ zL.stored (v := .inr (x + 1)) h'))
end ZW
end
section
/-! one row an instruction, over the small machine -/
theorem InR.to {x : Int} (h : InR x) : (Int32.ofInt x).toInt = x := Int32.toInt_ofInt_of_le (by omega) (by omega)
theorem z_eq {a b : Int} (ha : InR a) (hb : InR b) : Int32.ofInt a = Int32.ofInt b ↔ a = b := by
  rw [← Int32.toInt_inj, ha.to, hb.to]
theorem z_lt {a b : Int} (ha : InR a) (hb : InR b) : Int32.ofInt a < Int32.ofInt b ↔ a < b := by
  rw [Int32.lt_iff_toInt_lt, ha.to, hb.to]
theorem z_le {a b : Int} (ha : InR a) (hb : InR b) : Int32.ofInt a ≤ Int32.ofInt b ↔ a ≤ b := by
  rw [Int32.le_iff_toInt_le, ha.to, hb.to]
theorem z_in0 : InR 0 := ⟨by decide, by decide⟩
theorem z_0 : (0 : Int32) = Int32.ofInt 0 := by decide
theorem z_clamp {i : Int} (h0 : 0 ≤ i) (h1 : i < 2147483648) : (Int32.ofInt i).toNatClampNeg = i.toNat := Int32.toNatClampNeg_ofInt_of_le (by omega) (by omega)
theorem z_vpin {i : Int} {n : Nat} (h0 : 0 ≤ i) (h1 : i < (n : Int)) (hn : n < 2147483648) : ¬ (Int32.ofInt i < 0 ∨ n ≤ (Int32.ofInt i).toNatClampNeg) := by
  rw [z_clamp h0 (by omega)]
  rintro (h | h)
  · rw [z_0, z_lt ⟨by omega, by omega⟩ z_in0] at h
    omega
  · omega
def cLt (a b : Int) (A B : Prop) : Prop := (InR a ∧ InR b) ∧ (a < b → A) ∧ (¬ a < b → B)
def cLe (a b : Int) (A B : Prop) : Prop := (InR a ∧ InR b) ∧ (a ≤ b → A) ∧ (¬ a ≤ b → B)
def cEq (a b : Int) (A B : Prop) : Prop := (InR a ∧ InR b) ∧ (a = b → A) ∧ (¬ a = b → B)
def cDiv (a b : Int) (Q : Int → Prop) : Prop := InR a ∧ (0 < b ∧ b ≤ 2147483647) ∧ Q (a.tdiv b)
def cRem (a b : Int) (Q : Int → Prop) : Prop := InR a ∧ (0 < b ∧ b ≤ 2147483647) ∧ Q (a.tmod b)
def cAnd (a n : Int) (Q : Int → Prop) : Prop := InR a ∧ Q (a % n)
def cShr (a n : Int) (Q : Int → Prop) : Prop := InR a ∧ Q (a / n)
def cXor (a b : Int) (Q : Int → Prop) : Prop := (InR a ∧ InR b) ∧ ∀ w : Int, InR w → (w < 0 ↔ ¬ (a < 0 ↔ b < 0)) → Q w
def cLd (h : Zm) (t a : Nat) (i : Int) (Q : Int → Prop) : Prop := ((zkd h a).1 = t ∧ 0 ≤ i ∧ i < ((zkd h a).2 : Int)) ∧ (InR (zI h a i) → Q (zI h a i))
def cSt (h : Zm) (a : Nat) (i v : Int) (Q : Zm → Prop) : Prop := ((zkd h a).1 = 1 ∧ 0 ≤ i ∧ i < ((zkd h a).2 : Int)) ∧ InR v ∧ Q (zsI h a i v)
def cStZ (h : Zm) (a : Nat) (i v : Int) (Q : Zm → Prop) : Prop := ((zkd h a).1 = 2 ∧ 0 ≤ i ∧ i < ((zkd h a).2 : Int)) ∧ (v = 0 ∨ v = 1) ∧ Q (zsI h a i v)
def cLdR (h : Zm) (a : Nat) (i : Int) (Q : Nat → Prop) : Prop := ((4 ≤ (zkd h a).1 ∧ (zkd h a).1 ≤ 7) ∧ 0 ≤ i ∧ i < ((zkd h a).2 : Int)) ∧ Q (zR h a i)
def cStR (h : Zm) (t d a : Nat) (i : Int) (v : Nat) (Q : Zm → Prop) : Prop := ((zkd h a).1 = t ∧ 0 ≤ i ∧ i < ((zkd h a).2 : Int)) ∧ (zkd h v).1 = d ∧ Q (zsR h a i v)
def cLen (h : Zm) (a : Nat) (Q : Int → Prop) : Prop := ((zkd h a).1 = 1 ∨ (zkd h a).1 = 2) ∧ Q ((zkd h a).2 : Int)
def cGi (h : Zm) (d a : Nat) (k : Int) (Q : Int → Prop) : Prop := (zkd h a).1 = d ∧ (InR (zI h a k) → Q (zI h a k))
def cGr (h : Zm) (d a : Nat) (k : Int) (Q : Nat → Prop) : Prop := (zkd h a).1 = d ∧ Q (zR h a k)
def cPi (h : Zm) (d a : Nat) (k v : Int) (Q : Zm → Prop) : Prop := (zkd h a).1 = d ∧ InR v ∧ Q (zsI h a k v)
def cPr (h : Zm) (d a : Nat) (k : Int) (v : Nat) (Q : Zm → Prop) : Prop := (zkd h a).1 = d ∧ Q (zsR h a k v)
def cRc (h : Zm) (d a : Nat) (P : Prop) : Prop := (zkd h a).1 = d ∧ P
def cNw (h : Zm) (t n : Nat) (Q : Nat → Zm → Prop) : Prop := Q h.1.2 (zal h t n)
def cBr (v : Int) (P : Prop) : Prop := (v = 0 ∨ v = 1) ∧ P
section ZO
variable {p : Program} {l : Launch} {e : Env} {R : Room} {s : State} {m : MethodId} {args : Array Value} {below : List Frame} {meth : Method} {c : Code} {D : Zd} {base nL : Nat} {Qf : State → Prop} {cells slots pc : Nat} {ρ : List (Option Zv)} {st : List Zv} {h : Zm} {cc : ByteArray} {own : String} {ret : Option FieldType}
theorem z_iinc (hc : zOk p s m args meth c D cc nL own ret) {i : Nat} {n x : Int} (hd : decode cc pc = .ok (.iinc i n, 3)) (hi : i < nL) (hx : ρ[i]? = some (some (.inl x))) {ρ' : List (Option Zv)} (hρ : ρ.set i (some (.inl (x + n))) = ρ') (k : zW p l e R s m args below meth c D base nL Qf cells slots (pc + 3) ρ' st h) : zW p l e R s m args below meth c D base nL Qf cells slots pc ρ st h := by
  intro H locs ls h1 h2 h3 h4
  have hm : (i, zen (.inl x)) ∈ zl ρ := zl_mem.mpr ⟨_, hx, rfl⟩
  obtain ⟨j, hj⟩ := List.getElem?_of_mem hm
  refine lv_iinc (k := j) (x := Int32.ofInt x) (v := Int32.ofInt (x + n)) hc.1 hc.2.1 hd h4.has hj (Int32.ofInt_add x n).symm hi rfl (fun ls' h' => k H locs ls' h1 h2 h3 (hρ ▸ zL.stored (v := .inl (x + n)) h'))
theorem z_iadd (hc : zOk p s m args meth c D cc nL own ret) {x y : Int} (hd : decode cc pc = .ok (.iadd, 1)) (k : zW p l e R s m args below meth c D base nL Qf cells slots (pc + 1) ρ (.inl (x + y) :: st) h) : zW p l e R s m args below meth c D base nL Qf cells slots pc ρ (.inl y :: .inl x :: st) h :=
  fun H locs ls h1 h2 h3 h4 => lv_iadd hc.1 hc.2.1 hd (by rw [← Int32.ofInt_add]; exact k H locs ls h1 h2 h3 h4)
theorem z_isub (hc : zOk p s m args meth c D cc nL own ret) {x y : Int} (hd : decode cc pc = .ok (.isub, 1)) (k : zW p l e R s m args below meth c D base nL Qf cells slots (pc + 1) ρ (.inl (x - y) :: st) h) : zW p l e R s m args below meth c D base nL Qf cells slots pc ρ (.inl y :: .inl x :: st) h :=
  fun H locs ls h1 h2 h3 h4 => lv_isub hc.1 hc.2.1 hd (by rw [← Int32.ofInt_sub]; exact k H locs ls h1 h2 h3 h4)
theorem z_imul (hc : zOk p s m args meth c D cc nL own ret) {x y : Int} (hd : decode cc pc = .ok (.imul, 1)) (k : zW p l e R s m args below meth c D base nL Qf cells slots (pc + 1) ρ (.inl (x * y) :: st) h) : zW p l e R s m args below meth c D base nL Qf cells slots pc ρ (.inl y :: .inl x :: st) h :=
  fun H locs ls h1 h2 h3 h4 => lv_imul hc.1 hc.2.1 hd (by rw [← Int32.ofInt_mul]; exact k H locs ls h1 h2 h3 h4)
theorem z_ineg (hc : zOk p s m args meth c D cc nL own ret) {x : Int} (hd : decode cc pc = .ok (.ineg, 1)) (k : zW p l e R s m args below meth c D base nL Qf cells slots (pc + 1) ρ (.inl (-x) :: st) h) : zW p l e R s m args below meth c D base nL Qf cells slots pc ρ (.inl x :: st) h :=
  fun H locs ls h1 h2 h3 h4 => lv_ineg hc.1 hc.2.1 hd (by rw [← Int32.ofInt_neg]; exact k H locs ls h1 h2 h3 h4)
theorem z_pos_ne {y : Int} (h : 0 < y ∧ y ≤ 2147483647) : ¬ Int32.ofInt y = 0 := by
  rw [z_0, z_eq ⟨by omega, by omega⟩ z_in0]
  omega
theorem z_divI {x y : Int} (hx : InR x) (hy : 0 < y ∧ y ≤ 2147483647) : Int32.ofInt x / Int32.ofInt y = Int32.ofInt (x.tdiv y) := by
  have hY : InR y := ⟨by omega, by omega⟩
  have hn : Int32.ofInt y ≠ -1 := by
    intro q
    have := hY.to
    rw [q] at this
    rw [show (-1 : Int32).toInt = -1 from by decide] at this
    omega
  have h1 := Int32.toInt_div_of_ne_right (Int32.ofInt x) (Int32.ofInt y) hn
  rw [hx.to, hY.to] at h1
  rw [← h1, Int32.ofInt_toInt]
theorem z_remI {x y : Int} (hx : InR x) (hy : 0 < y ∧ y ≤ 2147483647) : Int32.ofInt x - Int32.ofInt x / Int32.ofInt y * Int32.ofInt y = Int32.ofInt (x.tmod y) := by
  have hY : InR y := ⟨by omega, by omega⟩
  have h1 := rem_toInt (Int32.ofInt x) (Int32.ofInt y)
  rw [hx.to, hY.to] at h1
  rw [← h1, Int32.ofInt_toInt]
theorem z_idiv (hc : zOk p s m args meth c D cc nL own ret) {x y : Int} {Q : Int → Prop} (hd : decode cc pc = .ok (.idiv, 1)) (H : cDiv x y Q) (k : ∀ v : Int, Q v → zW p l e R s m args below meth c D base nL Qf cells slots (pc + 1) ρ (.inl v :: st) h) : zW p l e R s m args below meth c D base nL Qf cells slots pc ρ (.inl y :: .inl x :: st) h :=
  fun Hp locs ls h1 h2 h3 h4 => lv_idiv hc.1 hc.2.1 hd (z_pos_ne H.2.1) (by rw [z_divI H.1 H.2.1]; exact k _ H.2.2 Hp locs ls h1 h2 h3 h4)
theorem z_irem (hc : zOk p s m args meth c D cc nL own ret) {x y : Int} {Q : Int → Prop} (hd : decode cc pc = .ok (.irem, 1)) (H : cRem x y Q) (k : ∀ v : Int, Q v → zW p l e R s m args below meth c D base nL Qf cells slots (pc + 1) ρ (.inl v :: st) h) : zW p l e R s m args below meth c D base nL Qf cells slots pc ρ (.inl y :: .inl x :: st) h :=
  fun Hp locs ls h1 h2 h3 h4 => lv_irem hc.1 hc.2.1 hd (z_pos_ne H.2.1) (by rw [z_remI H.1 H.2.1]; exact k _ H.2.2 Hp locs ls h1 h2 h3 h4)
theorem z_andI {x : Int} {m0 : Int} (k : Nat) (hk : k ≤ 30) (hx : InR x) (hm : (Int32.ofInt m0).toBitVec.toNat = 2 ^ k - 1) : Int32.ofInt x &&& Int32.ofInt m0 = Int32.ofInt (x % (2 ^ k : Nat)) := by
  rw [pk_and _ k hm]
  have h1 : ((Int32.ofInt x).toBitVec.toNat : Int) % (2 ^ k : Nat) = x % (2 ^ k : Nat) := by
    have h2 : (Int32.ofInt x).toBitVec.toInt = x := by rw [Int32.toInt_toBitVec]; exact hx.to
    rw [BitVec.toInt_eq_toNat_cond] at h2
    have hdvd : ((2 ^ k : Nat) : Int) ∣ ((2 ^ 32 : Nat) : Int) := by
      refine Int.ofNat_dvd.mpr (Nat.pow_dvd_pow 2 (by omega))
    generalize (Int32.ofInt x).toBitVec.toNat = w at h2 ⊢
    split at h2
    · rw [h2]
    · rw [← h2]
      obtain ⟨q, hq⟩ := hdvd
      rw [hq, Int.sub_mul_emod_self_left]
  have h3 : x % (2 ^ k : Nat) = (((Int32.ofInt x).toBitVec.toNat % 2 ^ k : Nat) : Int) := by
    rw [← h1]
    rfl
  rw [h3, Int32.ofInt_eq_ofNat]
  rfl
theorem z_iand (hc : zOk p s m args meth c D cc nL own ret) {x m0 n : Int} {Q : Int → Prop} (k0 : Nat) (hk : k0 ≤ 30) (hn : n = ((2 ^ k0 : Nat) : Int)) (hm : (Int32.ofInt m0).toBitVec.toNat = 2 ^ k0 - 1) (hd : decode cc pc = .ok (.iand, 1)) (H : cAnd x n Q) (k : ∀ v : Int, Q v → zW p l e R s m args below meth c D base nL Qf cells slots (pc + 1) ρ (.inl v :: st) h) : zW p l e R s m args below meth c D base nL Qf cells slots pc ρ (.inl m0 :: .inl x :: st) h := by
  subst hn
  exact fun Hp locs ls h1 h2 h3 h4 => lv_iand hc.1 hc.2.1 hd (by rw [z_andI k0 hk H.1 hm]; exact k _ H.2 Hp locs ls h1 h2 h3 h4)
theorem z_shrI {x sh : Int} (k : Nat) (hx : InR x) (hs : ((Int32.ofInt sh &&& 31).toBitVec.smod 32).toNat = k) : Int32.ofInt x >>> (Int32.ofInt sh &&& 31) = Int32.ofInt (x / ((2 ^ k : Nat) : Int)) := by
  have h1 := pk_shr (Int32.ofInt x) (Int32.ofInt sh &&& 31) k hs
  rw [hx.to, Int.shiftRight_eq_div_pow] at h1
  rw [← h1, Int32.ofInt_toInt]
theorem z_ishr (hc : zOk p s m args meth c D cc nL own ret) {x sh n : Int} {Q : Int → Prop} (k0 : Nat) (hn : n = ((2 ^ k0 : Nat) : Int)) (hs : ((Int32.ofInt sh &&& 31).toBitVec.smod 32).toNat = k0) (hd : decode cc pc = .ok (.ishr, 1)) (H : cShr x n Q) (k : ∀ v : Int, Q v → zW p l e R s m args below meth c D base nL Qf cells slots (pc + 1) ρ (.inl v :: st) h) : zW p l e R s m args below meth c D base nL Qf cells slots pc ρ (.inl sh :: .inl x :: st) h := by
  subst hn
  exact fun Hp locs ls h1 h2 h3 h4 => lv_ishr hc.1 hc.2.1 hd (by rw [z_shrI k0 H.1 hs]; exact k _ H.2 Hp locs ls h1 h2 h3 h4)
theorem z_ixor (hc : zOk p s m args meth c D cc nL own ret) {x y : Int} {Q : Int → Prop} (hd : decode cc pc = .ok (.ixor, 1)) (H : cXor x y Q) (k : ∀ w, Q w → zW p l e R s m args below meth c D base nL Qf cells slots (pc + 1) ρ (.inl w :: st) h) : zW p l e R s m args below meth c D base nL Qf cells slots pc ρ (.inl y :: .inl x :: st) h := by
  intro Hp locs ls h1 h2 h3 h4
  refine lv_ixor hc.1 hc.2.1 hd ?_
  have h5 : Int32.ofInt x ^^^ Int32.ofInt y = Int32.ofInt (Int32.ofInt x ^^^ Int32.ofInt y).toInt := (Int32.ofInt_toInt _).symm
  rw [h5]
  refine k _ (H.2 _ ⟨by have := Int32.le_toInt (Int32.ofInt x ^^^ Int32.ofInt y); omega, by have := Int32.toInt_lt (Int32.ofInt x ^^^ Int32.ofInt y); omega⟩ ?_) Hp locs ls h1 h2 h3 h4
  have key : ∀ z : Int32, z.toInt < 0 ↔ z.toBitVec.msb = true := fun z => by
    rw [← Int32.toInt_toBitVec, BitVec.msb_eq_toInt]
    simp
  have hx : x < 0 ↔ (Int32.ofInt x).toBitVec.msb = true := by rw [← key, H.1.1.to]
  have hy : y < 0 ↔ (Int32.ofInt y).toBitVec.msb = true := by rw [← key, H.1.2.to]
  rw [key, hx, hy, Int32.toBitVec_xor, BitVec.msb_xor]
  cases (Int32.ofInt x).toBitVec.msb <;> cases (Int32.ofInt y).toBitVec.msb <;> simp
theorem z_dup (hc : zOk p s m args meth c D cc nL own ret) {x : Zv} (hd : decode cc pc = .ok (.dup, 1)) (k : zW p l e R s m args below meth c D base nL Qf cells slots (pc + 1) ρ (x :: x :: st) h) : zW p l e R s m args below meth c D base nL Qf cells slots pc ρ (x :: st) h :=
  fun H locs ls h1 h2 h3 h4 => lv_dup hc.1 hc.2.1 hd (zen_cat x) (k H locs ls h1 h2 h3 h4)
theorem z_dup2 (hc : zOk p s m args meth c D cc nL own ret) {x y : Zv} (hd : decode cc pc = .ok (.dup2, 1)) (k : zW p l e R s m args below meth c D base nL Qf cells slots (pc + 1) ρ (x :: y :: x :: y :: st) h) : zW p l e R s m args below meth c D base nL Qf cells slots pc ρ (x :: y :: st) h :=
  fun H locs ls h1 h2 h3 h4 => lv_dup2_11 hc.1 hc.2.1 hd (zen_cat x) (zen_cat y) (k H locs ls h1 h2 h3 h4)
theorem z_goto (hc : zOk p s m args meth c D cc nL own ret) {off : Int} {tgt : Nat} (hd : decode cc pc = .ok (.goto off, 3)) (ht : (pc : Int) + off = (tgt : Int)) (k : zW p l e R s m args below meth c D base nL Qf cells slots tgt ρ st h) : zW p l e R s m args below meth c D base nL Qf cells slots pc ρ st h :=
  fun H locs ls h1 h2 h3 h4 => lv_goto hc.1 hc.2.1 hd ht (k H locs ls h1 h2 h3 h4)
section ZB
variable {x y off : Int} {tgt : Nat} {A B : Prop}
theorem z_icmp_lt (hc : zOk p s m args meth c D cc nL own ret) (hd : decode cc pc = .ok (.if_icmp .lt off, 3)) (ht : (pc : Int) + off = (tgt : Int)) (H : cLt x y A B) (kt : A → zW p l e R s m args below meth c D base nL Qf cells slots tgt ρ st h) (kf : B → zW p l e R s m args below meth c D base nL Qf cells slots (pc + 3) ρ st h) : zW p l e R s m args below meth c D base nL Qf cells slots pc ρ (.inl y :: .inl x :: st) h :=
  fun Hp locs ls h1 h2 h3 h4 => lv_icmp_lt hc.1 hc.2.1 hd ht (fun q => kt (H.2.1 ((z_lt H.1.1 H.1.2).mp q)) Hp locs ls h1 h2 h3 h4) (fun q => kf (H.2.2 (fun z => q ((z_lt H.1.1 H.1.2).mpr z))) Hp locs ls h1 h2 h3 h4)
theorem z_icmp_ge (hc : zOk p s m args meth c D cc nL own ret) (hd : decode cc pc = .ok (.if_icmp .ge off, 3)) (ht : (pc : Int) + off = (tgt : Int)) (H : cLt x y A B) (kt : A → zW p l e R s m args below meth c D base nL Qf cells slots (pc + 3) ρ st h) (kf : B → zW p l e R s m args below meth c D base nL Qf cells slots tgt ρ st h) : zW p l e R s m args below meth c D base nL Qf cells slots pc ρ (.inl y :: .inl x :: st) h :=
  fun Hp locs ls h1 h2 h3 h4 => lv_icmp_ge hc.1 hc.2.1 hd ht (fun q => kf (H.2.2 (fun z => by have q2 : Int32.ofInt y ≤ Int32.ofInt x := q; rw [z_le H.1.2 H.1.1] at q2; omega)) Hp locs ls h1 h2 h3 h4) (fun q => kt (H.2.1 (by have q2 : ¬ Int32.ofInt y ≤ Int32.ofInt x := q; rw [z_le H.1.2 H.1.1] at q2; omega)) Hp locs ls h1 h2 h3 h4)
theorem z_icmp_le (hc : zOk p s m args meth c D cc nL own ret) (hd : decode cc pc = .ok (.if_icmp .le off, 3)) (ht : (pc : Int) + off = (tgt : Int)) (H : cLe x y A B) (kt : A → zW p l e R s m args below meth c D base nL Qf cells slots tgt ρ st h) (kf : B → zW p l e R s m args below meth c D base nL Qf cells slots (pc + 3) ρ st h) : zW p l e R s m args below meth c D base nL Qf cells slots pc ρ (.inl y :: .inl x :: st) h :=
  fun Hp locs ls h1 h2 h3 h4 => lv_icmp_le hc.1 hc.2.1 hd ht (fun q => kt (H.2.1 ((z_le H.1.1 H.1.2).mp q)) Hp locs ls h1 h2 h3 h4) (fun q => kf (H.2.2 (fun z => q ((z_le H.1.1 H.1.2).mpr z))) Hp locs ls h1 h2 h3 h4)
theorem z_icmp_gt (hc : zOk p s m args meth c D cc nL own ret) (hd : decode cc pc = .ok (.if_icmp .gt off, 3)) (ht : (pc : Int) + off = (tgt : Int)) (H : cLe x y A B) (kt : A → zW p l e R s m args below meth c D base nL Qf cells slots (pc + 3) ρ st h) (kf : B → zW p l e R s m args below meth c D base nL Qf cells slots tgt ρ st h) : zW p l e R s m args below meth c D base nL Qf cells slots pc ρ (.inl y :: .inl x :: st) h :=
  fun Hp locs ls h1 h2 h3 h4 => lv_icmp_gt hc.1 hc.2.1 hd ht (fun q => kf (H.2.2 (fun z => by have q2 : Int32.ofInt y < Int32.ofInt x := q; rw [z_lt H.1.2 H.1.1] at q2; omega)) Hp locs ls h1 h2 h3 h4) (fun q => kt (H.2.1 (by have q2 : ¬ Int32.ofInt y < Int32.ofInt x := q; rw [z_lt H.1.2 H.1.1] at q2; omega)) Hp locs ls h1 h2 h3 h4)
theorem z_icmp_eq (hc : zOk p s m args meth c D cc nL own ret) (hd : decode cc pc = .ok (.if_icmp .eq off, 3)) (ht : (pc : Int) + off = (tgt : Int)) (H : cEq x y A B) (kt : A → zW p l e R s m args below meth c D base nL Qf cells slots tgt ρ st h) (kf : B → zW p l e R s m args below meth c D base nL Qf cells slots (pc + 3) ρ st h) : zW p l e R s m args below meth c D base nL Qf cells slots pc ρ (.inl y :: .inl x :: st) h :=
  fun Hp locs ls h1 h2 h3 h4 => lv_icmp_eq hc.1 hc.2.1 hd ht (fun q => kt (H.2.1 ((z_eq H.1.1 H.1.2).mp q)) Hp locs ls h1 h2 h3 h4) (fun q => kf (H.2.2 (fun z => q ((z_eq H.1.1 H.1.2).mpr z))) Hp locs ls h1 h2 h3 h4)
theorem z_icmp_ne (hc : zOk p s m args meth c D cc nL own ret) (hd : decode cc pc = .ok (.if_icmp .ne off, 3)) (ht : (pc : Int) + off = (tgt : Int)) (H : cEq x y A B) (kt : A → zW p l e R s m args below meth c D base nL Qf cells slots (pc + 3) ρ st h) (kf : B → zW p l e R s m args below meth c D base nL Qf cells slots tgt ρ st h) : zW p l e R s m args below meth c D base nL Qf cells slots pc ρ (.inl y :: .inl x :: st) h :=
  fun Hp locs ls h1 h2 h3 h4 => lv_icmp_ne hc.1 hc.2.1 hd ht (fun q => kf (H.2.2 (fun z => q ((z_eq H.1.1 H.1.2).mpr z))) Hp locs ls h1 h2 h3 h4) (fun q => kt (H.2.1 ((z_eq H.1.1 H.1.2).mp q)) Hp locs ls h1 h2 h3 h4)
theorem z_if_lt (hc : zOk p s m args meth c D cc nL own ret) (hd : decode cc pc = .ok (.ifCond .lt off, 3)) (ht : (pc : Int) + off = (tgt : Int)) (H : cLt x 0 A B) (kt : A → zW p l e R s m args below meth c D base nL Qf cells slots tgt ρ st h) (kf : B → zW p l e R s m args below meth c D base nL Qf cells slots (pc + 3) ρ st h) : zW p l e R s m args below meth c D base nL Qf cells slots pc ρ (.inl x :: st) h :=
  fun Hp locs ls h1 h2 h3 h4 => lv_if_lt hc.1 hc.2.1 hd ht (fun q => kt (H.2.1 ((z_lt H.1.1 H.1.2).mp (z_0 ▸ q))) Hp locs ls h1 h2 h3 h4) (fun q => kf (H.2.2 (fun z => q (z_0.symm ▸ (z_lt H.1.1 H.1.2).mpr z))) Hp locs ls h1 h2 h3 h4)
theorem z_if_ge (hc : zOk p s m args meth c D cc nL own ret) (hd : decode cc pc = .ok (.ifCond .ge off, 3)) (ht : (pc : Int) + off = (tgt : Int)) (H : cLt x 0 A B) (kt : A → zW p l e R s m args below meth c D base nL Qf cells slots (pc + 3) ρ st h) (kf : B → zW p l e R s m args below meth c D base nL Qf cells slots tgt ρ st h) : zW p l e R s m args below meth c D base nL Qf cells slots pc ρ (.inl x :: st) h :=
  fun Hp locs ls h1 h2 h3 h4 => lv_if_ge hc.1 hc.2.1 hd ht (fun q => kf (H.2.2 (fun z => by have q2 : (0 : Int32) ≤ Int32.ofInt x := q; rw [z_0, z_le H.1.2 H.1.1] at q2; omega)) Hp locs ls h1 h2 h3 h4) (fun q => kt (H.2.1 (by have q2 : ¬ (0 : Int32) ≤ Int32.ofInt x := q; rw [z_0, z_le H.1.2 H.1.1] at q2; omega)) Hp locs ls h1 h2 h3 h4)
theorem z_if_le (hc : zOk p s m args meth c D cc nL own ret) (hd : decode cc pc = .ok (.ifCond .le off, 3)) (ht : (pc : Int) + off = (tgt : Int)) (H : cLe x 0 A B) (kt : A → zW p l e R s m args below meth c D base nL Qf cells slots tgt ρ st h) (kf : B → zW p l e R s m args below meth c D base nL Qf cells slots (pc + 3) ρ st h) : zW p l e R s m args below meth c D base nL Qf cells slots pc ρ (.inl x :: st) h :=
  fun Hp locs ls h1 h2 h3 h4 => lv_if_le hc.1 hc.2.1 hd ht (fun q => kt (H.2.1 ((z_le H.1.1 H.1.2).mp (z_0 ▸ q))) Hp locs ls h1 h2 h3 h4) (fun q => kf (H.2.2 (fun z => q (z_0.symm ▸ (z_le H.1.1 H.1.2).mpr z))) Hp locs ls h1 h2 h3 h4)
theorem z_if_gt (hc : zOk p s m args meth c D cc nL own ret) (hd : decode cc pc = .ok (.ifCond .gt off, 3)) (ht : (pc : Int) + off = (tgt : Int)) (H : cLe x 0 A B) (kt : A → zW p l e R s m args below meth c D base nL Qf cells slots (pc + 3) ρ st h) (kf : B → zW p l e R s m args below meth c D base nL Qf cells slots tgt ρ st h) : zW p l e R s m args below meth c D base nL Qf cells slots pc ρ (.inl x :: st) h :=
  fun Hp locs ls h1 h2 h3 h4 => lv_if_gt hc.1 hc.2.1 hd ht (fun q => kf (H.2.2 (fun z => by have q2 : (0 : Int32) < Int32.ofInt x := q; rw [z_0, z_lt H.1.2 H.1.1] at q2; omega)) Hp locs ls h1 h2 h3 h4) (fun q => kt (H.2.1 (by have q2 : ¬ (0 : Int32) < Int32.ofInt x := q; rw [z_0, z_lt H.1.2 H.1.1] at q2; omega)) Hp locs ls h1 h2 h3 h4)
theorem z_if_eq (hc : zOk p s m args meth c D cc nL own ret) (hd : decode cc pc = .ok (.ifCond .eq off, 3)) (ht : (pc : Int) + off = (tgt : Int)) (H : cEq x 0 A B) (kt : A → zW p l e R s m args below meth c D base nL Qf cells slots tgt ρ st h) (kf : B → zW p l e R s m args below meth c D base nL Qf cells slots (pc + 3) ρ st h) : zW p l e R s m args below meth c D base nL Qf cells slots pc ρ (.inl x :: st) h :=
  fun Hp locs ls h1 h2 h3 h4 => lv_if_eq hc.1 hc.2.1 hd ht (fun q => kt (H.2.1 ((z_eq H.1.1 H.1.2).mp (z_0 ▸ q))) Hp locs ls h1 h2 h3 h4) (fun q => kf (H.2.2 (fun z => q (z_0.symm ▸ (z_eq H.1.1 H.1.2).mpr z))) Hp locs ls h1 h2 h3 h4)
theorem z_if_ne (hc : zOk p s m args meth c D cc nL own ret) (hd : decode cc pc = .ok (.ifCond .ne off, 3)) (ht : (pc : Int) + off = (tgt : Int)) (H : cEq x 0 A B) (kt : A → zW p l e R s m args below meth c D base nL Qf cells slots (pc + 3) ρ st h) (kf : B → zW p l e R s m args below meth c D base nL Qf cells slots tgt ρ st h) : zW p l e R s m args below meth c D base nL Qf cells slots pc ρ (.inl x :: st) h :=
  fun Hp locs ls h1 h2 h3 h4 => lv_if_ne hc.1 hc.2.1 hd ht (fun q => kf (H.2.2 (fun z => q (z_0.symm ▸ (z_eq H.1.1 H.1.2).mpr z))) Hp locs ls h1 h2 h3 h4) (fun q => kt (H.2.1 ((z_eq H.1.1 H.1.2).mp (z_0 ▸ q))) Hp locs ls h1 h2 h3 h4)
theorem z_icmp_geF (hc : zOk p s m args meth c D cc nL own ret) (hd : decode cc pc = .ok (.if_icmp .ge off, 3)) (ht : (pc : Int) + off = (tgt : Int)) (H : cLt x y A B) (kt : x < y → A → zW p l e R s m args below meth c D base nL Qf cells slots (pc + 3) ρ st h) (kf : ¬ x < y → B → zW p l e R s m args below meth c D base nL Qf cells slots tgt ρ st h) : zW p l e R s m args below meth c D base nL Qf cells slots pc ρ (.inl y :: .inl x :: st) h :=
  fun Hp locs ls h1 h2 h3 h4 => lv_icmp_ge hc.1 hc.2.1 hd ht (fun q => by
    have q2 : Int32.ofInt y ≤ Int32.ofInt x := q
    rw [z_le H.1.2 H.1.1] at q2
    have q3 : ¬ x < y := by omega
    exact kf q3 (H.2.2 q3) Hp locs ls h1 h2 h3 h4) (fun q => by
    have q2 : ¬ Int32.ofInt y ≤ Int32.ofInt x := q
    rw [z_le H.1.2 H.1.1] at q2
    have q3 : x < y := by omega
    exact kt q3 (H.2.1 q3) Hp locs ls h1 h2 h3 h4)
end ZB
end ZO
end
section
/-! memory: fields, arrays, new cells -/
def zCf (ci : Nat) (C : String) (T : u_T) (N : Nat) : Prop := vwCl[ci]? = some (C, T, N) ∧ zN ci = N ∧ (∀ w ∈ u_ws C T N, w ∈ zT) ∧ (∀ k, k < N → parseFieldDescriptor (T k).2.2.1 = some (zty ci k)) ∧ (∀ a, a < N → ∀ b, b < N → a ≠ b → (T a).2.1 ≠ (T b).2.1)
def zFl (own : String) (x ci k : Nat) (fin : Bool) : Prop := ∃ (C : String) (T : u_T) (N : Nat), zCf ci C T N ∧ k < N ∧ (T k).1 = C ∧ (T k).2.2.2 = fin ∧ Cond.fieldLink own x C (T k).2.1 (T k).2.2.1 ∈ zT
theorem z_sub {ws : List Cond} (ps : List Nat) (hp : ws = ps.filterMap (fun i => lw_tbl[i]?)) (hg : ws.all goodWord = true) : ∀ w ∈ ws, w ∈ zT := by
  intro w hw
  have h2 := List.all_eq_true.mp hg w hw
  rw [hp] at hw
  obtain ⟨i, -, hi⟩ := List.mem_filterMap.mp hw
  exact zT_mem i hi h2
theorem zAt_none {D : Zd} {h : Zm} {a : Nat} {H : Heap} (x : (zkd h a).1 = 0) : zAt D h a H := by
  refine ⟨fun q => ?_, fun q => ?_, fun q => ?_⟩ <;> omega
theorem zrf_pos {a : Nat} (h : 1 ≤ a) : zrf a = .ref (a - 1) := by
  cases a with
  | zero => omega
  | succ k => rfl
theorem zkd_sI {h : Zm} {a b : Nat} {j v : Int} : zkd (zsI h a j v) b = zkd h b := rfl
theorem zkd_sR {h : Zm} {a b v : Nat} {j : Int} : zkd (zsR h a j v) b = zkd h b := rfl
theorem zR_sI {h : Zm} {a b : Nat} {i j v : Int} : zR (zsI h a j v) b i = zR h b i := rfl
theorem zI_sR {h : Zm} {a b v : Nat} {i j : Int} : zI (zsR h a j v) b i = zI h b i := rfl
theorem zI_sI {h : Zm} {a b : Nat} {i j v : Int} : zI (zsI h a j v) b i = if b = a ∧ i = j then v else zI h b i := rfl
theorem zR_sR {h : Zm} {a b v : Nat} {i j : Int} : zR (zsR h a j v) b i = if b = a ∧ i = j then v else zR h b i := rfl
theorem zRep.set {D : Zd} {base a : Nat} {h h' : Zm} {H H' : Heap} (hR : zRep D base h H) (h1 : h'.1 = h.1) (hv : ∀ b j, InR (zI h' b j)) (hb : ∀ b, b ≠ a → (∀ j, zI h' b j = zI h b j) ∧ (∀ j, zR h' b j = zR h b j)) (hz : H'.size = H.size) (ho : ∀ q : Nat, q ≠ a - 1 → H'[q]? = H[q]?) (h0 : 1 ≤ a) (ha : zAt D h' a H') : zRep D base h' H' := by
  have hk : ∀ b, zkd h' b = zkd h b := fun b => by unfold zkd; rw [h1]
  refine ⟨by rw [hz, h1]; exact hR.1, fun b hb => ?_, hv, fun b => ?_⟩
  · rw [h1]
    rw [hk] at hb
    exact hR.2.1 b hb
  · by_cases e : b = a
    · subst e
      exact ha
    · by_cases q : (zkd h b).1 = 0
      · exact zAt_none (by rw [hk]; exact q)
      · have := (hR.2.1 b q).1
        exact (hR.2.2.2 b).kept (hk b) (hb b e).1 (hb b e).2 (ho _ (by omega))
theorem zRep.inI {D : Zd} {base a : Nat} {h : Zm} {H : Heap} {i v : Int} (hR : zRep D base h H) (hv : InR v) : ∀ b j, InR (zI (zsI h a i v) b j) := by
  intro b j
  rw [zI_sI]
  split
  · exact hv
  · exact hR.2.2.1 b j
section ZM
variable {p : Program} {l : Launch} {e : Env} {R : Room} {s : State} {m : MethodId} {args : Array Value} {below : List Frame} {meth : Method} {c : Code} {D : Zd} {base nL : Nat} {Qf : State → Prop} {cells slots pc : Nat} {ρ : List (Option Zv)} {st : List Zv} {h : Zm} {cc : ByteArray} {own : String} {ret : Option FieldType}
theorem z_field (hc : zOk p s m args meth c D cc nL own ret) {x ci k d a : Nat} {fin : Bool} (hf : zFl own x ci k fin) (hk : (zkd h a).1 = d) (hd0 : d = 10 + ci) {H : Heap} (hR : zRep D base h H) : 1 ≤ a ∧ base ≤ a ∧ ∃ (C : String) (T : u_T) (N cf i : Nat) (kf : Class) (f : Field) (cell : Cell), zCf ci C T N ∧ k < N ∧ (T k).1 = C ∧ (T k).2.2.2 = fin ∧ (Cond.fieldLink own x C (T k).2.1 (T k).2.2.1).before args s = true ∧ s.fieldFound? C (T k).2.1 (T k).2.2.1 = some (cf, kf, i, f) ∧ f.slot = D.1.2 ci k ∧ f.isStatic = false ∧ H[a - 1]? = some cell ∧ cell.cls = D.1.1 ci ∧ cell.vm = .none ∧ (∀ j, j < N → cell.slots[D.1.2 ci j]? = some (zF ci j (zI h a j) (zR h a j))) ∧ (∃ kC : Class, s.vm.findClass C = some (D.1.1 ci) ∧ s.vm.classes[D.1.1 ci]? = some kC ∧ kC.kind = .ordinary) ∧ (∀ x y, x < N → y < N → x ≠ y → D.1.2 ci x ≠ D.1.2 ci y) := by
  subst hd0
  obtain ⟨C, T, N, hC, hkN, hT, hfin, hw⟩ := hf
  obtain ⟨hb1, hb2, -⟩ := hR.2.1 a (by omega)
  obtain ⟨hlt, cell, q1, q2, q3, q4⟩ := (hR.2.2.2 a).2.2 (by omega)
  have e0 : (zkd h a).1 - 10 = ci := by omega
  rw [e0] at q2 q4
  rw [hC.2.1] at q4
  have hKn : u_Kn s C T N (D.1.1 ci) (D.1.2 ci) := hc.2.2.2.2.2.2.2.1 ci _ hC.1
  obtain ⟨cf, kf, i, f, hi, hsl⟩ := hKn.1 k hkN
  obtain ⟨hfc, kC, hkC, hkind⟩ := hKn.2
  rw [hT] at hi
  refine ⟨hb1, hb2, C, T, N, cf, i, kf, f, cell, hC, hkN, hT, hfin, hc.2.2.2.2.1 _ hw, hi, hsl, ?_, q1, q2, q3, q4, ⟨kC, hfc, hkC, hkind⟩, ?_⟩
  · have hlay := u_lays hc.2.2.2.2.1 hC.2.2.1 hkN
    rw [hT] at hlay
    exact (u_facts hfc hkC hlay hi).1
  · exact va_apart (D := D.1) (cl := vwCl) (tys := []) (own := own) hc.2.2.2.2.1 hC.2.2.1 (zty ci) hC.2.2.2.1 hC.2.2.2.2 ⟨fun c q hq => hc.2.2.2.2.2.2.2.1 c q hq, fun k q h => by simp at h⟩ hC.1
theorem z_getI (hc : zOk p s m args meth c D cc nL own ret) {x ci k d a : Nat} {kI : Int} {fin : Bool} {Q : Int → Prop} (hd : decode cc pc = .ok (.getfield x, 3)) (hf : zFl own x ci k fin) (hd0 : d = 10 + ci) (hkI : kI = (k : Int)) (ht : (zty ci k).isReference = false) (H : cGi h d a kI Q) (kk : ∀ v : Int, Q v → zW p l e R s m args below meth c D base nL Qf cells slots (pc + 3) ρ (.inl v :: st) h) : zW p l e R s m args below meth c D base nL Qf cells slots pc ρ (.inr a :: st) h := by
  intro Hp locs ls h1 h2 h3 h4
  obtain ⟨ha, -, C, T, N, cf, i, kf, f, cell, hC, hkN, hT, hfin, hl, hi, hsl, hst, q1, q2, q3, q4, -, -⟩ := z_field hc hf H.1 hd0 h1
  have h5 := kk _ (H.2 (h1.2.2.1 _ _)) Hp locs ls h1 h2 h3 h4
  show W p l e R s m args below meth c Hp locs cells slots Qf (F0 m pc ls (zrf a :: st.map zen))
  rw [zrf_pos ha]
  refine W.getf hc.1 hc.2.1 hc.2.2.2.1 hl hi hst q1 (by rw [q3]; exact fun h => by cases h) (v := .int (Int32.ofInt (zI h a kI))) ?_ rfl rfl hd h5
  rw [hsl, q4 k hkN, hkI]
  unfold zF
  rw [if_neg (by rw [ht]; decide)]
theorem z_getR (hc : zOk p s m args meth c D cc nL own ret) {x ci k d a : Nat} {kI : Int} {fin : Bool} {Q : Nat → Prop} (hd : decode cc pc = .ok (.getfield x, 3)) (hf : zFl own x ci k fin) (hd0 : d = 10 + ci) (hkI : kI = (k : Int)) (ht : (zty ci k).isReference = true) (H : cGr h d a kI Q) (kk : ∀ v : Nat, Q v → zW p l e R s m args below meth c D base nL Qf cells slots (pc + 3) ρ (.inr v :: st) h) : zW p l e R s m args below meth c D base nL Qf cells slots pc ρ (.inr a :: st) h := by
  intro Hp locs ls h1 h2 h3 h4
  obtain ⟨ha, -, C, T, N, cf, i, kf, f, cell, hC, hkN, hT, hfin, hl, hi, hsl, hst, q1, q2, q3, q4, -, -⟩ := z_field hc hf H.1 hd0 h1
  have h5 := kk _ H.2 Hp locs ls h1 h2 h3 h4
  show W p l e R s m args below meth c Hp locs cells slots Qf (F0 m pc ls (zrf a :: st.map zen))
  rw [zrf_pos ha]
  refine W.getf hc.1 hc.2.1 hc.2.2.2.1 hl hi hst q1 (by rw [q3]; exact fun h => by cases h) (v := zrf (zR h a kI)) ?_ rfl rfl hd h5
  rw [hsl, q4 k hkN, hkI]
  unfold zF
  rw [if_pos ht]
theorem z_objSet {ci k a : Nat} {N : Nat} {h' : Zm} {H' : Heap} {cell : Cell} (hN : zN ci = N) (hci : ci < 8) (hk : (zkd h' a).1 = 10 + ci) (hkN : k < N) (hap : ∀ x y, x < N → y < N → x ≠ y → D.1.2 ci x ≠ D.1.2 ci y) (e1 : H'[a - 1]? = some (cell.setSlot (D.1.2 ci k) (zF ci k (zI h' a k) (zR h' a k)))) (q2 : cell.cls = D.1.1 ci) (q3 : cell.vm = .none) (q4 : ∀ j, j < N → cell.slots[D.1.2 ci j]? = some (zF ci j (zI h a j) (zR h a j))) (ho : ∀ j : Nat, j ≠ k → zI h' a j = zI h a j ∧ zR h' a j = zR h a j) : zAt D h' a H' := by
  refine ⟨fun q => by omega, fun q => by omega, fun _ => ⟨by omega, ?_⟩⟩
  rw [hk, show 10 + ci - 10 = ci by omega, hN]
  refine ⟨_, e1, q2, q3, fun j hj => ?_⟩
  rw [t_set q4 hap hkN _ j hj]
  unfold updV
  by_cases e : j = k
  · subst e
    rw [if_pos rfl]
  · rw [if_neg e]
    show some (zF ci j (zI h a j) (zR h a j)) = some (zF ci j (zI h' a j) (zR h' a j))
    rw [(ho j e).1, (ho j e).2]
theorem z_ci {ci : Nat} {C : String} {T : u_T} {N : Nat} (h : zCf ci C T N) : ci < 8 := (List.getElem?_eq_some_iff.mp h.1).1
theorem z_fitI {ci k : Nat} (h : zty ci k = .int) (v : Int) : narrow (zty ci k) (.int (Int32.ofInt v)) = .int (Int32.ofInt v) ∧ fits (zty ci k) (.int (Int32.ofInt v)) = true := by
  rw [h]
  exact ⟨rfl, rfl⟩
theorem z_fitR {t : FieldType} (h : t.isReference = true) (v : Nat) : narrow t (zrf v) = zrf v ∧ fits t (zrf v) = true := by
  cases t <;> first | (cases h; done) | (cases v <;> exact ⟨rfl, rfl⟩)
theorem z_putI (hc : zOk p s m args meth c D cc nL own ret) {x ci k d a : Nat} {kI v : Int} {Q : Zm → Prop} (hd : decode cc pc = .ok (.putfield x, 3)) (hf : zFl own x ci k false) (hd0 : d = 10 + ci) (hkI : kI = (k : Int)) (ht : zty ci k = .int) (H : cPi h d a kI v Q) (kk : ∀ h' : Zm, Q h' → zW p l e R s m args below meth c D base nL Qf cells slots (pc + 3) ρ st h') : zW p l e R s m args below meth c D base nL Qf cells slots pc ρ (.inl v :: .inr a :: st) h := by
  intro Hp locs ls h1 h2 h3 h4
  obtain ⟨ha, hbs, C, T, N, cf, i, kf, f, cell, hC, hkN, hT, hfin, hl, hi, hsl, hst, q1, q2, q3, q4, ⟨kC, hfc, hkC, hkind⟩, hap⟩ := z_field hc hf H.1 hd0 h1
  have h5 := kk _ H.2.2
  have hlay := hc.2.2.2.2.1 _ (hC.2.2.1 _ (u_in_lay hkN))
  unfold u_lay at hlay
  rw [if_neg (by rw [hfin]; decide), hT] at hlay
  obtain ⟨n1, n2⟩ := z_fitI ht v
  have h6 := u_store hfc hkC hkind hlay hi (hC.2.2.2.1 k hkN) n1 n2
  show W p l e R s m args below meth c Hp locs cells slots Qf (F0 m pc ls (.int (Int32.ofInt v) :: zrf a :: st.map zen))
  rw [zrf_pos ha]
  refine W.putK hc.1 hc.2.1 (f := f) ⟨hc.2.2.2.1, hl, ⟨_, _, _, hi⟩, hst⟩ (by rw [q2]; exact h6) q1 q3 (by rw [hsl]; exact k2_hasslot (q4 k hkN)) rfl rfl hd fun H' e1 e2 e3 => ?_
  rw [hsl] at e1
  subst hkI
  refine h5 H' _ ls (h1.set rfl (h1.inI H.2.1) (fun b hb => ⟨fun j => by rw [zI_sI, if_neg (fun q => hb q.1)], fun j => rfl⟩) e2 e3 ha ?_) (fun q hq => by rw [e3 q (Nat.ne_of_lt (show (q : Nat) < a - 1 by omega))]; exact h2 q hq) (fun q hq => ?_) h4
  · refine z_objSet (h := h) (k := k) hC.2.1 (z_ci hC) (H.1.trans hd0) hkN hap ?_ q2 q3 q4 (fun j hj => ⟨by rw [zI_sI, if_neg (fun q => hj (by have := q.2; omega))], rfl⟩)
    rw [e1, zI_sI, if_pos ⟨rfl, rfl⟩]
    unfold zF
    rw [if_neg (by rw [ht]; decide)]
  · rcases List.mem_append.mp hq with h9 | h9
    · exact h3 q h9
    · rw [List.mem_singleton.mp h9]
      show base ≤ a - 1 + 1
      omega
theorem z_putR (hc : zOk p s m args meth c D cc nL own ret) {x ci k d a v : Nat} {kI : Int} {Q : Zm → Prop} (hd : decode cc pc = .ok (.putfield x, 3)) (hf : zFl own x ci k true) (hd0 : d = 10 + ci) (hkI : kI = (k : Int)) (ht : (zty ci k).isReference = true) (hin : meth.name = "<init>") (ho : ∀ C T N, vwCl[ci]? = some (C, T, N) → C = own) (H : cPr h d a kI v Q) (kk : ∀ h' : Zm, Q h' → zW p l e R s m args below meth c D base nL Qf cells slots (pc + 3) ρ st h') : zW p l e R s m args below meth c D base nL Qf cells slots pc ρ (.inr v :: .inr a :: st) h := by
  intro Hp locs ls h1 h2 h3 h4
  obtain ⟨ha, hbs, C, T, N, cf, i, kf, f, cell, hC, hkN, hT, hfin, hl, hi, hsl, hst, q1, q2, q3, q4, ⟨kC, hfc, hkC, hkind⟩, hap⟩ := z_field hc hf H.1 hd0 h1
  have h5 := kk _ H.2
  have hlay := hc.2.2.2.2.1 _ (hC.2.2.1 _ (u_in_lay hkN))
  unfold u_lay at hlay
  rw [if_pos hfin, hT] at hlay
  have hcf : m.cls = cf := by
    obtain ⟨_, _, c', _, _, _, -, -, hf', -, -, -, hown2, -⟩ := Cond.laysFinal_spec hlay
    have e1 : c' = cf := by have := hi.symm.trans hf'; simp at this; exact this.1.symm
    rw [ho C T N hC.1] at hown2
    rw [← e1]; exact Option.some.inj (hc.2.2.2.1.symm.trans hown2)
  obtain ⟨n1, n2⟩ := z_fitR ht v
  have h6 := u_fits hfc hkC hkind (Or.inr hlay) hi (hC.2.2.2.1 k hkN) n1 n2
  show W p l e R s m args below meth c Hp locs cells slots Qf (F0 m pc ls (zrf v :: zrf a :: st.map zen))
  rw [zrf_pos ha]
  refine W.putFinK hc.1 hc.2.1 hc.2.2.2.1 hl hi hst hcf hin (by rw [q2]; exact h6) q1 q3 (by rw [hsl]; exact k2_hasslot (q4 k hkN)) rfl rfl hd fun H' e1 e2 e3 => ?_
  rw [hsl] at e1
  subst hkI
  refine h5 H' _ ls (h1.set rfl (fun b j => h1.2.2.1 b j) (fun b hb => ⟨fun j => rfl, fun j => by rw [zR_sR, if_neg (fun q => hb q.1)]⟩) e2 e3 ha ?_) (fun q hq => by rw [e3 q (Nat.ne_of_lt (show (q : Nat) < a - 1 by omega))]; exact h2 q hq) (fun q hq => ?_) h4
  · refine z_objSet (h := h) (k := k) hC.2.1 (z_ci hC) (H.1.trans hd0) hkN hap ?_ q2 q3 q4 (fun j hj => ⟨rfl, by rw [zR_sR, if_neg (fun q => hj (by have := q.2; omega))]⟩)
    rw [e1, zR_sR, if_pos ⟨rfl, rfl⟩]
    unfold zF
    rw [if_pos ht]
  · rcases List.mem_append.mp hq with h9 | h9
    · exact h3 q h9
    · rw [List.mem_singleton.mp h9]
      show base ≤ a - 1 + 1
      omega
theorem z_arrOf (hc : zOk p s m args meth c D cc nL own ret) {t : Nat} (h1 : 1 ≤ t) (h2 : t ≤ 7) (n : Nat) (z : Nat → Value) : s.isArrayOf (arrV (D.2 t) n z) (zaty t) := (hc.2.2.2.2.2.2.2.2 t h1 h2).1 n z
theorem z_iaload (hc : zOk p s m args meth c D cc nL own ret) {a : Nat} {i : Int} {Q : Int → Prop} (hd : decode cc pc = .ok (.iaload, 1)) (H : cLd h 1 a i Q) (kk : ∀ v : Int, Q v → zW p l e R s m args below meth c D base nL Qf cells slots (pc + 1) ρ (.inl v :: st) h) : zW p l e R s m args below meth c D base nL Qf cells slots pc ρ (.inl i :: .inr a :: st) h := by
  intro Hp locs ls h1 h2 h3 h4
  obtain ⟨⟨g1, g2, g3⟩, g4⟩ := H
  obtain ⟨ha, -, -⟩ := h1.2.1 a (by omega)
  obtain ⟨q1, q2⟩ := (h1.2.2.2 a).1 (Or.inl g1)
  have h5 := kk _ (g4 (h1.2.2.1 _ _)) Hp locs ls h1 h2 h3 h4
  show W p l e R s m args below meth c Hp locs cells slots Qf (F0 m pc ls (.int (Int32.ofInt i) :: zrf a :: st.map zen))
  rw [zrf_pos ha]
  rw [g1] at q1
  refine W.iald (v := .int (Int32.ofInt (zI h a i))) hc.1 hc.2.1 q1 (z_arrOf hc (t := 1) (by omega) (by omega) _ _) (fun q => by cases q) (by show ¬ (_ ∨ (arrV _ _ _).slots.size ≤ _); rw [arrV_size]; exact z_vpin g2 g3 q2) ?_ rfl rfl hd h5
  show (arrV _ _ _).slots[_]? = _
  rw [z_clamp g2 (by omega), arrV_read _ _ (by omega), Int.toNat_of_nonneg g2]
theorem z_baload (hc : zOk p s m args meth c D cc nL own ret) {a : Nat} {i : Int} {Q : Int → Prop} (hd : decode cc pc = .ok (.baload, 1)) (H : cLd h 2 a i Q) (kk : ∀ v : Int, Q v → zW p l e R s m args below meth c D base nL Qf cells slots (pc + 1) ρ (.inl v :: st) h) : zW p l e R s m args below meth c D base nL Qf cells slots pc ρ (.inl i :: .inr a :: st) h := by
  intro Hp locs ls h1 h2 h3 h4
  obtain ⟨⟨g1, g2, g3⟩, g4⟩ := H
  obtain ⟨ha, -, -⟩ := h1.2.1 a (by omega)
  obtain ⟨q1, q2⟩ := (h1.2.2.2 a).1 (Or.inr g1)
  have h5 := kk _ (g4 (h1.2.2.1 _ _)) Hp locs ls h1 h2 h3 h4
  show W p l e R s m args below meth c Hp locs cells slots Qf (F0 m pc ls (.int (Int32.ofInt i) :: zrf a :: st.map zen))
  rw [zrf_pos ha]
  rw [g1] at q1
  refine W.zald (v := .int (Int32.ofInt (zI h a i))) hc.1 hc.2.1 q1 (z_arrOf hc (t := 2) (by omega) (by omega) _ _) (fun q => by cases q) (by show ¬ (_ ∨ (arrV _ _ _).slots.size ≤ _); rw [arrV_size]; exact z_vpin g2 g3 q2) ?_ rfl rfl hd h5
  show (arrV _ _ _).slots[_]? = _
  rw [z_clamp g2 (by omega), arrV_read _ _ (by omega), Int.toNat_of_nonneg g2]
theorem z_aaload (hc : zOk p s m args meth c D cc nL own ret) {a : Nat} {i : Int} {Q : Nat → Prop} (hd : decode cc pc = .ok (.aaload, 1)) (H : cLdR h a i Q) (kk : ∀ v : Nat, Q v → zW p l e R s m args below meth c D base nL Qf cells slots (pc + 1) ρ (.inr v :: st) h) : zW p l e R s m args below meth c D base nL Qf cells slots pc ρ (.inl i :: .inr a :: st) h := by
  intro Hp locs ls h1 h2 h3 h4
  obtain ⟨⟨g1, g2, g3⟩, g4⟩ := H
  obtain ⟨ha, -, -⟩ := h1.2.1 a (by omega)
  obtain ⟨q1, q2⟩ := (h1.2.2.2 a).2.1 g1
  have h5 := kk _ g4 Hp locs ls h1 h2 h3 h4
  show W p l e R s m args below meth c Hp locs cells slots Qf (F0 m pc ls (.int (Int32.ofInt i) :: zrf a :: st.map zen))
  rw [zrf_pos ha]
  have hr : (zaty (zkd h a).1).isReference = true := by
    have h7 := g1
    generalize (zkd h a).1 = t at h7
    rcases (show t = 4 ∨ t = 5 ∨ t = 6 ∨ t = 7 by omega) with rfl | rfl | rfl | rfl <;> rfl
  refine W.aald (v := zrf (zR h a i)) hc.1 hc.2.1 q1 (z_arrOf hc (by omega) g1.2 _ _) hr (fun q => by cases q) (by show ¬ (_ ∨ (arrV _ _ _).slots.size ≤ _); rw [arrV_size]; exact z_vpin g2 g3 q2) ?_ rfl rfl hd h5
  show (arrV _ _ _).slots[_]? = _
  rw [z_clamp g2 (by omega), arrV_read _ _ (by omega), Int.toNat_of_nonneg g2]
theorem z_alen (hc : zOk p s m args meth c D cc nL own ret) {a : Nat} {Q : Int → Prop} (hd : decode cc pc = .ok (.arraylength, 1)) (H : cLen h a Q) (kk : ∀ v : Int, Q v → zW p l e R s m args below meth c D base nL Qf cells slots (pc + 1) ρ (.inl v :: st) h) : zW p l e R s m args below meth c D base nL Qf cells slots pc ρ (.inr a :: st) h := by
  intro Hp locs ls h1 h2 h3 h4
  obtain ⟨g1, g4⟩ := H
  obtain ⟨ha, -, -⟩ := h1.2.1 a (by omega)
  obtain ⟨q1, q2⟩ := (h1.2.2.2 a).1 g1
  have h5 := kk _ g4 Hp locs ls h1 h2 h3 h4
  show W p l e R s m args below meth c Hp locs cells slots Qf (F0 m pc ls (zrf a :: st.map zen))
  rw [zrf_pos ha]
  refine W.alen (n := Int32.ofInt ((zkd h a).2 : Int)) hc.1 hc.2.1 q1 (z_arrOf hc (by omega) (by omega) _ _) (by rw [arrV_size]; exact (Int32.ofInt_eq_ofNat).symm) rfl rfl hd h5
theorem z_upd {f : Nat → Value} {k : Nat} {g : Nat → Value} {v : Value} (h1 : g k = v) (h2 : ∀ j, j ≠ k → g j = f j) : updV f k v = g := by
  funext j
  unfold updV
  by_cases e : j = k
  · subst e
    rw [if_pos rfl, h1]
  · rw [if_neg e, h2 j e]
theorem z_iastore (hc : zOk p s m args meth c D cc nL own ret) {a : Nat} {i v : Int} {Q : Zm → Prop} (hd : decode cc pc = .ok (.iastore, 1)) (H : cSt h a i v Q) (kk : ∀ h' : Zm, Q h' → zW p l e R s m args below meth c D base nL Qf cells slots (pc + 1) ρ st h') : zW p l e R s m args below meth c D base nL Qf cells slots pc ρ (.inl v :: .inl i :: .inr a :: st) h := by
  intro Hp locs ls h1 h2 h3 h4
  obtain ⟨⟨g1, g2, g3⟩, hv, g4⟩ := H
  obtain ⟨ha, hbs, -⟩ := h1.2.1 a (by omega)
  obtain ⟨q1, q2⟩ := (h1.2.2.2 a).1 (Or.inl g1)
  have h5 := kk _ g4
  show W p l e R s m args below meth c Hp locs cells slots Qf (F0 m pc ls (.int (Int32.ofInt v) :: .int (Int32.ofInt i) :: zrf a :: st.map zen))
  rw [zrf_pos ha]
  rw [g1] at q1
  refine W.iast hc.1 hc.2.1 q1 (z_arrOf hc (t := 1) (by omega) (by omega) _ _) (fun q => by cases q) (by show ¬ (_ ∨ (arrV _ _ _).slots.size ≤ _); rw [arrV_size]; exact z_vpin g2 g3 q2) rfl rfl hd fun H' e1 e2 e3 => ?_
  refine h5 H' _ ls (h1.set rfl (h1.inI hv) (fun b hb => ⟨fun j => by rw [zI_sI, if_neg (fun q => hb q.1)], fun j => rfl⟩) e2 e3 ha ?_) (fun q hq => by rw [e3 q (Nat.ne_of_lt (show (q : Nat) < a - 1 by omega))]; exact h2 q hq) (fun q hq => ?_) h4
  · refine ⟨fun _ => ⟨?_, q2⟩, fun q => by rw [zkd_sI] at q; omega, fun q => by rw [zkd_sI] at q; omega⟩
    rw [e1, zkd_sI, g1, arrV_store, z_clamp g2 (by omega)]
    refine congrArg (fun z => some (arrV _ _ z)) (z_upd ?_ ?_)
    · show Value.int _ = _
      rw [zI_sI, Int.toNat_of_nonneg g2, if_pos ⟨rfl, rfl⟩]
    · intro j hj
      show Value.int _ = _
      rw [zI_sI, if_neg (fun q => hj (by omega))]
  · rcases List.mem_append.mp hq with h9 | h9
    · exact h3 q h9
    · rw [List.mem_singleton.mp h9]
      show base ≤ a - 1 + 1
      omega
theorem z_bastore (hc : zOk p s m args meth c D cc nL own ret) {a : Nat} {i v : Int} {Q : Zm → Prop} (hd : decode cc pc = .ok (.bastore, 1)) (H : cStZ h a i v Q) (kk : ∀ h' : Zm, Q h' → zW p l e R s m args below meth c D base nL Qf cells slots (pc + 1) ρ st h') : zW p l e R s m args below meth c D base nL Qf cells slots pc ρ (.inl v :: .inl i :: .inr a :: st) h := by
  intro Hp locs ls h1 h2 h3 h4
  obtain ⟨⟨g1, g2, g3⟩, hv, g4⟩ := H
  obtain ⟨ha, hbs, -⟩ := h1.2.1 a (by omega)
  obtain ⟨q1, q2⟩ := (h1.2.2.2 a).1 (Or.inr g1)
  have h5 := kk _ g4
  show W p l e R s m args below meth c Hp locs cells slots Qf (F0 m pc ls (.int (Int32.ofInt v) :: .int (Int32.ofInt i) :: zrf a :: st.map zen))
  rw [zrf_pos ha]
  rw [g1] at q1
  have hn : narrow .boolean (.int (Int32.ofInt v)) = .int (Int32.ofInt v) := by
    rcases hv with rfl | rfl
    · exact narrow_b0
    · exact narrow_b1
  have hvr : InR v := by
    rcases hv with rfl | rfl <;> exact ⟨by decide, by decide⟩
  refine W.zast hc.1 hc.2.1 q1 (z_arrOf hc (t := 2) (by omega) (by omega) _ _) (fun q => by cases q) (by show ¬ (_ ∨ (arrV _ _ _).slots.size ≤ _); rw [arrV_size]; exact z_vpin g2 g3 q2) rfl rfl hd fun H' e1 e2 e3 => ?_
  rw [hn] at e1
  refine h5 H' _ ls (h1.set rfl (h1.inI hvr) (fun b hb => ⟨fun j => by rw [zI_sI, if_neg (fun q => hb q.1)], fun j => rfl⟩) e2 e3 ha ?_) (fun q hq => by rw [e3 q (Nat.ne_of_lt (show (q : Nat) < a - 1 by omega))]; exact h2 q hq) (fun q hq => ?_) h4
  · refine ⟨fun _ => ⟨?_, q2⟩, fun q => by rw [zkd_sI] at q; omega, fun q => by rw [zkd_sI] at q; omega⟩
    rw [e1, zkd_sI, g1, arrV_store, z_clamp g2 (by omega)]
    refine congrArg (fun z => some (arrV _ _ z)) (z_upd ?_ ?_)
    · show Value.int _ = _
      rw [zI_sI, Int.toNat_of_nonneg g2, if_pos ⟨rfl, rfl⟩]
    · intro j hj
      show Value.int _ = _
      rw [zI_sI, if_neg (fun q => hj (by omega))]
  · rcases List.mem_append.mp hq with h9 | h9
    · exact h3 q h9
    · rw [List.mem_singleton.mp h9]
      show base ≤ a - 1 + 1
      omega
theorem z_aastore (hc : zOk p s m args meth c D cc nL own ret) {t d ci a v : Nat} {C : String} {T : u_T} {N : Nat} {i : Int} {Q : Zm → Prop} (hd : decode cc pc = .ok (.aastore, 1)) (ht : 4 ≤ t ∧ t ≤ 7) (hd0 : d = 10 + ci) (hcl : vwCl[ci]? = some (C, T, N)) (hta : zaty t = .object C) (H : cStR h t d a i v Q) (kk : ∀ h' : Zm, Q h' → zW p l e R s m args below meth c D base nL Qf cells slots (pc + 1) ρ st h') : zW p l e R s m args below meth c D base nL Qf cells slots pc ρ (.inr v :: .inl i :: .inr a :: st) h := by
  intro Hp locs ls h1 h2 h3 h4
  obtain ⟨⟨g1, g2, g3⟩, hv, g4⟩ := H
  obtain ⟨ha, hbs, -⟩ := h1.2.1 a (by omega)
  obtain ⟨hav, -, -⟩ := h1.2.1 v (by omega)
  obtain ⟨q1, q2⟩ := (h1.2.2.2 a).2.1 (by omega)
  obtain ⟨-, cellV, r1, r2, r3, -⟩ := (h1.2.2.2 v).2.2 (by omega)
  have h5 := kk _ g4
  show W p l e R s m args below meth c Hp locs cells slots Qf (F0 m pc ls (zrf v :: .int (Int32.ofInt i) :: zrf a :: st.map zen))
  rw [zrf_pos ha, zrf_pos hav]
  have e0 : (zkd h v).1 - 10 = ci := by omega
  rw [e0] at r2
  have hcls : ClassAt s C (D.1.1 ci) := (hc.2.2.2.2.2.2.2.1 ci _ hcl).2
  have hRA := (hc.2.2.2.2.2.2.2.2 t (by omega) (by omega)).2
  rw [hta] at hRA
  obtain ⟨kA, comp, k1, k2, k3, -⟩ := hRA
  have hcomp : comp = D.1.1 ci := Option.some.inj (k3.symm.trans hcls.1)
  subst hcomp
  obtain ⟨kC, hkC, -⟩ := hcls.2
  rw [g1] at q1
  refine W.aast hc.1 hc.2.1 q1 (fun q h => by cases h) (fun h => by cases h) k1 k2 rfl hkC ⟨?_, by show _ < (arrV _ _ _).slots.size; rw [arrV_size, z_clamp g2 (by omega)]; omega⟩ r1 (fun q h => by rw [r3] at h; cases h) (by rw [r2]; exact hkC) (by rw [r2]; exact va_assign hcls) rfl rfl hd fun H' e1 e2 e3 => ?_
  · rw [z_0, z_lt ⟨by omega, by omega⟩ z_in0]
    omega
  refine h5 H' _ ls (h1.set rfl (fun b j => h1.2.2.1 b j) (fun b hb => ⟨fun j => rfl, fun j => by rw [zR_sR, if_neg (fun q => hb q.1)]⟩) e2 e3 ha ?_) (fun q hq => by rw [e3 q (Nat.ne_of_lt (show (q : Nat) < a - 1 by omega))]; exact h2 q hq) (fun q hq => ?_) h4
  · refine ⟨fun q => by rw [zkd_sR] at q; omega, fun _ => ⟨?_, q2⟩, fun q => by rw [zkd_sR] at q; omega⟩
    rw [e1, zkd_sR, g1, arrV_store, z_clamp g2 (by omega)]
    refine congrArg (fun z => some (arrV _ _ z)) (z_upd ?_ ?_)
    · show zrf _ = _
      rw [zR_sR, Int.toNat_of_nonneg g2, if_pos ⟨rfl, rfl⟩, zrf_pos hav]
    · intro j hj
      show zrf _ = _
      rw [zR_sR, if_neg (fun q => hj (by omega))]
  · rcases List.mem_append.mp hq with h9 | h9
    · exact h3 q h9
    · rw [List.mem_singleton.mp h9]
      show base ≤ a - 1 + 1
      omega
end ZM
end
section
/-! new cells, returns, calls, contracts -/
theorem zGoodIn {y : MethodName} {b : ByteArray} {n : Nat} {ret : Option FieldType} (h : Cond.code y b n ret ∈ zT) : GoodIn zT (Cond.code y b n ret :: zT) := by
  intro w hw
  rcases List.mem_cons.mp hw with rfl | h1
  · exact ⟨h, good_of_word (z_good _ h)⟩
  · exact ⟨h1, good_of_word (z_good _ h1)⟩
def zPc (D : Zd) (base : Nat) (av : List Zv) (h : Zm) : Array Value → State → Prop := fun a U => a = (av.map zen).toArray ∧ (zKn D U ∧ zNs U) ∧ zRep D base h U.heap
def zOld (base : Nat) (st t : State) : Prop := ∀ q : Nat, q + 1 < base → t.heap[q]? = st.heap[q]?
def zQi (D : Zd) (base : Nat) (Q : Int → Zm → Prop) : Array Value → State → Outcome → State → Prop := fun _ st o t => (∃ (v : Int) (h' : Zm), o = .returned (some (.int (Int32.ofInt v))) ∧ Q v h' ∧ zRep D base h' t.heap) ∧ zOld base st t
def zQr (D : Zd) (base : Nat) (Q : Nat → Zm → Prop) : Array Value → State → Outcome → State → Prop := fun _ st o t => (∃ (v : Nat) (h' : Zm), o = .returned (some (zrf v)) ∧ Q v h' ∧ zRep D base h' t.heap) ∧ zOld base st t
def zQv (D : Zd) (base : Nat) (Q : Zm → Prop) : Array Value → State → Outcome → State → Prop := fun _ st o t => (∃ h' : Zm, o = .returned none ∧ Q h' ∧ zRep D base h' t.heap) ∧ zOld base st t
def zFree (base : Nat) : Addr → Prop := fun q => base ≤ q + 1
/-- a method's contract over the small machine -/
def zMet (l : Launch) (D : Zd) (base : Nat) (y : MethodName) (b : ByteArray) (n : Nat) (ret : Option FieldType) (rm : Room) (av : List Zv) (h : Zm) (Qc : Array Value → State → Outcome → State → Prop) : Prop :=
  Met l y (Cond.code y b n ret :: zT) rm (zPc D base av h) Qc rm.cells rm.slots (zFree base)
theorem zPc_blind {D : Zd} {base : Nat} {av : List Zv} {h : Zm} : FrameBlind (zPc D base av h) := fun a U g mk q => ⟨q.1, ⟨zKn.moved (u := U) (U := U.calling g mk a) (Vm.Alike.refl _) q.2.1.1, zNs.same (s := U) (U := U.calling g mk a) rfl q.2.1.2⟩, q.2.2⟩
theorem zRep.new {D : Zd} {base t n : Nat} {h : Zm} {H H' : Heap} (hR : zRep D base h H) (hz : H'.size = H.size + 1) (ho : ∀ q : Nat, q < H.size → H'[q]? = H[q]?) (ha : zAt D (zal h t n) h.1.2 H') : zRep D base (zal h t n) H' := by
  obtain ⟨⟨r1, r0⟩, r2, r3, r4⟩ := hR
  have hne : ∀ b, b ≠ h.1.2 → zkd (zal h t n) b = zkd h b := fun b hb => if_neg hb
  refine ⟨⟨by rw [hz]; show _ = h.1.2 + 1; omega, by show base ≤ h.1.2 + 1; omega⟩, fun b hb => ?_, fun b j => ?_, fun b => ?_⟩
  · show 1 ≤ b ∧ base ≤ b ∧ b < h.1.2 + 1
    by_cases e : b = h.1.2
    · omega
    · rw [hne b e] at hb
      have := r2 b hb
      omega
  · show InR (if b = h.1.2 then 0 else h.2.1 b j)
    split
    · exact z_in0
    · exact r3 b j
  · by_cases e : b = h.1.2
    · subst e
      exact ha
    · by_cases q : (zkd h b).1 = 0
      · exact zAt_none (by rw [hne b e]; exact q)
      · have := r2 b q
        refine (r4 b).kept (hne b e) (fun j => if_neg e) (fun j => if_neg e) (ho _ ?_)
        omega
theorem zal_kd {h : Zm} {t n : Nat} : zkd (zal h t n) h.1.2 = (t, n) := if_pos rfl
theorem zal_I {h : Zm} {t n : Nat} {j : Int} : zI (zal h t n) h.1.2 j = 0 := if_pos rfl
theorem zal_R {h : Zm} {t n : Nat} {j : Int} : zR (zal h t n) h.1.2 j = 0 := if_pos rfl
section ZC
variable {p : Program} {l : Launch} {e : Env} {R : Room} {s : State} {m : MethodId} {args : Array Value} {below : List Frame} {meth : Method} {c : Code} {D : Zd} {base nL : Nat} {Qf : State → Prop} {cells slots pc : Nat} {ρ : List (Option Zv)} {st : List Zv} {h : Zm} {cc : ByteArray} {own : String} {ret : Option FieldType}
theorem z_new (hc : zOk p s m args meth c D cc nL own ret) {x ci N : Nat} {C : String} {T : u_T} (hd : decode cc pc = .ok (.new x, 3)) (hC : zCf ci C T N) (hdf : ∀ k, k < N → defaultValue (zty ci k) = zF ci k 0 0) (hw1 : Cond.classLink own x C ∈ zT) (hw2 : Cond.instantiable C N ∈ zT) (hw3 : Cond.initialized C ∈ zT) (hcells : cells + 1 ≤ R.cells) (hslots : slots + N ≤ R.slots) {Q : Nat → Zm → Prop} (H : cNw h (10 + ci) N Q) (kk : ∀ (a : Nat) (h' : Zm), Q a h' → zW p l e R s m args below meth c D base nL Qf (cells + 1) (slots + N) (pc + 3) ρ (.inr a :: st) h') : zW p l e R s m args below meth c D base nL Qf cells slots pc ρ st h := by
  intro Hp locs ls h1 h2 h3 h4
  have hKn : u_Kn s C T N (D.1.1 ci) (D.1.2 ci) := hc.2.2.2.2.2.2.2.1 ci _ hC.1
  refine W.newcK hc.1 hc.2.1 hc.2.2.2.1 (hc.2.2.2.2.1 _ hw1) (hc.2.2.2.2.1 _ hw2) (hc.2.2.2.2.1 _ hw3) rfl hd hcells hslots hKn.2.1 rfl fun H1 kC hkC e1 z1 o1 => ?_
  have hs := h1.1.1
  have hb := u_born (zty ci) hc.2.2.2.2.1 hC.2.2.1 hKn hkC e1 hC.2.2.2.1
  have h5 := kk _ _ H H1 locs ls (h1.new z1 o1 ?_) (fun q hq => by rw [o1 q (by have := h1.1.2; omega)]; exact h2 q hq) h3 h4
  · have e2 : (Value.ref Hp.size : Value) = zen (.inr h.1.2) := by
      show _ = zrf h.1.2
      rw [← hs]
      rfl
    show W p l e R s m args below meth c H1 locs (cells + 1) (slots + N) Qf (F0 m (pc + 3) ls (.ref Hp.size :: st.map zen))
    rw [e2]
    exact h5
  · refine ⟨fun q => by rw [zal_kd] at q; omega, fun q => by rw [zal_kd] at q; omega, fun q => ⟨by rw [zal_kd]; have := z_ci hC; show 10 + ci < 18; omega, ?_⟩⟩
    rw [zal_kd]
    show t_OB (h.1.2 - 1) (D.1.1 (10 + ci - 10)) (zN (10 + ci - 10)) (D.1.2 (10 + ci - 10)) H1 _
    rw [show 10 + ci - 10 = ci by omega, hC.2.1, show h.1.2 - 1 = Hp.size by omega]
    refine hb.to fun k hk => ?_
    rw [hdf k hk, zal_I, zal_R]
theorem z_newarr (hc : zOk p s m args meth c D cc nL own ret) {at0 : ArrayType} {t n : Nat} (hd : decode cc pc = .ok (.newarray at0, 2)) (ht : t = 1 ∨ t = 2) (hty : newarray.typeOf at0 = zaty t) (hw : Cond.arrayClass (zaty t) ∈ zT) (hn : n < 1000000) (hcells : cells + 1 ≤ R.cells) (hslots : slots + n ≤ R.slots) {Q : Nat → Zm → Prop} (H : cNw h t n Q) (kk : ∀ (a : Nat) (h' : Zm), Q a h' → zW p l e R s m args below meth c D base nL Qf (cells + 1) (slots + n) (pc + 2) ρ (.inr a :: st) h') : zW p l e R s m args below meth c D base nL Qf cells slots pc ρ (.inl (n : Int) :: st) h := by
  intro Hp locs ls h1 h2 h3 h4
  have hN : (Int32.ofInt (n : Int)).toNatClampNeg = n := by
    rw [z_clamp (by omega) (by omega)]
    rfl
  have hneg : ¬ Int32.ofInt (n : Int) < 0 := by
    rw [z_0, z_lt ⟨by omega, by omega⟩ z_in0]
    omega
  have hcb : componentBytes (newarray.typeOf at0) ≤ 4 := by
    rw [hty]
    rcases ht with rfl | rfl <;> decide
  have hby : n * componentBytes (newarray.typeOf at0) ≤ 536870912 := Nat.le_trans (Nat.mul_le_mul_left n hcb) (by omega)
  refine va_newaK hc.1 hc.2.1 (by rw [hty]; exact hc.2.2.2.2.1 _ hw) rfl hd rfl hneg hN hby hcells hslots rfl fun H1 cA e1 z1 o1 hAr hNm => ?_
  have hs := h1.1.1
  have hcA : cA = D.2 t := by
    have hRA := (hc.2.2.2.2.2.2.2.2 t (by omega) (by omega)).2
    rw [hty] at hNm
    have : s.vm.findClass ("[" ++ (zaty t).toString) = some (D.2 t) := by
      rcases ht with rfl | rfl <;> exact hRA
    exact Option.some.inj (hNm.symm.trans this)
  subst hcA
  have h5 := kk _ _ H H1 locs ls (h1.new z1 o1 ?_) (fun q hq => by rw [o1 q (by have := h1.1.2; omega)]; exact h2 q hq) h3 h4
  · have e2 : (Value.ref Hp.size : Value) = zen (.inr h.1.2) := by
      show _ = zrf h.1.2
      rw [← hs]
      rfl
    show W p l e R s m args below meth c H1 locs (cells + 1) (slots + n) Qf (F0 m (pc + 2) ls (.ref Hp.size :: st.map zen))
    rw [e2]
    exact h5
  · refine ⟨fun q => ⟨?_, by rw [zal_kd]; show n < _; omega⟩, fun q => by rw [zal_kd] at q; omega, fun q => by rw [zal_kd] at q; omega⟩
    rw [zal_kd, show h.1.2 - 1 = Hp.size by omega, e1, hty]
    refine congrArg (fun z => some (arrV _ _ z)) (funext fun j => ?_)
    rw [zal_I]
    rcases ht with rfl | rfl <;> rfl
theorem z_anew (hc : zOk p s m args meth c D cc nL own ret) {x t n : Nat} {C : String} (hd : decode cc pc = .ok (.anewarray x, 3)) (ht : 4 ≤ t ∧ t ≤ 6) (hty : zaty t = .object C) (hw1 : Cond.classLink own x C ∈ zT) (hw2 : C ∈ zAoc) (hn : n < 1000000) (hcells : cells + 1 ≤ R.cells) (hslots : slots + n ≤ R.slots) {Q : Nat → Zm → Prop} (H : cNw h t n Q) (kk : ∀ (a : Nat) (h' : Zm), Q a h' → zW p l e R s m args below meth c D base nL Qf (cells + 1) (slots + n) (pc + 3) ρ (.inr a :: st) h') : zW p l e R s m args below meth c D base nL Qf cells slots pc ρ (.inl (n : Int) :: st) h := by
  intro Hp locs ls h1 h2 h3 h4
  have hN : (Int32.ofInt (n : Int)).toNatClampNeg = n := by
    rw [z_clamp (by omega) (by omega)]
    rfl
  have hneg : ¬ Int32.ofInt (n : Int) < 0 := by
    rw [z_0, z_lt ⟨by omega, by omega⟩ z_in0]
    omega
  refine W.anew hc.1 hc.2.1 hc.2.2.2.1 (hc.2.2.2.2.1 _ hw1) (va_AO.use (hc.2.2.2.2.2.1.2.2.1 _ hw2)) rfl hd rfl hneg (by rw [hN]; omega) hcells (by rw [hN]; exact hslots) fun cA kA comp f1 f2 f3 f4 => ?_
  rw [hN]
  generalize hH1 : Hp.push ({ cls := cA, slots := Array.replicate n .null, vm := .none } : Cell) = H1
  have z1 : H1.size = Hp.size + 1 := by rw [← hH1, Array.size_push]
  have e1 : H1[Hp.size]? = some (arrV cA n (fun _ => .null)) := by rw [← hH1, Array.getElem?_push_size, ← arrV_new]
  have o1 : ∀ q : Nat, q < Hp.size → H1[q]? = Hp[q]? := fun q hq => by rw [← hH1, Array.getElem?_push, if_neg (Nat.ne_of_lt hq)]
  have hs := h1.1.1
  have hcA : cA = D.2 t := by
    have hRA := (hc.2.2.2.2.2.2.2.2 t (by omega) (by omega)).2
    rw [hty] at hRA
    obtain ⟨_, _, _, _, _, h9⟩ := hRA
    exact Option.some.inj (f1.symm.trans h9)
  subst hcA
  have h5 := kk _ _ H H1 locs ls (h1.new z1 o1 ?_) (fun q hq => by rw [o1 q (by have := h1.1.2; omega)]; exact h2 q hq) h3 h4
  · have e2 : (Value.ref Hp.size : Value) = zen (.inr h.1.2) := by
      show _ = zrf h.1.2
      rw [← hs]
      rfl
    show W p l e R s m args below meth c H1 locs (cells + 1) (slots + n) Qf (F0 m (pc + 3) ls (.ref Hp.size :: st.map zen))
    rw [e2]
    exact h5
  · refine ⟨fun q => by rw [zal_kd] at q; omega, fun q => ⟨?_, by rw [zal_kd]; show n < _; omega⟩, fun q => by rw [zal_kd] at q; omega⟩
    rw [zal_kd, show h.1.2 - 1 = Hp.size by omega, e1]
    refine congrArg (fun z => some (arrV _ _ z)) (funext fun j => ?_)
    rw [zal_R]
    rfl
theorem z_objInit (hc : zOk p s m args meth c D cc nL own ret) {x a : Nat} (hd : decode cc pc = .ok (.invokespecial x, 3)) (hw1 : Cond.methodLink own x objectInit ∈ zT) (hw2 : Cond.instanceMethod objectInit ∈ zT) (hw3 : Cond.code objectInit ⟨#[0xb1]⟩ 1 none ∈ zT) (hfr : 1 ≤ R.frames) (hlo : 20 ≤ R.locals) (h8 : st.length ≤ 8) {d : Nat} (hd0 : 1 ≤ d) {P : Prop} (H : cRc h d a P) (kk : P → zW p l e R s m args below meth c D base nL Qf cells slots (pc + 3) ρ st h) : zW p l e R s m args below meth c D base nL Qf cells slots pc ρ (.inr a :: st) h := by
  intro Hp locs ls h1 h2 h3 h4
  have h5 := kk H.2 Hp locs ls h1 h2 h3 h4
  have ha : 1 ≤ a := (h1.2.1 a (by rw [H.1]; omega)).1
  show W p l e R s m args below meth c Hp locs cells slots Qf (F0 m pc ls (zrf a :: st.map zen))
  rw [zrf_pos ha]
  have hcat : ((st.map zen).map fun v => v.category).sum ≤ 8 := by
    have : ∀ z : List Zv, ((z.map zen).map fun v => v.category).sum = z.length := fun z => by
      induction z with
      | nil => rfl
      | cons x xs ih =>
        rw [List.map_cons, List.map_cons, List.sum_cons, ih, zen_cat, List.length_cons]
        omega
    rw [this]
    exact h8
  exact W.objInit hc.1 hc.2.1 hc.2.2.2.1 (hc.2.2.2.2.1 _ hw1) (hc.2.2.2.2.1 _ hw2) (hc.2.2.2.2.1 _ hw3) rfl (by rw [hc.2.2.1]; exact h4.1) rfl hd hfr (by have := lv_room (m := m) (pc := pc) (ls := ls) (rest := Value.ref (a - 1) :: st.map zen) (st := st.map zen) hcat; omega) h5
theorem z_ireturn (hc : zOk p s m args meth c D cc nL own (some .int)) {v : Int} {Q : Int → Zm → Prop} (hd : decode cc pc = .ok (.ireturn, 1)) (H : Q v h) : zW p l e R s m args below meth c D base nL (MQ below (zQi D base Q) args s cells slots (zFree base)) cells slots pc ρ [.inl v] h := by
  intro Hp locs ls h1 h2 h3 h4
  exact W.iret (v := Int32.ofInt v) hc.1 hc.2.1 hc.2.2.2.2.2.2.1 (fun t ht hW => ⟨⟨v, h, rfl, H, by rw [ht]; exact h1⟩, fun q hq => by rw [ht]; exact h2 q hq⟩) h3 hd (hlocks := hc.2.2.2.2.2.1.1)
theorem z_zreturn (hc : zOk p s m args meth c D cc nL own (some .boolean)) {v : Int} {Q : Int → Zm → Prop} (hd : decode cc pc = .ok (.ireturn, 1)) (H : cBr v (Q v h)) : zW p l e R s m args below meth c D base nL (MQ below (zQi D base Q) args s cells slots (zFree base)) cells slots pc ρ [.inl v] h := by
  intro Hp locs ls h1 h2 h3 h4
  have hn : narrow .boolean (.int (Int32.ofInt v)) = .int (Int32.ofInt v) := by
    rcases H.1 with rfl | rfl
    · exact narrow_b0
    · exact narrow_b1
  exact W.zret (v := Int32.ofInt v) hc.1 hc.2.1 hc.2.2.2.2.2.2.1 hn (fun t ht hW => ⟨⟨v, h, rfl, H.2, by rw [ht]; exact h1⟩, fun q hq => by rw [ht]; exact h2 q hq⟩) h3 hd (hlocks := hc.2.2.2.2.2.1.1)
theorem z_areturn {rt : FieldType} (hc : zOk p s m args meth c D cc nL own (some rt)) {v : Nat} {Q : Nat → Zm → Prop} (hrt : (∃ n, rt = .object n) ∨ ∃ t, rt = .array t) (hd : decode cc pc = .ok (.areturn, 1)) (H : Q v h) : zW p l e R s m args below meth c D base nL (MQ below (zQr D base Q) args s cells slots (zFree base)) cells slots pc ρ [.inr v] h := by
  intro Hp locs ls h1 h2 h3 h4
  exact W.aret (v := zrf v) hc.1 hc.2.1 hc.2.2.2.2.2.2.1 hrt (by cases v; exact Or.inl rfl; exact Or.inr ⟨_, rfl⟩) (fun t ht hW => ⟨⟨v, h, rfl, H, by rw [ht]; exact h1⟩, fun q hq => by rw [ht]; exact h2 q hq⟩) h3 hd (hlocks := hc.2.2.2.2.2.1.1)
theorem z_return (hc : zOk p s m args meth c D cc nL own none) {Q : Zm → Prop} (hd : decode cc pc = .ok (.return_, 1)) (H : Q h) : zW p l e R s m args below meth c D base nL (MQ below (zQv D base Q) args s cells slots (zFree base)) cells slots pc ρ [] h := by
  intro Hp locs ls h1 h2 h3 h4
  exact W.vret hc.1 hc.2.1 hc.2.2.2.2.2.2.1 (fun t ht hW => ⟨⟨h, rfl, H, by rw [ht]; exact h1⟩, fun q hq => by rw [ht]; exact h2 q hq⟩) h3 hd (hlocks := hc.2.2.2.2.2.1.1)
/-- behind a call -/
theorem z_ran {Qc : Array Value → State → Outcome → State → Prop} {a : Array Value} {mc ms : Nat} {sts : List Value} {P : Option Value → Zm → Prop} (hr : ∀ (H : Heap) (locs : List Loc) (ls : Array Slot), zRep D base h H → zL ls nL ρ → va_Run p l e R s m args below meth c H locs cells slots mc ms (F0 m pc ls sts) (st.map zen) (Qc a) (zFree base))
    (hQ : ∀ (u : State) (v : Option Value) (t : State), Qc a u (.returned v) t → ∃ h' : Zm, P v h' ∧ zRep D base h' t.heap ∧ zOld base u t)
    (k : ∀ (v : Option Value) (h' : Zm), P v h' → ∀ (H : Heap) (locs : List Loc) (ls : Array Slot), zRep D base h' H → (∀ q : Nat, q + 1 < base → H[q]? = s.heap[q]?) → (∀ q ∈ locs, base ≤ q.base + 1) → zL ls nL ρ → W p l e R s m args below meth c H locs (cells + mc) (slots + ms) Qf (F0 m (pc + 3) ls (v.toList ++ st.map zen))) :
    ∀ (H : Heap) (locs : List Loc) (ls : Array Slot), zRep D base h H → (∀ q : Nat, q + 1 < base → H[q]? = s.heap[q]?) → (∀ q ∈ locs, base ≤ q.base + 1) → zL ls nL ρ → W p l e R s m args below meth c H locs cells slots Qf (F0 m pc ls sts) := by
  intro H locs ls h1 h2 h3 h4 T hT X
  obtain ⟨v, st₀, t, T', L, h0, X', hL, e1, e2, hq, stp⟩ := hr H locs ls h1 h4 T hT X
  obtain ⟨h', hP, hR', hO⟩ := hQ st₀ v t hq
  obtain ⟨t2, a1, b1⟩ := k v h' hP T'.heap (locs ++ L) ls (by rw [e1]; exact hR') (fun q hq => by rw [e1, hO q hq, h0]; exact h2 q hq) (fun q hq => by
    rcases List.mem_append.mp hq with h9 | h9
    · exact h3 q h9
    · exact hL q h9) h4 T' rfl X'
  exact ⟨t2, stp t2 a1, b1⟩
theorem z_pre {D : Zd} {base : Nat} {av : List Zv} {h : Zm} {H : Heap} (hK : zKn D s) (hN : zNs s) (hR : zRep D base h H) : ∀ U : State, U.heap = H → s.WarmedH U.vm → zPc D base av h (av.map zen).toArray U := fun U hU hW => ⟨rfl, ⟨hK.moved hW.alike, hN.warm hW⟩, by rw [hU]; exact hR⟩
theorem z_cat8 (h8 : st.length ≤ 8) : ((st.map zen).map fun v => v.category).sum ≤ 8 := by
  have : ∀ z : List Zv, ((z.map zen).map fun v => v.category).sum = z.length := fun z => by
    induction z with
    | nil => rfl
    | cons x xs ih =>
      rw [List.map_cons, List.map_cons, List.sum_cons, ih, zen_cat, List.length_cons]
      omega
  rw [this]
  exact h8
def zCs (own : String) (x : Nat) (y : MethodName) (b : ByteArray) (n : Nat) (ret : Option FieldType) (k : Nat) : Prop := (Cond.methodLink own x y ∈ zT ∧ Cond.static y ∈ zT ∧ Cond.initialized y.cls ∈ zT ∧ Cond.code y b n ret ∈ zT) ∧ y.cls ≠ "java/lang/invoke/MethodHandle" ∧ y.cls ≠ "java/lang/invoke/VarHandle" ∧ (parseMethodDescriptor y.desc).map (fun d => d.parameters.length) = some k
def zCn (own : String) (x : Nat) (y : MethodName) (host : String) (b : ByteArray) (n : Nat) (ret : Option FieldType) (k : Nat) : Prop := ((own, x, y, host) ∈ zNl ∧ Cond.static y ∈ zT ∧ Cond.initialized y.cls ∈ zT ∧ Cond.code y b n ret ∈ zT) ∧ y.cls ≠ "java/lang/invoke/MethodHandle" ∧ y.cls ≠ "java/lang/invoke/VarHandle" ∧ (parseMethodDescriptor y.desc).map (fun d => d.parameters.length) = some k
def zCv (own : String) (x : Nat) (y : MethodName) (b : ByteArray) (n : Nat) (ret : Option FieldType) (k : Nat) : Prop := (Cond.methodLink own x y ∈ zT ∧ Cond.instanceMethod y ∈ zT ∧ Cond.selects y.cls y y ∈ zT ∧ Cond.initialized y.cls ∈ zT ∧ Cond.code y b n ret ∈ zT) ∧ y.cls ≠ "java/lang/invoke/MethodHandle" ∧ y.cls ≠ "java/lang/invoke/VarHandle" ∧ (parseMethodDescriptor y.desc).map (fun d => d.parameters.length) = some k
def zCi (own : String) (x : Nat) (y : MethodName) (b : ByteArray) (n : Nat) (k : Nat) : Prop := (Cond.methodLink own x y ∈ zT ∧ Cond.instanceMethod y ∈ zT ∧ y.name = "<init>" ∧ Cond.initialized y.cls ∈ zT ∧ Cond.code y b n none ∈ zT) ∧ y.cls ≠ "java/lang/invoke/MethodHandle" ∧ y.cls ≠ "java/lang/invoke/VarHandle" ∧ (parseMethodDescriptor y.desc).map (fun d => d.parameters.length) = some k
def zRoom (rm R : Room) (n : Nat) : Prop := rm.frames + 1 ≤ R.frames ∧ 8 + (n + 11) + rm.locals ≤ R.locals
theorem z_runS (hc : zOk p s m args meth c D cc nL own ret) {x n k : Nat} {y : MethodName} {b : ByteArray} {rt : Option FieldType} {rm : Room} {av : List Zv} {Qc : Array Value → State → Outcome → State → Prop} (hd : decode cc pc = .ok (.invokestatic x, 3)) (hw : zCs own x y b n rt k) (hM : zMet l D base y b n rt rm av h Qc) (hk : av.length = k) (h8 : st.length ≤ 8) (hR : zRoom rm R n) (hf : cells + rm.cells ≤ R.cells ∧ slots + rm.slots ≤ R.slots) : ∀ (H : Heap) (locs : List Loc) (ls : Array Slot), zRep D base h H → zL ls nL ρ → va_Run p l e R s m args below meth c H locs cells slots rm.cells rm.slots (F0 m pc ls ((av.map zen).reverse ++ st.map zen)) (st.map zen) (Qc (av.map zen).toArray) (zFree base) := by
  intro H locs ls h1 h4
  obtain ⟨⟨w1, w2, w3, w4⟩, w5⟩ := hw
  exact va_runS (As := av.map zen) (rest := st.map zen) ⟨hc.1, hc.2.1, hc.2.2.1, hc.2.2.2.1, hc.2.2.2.2.1⟩ hM ⟨callB_of k hc.2.2.2.2.1 (zGoodIn w4) rfl rfl rfl (hc.2.2.2.2.1 _ w3) (hc.2.2.2.2.1 _ w1) w5 hR, hc.2.2.2.2.1 _ w2⟩ ⟨zPc_blind, z_pre hc.2.2.2.2.2.2.2 hc.2.2.2.2.2.1.2 h1⟩ rfl (by rw [List.length_map]; exact hk) h4.1 rfl (lv_room (z_cat8 h8)) hd hf
theorem z_runN (hc : zOk p s m args meth c D cc nL own ret) {x n k : Nat} {y : MethodName} {host : String} {b : ByteArray} {rt : Option FieldType} {rm : Room} {av : List Zv} {Qc : Array Value → State → Outcome → State → Prop} (hd : decode cc pc = .ok (.invokestatic x, 3)) (hw : zCn own x y host b n rt k) (hM : zMet l D base y b n rt rm av h Qc) (hk : av.length = k) (h8 : st.length ≤ 8) (hR : zRoom rm R n) (hf : cells + rm.cells ≤ R.cells ∧ slots + rm.slots ≤ R.slots) : ∀ (H : Heap) (locs : List Loc) (ls : Array Slot), zRep D base h H → zL ls nL ρ → va_Run p l e R s m args below meth c H locs cells slots rm.cells rm.slots (F0 m pc ls ((av.map zen).reverse ++ st.map zen)) (st.map zen) (Qc (av.map zen).toArray) (zFree base) := by
  intro H locs ls h1 h4
  obtain ⟨⟨w1, w2, w3, w4⟩, w5⟩ := hw
  exact va_runSN (As := av.map zen) (rest := st.map zen) ⟨hc.1, hc.2.1, hc.2.2.1, hc.2.2.2.1, hc.2.2.2.2.1⟩ hM ⟨va_cnB k hc.2.2.2.2.1 (zGoodIn w4) rfl rfl rfl (hc.2.2.2.2.2.1.2.1 _ w1) (hc.2.2.2.2.1 _ w3) w5 hR, hc.2.2.2.2.1 _ w2, trivial⟩ ⟨zPc_blind, z_pre hc.2.2.2.2.2.2.2 hc.2.2.2.2.2.1.2 h1⟩ rfl (by rw [List.length_map]; exact hk) h4.1 rfl (lv_room (z_cat8 h8)) hd hf
theorem z_runV (hc : zOk p s m args meth c D cc nL own ret) {x n k a ci N : Nat} {T : u_T} {y : MethodName} {b : ByteArray} {rt : Option FieldType} {rm : Room} {av : List Zv} {Qc : Array Value → State → Outcome → State → Prop} (hd : decode cc pc = .ok (.invokevirtual x, 3)) (hw : zCv own x y b n rt k) (hM : zMet l D base y b n rt rm (.inr a :: av) h Qc) (hk : av.length = k) (h8 : st.length ≤ 8) (hR : zRoom rm R n) (hf : cells + rm.cells ≤ R.cells ∧ slots + rm.slots ≤ R.slots) (hcl : vwCl[ci]? = some (y.cls, T, N)) (ha : (zkd h a).1 = 10 + ci) : ∀ (H : Heap) (locs : List Loc) (ls : Array Slot), zRep D base h H → zL ls nL ρ → va_Run p l e R s m args below meth c H locs cells slots rm.cells rm.slots (F0 m pc ls ((av.map zen).reverse ++ zrf a :: st.map zen)) (st.map zen) (Qc ((.inr a :: av).map zen).toArray) (zFree base) := by
  intro H locs ls h1 h4
  obtain ⟨⟨w1, w2, w3, w4, w6⟩, w5⟩ := hw
  obtain ⟨ha1, -, -⟩ := h1.2.1 a (by omega)
  obtain ⟨-, cellB, r1, r2, r3, -⟩ := (h1.2.2.2 a).2.2 (by omega)
  rw [ha, show 10 + ci - 10 = ci by omega] at r2
  have hcls := hc.2.2.2.2.2.2.2.1 ci _ hcl
  have hfc : s.vm.findClass y.cls = some cellB.cls := by rw [r2]; exact hcls.2.1
  have e0 : (Qc ((.inr a :: av).map zen).toArray) = Qc (Value.ref (a - 1) :: av.map zen).toArray := by
    rw [List.map_cons]
    show Qc (zrf a :: av.map zen).toArray = _
    rw [zrf_pos ha1]
  have hpre : ∀ U : State, U.heap = H → s.WarmedH U.vm → zPc D base (.inr a :: av) h (Value.ref (a - 1) :: av.map zen).toArray U := fun U hU hW => by
    have := z_pre (s := s) (av := .inr a :: av) hc.2.2.2.2.2.2.2 hc.2.2.2.2.2.1.2 h1 U hU hW
    rw [List.map_cons] at this
    have e : zen (.inr a) = Value.ref (a - 1) := zrf_pos ha1
    rw [e] at this
    exact this
  rw [e0, zrf_pos ha1]
  exact va_runV (As := av.map zen) (rest := st.map zen) (C := y.cls) ⟨hc.1, hc.2.1, hc.2.2.1, hc.2.2.2.1, hc.2.2.2.2.1⟩ hM ⟨callB_of k hc.2.2.2.2.1 (zGoodIn w6) rfl rfl rfl (hc.2.2.2.2.1 _ w4) (hc.2.2.2.2.1 _ w1) w5 hR, hc.2.2.2.2.1 _ w2, hc.2.2.2.2.1 _ w3⟩ ⟨zPc_blind, ⟨cellB, r1, by rw [r3]; rfl, hfc⟩, hpre⟩ rfl (by rw [List.length_map]; exact hk) h4.1 rfl (lv_room (z_cat8 h8)) hd hf
theorem z_runI (hc : zOk p s m args meth c D cc nL own ret) {x n k a : Nat} {y : MethodName} {b : ByteArray} {rm : Room} {av : List Zv} {Qc : Array Value → State → Outcome → State → Prop} (hd : decode cc pc = .ok (.invokespecial x, 3)) (hw : zCi own x y b n k) (hM : zMet l D base y b n none rm (.inr a :: av) h Qc) (hk : av.length = k) (h8 : st.length ≤ 8) (hR : zRoom rm R n) (hf : cells + rm.cells ≤ R.cells ∧ slots + rm.slots ≤ R.slots) {d : Nat} (hd0 : 1 ≤ d) (ha0 : (zkd h a).1 = d) : ∀ (H : Heap) (locs : List Loc) (ls : Array Slot), zRep D base h H → zL ls nL ρ → va_Run p l e R s m args below meth c H locs cells slots rm.cells rm.slots (F0 m pc ls ((av.map zen).reverse ++ zrf a :: st.map zen)) (st.map zen) (Qc ((.inr a :: av).map zen).toArray) (zFree base) := by
  intro H locs ls h1 h4
  have ha : 1 ≤ a := (h1.2.1 a (by rw [ha0]; omega)).1
  obtain ⟨⟨w1, w2, w3, w4, w6⟩, w5⟩ := hw
  have e0 : (Qc ((.inr a :: av).map zen).toArray) = Qc (Value.ref (a - 1) :: av.map zen).toArray := by
    rw [List.map_cons]
    show Qc (zrf a :: av.map zen).toArray = _
    rw [zrf_pos ha]
  have hpre : ∀ U : State, U.heap = H → s.WarmedH U.vm → zPc D base (.inr a :: av) h (Value.ref (a - 1) :: av.map zen).toArray U := fun U hU hW => by
    have := z_pre (s := s) (av := .inr a :: av) hc.2.2.2.2.2.2.2 hc.2.2.2.2.2.1.2 h1 U hU hW
    rw [List.map_cons] at this
    have e : zen (.inr a) = Value.ref (a - 1) := zrf_pos ha
    rw [e] at this
    exact this
  rw [e0, zrf_pos ha]
  exact va_runI (As := av.map zen) (rest := st.map zen) ⟨hc.1, hc.2.1, hc.2.2.1, hc.2.2.2.1, hc.2.2.2.2.1⟩ hM ⟨callB_of k hc.2.2.2.2.1 (zGoodIn w6) rfl rfl rfl (hc.2.2.2.2.1 _ w4) (hc.2.2.2.2.1 _ w1) w5 hR, w3, hc.2.2.2.2.1 _ w2⟩ ⟨zPc_blind, hpre⟩ rfl (by rw [List.length_map]; exact hk) h4.1 rfl (lv_room (z_cat8 h8)) hd hf
end ZC
end
section
/-! calls as steps, a method's contract out of its walk, new int[n][k], a switch, the script -/
section ZS
variable {p : Program} {l : Launch} {e : Env} {R : Room} {s : State} {m : MethodId} {args : Array Value} {below : List Frame} {meth : Method} {c : Code} {D : Zd} {base nL : Nat} {Qf : State → Prop} {cells slots pc : Nat} {ρ : List (Option Zv)} {st : List Zv} {h : Zm} {cc : ByteArray} {own : String} {ret : Option FieldType}
theorem z_calI {rm : Room} {sts : List Value} {stk : List Zv} {a : Array Value} {Q : Int → Zm → Prop} (hr : ∀ (H : Heap) (locs : List Loc) (ls : Array Slot), zRep D base h H → zL ls nL ρ → va_Run p l e R s m args below meth c H locs cells slots rm.cells rm.slots (F0 m pc ls sts) (st.map zen) (zQi D base Q a) (zFree base)) (hst : stk.map zen = sts) (hz : rm.cells = 0 ∧ rm.slots = 0) (k : ∀ r h', Q r h' → zW p l e R s m args below meth c D base nL Qf cells slots (pc + 3) ρ (.inl r :: st) h') : zW p l e R s m args below meth c D base nL Qf cells slots pc ρ stk h := by
  unfold zW
  rw [hst]
  refine z_ran (P := fun v h' => ∃ r : Int, v = some (.int (Int32.ofInt r)) ∧ Q r h') hr (fun u v t hq => ?_) (fun v h' hP H locs ls h1 h2 h3 h4 => ?_)
  · obtain ⟨⟨r, h', e1, e2, e3⟩, e4⟩ := hq
    cases e1
    exact ⟨h', ⟨r, rfl, e2⟩, e3, e4⟩
  · obtain ⟨r, rfl, hq⟩ := hP
    rw [hz.1, hz.2]
    exact k r h' hq H locs ls h1 h2 h3 h4
theorem z_calR {rm : Room} {sts : List Value} {stk : List Zv} {a : Array Value} {Q : Nat → Zm → Prop} (hr : ∀ (H : Heap) (locs : List Loc) (ls : Array Slot), zRep D base h H → zL ls nL ρ → va_Run p l e R s m args below meth c H locs cells slots rm.cells rm.slots (F0 m pc ls sts) (st.map zen) (zQr D base Q a) (zFree base)) (hst : stk.map zen = sts) (hz : rm.cells = 0 ∧ rm.slots = 0) (k : ∀ r h', Q r h' → zW p l e R s m args below meth c D base nL Qf cells slots (pc + 3) ρ (.inr r :: st) h') : zW p l e R s m args below meth c D base nL Qf cells slots pc ρ stk h := by
  unfold zW
  rw [hst]
  refine z_ran (P := fun v h' => ∃ r : Nat, v = some (zrf r) ∧ Q r h') hr (fun u v t hq => ?_) (fun v h' hP H locs ls h1 h2 h3 h4 => ?_)
  · obtain ⟨⟨r, h', e1, e2, e3⟩, e4⟩ := hq
    cases e1
    exact ⟨h', ⟨r, rfl, e2⟩, e3, e4⟩
  · obtain ⟨r, rfl, hq⟩ := hP
    rw [hz.1, hz.2]
    exact k r h' hq H locs ls h1 h2 h3 h4
theorem z_calV {rm : Room} {sts : List Value} {stk : List Zv} {a : Array Value} {Q : Zm → Prop} {mc ms : Nat} (hr : ∀ (H : Heap) (locs : List Loc) (ls : Array Slot), zRep D base h H → zL ls nL ρ → va_Run p l e R s m args below meth c H locs cells slots rm.cells rm.slots (F0 m pc ls sts) (st.map zen) (zQv D base Q a) (zFree base)) (hst : stk.map zen = sts) (hz : rm.cells = mc ∧ rm.slots = ms) (k : ∀ h', Q h' → zW p l e R s m args below meth c D base nL Qf (cells + mc) (slots + ms) (pc + 3) ρ st h') : zW p l e R s m args below meth c D base nL Qf cells slots pc ρ stk h := by
  unfold zW
  rw [hst]
  refine z_ran (P := fun v h' => v = none ∧ Q h') hr (fun u v t hq => ?_) (fun v h' hP H locs ls h1 h2 h3 h4 => ?_)
  · obtain ⟨⟨h', e1, e2, e3⟩, e4⟩ := hq
    cases e1
    exact ⟨h', ⟨rfl, e2⟩, e3, e4⟩
  · obtain ⟨rfl, hq⟩ := hP
    rw [hz.1, hz.2]
    exact k h' hq H locs ls h1 h2 h3 h4
theorem z_calV0 {rm : Room} {sts : List Value} {stk : List Zv} {a : Array Value} {Q : Zm → Prop} (hr : ∀ (H : Heap) (locs : List Loc) (ls : Array Slot), zRep D base h H → zL ls nL ρ → va_Run p l e R s m args below meth c H locs cells slots rm.cells rm.slots (F0 m pc ls sts) (st.map zen) (zQv D base Q a) (zFree base)) (hst : stk.map zen = sts) (hz : rm.cells = 0 ∧ rm.slots = 0) (k : ∀ h', Q h' → zW p l e R s m args below meth c D base nL Qf cells slots (pc + 3) ρ st h') : zW p l e R s m args below meth c D base nL Qf cells slots pc ρ stk h := z_calV hr hst hz k
def lfp0 (F : (Zm → Prop) → Zm → Prop) (h : Zm) : Prop := ∀ X : Zm → Prop, (∀ h, F X h → X h) → X h
def lfp1 (F : (Int → Zm → Prop) → Int → Zm → Prop) (x : Int) (h : Zm) : Prop := ∀ X : Int → Zm → Prop, (∀ x h, F X x h → X x h) → X x h
def lfp2 (F : (Int → Int → Zm → Prop) → Int → Int → Zm → Prop) (x y : Int) (h : Zm) : Prop := ∀ X : Int → Int → Zm → Prop, (∀ x y h, F X x y h → X x y h) → X x y h
def lfp3 (F : (Int → Int → Int → Zm → Prop) → Int → Int → Int → Zm → Prop) (x y z : Int) (h : Zm) : Prop := ∀ X : Int → Int → Int → Zm → Prop, (∀ x y z h, F X x y z h → X x y z h) → X x y z h
def lfp4 (F : (Int → Int → Int → Int → Zm → Prop) → Int → Int → Int → Int → Zm → Prop) (x y z w : Int) (h : Zm) : Prop := ∀ X : Int → Int → Int → Int → Zm → Prop, (∀ x y z w h, F X x y z w h → X x y z w h) → X x y z w h
theorem z_sl : ∀ av : List Zv, (lg_sl (av.map zen)).length = av.length
  | [] => rfl
  | v :: vs => by
    have ih := z_sl vs
    unfold lg_sl at ih ⊢
    rw [List.map_cons, List.flatMap_cons, zen_cat, if_neg (by decide), List.length_append, ih, List.length_cons]
    simp
    omega
theorem z_args : ∀ (av : List Zv) (k i : Nat) (v : Zv), av[i]? = some v → (k + i, zen v) ∈ lv_args k (av.map zen)
  | [], k, i, v, h => by simp at h
  | x :: xs, k, i, v, h => by
    rw [List.map_cons]
    unfold lv_args
    rw [zen_cat, if_neg (by decide)]
    cases i with
    | zero =>
      simp at h
      subst h
      exact List.mem_cons_self
    | succ j =>
      have := z_args xs (k + 1) j v (by simpa using h)
      rw [show k + (j + 1) = k + 1 + j by omega]
      exact List.mem_cons_of_mem _ this
theorem z_met {y : MethodName} {b : ByteArray} {n : Nat} {rm : Room} {av : List Zv} {Qc : Array Value → State → Outcome → State → Prop} (hy : plainName y.cls = true) (hb : av.length ≤ n)
    (body : ∀ (p : Program) (e : Env) (s : State) (m : MethodId) (args : Array Value) (below : List Frame) (meth : Method) (c : Code), zOk p s m args meth c D b n y.cls ret → meth.name = y.name → zW p l e rm s m args below meth c D base n (MQ below Qc args s rm.cells rm.slots (zFree base)) 0 0 0 (av.map some ++ List.replicate (n - av.length) none) [] h) : zMet l D base y b n ret rm av h Qc := by
  refine Met.ofW (cc := b) (maxL := n) (ret := ret) hy rfl ?_
  intro p e s m args below meth c s₁ B hml hv
  obtain ⟨rfl, ⟨hK, hN⟩, hR⟩ := hv
  have hts := atoms_spec (ws := Cond.code y b n ret :: zT) B.pre
  have hk : zOk p s m (av.map zen).toArray meth c D b n y.cls ret := ⟨B.exec, B.bytes, hml, findClass_of_methodNamed B.named, fun w hw => hts w (List.mem_cons_of_mem _ hw), ⟨B.notSynchronized, hN⟩, B.returns, hK⟩
  have hbd := body p e s m _ below meth c hk (name_of_methodNamed B.named B.method).1
  rw [lg_entry_eq]
  have hl := lv_entry (av.map zen) (n := n) (by rw [z_sl]; exact hb)
  refine hbd s.heap [] _ hR (fun q hq => rfl) (fun q hq => by cases hq) ⟨hl.1, hl.2.1, fun i v hi => ?_⟩
  have hi2 : av[i]? = some v := by
    by_cases hlt : i < av.length
    · rw [List.getElem?_append_left (by simpa using hlt), List.getElem?_map] at hi
      cases hq : av[i]? with
      | none => rw [hq] at hi; cases hi
      | some w => rw [hq] at hi; simp at hi; rw [hi]
    · rw [List.getElem?_append_right (by simpa using hlt)] at hi
      have := List.mem_of_getElem? hi
      rw [List.mem_replicate] at this
      cases this.2
  have := z_args av 0 i v hi2
  rw [Nat.zero_add] at this
  exact hl.2.2 _ this
def zSw (G : Nat → Prop) (x : Int) : Int → List Nat → Prop
  | _, [] => True
  | lo, t :: ts => (x = lo → G t) ∧ zSw G x (lo + 1) ts
theorem zSw.at {G : Nat → Prop} {x : Int} : ∀ {lo : Int} {ts : List Nat} {j t : Nat}, zSw G x lo ts → ts[j]? = some t → x = lo + j → G t
  | lo, [], j, t, _, h, _ => by simp at h
  | lo, u :: us, 0, t, hz, h, e => by
    simp at h
    subst h
    exact hz.1 (by simpa using e)
  | lo, u :: us, j + 1, t, hz, h, e => zSw.at (lo := lo + 1) (j := j) hz.2 (by simpa using h) (by rw [e]; simp; omega)
theorem z_switch (hc : zOk p s m args meth c D cc nL own ret) {dflt lo hi : Int} {offs : Array Int} {len td : Nat} {x : Int} {tgts : List Nat} (hd : decode cc pc = .ok (.tableswitch dflt lo hi offs, len)) (hx : InR x) (htd : (pc : Int) + dflt = (td : Int)) (hn : hi - lo + 1 = (tgts.length : Int)) (ht : offs.toList.map (fun o => (pc : Int) + o) = tgts.map (fun t : Nat => (t : Int))) (kd : (x < lo ∨ hi < x) → zW p l e R s m args below meth c D base nL Qf cells slots td ρ st h) (kk : zSw (fun t => zW p l e R s m args below meth c D base nL Qf cells slots t ρ st h) x lo tgts) : zW p l e R s m args below meth c D base nL Qf cells slots pc ρ (.inl x :: st) h := by
  intro Hp locs ls h1 h2 h3 h4
  show W p l e R s m args below meth c Hp locs cells slots Qf (F0 m pc ls (.int (Int32.ofInt x) :: st.map zen))
  have hxt := hx.to
  by_cases hq : x < lo ∨ hi < x
  · exact lv_tableOut hc.1 hc.2.1 hd (by rw [hxt]; exact hq) htd (kd hq Hp locs ls h1 h2 h3 h4)
  · have hj : (x - lo).toNat < tgts.length := by omega
    obtain ⟨t, ht2⟩ : ∃ t, tgts[(x - lo).toNat]? = some t := ⟨_, List.getElem?_eq_getElem hj⟩
    have h5 := (zSw.at kk ht2 (by omega)) Hp locs ls h1 h2 h3 h4
    have h6 : (offs.toList.map (fun o => (pc : Int) + o))[(x - lo).toNat]? = some (t : Int) := by
      rw [ht, List.getElem?_map, ht2]
      rfl
    rw [List.getElem?_map] at h6
    cases ho : offs.toList[(x - lo).toNat]? with
    | none => rw [ho] at h6; cases h6
    | some off =>
      rw [ho] at h6
      simp at h6
      exact lv_tableIn (off := off) hc.1 hc.2.1 hd (by rw [hxt]; omega) (by rw [hxt]; omega) (by rw [hxt, ← Array.getElem?_toList]; exact ho) h6 h5
def cSld (L : Nat) (sc : Int → Int) (i : Int) (Q : Int → Prop) : Prop := (0 ≤ i ∧ i < (L : Int)) ∧ Q (sc i)
theorem z_sld (hc : zOk p s m args meth c D cc nL own ret) {b L : Nat} {xs : Nat → Int32} {i : Int} {Q : Int → Prop} (hX : va_X b L xs s s.heap) (hb : b + 1 < base) (hL : L < 2147483648) (hd : decode cc pc = .ok (.iaload, 1)) (H : cSld L (fun i => (xs i.toNat).toInt) i Q) (kk : ∀ v : Int, Q v → zW p l e R s m args below meth c D base nL Qf cells slots (pc + 1) ρ (.inl v :: st) h) : zW p l e R s m args below meth c D base nL Qf cells slots pc ρ (.inl i :: .inr (b + 1) :: st) h := by
  intro Hp locs ls h1 h2 h3 h4
  obtain ⟨⟨g2, g3⟩, g4⟩ := H
  have h5 := kk _ g4 Hp locs ls h1 h2 h3 h4
  obtain ⟨scr, x1, x2, x3, x4, x5⟩ := hX
  show W p l e R s m args below meth c Hp locs cells slots Qf (F0 m pc ls (.int (Int32.ofInt i) :: .ref b :: st.map zen))
  refine W.iald (v := .int (xs i.toNat)) hc.1 hc.2.1 (by rw [h2 b hb]; exact x1) x2 x3 (by rw [x4]; exact z_vpin g2 g3 hL) ?_ rfl rfl hd ?_
  · rw [z_clamp g2 (by omega)]
    exact x5 _ (by omega)
  · have e0 : Value.int (xs i.toNat) = zen (.inl (xs i.toNat).toInt) := by
      show _ = Value.int (Int32.ofInt _)
      rw [Int32.ofInt_toInt]
    rw [e0]
    exact h5
theorem z_slen (hc : zOk p s m args meth c D cc nL own ret) {b L : Nat} {xs : Nat → Int32} (hX : va_X b L xs s s.heap) (hb : b + 1 < base) (hd : decode cc pc = .ok (.arraylength, 1)) (kk : zW p l e R s m args below meth c D base nL Qf cells slots (pc + 1) ρ (.inl (L : Int) :: st) h) : zW p l e R s m args below meth c D base nL Qf cells slots pc ρ (.inr (b + 1) :: st) h := by
  intro Hp locs ls h1 h2 h3 h4
  have h5 := kk Hp locs ls h1 h2 h3 h4
  obtain ⟨scr, x1, x2, x3, x4, x5⟩ := hX
  show W p l e R s m args below meth c Hp locs cells slots Qf (F0 m pc ls (.ref b :: st.map zen))
  exact W.alen (n := Int32.ofInt (L : Int)) hc.1 hc.2.1 (by rw [h2 b hb]; exact x1) x2 (by rw [x4]; exact (Int32.ofInt_eq_ofNat).symm) rfl rfl hd h5
/-- new int[n][k]: the outer row, then its rows -/
def zal2 (h : Zm) (n k : Nat) : Zm := (((fun b => if b = h.1.2 then (7, n) else if h.1.2 < b ∧ b ≤ h.1.2 + n then (1, k) else h.1.1 b), h.1.2 + 1 + n), (fun b j => if h.1.2 ≤ b ∧ b ≤ h.1.2 + n then 0 else h.2.1 b j), (fun b j => if b = h.1.2 then (if j.toNat < n then h.1.2 + 1 + j.toNat else 0) else if h.1.2 < b ∧ b ≤ h.1.2 + n then 0 else h.2.2 b j))
theorem z_outer (c : ClassId) (N h0 : Nat) : ∀ i : Nat, Jvm.Free.Multi.outerC c N h0 i = arrV c N (fun j => if j < i then .ref (h0 + 1 + j) else .null)
  | 0 => by
    show ({ cls := c, slots := Array.replicate N .null, vm := .none } : Cell) = _
    rw [arrV_new]
    rfl
  | i + 1 => by
    show (Jvm.Free.Multi.outerC c N h0 i).setSlot i (.ref (h0 + 1 + i)) = _
    rw [z_outer c N h0 i, arrV_store]
    refine congrArg (arrV c N) (z_upd ?_ ?_)
    · rw [if_pos (by omega)]
    · intro j hj
      by_cases q : j < i
      · rw [if_pos q, if_pos (by omega)]
      · rw [if_neg q, if_neg (by omega)]
def cNw2 (h : Zm) (n k : Nat) (Q : Nat → Zm → Prop) : Prop := Q h.1.2 (zal2 h n k)
theorem z_mna (hc : zOk p s m args meth c D cc nL own ret) {x n k : Nat} (hd : decode cc pc = .ok (.multianewarray x 2, 4)) (hw1 : Cond.classLink own x ("[" ++ (FieldType.array .int).toString) ∈ zT) (hw3 : Cond.arrayClass .int ∈ zT) (hn : n < 1000000) (hk : k < 1000000) (hcells : cells + (1 + n) ≤ R.cells) (hslots : slots + (n + n * k) ≤ R.slots) {Q : Nat → Zm → Prop} (H0 : cNw2 h n k Q) (kk : ∀ (a : Nat) (h' : Zm), Q a h' → zW p l e R s m args below meth c D base nL Qf (cells + 1 + n) (slots + n + n * k) (pc + 4) ρ (.inr a :: st) h') : zW p l e R s m args below meth c D base nL Qf cells slots pc ρ (.inl (k : Int) :: .inl (n : Int) :: st) h := by
  intro H locs ls h1 h2 h3 h4 T hT Xs
  have hN : ∀ q : Nat, q < 1000000 → (Int32.ofInt (q : Int)).toNatClampNeg = q := fun q hq => by
    rw [z_clamp (by omega) (by omega)]
    rfl
  have hneg : ∀ q : Nat, q < 1000000 → ¬ Int32.ofInt (q : Int) < 0 := fun q hq => by
    rw [z_0, z_lt ⟨by omega, by omega⟩ z_in0]
    omega
  obtain ⟨vm₁, cA, comp, -, fA, fC, hO, -, X', step⟩ := Xs.multianewarray2F (ty := .int) hc.1 hc.2.2.2.1 (hc.2.2.2.2.1 _ hw1) hc.2.2.2.2.2.1.2.2.2 (hc.2.2.2.2.1 _ hw3) (g := F0 m pc ls ((.inl (k : Int) :: .inl (n : Int) :: st).map zen)) rfl (by rw [hc.2.1]; exact hd) (n := Int32.ofInt (n : Int)) (k := Int32.ofInt (k : Int)) rfl (hneg n hn) (hneg k hk) (by rw [hN n hn]; omega) (by rw [hN k hk]; show k * 4 ≤ _; omega) (by rw [hN k hk]; omega) rfl rfl (by rw [hN n hn]; exact hcells) (by rw [hN n hn, hN k hk]; exact hslots)
  rw [hN n hn, hN k hk] at X' step
  have hs := h1.1.1
  have hK := hc.2.2.2.2.2.2.2
  have ec : comp = D.2 1 := by
    have : s.vm.findClass ("[" ++ (zaty 1).toString) = some (D.2 1) := (hK.2 1 (by omega) (by omega)).2
    exact Option.some.inj (fC.symm.trans this)
  have ea : cA = D.2 7 := by
    have : s.vm.findClass ("[" ++ (zaty 7).toString) = some (D.2 7) := (hK.2 7 (by omega) (by omega)).2
    exact Option.some.inj (fA.symm.trans this)
  subst ec ea
  generalize hF : Jvm.Free.Multi.fill (T.setVm vm₁) (D.2 7) (D.2 1) n k (defaultValue .int) n = F at X' step
  have hTh : (T.setVm vm₁).heap = H := hT
  obtain ⟨f1, f2, -, -⟩ := Jvm.Free.Multi.fill_facts (T.setVm vm₁) (D.2 7) (D.2 1) n k (defaultValue .int) n
  rw [hF, hTh] at f1 f2
  have hold : ∀ x : Nat, x < H.size → F.heap[x]? = H[x]? := fun x hx => by
    have := Jvm.Free.Multi.fill_old (T.setVm vm₁) (D.2 7) (D.2 1) n k (defaultValue .int) (a := x) (by rw [hTh]; exact hx) n
    rw [hF, hTh] at this
    exact this
  have hrow : ∀ j : Nat, j < n → F.heap[H.size + 1 + j]? = some (arrV (D.2 1) k (fun _ => .int 0)) := fun j hj => by
    have := Jvm.Free.Multi.fill_inner (T.setVm vm₁) (D.2 7) (D.2 1) n k (defaultValue .int) n j hj
    rw [hF, hTh] at this
    rw [this, ← arrV_new]
    rfl
  rw [z_outer] at f2
  have hkd : ∀ b, zkd (zal2 h n k) b = if b = h.1.2 then (7, n) else if h.1.2 < b ∧ b ≤ h.1.2 + n then (1, k) else zkd h b := fun b => rfl
  have hI : ∀ b j, zI (zal2 h n k) b j = if h.1.2 ≤ b ∧ b ≤ h.1.2 + n then 0 else zI h b j := fun b j => rfl
  have hRr : ∀ b j, zR (zal2 h n k) b j = if b = h.1.2 then (if j.toNat < n then h.1.2 + 1 + j.toNat else 0) else if h.1.2 < b ∧ b ≤ h.1.2 + n then 0 else zR h b j := fun b j => rfl
  have hRep : zRep D base (zal2 h n k) F.heap := by
    obtain ⟨⟨r1, r0⟩, r2, r3, r4⟩ := h1
    refine ⟨⟨by rw [f1]; show _ = h.1.2 + 1 + n; omega, by show base ≤ h.1.2 + 1 + n; omega⟩, fun b hb => ?_, fun b j => ?_, fun b => ?_⟩
    · show 1 ≤ b ∧ base ≤ b ∧ b < h.1.2 + 1 + n
      by_cases e1 : b = h.1.2
      · omega
      · by_cases e2 : h.1.2 < b ∧ b ≤ h.1.2 + n
        · omega
        · rw [hkd, if_neg e1, if_neg e2] at hb
          have := r2 b hb
          omega
    · rw [hI]
      split
      · exact z_in0
      · exact r3 b j
    · by_cases e1 : b = h.1.2
      · subst e1
        have ek : zkd (zal2 h n k) h.1.2 = (7, n) := by rw [hkd, if_pos rfl]
        refine ⟨fun q => by rw [ek] at q; omega, fun _ => ⟨?_, by rw [ek]; show n < _; omega⟩, fun q => by rw [ek] at q; omega⟩
        rw [ek, show h.1.2 - 1 = H.size by omega, f2]
        refine congrArg (fun z => some (arrV _ _ z)) (funext fun j => ?_)
        rw [hRr, if_pos rfl, Int.toNat_natCast]
        by_cases hj : j < n
        · rw [if_pos hj, if_pos hj]
          show Value.ref (H.size + 1 + j) = _
          rw [show h.1.2 + 1 + j = (H.size + 1 + j) + 1 by omega]
          rfl
        · rw [if_neg hj, if_neg hj]
          rfl
      · by_cases e2 : h.1.2 < b ∧ b ≤ h.1.2 + n
        · have ek : zkd (zal2 h n k) b = (1, k) := by rw [hkd, if_neg e1, if_pos e2]
          refine ⟨fun _ => ⟨?_, by rw [ek]; show k < _; omega⟩, fun q => by rw [ek] at q; omega, fun q => by rw [ek] at q; omega⟩
          rw [ek, show b - 1 = H.size + 1 + (b - 1 - (H.size + 1)) by omega, hrow _ (by omega)]
          refine congrArg (fun z => some (arrV _ _ z)) (funext fun j => ?_)
          rw [hI, if_pos (by omega)]
          rfl
        · have ek : zkd (zal2 h n k) b = zkd h b := by rw [hkd, if_neg e1, if_neg e2]
          by_cases q : (zkd h b).1 = 0
          · exact zAt_none (by rw [ek]; exact q)
          · have := r2 b q
            exact (r4 b).kept ek (fun j => by rw [hI, if_neg (by omega)]) (fun j => by rw [hRr, if_neg e1, if_neg e2]) (hold _ (by omega))
  obtain ⟨t, a1, b1⟩ := kk _ _ H0 F.heap locs ls hRep (fun q hq => by rw [hold q (by have := h1.1.2; omega)]; exact h2 q hq) h3 h4 F rfl X'
  refine ⟨t, step t ?_, b1⟩
  have e2 : (Value.ref T.heap.size : Value) = zen (.inr h.1.2) := by
    show _ = zrf h.1.2
    rw [← hs, hT]
    rfl
  rw [e2]
  exact a1
end ZS
end
section
/-! facts of the tables: classes, fields, calls (by gen.py) -/
theorem zc0 : zCf 0 RX0 TX0 3 := ⟨rfl, rfl, z_sub [194, 196, 198] (by decide +kernel) (by decide +kernel), tyX0_ok, nmX0⟩
theorem zc1 : zCf 1 RX1 TX1 2 := ⟨rfl, rfl, z_sub [272, 274] (by decide +kernel) (by decide +kernel), tyX1_ok, nmX1⟩
theorem zc2 : zCf 2 RX2 TX2 18 := ⟨rfl, rfl, z_sub [128, 130, 132, 134, 136, 138, 140, 142, 144, 146, 148, 150, 152, 154, 156, 158, 160, 162] (by decide +kernel) (by decide +kernel), tyX2_ok, nmX2⟩
theorem zc3 : zCf 3 RX3 TX3 3 := ⟨rfl, rfl, z_sub [254, 256, 258] (by decide +kernel) (by decide +kernel), tyX3_ok, nmX3⟩
theorem zc4 : zCf 4 RX4 TX4 8 := ⟨rfl, rfl, z_sub [222, 224, 226, 228, 230, 232, 234, 236] (by decide +kernel) (by decide +kernel), tyX4_ok, nmX4⟩
theorem zc5 : zCf 5 RX5 TX5 4 := ⟨rfl, rfl, z_sub [174, 176, 178, 180] (by decide +kernel) (by decide +kernel), tyX5_ok, nmX5⟩
theorem zc6 : zCf 6 RX6 TX6 8 := ⟨rfl, rfl, z_sub [285, 287, 289, 291, 293, 295, 297, 299] (by decide +kernel) (by decide +kernel), tyX6_ok, nmX6⟩
theorem zc7 : zCf 7 RX7 TX7 20 := ⟨rfl, rfl, z_sub [726, 728, 730, 732, 734, 736, 738, 740, 742, 744, 746, 748, 750, 752, 754, 756, 758, 760, 762, 764] (by decide +kernel) (by decide +kernel), tyX7_ok, nmX7⟩
theorem zf_RX6_12 : zFl RX6 12 6 0 true := ⟨RX6, TX6, 8, zc6, by decide, rfl, rfl, (zT_1 237 (by decide +kernel) rfl)⟩
theorem zf_RX6_16 : zFl RX6 16 6 1 true := ⟨RX6, TX6, 8, zc6, by decide, rfl, rfl, (zT_1 238 (by decide +kernel) rfl)⟩
theorem zf_RX6_20 : zFl RX6 20 6 2 false := ⟨RX6, TX6, 8, zc6, by decide, rfl, rfl, (zT_1 239 (by decide +kernel) rfl)⟩
theorem zf_RX6_27 : zFl RX6 27 6 3 true := ⟨RX6, TX6, 8, zc6, by decide, rfl, rfl, (zT_2 0 (by decide +kernel) rfl)⟩
theorem zf_RX6_34 : zFl RX6 34 6 4 true := ⟨RX6, TX6, 8, zc6, by decide, rfl, rfl, (zT_2 1 (by decide +kernel) rfl)⟩
theorem zf_RX6_41 : zFl RX6 41 6 5 true := ⟨RX6, TX6, 8, zc6, by decide, rfl, rfl, (zT_2 2 (by decide +kernel) rfl)⟩
theorem zf_RX6_45 : zFl RX6 45 6 6 true := ⟨RX6, TX6, 8, zc6, by decide, rfl, rfl, (zT_2 3 (by decide +kernel) rfl)⟩
theorem zf_RX6_49 : zFl RX6 49 6 7 true := ⟨RX6, TX6, 8, zc6, by decide, rfl, rfl, (zT_2 4 (by decide +kernel) rfl)⟩
theorem zf_RX6_56 : zFl RX6 56 4 0 false := ⟨RX4, TX4, 8, zc4, by decide, rfl, rfl, (zT_1 162 (by decide +kernel) rfl)⟩
theorem zf_RX6_59 : zFl RX6 59 4 1 false := ⟨RX4, TX4, 8, zc4, by decide, rfl, rfl, (zT_1 164 (by decide +kernel) rfl)⟩
theorem zf_RX6_73 : zFl RX6 73 4 6 true := ⟨RX4, TX4, 8, zc4, by decide, rfl, rfl, (zT_1 178 (by decide +kernel) rfl)⟩
theorem zf_RX6_83 : zFl RX6 83 2 3 false := ⟨RX2, TX2, 18, zc2, by decide, rfl, rfl, (zT_1 49 (by decide +kernel) rfl)⟩
theorem zf_RX6_86 : zFl RX6 86 2 4 false := ⟨RX2, TX2, 18, zc2, by decide, rfl, rfl, (zT_1 51 (by decide +kernel) rfl)⟩
theorem zf_RX6_89 : zFl RX6 89 2 5 false := ⟨RX2, TX2, 18, zc2, by decide, rfl, rfl, (zT_1 53 (by decide +kernel) rfl)⟩
theorem zf_RX6_106 : zFl RX6 106 2 16 false := ⟨RX2, TX2, 18, zc2, by decide, rfl, rfl, (zT_1 84 (by decide +kernel) rfl)⟩
theorem zf_RX6_109 : zFl RX6 109 2 17 false := ⟨RX2, TX2, 18, zc2, by decide, rfl, rfl, (zT_1 87 (by decide +kernel) rfl)⟩
theorem zf_RX6_112 : zFl RX6 112 2 9 false := ⟨RX2, TX2, 18, zc2, by decide, rfl, rfl, (zT_1 66 (by decide +kernel) rfl)⟩
theorem zf_RX6_115 : zFl RX6 115 2 10 false := ⟨RX2, TX2, 18, zc2, by decide, rfl, rfl, (zT_1 68 (by decide +kernel) rfl)⟩
theorem zf_RX6_118 : zFl RX6 118 2 11 false := ⟨RX2, TX2, 18, zc2, by decide, rfl, rfl, (zT_1 70 (by decide +kernel) rfl)⟩
theorem zf_RX6_121 : zFl RX6 121 2 12 false := ⟨RX2, TX2, 18, zc2, by decide, rfl, rfl, (zT_1 72 (by decide +kernel) rfl)⟩
theorem zf_RX6_124 : zFl RX6 124 2 13 false := ⟨RX2, TX2, 18, zc2, by decide, rfl, rfl, (zT_1 75 (by decide +kernel) rfl)⟩
theorem zf_RX6_127 : zFl RX6 127 2 14 false := ⟨RX2, TX2, 18, zc2, by decide, rfl, rfl, (zT_1 78 (by decide +kernel) rfl)⟩
theorem zf_RX6_130 : zFl RX6 130 2 15 false := ⟨RX2, TX2, 18, zc2, by decide, rfl, rfl, (zT_1 81 (by decide +kernel) rfl)⟩
theorem zf_RX6_147 : zFl RX6 147 2 2 false := ⟨RX2, TX2, 18, zc2, by decide, rfl, rfl, (zT_1 47 (by decide +kernel) rfl)⟩
theorem zf_RX6_150 : zFl RX6 150 2 0 false := ⟨RX2, TX2, 18, zc2, by decide, rfl, rfl, (zT_1 40 (by decide +kernel) rfl)⟩
theorem zf_RX6_153 : zFl RX6 153 2 1 false := ⟨RX2, TX2, 18, zc2, by decide, rfl, rfl, (zT_1 44 (by decide +kernel) rfl)⟩
theorem zf_RX6_165 : zFl RX6 165 5 3 false := ⟨RX5, TX5, 4, zc5, by decide, rfl, rfl, (zT_1 133 (by decide +kernel) rfl)⟩
theorem zf_RX6_171 : zFl RX6 171 4 2 false := ⟨RX4, TX4, 8, zc4, by decide, rfl, rfl, (zT_1 166 (by decide +kernel) rfl)⟩
theorem zf_RX6_174 : zFl RX6 174 4 3 false := ⟨RX4, TX4, 8, zc4, by decide, rfl, rfl, (zT_1 169 (by decide +kernel) rfl)⟩
theorem zf_RX6_177 : zFl RX6 177 4 4 false := ⟨RX4, TX4, 8, zc4, by decide, rfl, rfl, (zT_1 172 (by decide +kernel) rfl)⟩
theorem zf_RX6_180 : zFl RX6 180 4 5 true := ⟨RX4, TX4, 8, zc4, by decide, rfl, rfl, (zT_1 175 (by decide +kernel) rfl)⟩
theorem zf_RX6_186 : zFl RX6 186 4 7 true := ⟨RX4, TX4, 8, zc4, by decide, rfl, rfl, (zT_1 181 (by decide +kernel) rfl)⟩
theorem zf_RX6_198 : zFl RX6 198 0 2 false := ⟨RX0, TX0, 3, zc0, by decide, rfl, rfl, (zT_1 153 (by decide +kernel) rfl)⟩
theorem zf_RX6_222 : zFl RX6 222 3 0 true := ⟨RX3, TX3, 3, zc3, by decide, rfl, rfl, (zT_1 209 (by decide +kernel) rfl)⟩
theorem zf_RX6_239 : zFl RX6 239 5 1 true := ⟨RX5, TX5, 4, zc5, by decide, rfl, rfl, (zT_1 129 (by decide +kernel) rfl)⟩
theorem zf_RX6_242 : zFl RX6 242 2 6 false := ⟨RX2, TX2, 18, zc2, by decide, rfl, rfl, (zT_1 58 (by decide +kernel) rfl)⟩
theorem zf_RX6_245 : zFl RX6 245 2 7 false := ⟨RX2, TX2, 18, zc2, by decide, rfl, rfl, (zT_1 61 (by decide +kernel) rfl)⟩
theorem zf_RX6_248 : zFl RX6 248 2 8 false := ⟨RX2, TX2, 18, zc2, by decide, rfl, rfl, (zT_1 64 (by decide +kernel) rfl)⟩
theorem zf_RX6_264 : zFl RX6 264 3 2 true := ⟨RX3, TX3, 3, zc3, by decide, rfl, rfl, (zT_1 213 (by decide +kernel) rfl)⟩
theorem zf_RX6_273 : zFl RX6 273 3 1 true := ⟨RX3, TX3, 3, zc3, by decide, rfl, rfl, (zT_1 211 (by decide +kernel) rfl)⟩
theorem zf_RX6_283 : zFl RX6 283 1 1 false := ⟨RX1, TX1, 2, zc1, by decide, rfl, rfl, (zT_1 231 (by decide +kernel) rfl)⟩
theorem zf_RX0_9 : zFl RX0 9 0 0 true := ⟨RX0, TX0, 3, zc0, by decide, rfl, rfl, (zT_1 150 (by decide +kernel) rfl)⟩
theorem zf_RX0_15 : zFl RX0 15 0 1 true := ⟨RX0, TX0, 3, zc0, by decide, rfl, rfl, (zT_1 151 (by decide +kernel) rfl)⟩
theorem zf_RX0_18 : zFl RX0 18 0 2 false := ⟨RX0, TX0, 3, zc0, by decide, rfl, rfl, (zT_1 152 (by decide +kernel) rfl)⟩
theorem zf_RX1_11 : zFl RX1 11 1 0 true := ⟨RX1, TX1, 2, zc1, by decide, rfl, rfl, (zT_1 229 (by decide +kernel) rfl)⟩
theorem zf_RX1_16 : zFl RX1 16 1 1 false := ⟨RX1, TX1, 2, zc1, by decide, rfl, rfl, (zT_1 230 (by decide +kernel) rfl)⟩
theorem zf_RX2_9 : zFl RX2 9 2 0 false := ⟨RX2, TX2, 18, zc2, by decide, rfl, rfl, (zT_1 37 (by decide +kernel) rfl)⟩
theorem zf_RX2_15 : zFl RX2 15 2 1 false := ⟨RX2, TX2, 18, zc2, by decide, rfl, rfl, (zT_1 41 (by decide +kernel) rfl)⟩
theorem zf_RX2_18 : zFl RX2 18 2 11 false := ⟨RX2, TX2, 18, zc2, by decide, rfl, rfl, (zT_1 69 (by decide +kernel) rfl)⟩
theorem zf_RX2_21 : zFl RX2 21 2 12 false := ⟨RX2, TX2, 18, zc2, by decide, rfl, rfl, (zT_1 71 (by decide +kernel) rfl)⟩
theorem zf_RX2_24 : zFl RX2 24 2 9 false := ⟨RX2, TX2, 18, zc2, by decide, rfl, rfl, (zT_1 65 (by decide +kernel) rfl)⟩
theorem zf_RX2_27 : zFl RX2 27 2 10 false := ⟨RX2, TX2, 18, zc2, by decide, rfl, rfl, (zT_1 67 (by decide +kernel) rfl)⟩
theorem zf_RX2_30 : zFl RX2 30 2 13 false := ⟨RX2, TX2, 18, zc2, by decide, rfl, rfl, (zT_1 73 (by decide +kernel) rfl)⟩
theorem zf_RX2_33 : zFl RX2 33 2 14 false := ⟨RX2, TX2, 18, zc2, by decide, rfl, rfl, (zT_1 76 (by decide +kernel) rfl)⟩
theorem zf_RX2_36 : zFl RX2 36 2 15 false := ⟨RX2, TX2, 18, zc2, by decide, rfl, rfl, (zT_1 79 (by decide +kernel) rfl)⟩
theorem zf_RX2_39 : zFl RX2 39 2 2 false := ⟨RX2, TX2, 18, zc2, by decide, rfl, rfl, (zT_1 45 (by decide +kernel) rfl)⟩
theorem zf_RX2_42 : zFl RX2 42 2 3 false := ⟨RX2, TX2, 18, zc2, by decide, rfl, rfl, (zT_1 50 (by decide +kernel) rfl)⟩
theorem zf_RX2_45 : zFl RX2 45 2 4 false := ⟨RX2, TX2, 18, zc2, by decide, rfl, rfl, (zT_1 52 (by decide +kernel) rfl)⟩
theorem zf_RX2_48 : zFl RX2 48 2 5 false := ⟨RX2, TX2, 18, zc2, by decide, rfl, rfl, (zT_1 54 (by decide +kernel) rfl)⟩
theorem zf_RX2_51 : zFl RX2 51 2 6 false := ⟨RX2, TX2, 18, zc2, by decide, rfl, rfl, (zT_1 57 (by decide +kernel) rfl)⟩
theorem zf_RX2_54 : zFl RX2 54 2 7 false := ⟨RX2, TX2, 18, zc2, by decide, rfl, rfl, (zT_1 60 (by decide +kernel) rfl)⟩
theorem zf_RX2_57 : zFl RX2 57 2 8 false := ⟨RX2, TX2, 18, zc2, by decide, rfl, rfl, (zT_1 63 (by decide +kernel) rfl)⟩
theorem zf_RX2_67 : zFl RX2 67 2 16 false := ⟨RX2, TX2, 18, zc2, by decide, rfl, rfl, (zT_1 83 (by decide +kernel) rfl)⟩
theorem zf_RX2_70 : zFl RX2 70 2 17 false := ⟨RX2, TX2, 18, zc2, by decide, rfl, rfl, (zT_1 86 (by decide +kernel) rfl)⟩
theorem zf_RX3_9 : zFl RX3 9 3 0 true := ⟨RX3, TX3, 3, zc3, by decide, rfl, rfl, (zT_1 208 (by decide +kernel) rfl)⟩
theorem zf_RX3_15 : zFl RX3 15 3 1 true := ⟨RX3, TX3, 3, zc3, by decide, rfl, rfl, (zT_1 210 (by decide +kernel) rfl)⟩
theorem zf_RX3_18 : zFl RX3 18 3 2 true := ⟨RX3, TX3, 3, zc3, by decide, rfl, rfl, (zT_1 212 (by decide +kernel) rfl)⟩
theorem zf_RX3_24 : zFl RX3 24 4 6 true := ⟨RX4, TX4, 8, zc4, by decide, rfl, rfl, (zT_1 177 (by decide +kernel) rfl)⟩
theorem zf_RX3_30 : zFl RX3 30 5 3 false := ⟨RX5, TX5, 4, zc5, by decide, rfl, rfl, (zT_1 132 (by decide +kernel) rfl)⟩
theorem zf_RX3_36 : zFl RX3 36 5 1 true := ⟨RX5, TX5, 4, zc5, by decide, rfl, rfl, (zT_1 128 (by decide +kernel) rfl)⟩
theorem zf_RX3_43 : zFl RX3 43 2 1 false := ⟨RX2, TX2, 18, zc2, by decide, rfl, rfl, (zT_1 42 (by decide +kernel) rfl)⟩
theorem zf_RX3_48 : zFl RX3 48 2 7 false := ⟨RX2, TX2, 18, zc2, by decide, rfl, rfl, (zT_1 59 (by decide +kernel) rfl)⟩
theorem zf_RX3_51 : zFl RX3 51 2 8 false := ⟨RX2, TX2, 18, zc2, by decide, rfl, rfl, (zT_1 62 (by decide +kernel) rfl)⟩
theorem zf_RX3_58 : zFl RX3 58 2 6 false := ⟨RX2, TX2, 18, zc2, by decide, rfl, rfl, (zT_1 56 (by decide +kernel) rfl)⟩
theorem zf_RX3_65 : zFl RX3 65 2 0 false := ⟨RX2, TX2, 18, zc2, by decide, rfl, rfl, (zT_1 39 (by decide +kernel) rfl)⟩
theorem zf_RX3_68 : zFl RX3 68 2 13 false := ⟨RX2, TX2, 18, zc2, by decide, rfl, rfl, (zT_1 74 (by decide +kernel) rfl)⟩
theorem zf_RX3_71 : zFl RX3 71 2 14 false := ⟨RX2, TX2, 18, zc2, by decide, rfl, rfl, (zT_1 77 (by decide +kernel) rfl)⟩
theorem zf_RX3_74 : zFl RX3 74 2 15 false := ⟨RX2, TX2, 18, zc2, by decide, rfl, rfl, (zT_1 80 (by decide +kernel) rfl)⟩
theorem zf_RX3_85 : zFl RX3 85 2 16 false := ⟨RX2, TX2, 18, zc2, by decide, rfl, rfl, (zT_1 82 (by decide +kernel) rfl)⟩
theorem zf_RX3_92 : zFl RX3 92 2 17 false := ⟨RX2, TX2, 18, zc2, by decide, rfl, rfl, (zT_1 85 (by decide +kernel) rfl)⟩
theorem zf_RX3_99 : zFl RX3 99 4 5 true := ⟨RX4, TX4, 8, zc4, by decide, rfl, rfl, (zT_1 174 (by decide +kernel) rfl)⟩
theorem zf_RX3_111 : zFl RX3 111 4 3 false := ⟨RX4, TX4, 8, zc4, by decide, rfl, rfl, (zT_1 168 (by decide +kernel) rfl)⟩
theorem zf_RX3_114 : zFl RX3 114 4 7 true := ⟨RX4, TX4, 8, zc4, by decide, rfl, rfl, (zT_1 180 (by decide +kernel) rfl)⟩
theorem zf_RX3_124 : zFl RX3 124 4 4 false := ⟨RX4, TX4, 8, zc4, by decide, rfl, rfl, (zT_1 171 (by decide +kernel) rfl)⟩
theorem zf_RX4_9 : zFl RX4 9 4 0 false := ⟨RX4, TX4, 8, zc4, by decide, rfl, rfl, (zT_1 161 (by decide +kernel) rfl)⟩
theorem zf_RX4_15 : zFl RX4 15 4 1 false := ⟨RX4, TX4, 8, zc4, by decide, rfl, rfl, (zT_1 163 (by decide +kernel) rfl)⟩
theorem zf_RX4_18 : zFl RX4 18 4 2 false := ⟨RX4, TX4, 8, zc4, by decide, rfl, rfl, (zT_1 165 (by decide +kernel) rfl)⟩
theorem zf_RX4_21 : zFl RX4 21 4 3 false := ⟨RX4, TX4, 8, zc4, by decide, rfl, rfl, (zT_1 167 (by decide +kernel) rfl)⟩
theorem zf_RX4_24 : zFl RX4 24 4 4 false := ⟨RX4, TX4, 8, zc4, by decide, rfl, rfl, (zT_1 170 (by decide +kernel) rfl)⟩
theorem zf_RX4_27 : zFl RX4 27 4 5 true := ⟨RX4, TX4, 8, zc4, by decide, rfl, rfl, (zT_1 173 (by decide +kernel) rfl)⟩
theorem zf_RX4_34 : zFl RX4 34 4 6 true := ⟨RX4, TX4, 8, zc4, by decide, rfl, rfl, (zT_1 176 (by decide +kernel) rfl)⟩
theorem zf_RX4_40 : zFl RX4 40 4 7 true := ⟨RX4, TX4, 8, zc4, by decide, rfl, rfl, (zT_1 179 (by decide +kernel) rfl)⟩
theorem zf_RX5_11 : zFl RX5 11 5 0 true := ⟨RX5, TX5, 4, zc5, by decide, rfl, rfl, (zT_1 126 (by decide +kernel) rfl)⟩
theorem zf_RX5_18 : zFl RX5 18 5 1 true := ⟨RX5, TX5, 4, zc5, by decide, rfl, rfl, (zT_1 127 (by decide +kernel) rfl)⟩
theorem zf_RX5_22 : zFl RX5 22 5 2 true := ⟨RX5, TX5, 4, zc5, by decide, rfl, rfl, (zT_1 130 (by decide +kernel) rfl)⟩
theorem zf_RX5_25 : zFl RX5 25 5 3 false := ⟨RX5, TX5, 4, zc5, by decide, rfl, rfl, (zT_1 131 (by decide +kernel) rfl)⟩
theorem zf_RX5_29 : zFl RX5 29 2 0 false := ⟨RX2, TX2, 18, zc2, by decide, rfl, rfl, (zT_1 38 (by decide +kernel) rfl)⟩
theorem zf_RX5_32 : zFl RX5 32 2 3 false := ⟨RX2, TX2, 18, zc2, by decide, rfl, rfl, (zT_1 48 (by decide +kernel) rfl)⟩
theorem zf_RX5_35 : zFl RX5 35 2 6 false := ⟨RX2, TX2, 18, zc2, by decide, rfl, rfl, (zT_1 55 (by decide +kernel) rfl)⟩
theorem zf_RX5_54 : zFl RX5 54 2 2 false := ⟨RX2, TX2, 18, zc2, by decide, rfl, rfl, (zT_1 46 (by decide +kernel) rfl)⟩
theorem zf_RX5_66 : zFl RX5 66 2 1 false := ⟨RX2, TX2, 18, zc2, by decide, rfl, rfl, (zT_1 43 (by decide +kernel) rfl)⟩
theorem zf_RX7_7 : zFl RX7 7 7 0 true := ⟨RX7, TX7, 20, zc7, by decide, rfl, rfl, (zT_3 186 (by decide +kernel) rfl)⟩
theorem zf_RX7_13 : zFl RX7 13 7 1 true := ⟨RX7, TX7, 20, zc7, by decide, rfl, rfl, (zT_3 187 (by decide +kernel) rfl)⟩
theorem zf_RX7_16 : zFl RX7 16 7 2 true := ⟨RX7, TX7, 20, zc7, by decide, rfl, rfl, (zT_3 188 (by decide +kernel) rfl)⟩
theorem zf_RX7_19 : zFl RX7 19 7 4 true := ⟨RX7, TX7, 20, zc7, by decide, rfl, rfl, (zT_3 190 (by decide +kernel) rfl)⟩
theorem zf_RX7_22 : zFl RX7 22 7 5 true := ⟨RX7, TX7, 20, zc7, by decide, rfl, rfl, (zT_3 191 (by decide +kernel) rfl)⟩
theorem zf_RX7_25 : zFl RX7 25 7 6 true := ⟨RX7, TX7, 20, zc7, by decide, rfl, rfl, (zT_3 192 (by decide +kernel) rfl)⟩
theorem zf_RX7_29 : zFl RX7 29 7 7 true := ⟨RX7, TX7, 20, zc7, by decide, rfl, rfl, (zT_3 193 (by decide +kernel) rfl)⟩
theorem zf_RX7_32 : zFl RX7 32 7 8 true := ⟨RX7, TX7, 20, zc7, by decide, rfl, rfl, (zT_3 194 (by decide +kernel) rfl)⟩
theorem zf_RX7_35 : zFl RX7 35 7 10 true := ⟨RX7, TX7, 20, zc7, by decide, rfl, rfl, (zT_3 196 (by decide +kernel) rfl)⟩
theorem zf_RX7_38 : zFl RX7 38 7 11 true := ⟨RX7, TX7, 20, zc7, by decide, rfl, rfl, (zT_3 197 (by decide +kernel) rfl)⟩
theorem zf_RX7_41 : zFl RX7 41 7 12 true := ⟨RX7, TX7, 20, zc7, by decide, rfl, rfl, (zT_3 198 (by decide +kernel) rfl)⟩
theorem zf_RX7_44 : zFl RX7 44 7 13 true := ⟨RX7, TX7, 20, zc7, by decide, rfl, rfl, (zT_3 199 (by decide +kernel) rfl)⟩
theorem zf_RX7_47 : zFl RX7 47 7 14 true := ⟨RX7, TX7, 20, zc7, by decide, rfl, rfl, (zT_3 200 (by decide +kernel) rfl)⟩
theorem zf_RX7_50 : zFl RX7 50 7 15 true := ⟨RX7, TX7, 20, zc7, by decide, rfl, rfl, (zT_3 201 (by decide +kernel) rfl)⟩
theorem zf_RX7_53 : zFl RX7 53 7 16 true := ⟨RX7, TX7, 20, zc7, by decide, rfl, rfl, (zT_3 202 (by decide +kernel) rfl)⟩
theorem zf_RX7_56 : zFl RX7 56 7 17 true := ⟨RX7, TX7, 20, zc7, by decide, rfl, rfl, (zT_3 203 (by decide +kernel) rfl)⟩
theorem zf_RX7_59 : zFl RX7 59 7 18 true := ⟨RX7, TX7, 20, zc7, by decide, rfl, rfl, (zT_3 204 (by decide +kernel) rfl)⟩
theorem zf_RX7_62 : zFl RX7 62 7 3 false := ⟨RX7, TX7, 20, zc7, by decide, rfl, rfl, (zT_3 189 (by decide +kernel) rfl)⟩
theorem zf_RX7_126 : zFl RX7 126 7 9 false := ⟨RX7, TX7, 20, zc7, by decide, rfl, rfl, (zT_3 195 (by decide +kernel) rfl)⟩
theorem zf_RX7_176 : zFl RX7 176 7 19 false := ⟨RX7, TX7, 20, zc7, by decide, rfl, rfl, (zT_3 205 (by decide +kernel) rfl)⟩
theorem zw_RX6_11 : zCi RX6 11 yX4_init cX4_init 2 0 := ⟨⟨(zT_1 20 (by decide +kernel) rfl), (zT_1 21 (by decide +kernel) rfl), rfl, (zT_1 2 (by decide +kernel) rfl), (zT_1 22 (by decide +kernel) rfl)⟩, by decide +kernel, by decide +kernel, by decide +kernel⟩
theorem zw_RX6_26 : zCi RX6 26 yX2_init cX2_init 1 0 := ⟨⟨(zT_1 201 (by decide +kernel) rfl), (zT_1 34 (by decide +kernel) rfl), rfl, (zT_1 4 (by decide +kernel) rfl), (zT_1 35 (by decide +kernel) rfl)⟩, by decide +kernel, by decide +kernel, by decide +kernel⟩
theorem zw_RX6_33 : zCi RX6 33 yX3_init cX3_init 1 0 := ⟨⟨(zT_1 204 (by decide +kernel) rfl), (zT_1 205 (by decide +kernel) rfl), rfl, (zT_1 6 (by decide +kernel) rfl), (zT_1 206 (by decide +kernel) rfl)⟩, by decide +kernel, by decide +kernel, by decide +kernel⟩
theorem zw_RX6_40 : zCi RX6 40 yX1_init cX1_init 1 0 := ⟨⟨(zT_1 223 (by decide +kernel) rfl), (zT_1 224 (by decide +kernel) rfl), rfl, (zT_1 7 (by decide +kernel) rfl), (zT_1 225 (by decide +kernel) rfl)⟩, by decide +kernel, by decide +kernel, by decide +kernel⟩
theorem zw_RX6_52 : zCs RX6 52 yX6_within cX6_within 3 (some .boolean) 3 := ⟨⟨(zT_2 26 (by decide +kernel) rfl), (zT_2 27 (by decide +kernel) rfl), (zT_1 1 (by decide +kernel) rfl), (zT_2 28 (by decide +kernel) rfl)⟩, by decide +kernel, by decide +kernel, by decide +kernel⟩
theorem zw_RX6_62 : zCv RX6 62 yX6_remember cX6_remember 3 none 0 := ⟨⟨(zT_2 29 (by decide +kernel) rfl), (zT_2 31 (by decide +kernel) rfl), (zT_0 0 (by decide +kernel) rfl), (zT_1 1 (by decide +kernel) rfl), (zT_2 32 (by decide +kernel) rfl)⟩, by decide +kernel, by decide +kernel, by decide +kernel⟩
theorem zw_RX6_65 : zCs RX6 65 yX6_isOffset cX6_isOffset 1 (some .boolean) 1 := ⟨⟨(zT_2 61 (by decide +kernel) rfl), (zT_2 62 (by decide +kernel) rfl), (zT_1 1 (by decide +kernel) rfl), (zT_2 63 (by decide +kernel) rfl)⟩, by decide +kernel, by decide +kernel, by decide +kernel⟩
theorem zw_RX6_69 : zCv RX6 69 yX6_numberBelow cX6_numberBelow 4 (some .int) 1 := ⟨⟨(zT_2 64 (by decide +kernel) rfl), (zT_2 66 (by decide +kernel) rfl), (zT_0 1 (by decide +kernel) rfl), (zT_1 1 (by decide +kernel) rfl), (zT_2 67 (by decide +kernel) rfl)⟩, by decide +kernel, by decide +kernel, by decide +kernel⟩
theorem zw_RX6_77 : zCv RX6 77 yX5_nodeAt cX5_nodeAt 2 (some (.object RX2)) 1 := ⟨⟨(zT_2 73 (by decide +kernel) rfl), (zT_2 74 (by decide +kernel) rfl), (zT_2 75 (by decide +kernel) rfl), (zT_1 3 (by decide +kernel) rfl), (zT_2 76 (by decide +kernel) rfl)⟩, by decide +kernel, by decide +kernel, by decide +kernel⟩
theorem zw_RX6_92 : zCv RX6 92 yX5_append cX5_append 4 none 3 := ⟨⟨(zT_2 81 (by decide +kernel) rfl), (zT_2 82 (by decide +kernel) rfl), (zT_2 83 (by decide +kernel) rfl), (zT_1 3 (by decide +kernel) rfl), (zT_2 84 (by decide +kernel) rfl)⟩, by decide +kernel, by decide +kernel, by decide +kernel⟩
theorem zw_RX6_96 : zCv RX6 96 yX2_takeBox cX2_takeBox 2 none 1 := ⟨⟨(zT_2 113 (by decide +kernel) rfl), (zT_2 46 (by decide +kernel) rfl), (zT_2 47 (by decide +kernel) rfl), (zT_1 4 (by decide +kernel) rfl), (zT_2 48 (by decide +kernel) rfl)⟩, by decide +kernel, by decide +kernel, by decide +kernel⟩
theorem zw_RX6_100 : zCv RX6 100 yX2_takeColor cX2_takeColor 2 none 1 := ⟨⟨(zT_2 114 (by decide +kernel) rfl), (zT_2 50 (by decide +kernel) rfl), (zT_2 51 (by decide +kernel) rfl), (zT_1 4 (by decide +kernel) rfl), (zT_2 52 (by decide +kernel) rfl)⟩, by decide +kernel, by decide +kernel, by decide +kernel⟩
theorem zw_RX6_103 : zCs RX6 103 yX6_isPart cX6_isPart 1 (some .boolean) 1 := ⟨⟨(zT_2 119 (by decide +kernel) rfl), (zT_2 120 (by decide +kernel) rfl), (zT_1 1 (by decide +kernel) rfl), (zT_2 121 (by decide +kernel) rfl)⟩, by decide +kernel, by decide +kernel, by decide +kernel⟩
theorem zw_RX6_133 : zCv RX6 133 yX5_has cX5_has 2 (some .boolean) 1 := ⟨⟨(zT_2 68 (by decide +kernel) rfl), (zT_2 69 (by decide +kernel) rfl), (zT_2 70 (by decide +kernel) rfl), (zT_1 3 (by decide +kernel) rfl), (zT_2 71 (by decide +kernel) rfl)⟩, by decide +kernel, by decide +kernel, by decide +kernel⟩
theorem zw_RX6_136 : zCv RX6 136 yX5_cutAndFree cX5_cutAndFree 5 (some .int) 1 := ⟨⟨(zT_2 134 (by decide +kernel) rfl), (zT_2 135 (by decide +kernel) rfl), (zT_2 136 (by decide +kernel) rfl), (zT_1 3 (by decide +kernel) rfl), (zT_2 137 (by decide +kernel) rfl)⟩, by decide +kernel, by decide +kernel, by decide +kernel⟩
theorem zw_RX6_139 : zCv RX6 139 yX5_canHang cX5_canHang 7 (some .boolean) 2 := ⟨⟨(zT_2 146 (by decide +kernel) rfl), (zT_2 147 (by decide +kernel) rfl), (zT_2 148 (by decide +kernel) rfl), (zT_1 3 (by decide +kernel) rfl), (zT_2 149 (by decide +kernel) rfl)⟩, by decide +kernel, by decide +kernel, by decide +kernel⟩
theorem zw_RX6_143 : zCv RX6 143 yX5_hang cX5_hang 3 none 2 := ⟨⟨(zT_2 153 (by decide +kernel) rfl), (zT_2 154 (by decide +kernel) rfl), (zT_2 155 (by decide +kernel) rfl), (zT_1 3 (by decide +kernel) rfl), (zT_2 156 (by decide +kernel) rfl)⟩, by decide +kernel, by decide +kernel, by decide +kernel⟩
theorem zw_RX6_156 : zCv RX6 156 yX5_childrenOf cX5_childrenOf 4 (some .int) 1 := ⟨⟨(zT_2 161 (by decide +kernel) rfl), (zT_2 162 (by decide +kernel) rfl), (zT_2 163 (by decide +kernel) rfl), (zT_1 3 (by decide +kernel) rfl), (zT_2 164 (by decide +kernel) rfl)⟩, by decide +kernel, by decide +kernel, by decide +kernel⟩
theorem zw_RX6_159 : zCv RX6 159 yX5_belowOf cX5_belowOf 2 (some .int) 1 := ⟨⟨(zT_2 165 (by decide +kernel) rfl), (zT_2 166 (by decide +kernel) rfl), (zT_2 167 (by decide +kernel) rfl), (zT_1 3 (by decide +kernel) rfl), (zT_2 168 (by decide +kernel) rfl)⟩, by decide +kernel, by decide +kernel, by decide +kernel⟩
theorem zw_RX6_162 : zCv RX6 162 yX5_placeOf cX5_placeOf 5 (some .int) 1 := ⟨⟨(zT_2 169 (by decide +kernel) rfl), (zT_2 170 (by decide +kernel) rfl), (zT_2 171 (by decide +kernel) rfl), (zT_1 3 (by decide +kernel) rfl), (zT_2 172 (by decide +kernel) rfl)⟩, by decide +kernel, by decide +kernel, by decide +kernel⟩
theorem zw_RX6_168 : zCs RX6 168 yX6_greatestSetting cX6_greatestSetting 1 (some .int) 1 := ⟨⟨(zT_2 181 (by decide +kernel) rfl), (zT_2 182 (by decide +kernel) rfl), (zT_1 1 (by decide +kernel) rfl), (zT_2 183 (by decide +kernel) rfl)⟩, by decide +kernel, by decide +kernel, by decide +kernel⟩
theorem zw_RX6_183 : zCs RX6 183 yX6_isPlate cX6_isPlate 1 (some .boolean) 1 := ⟨⟨(zT_2 192 (by decide +kernel) rfl), (zT_2 193 (by decide +kernel) rfl), (zT_1 1 (by decide +kernel) rfl), (zT_2 194 (by decide +kernel) rfl)⟩, by decide +kernel, by decide +kernel, by decide +kernel⟩
theorem zw_RX6_190 : zCv RX6 190 yX0_keepsRising cX0_keepsRising 4 (some .boolean) 2 := ⟨⟨(zT_2 195 (by decide +kernel) rfl), (zT_2 196 (by decide +kernel) rfl), (zT_2 197 (by decide +kernel) rfl), (zT_1 5 (by decide +kernel) rfl), (zT_2 198 (by decide +kernel) rfl)⟩, by decide +kernel, by decide +kernel, by decide +kernel⟩
theorem zw_RX6_195 : zCv RX6 195 yX0_indexOf cX0_indexOf 3 (some .int) 1 := ⟨⟨(zT_2 199 (by decide +kernel) rfl), (zT_2 200 (by decide +kernel) rfl), (zT_2 201 (by decide +kernel) rfl), (zT_1 5 (by decide +kernel) rfl), (zT_2 202 (by decide +kernel) rfl)⟩, by decide +kernel, by decide +kernel, by decide +kernel⟩
theorem zw_RX6_199 : zCv RX6 199 yX0_put cX0_put 4 none 2 := ⟨⟨(zT_2 203 (by decide +kernel) rfl), (zT_2 204 (by decide +kernel) rfl), (zT_2 205 (by decide +kernel) rfl), (zT_1 5 (by decide +kernel) rfl), (zT_2 206 (by decide +kernel) rfl)⟩, by decide +kernel, by decide +kernel, by decide +kernel⟩
theorem zw_RX6_202 : zCv RX6 202 yX0_drop cX0_drop 4 (some .int) 1 := ⟨⟨(zT_2 216 (by decide +kernel) rfl), (zT_2 217 (by decide +kernel) rfl), (zT_2 218 (by decide +kernel) rfl), (zT_1 5 (by decide +kernel) rfl), (zT_2 219 (by decide +kernel) rfl)⟩, by decide +kernel, by decide +kernel, by decide +kernel⟩
theorem zw_RX6_205 : zCv RX6 205 yX0_valueAt cX0_valueAt 3 (some .int) 1 := ⟨⟨(zT_2 224 (by decide +kernel) rfl), (zT_2 225 (by decide +kernel) rfl), (zT_2 226 (by decide +kernel) rfl), (zT_1 5 (by decide +kernel) rfl), (zT_2 227 (by decide +kernel) rfl)⟩, by decide +kernel, by decide +kernel, by decide +kernel⟩
theorem zw_RX6_208 : zCv RX6 208 yX0_straighten cX0_straighten 4 none 0 := ⟨⟨(zT_3 0 (by decide +kernel) rfl), (zT_3 1 (by decide +kernel) rfl), (zT_3 2 (by decide +kernel) rfl), (zT_1 5 (by decide +kernel) rfl), (zT_3 3 (by decide +kernel) rfl)⟩, by decide +kernel, by decide +kernel, by decide +kernel⟩
theorem zw_RX6_211 : zCs RX6 211 yX6_greatestDifference cX6_greatestDifference 5 (some .int) 2 := ⟨⟨(zT_3 5 (by decide +kernel) rfl), (zT_3 6 (by decide +kernel) rfl), (zT_1 1 (by decide +kernel) rfl), (zT_3 7 (by decide +kernel) rfl)⟩, by decide +kernel, by decide +kernel, by decide +kernel⟩
theorem zw_RX6_215 : zCv RX6 215 yX6_isPixel cX6_isPixel 3 (some .boolean) 2 := ⟨⟨(zT_3 16 (by decide +kernel) rfl), (zT_3 18 (by decide +kernel) rfl), (zT_0 2 (by decide +kernel) rfl), (zT_1 1 (by decide +kernel) rfl), (zT_3 19 (by decide +kernel) rfl)⟩, by decide +kernel, by decide +kernel, by decide +kernel⟩
theorem zw_RX6_218 : zCv RX6 218 yX3_render cX3_render 7 none 3 := ⟨⟨(zT_3 20 (by decide +kernel) rfl), (zT_3 21 (by decide +kernel) rfl), (zT_3 22 (by decide +kernel) rfl), (zT_1 6 (by decide +kernel) rfl), (zT_3 23 (by decide +kernel) rfl)⟩, by decide +kernel, by decide +kernel, by decide +kernel⟩
theorem zw_RX6_225 : zCv RX6 225 yX6_separateAt cX6_separateAt 3 none 2 := ⟨⟨(zT_3 58 (by decide +kernel) rfl), (zT_3 60 (by decide +kernel) rfl), (zT_0 3 (by decide +kernel) rfl), (zT_1 1 (by decide +kernel) rfl), (zT_3 61 (by decide +kernel) rfl)⟩, by decide +kernel, by decide +kernel, by decide +kernel⟩
theorem zw_RX6_228 : zCv RX6 228 yX3_valueOf cX3_valueOf 2 (some .int) 1 := ⟨⟨(zT_3 76 (by decide +kernel) rfl), (zT_3 77 (by decide +kernel) rfl), (zT_3 78 (by decide +kernel) rfl), (zT_1 6 (by decide +kernel) rfl), (zT_3 79 (by decide +kernel) rfl)⟩, by decide +kernel, by decide +kernel, by decide +kernel⟩
theorem zw_RX6_232 : zCv RX6 232 yX3_clear cX3_clear 2 none 0 := ⟨⟨(zT_3 88 (by decide +kernel) rfl), (zT_3 25 (by decide +kernel) rfl), (zT_3 26 (by decide +kernel) rfl), (zT_1 6 (by decide +kernel) rfl), (zT_3 27 (by decide +kernel) rfl)⟩, by decide +kernel, by decide +kernel, by decide +kernel⟩
theorem zw_RX6_235 : zCv RX6 235 yX3_separate cX3_separate 7 none 2 := ⟨⟨(zT_3 62 (by decide +kernel) rfl), (zT_3 63 (by decide +kernel) rfl), (zT_3 64 (by decide +kernel) rfl), (zT_1 6 (by decide +kernel) rfl), (zT_3 65 (by decide +kernel) rfl)⟩, by decide +kernel, by decide +kernel, by decide +kernel⟩
theorem zw_RX6_251 : zCv RX6 251 yX2_contains cX2_contains 3 (some .boolean) 2 := ⟨⟨(zT_3 93 (by decide +kernel) rfl), (zT_3 30 (by decide +kernel) rfl), (zT_3 31 (by decide +kernel) rfl), (zT_1 4 (by decide +kernel) rfl), (zT_3 32 (by decide +kernel) rfl)⟩, by decide +kernel, by decide +kernel, by decide +kernel⟩
theorem zw_RX6_254 : zCv RX6 254 yX6_addUpPlates cX6_addUpPlates 4 none 0 := ⟨⟨(zT_3 98 (by decide +kernel) rfl), (zT_3 100 (by decide +kernel) rfl), (zT_0 4 (by decide +kernel) rfl), (zT_1 1 (by decide +kernel) rfl), (zT_3 101 (by decide +kernel) rfl)⟩, by decide +kernel, by decide +kernel, by decide +kernel⟩
theorem zw_RX6_257 : zCs RX6 257 yX6_sumOf cX6_sumOf 6 (some .int) 1 := ⟨⟨(zT_3 102 (by decide +kernel) rfl), (zT_3 81 (by decide +kernel) rfl), (zT_1 1 (by decide +kernel) rfl), (zT_3 82 (by decide +kernel) rfl)⟩, by decide +kernel, by decide +kernel, by decide +kernel⟩
theorem zw_RX6_261 : zCv RX6 261 yX6_platesBefore cX6_platesBefore 5 (some .int) 1 := ⟨⟨(zT_3 107 (by decide +kernel) rfl), (zT_3 109 (by decide +kernel) rfl), (zT_0 5 (by decide +kernel) rfl), (zT_1 1 (by decide +kernel) rfl), (zT_3 110 (by decide +kernel) rfl)⟩, by decide +kernel, by decide +kernel, by decide +kernel⟩
theorem zw_RX6_267 : zCs RX6 267 yJ9_max_7cf53 cJ9_max_7cf53 2 (some .int) 2 := ⟨⟨(zT_3 11 (by decide +kernel) rfl), (zT_2 151 (by decide +kernel) rfl), (zT_1 9 (by decide +kernel) rfl), (zT_2 152 (by decide +kernel) rfl)⟩, by decide +kernel, by decide +kernel, by decide +kernel⟩
theorem zw_RX6_276 : zCs RX6 276 yX6_sameValues cX6_sameValues 3 (some .boolean) 2 := ⟨⟨(zT_3 119 (by decide +kernel) rfl), (zT_3 120 (by decide +kernel) rfl), (zT_1 1 (by decide +kernel) rfl), (zT_3 121 (by decide +kernel) rfl)⟩, by decide +kernel, by decide +kernel, by decide +kernel⟩
theorem zw_RX6_280 : zCv RX6 280 yX6_countInks cX6_countInks 3 none 0 := ⟨⟨(zT_3 126 (by decide +kernel) rfl), (zT_3 128 (by decide +kernel) rfl), (zT_0 6 (by decide +kernel) rfl), (zT_1 1 (by decide +kernel) rfl), (zT_3 129 (by decide +kernel) rfl)⟩, by decide +kernel, by decide +kernel, by decide +kernel⟩
theorem zw_RX6_286 : zCv RX6 286 yX1_rowAt cX1_rowAt 3 (some .int) 1 := ⟨⟨(zT_3 140 (by decide +kernel) rfl), (zT_3 141 (by decide +kernel) rfl), (zT_3 142 (by decide +kernel) rfl), (zT_1 7 (by decide +kernel) rfl), (zT_3 143 (by decide +kernel) rfl)⟩, by decide +kernel, by decide +kernel, by decide +kernel⟩
theorem zw_RX6_289 : zCv RX6 289 yX1_valueOf cX1_valueOf 3 (some .int) 2 := ⟨⟨(zT_3 152 (by decide +kernel) rfl), (zT_3 153 (by decide +kernel) rfl), (zT_3 154 (by decide +kernel) rfl), (zT_1 7 (by decide +kernel) rfl), (zT_3 155 (by decide +kernel) rfl)⟩, by decide +kernel, by decide +kernel, by decide +kernel⟩
theorem zw_RX6_291 : zCv RX6 291 yX6_addUpNeeds cX6_addUpNeeds 4 none 0 := ⟨⟨(zT_3 164 (by decide +kernel) rfl), (zT_3 166 (by decide +kernel) rfl), (zT_0 7 (by decide +kernel) rfl), (zT_1 1 (by decide +kernel) rfl), (zT_3 167 (by decide +kernel) rfl)⟩, by decide +kernel, by decide +kernel, by decide +kernel⟩
theorem zw_RX6_294 : zCv RX6 294 yX3_isDisordered cX3_isDisordered 3 (some .boolean) 0 := ⟨⟨(zT_3 172 (by decide +kernel) rfl), (zT_3 173 (by decide +kernel) rfl), (zT_3 174 (by decide +kernel) rfl), (zT_1 6 (by decide +kernel) rfl), (zT_3 175 (by decide +kernel) rfl)⟩, by decide +kernel, by decide +kernel, by decide +kernel⟩
theorem zw_RX6_298 : zCv RX6 298 yX4_copyFrom cX4_copyFrom 3 none 1 := ⟨⟨(zT_2 33 (by decide +kernel) rfl), (zT_2 34 (by decide +kernel) rfl), (zT_2 35 (by decide +kernel) rfl), (zT_1 2 (by decide +kernel) rfl), (zT_2 36 (by decide +kernel) rfl)⟩, by decide +kernel, by decide +kernel, by decide +kernel⟩
theorem zw_RX6_302 : zCv RX6 302 yX5_freeNumber cX5_freeNumber 2 (some .int) 0 := ⟨⟨(zT_2 77 (by decide +kernel) rfl), (zT_2 78 (by decide +kernel) rfl), (zT_2 79 (by decide +kernel) rfl), (zT_1 3 (by decide +kernel) rfl), (zT_2 80 (by decide +kernel) rfl)⟩, by decide +kernel, by decide +kernel, by decide +kernel⟩
theorem zw_RX6_306 : zCv RX6 306 yX1_add cX1_add 4 none 1 := ⟨⟨(zT_3 130 (by decide +kernel) rfl), (zT_3 131 (by decide +kernel) rfl), (zT_3 132 (by decide +kernel) rfl), (zT_1 7 (by decide +kernel) rfl), (zT_3 133 (by decide +kernel) rfl)⟩, by decide +kernel, by decide +kernel, by decide +kernel⟩
theorem zw_RX6_310 : zCs RX6 310 yJ9_abs_0f7a4 cJ9_abs_0f7a4 1 (some .int) 1 := ⟨⟨(zT_3 8 (by decide +kernel) rfl), (zT_3 9 (by decide +kernel) rfl), (zT_1 9 (by decide +kernel) rfl), (zT_3 10 (by decide +kernel) rfl)⟩, by decide +kernel, by decide +kernel, by decide +kernel⟩
theorem zw_RX0_22 : zCv RX0 22 yX0_indexOf cX0_indexOf 3 (some .int) 1 := ⟨⟨(zT_2 207 (by decide +kernel) rfl), (zT_2 200 (by decide +kernel) rfl), (zT_2 201 (by decide +kernel) rfl), (zT_1 5 (by decide +kernel) rfl), (zT_2 202 (by decide +kernel) rfl)⟩, by decide +kernel, by decide +kernel, by decide +kernel⟩
theorem zw_RX0_26 : zCv RX0 26 yX0_openGap cX0_openGap 3 (some .int) 1 := ⟨⟨(zT_2 208 (by decide +kernel) rfl), (zT_2 209 (by decide +kernel) rfl), (zT_2 210 (by decide +kernel) rfl), (zT_1 5 (by decide +kernel) rfl), (zT_2 211 (by decide +kernel) rfl)⟩, by decide +kernel, by decide +kernel, by decide +kernel⟩
theorem zw_RX0_29 : zCv RX0 29 yX0_between cX0_between 5 (some .int) 2 := ⟨⟨(zT_2 228 (by decide +kernel) rfl), (zT_2 229 (by decide +kernel) rfl), (zT_2 230 (by decide +kernel) rfl), (zT_1 5 (by decide +kernel) rfl), (zT_2 231 (by decide +kernel) rfl)⟩, by decide +kernel, by decide +kernel, by decide +kernel⟩
theorem zw_RX0_33 : zCv RX0 33 yX0_valueAt cX0_valueAt 3 (some .int) 1 := ⟨⟨(zT_3 4 (by decide +kernel) rfl), (zT_2 225 (by decide +kernel) rfl), (zT_2 226 (by decide +kernel) rfl), (zT_1 5 (by decide +kernel) rfl), (zT_2 227 (by decide +kernel) rfl)⟩, by decide +kernel, by decide +kernel, by decide +kernel⟩
theorem zw_RX1_28 : zCv RX1 28 yX1_inksBefore cX1_inksBefore 4 (some .int) 1 := ⟨⟨(zT_3 144 (by decide +kernel) rfl), (zT_3 145 (by decide +kernel) rfl), (zT_3 146 (by decide +kernel) rfl), (zT_1 7 (by decide +kernel) rfl), (zT_3 147 (by decide +kernel) rfl)⟩, by decide +kernel, by decide +kernel, by decide +kernel⟩
theorem zw_RX1_32 : zCv RX1 32 yX1_comesBefore cX1_comesBefore 4 (some .boolean) 2 := ⟨⟨(zT_3 148 (by decide +kernel) rfl), (zT_3 149 (by decide +kernel) rfl), (zT_3 150 (by decide +kernel) rfl), (zT_1 7 (by decide +kernel) rfl), (zT_3 151 (by decide +kernel) rfl)⟩, by decide +kernel, by decide +kernel, by decide +kernel⟩
theorem zw_RX2_60 : zCv RX2 60 yX2_takeBox cX2_takeBox 2 none 1 := ⟨⟨(zT_2 45 (by decide +kernel) rfl), (zT_2 46 (by decide +kernel) rfl), (zT_2 47 (by decide +kernel) rfl), (zT_1 4 (by decide +kernel) rfl), (zT_2 48 (by decide +kernel) rfl)⟩, by decide +kernel, by decide +kernel, by decide +kernel⟩
theorem zw_RX2_64 : zCv RX2 64 yX2_takeColor cX2_takeColor 2 none 1 := ⟨⟨(zT_2 49 (by decide +kernel) rfl), (zT_2 50 (by decide +kernel) rfl), (zT_2 51 (by decide +kernel) rfl), (zT_1 4 (by decide +kernel) rfl), (zT_2 52 (by decide +kernel) rfl)⟩, by decide +kernel, by decide +kernel, by decide +kernel⟩
theorem zw_RX3_21 : zCv RX3 21 yX3_clear cX3_clear 2 none 0 := ⟨⟨(zT_3 24 (by decide +kernel) rfl), (zT_3 25 (by decide +kernel) rfl), (zT_3 26 (by decide +kernel) rfl), (zT_1 6 (by decide +kernel) rfl), (zT_3 27 (by decide +kernel) rfl)⟩, by decide +kernel, by decide +kernel, by decide +kernel⟩
theorem zw_RX3_39 : zCv RX3 39 yX5_nodeAt cX5_nodeAt 2 (some (.object RX2)) 1 := ⟨⟨(zT_3 28 (by decide +kernel) rfl), (zT_2 74 (by decide +kernel) rfl), (zT_2 75 (by decide +kernel) rfl), (zT_1 3 (by decide +kernel) rfl), (zT_2 76 (by decide +kernel) rfl)⟩, by decide +kernel, by decide +kernel, by decide +kernel⟩
theorem zw_RX3_54 : zCv RX3 54 yX2_contains cX2_contains 3 (some .boolean) 2 := ⟨⟨(zT_3 29 (by decide +kernel) rfl), (zT_3 30 (by decide +kernel) rfl), (zT_3 31 (by decide +kernel) rfl), (zT_1 4 (by decide +kernel) rfl), (zT_3 32 (by decide +kernel) rfl)⟩, by decide +kernel, by decide +kernel, by decide +kernel⟩
theorem zw_RX3_61 : zCv RX3 61 yX3_paint cX3_paint 4 none 3 := ⟨⟨(zT_3 34 (by decide +kernel) rfl), (zT_3 35 (by decide +kernel) rfl), (zT_3 36 (by decide +kernel) rfl), (zT_1 6 (by decide +kernel) rfl), (zT_3 37 (by decide +kernel) rfl)⟩, by decide +kernel, by decide +kernel, by decide +kernel⟩
theorem zw_RX3_77 : zCv RX3 77 yX3_pullColors cX3_pullColors 5 none 4 := ⟨⟨(zT_3 38 (by decide +kernel) rfl), (zT_3 39 (by decide +kernel) rfl), (zT_3 40 (by decide +kernel) rfl), (zT_1 6 (by decide +kernel) rfl), (zT_3 41 (by decide +kernel) rfl)⟩, by decide +kernel, by decide +kernel, by decide +kernel⟩
theorem zw_RX3_81 : zCv RX3 81 yX3_pullTints cX3_pullTints 4 none 2 := ⟨⟨(zT_3 49 (by decide +kernel) rfl), (zT_3 50 (by decide +kernel) rfl), (zT_3 51 (by decide +kernel) rfl), (zT_1 6 (by decide +kernel) rfl), (zT_3 52 (by decide +kernel) rfl)⟩, by decide +kernel, by decide +kernel, by decide +kernel⟩
theorem zw_RX3_95 : zCv RX3 95 yX3_pull cX3_pull 5 none 3 := ⟨⟨(zT_3 42 (by decide +kernel) rfl), (zT_3 43 (by decide +kernel) rfl), (zT_3 44 (by decide +kernel) rfl), (zT_1 6 (by decide +kernel) rfl), (zT_3 45 (by decide +kernel) rfl)⟩, by decide +kernel, by decide +kernel, by decide +kernel⟩
theorem zw_RX3_102 : zCs RX3 102 yJ9_floorDiv_7cf53 cJ9_floorDiv_7cf53 3 (some .int) 2 := ⟨⟨(zT_3 46 (by decide +kernel) rfl), (zT_3 47 (by decide +kernel) rfl), (zT_1 9 (by decide +kernel) rfl), (zT_3 48 (by decide +kernel) rfl)⟩, by decide +kernel, by decide +kernel, by decide +kernel⟩
theorem zw_RX3_108 : zCs RX3 108 yJ9_max_7cf53 cJ9_max_7cf53 2 (some .int) 2 := ⟨⟨(zT_3 66 (by decide +kernel) rfl), (zT_2 151 (by decide +kernel) rfl), (zT_1 9 (by decide +kernel) rfl), (zT_2 152 (by decide +kernel) rfl)⟩, by decide +kernel, by decide +kernel, by decide +kernel⟩
theorem zw_RX3_118 : zCv RX3 118 yX0_valueAt cX0_valueAt 3 (some .int) 1 := ⟨⟨(zT_3 67 (by decide +kernel) rfl), (zT_2 225 (by decide +kernel) rfl), (zT_2 226 (by decide +kernel) rfl), (zT_1 5 (by decide +kernel) rfl), (zT_2 227 (by decide +kernel) rfl)⟩, by decide +kernel, by decide +kernel, by decide +kernel⟩
theorem zw_RX3_127 : zCv RX3 127 yX3_limitSum cX3_limitSum 5 none 1 := ⟨⟨(zT_3 68 (by decide +kernel) rfl), (zT_3 69 (by decide +kernel) rfl), (zT_3 70 (by decide +kernel) rfl), (zT_1 6 (by decide +kernel) rfl), (zT_3 71 (by decide +kernel) rfl)⟩, by decide +kernel, by decide +kernel, by decide +kernel⟩
theorem zw_RX3_131 : zCv RX3 131 yX3_shrink cX3_shrink 5 none 3 := ⟨⟨(zT_3 72 (by decide +kernel) rfl), (zT_3 73 (by decide +kernel) rfl), (zT_3 74 (by decide +kernel) rfl), (zT_1 6 (by decide +kernel) rfl), (zT_3 75 (by decide +kernel) rfl)⟩, by decide +kernel, by decide +kernel, by decide +kernel⟩
theorem zw_RX4_33 : zCi RX4 33 yX5_init cX5_init 2 0 := ⟨⟨(zT_1 26 (by decide +kernel) rfl), (zT_1 27 (by decide +kernel) rfl), rfl, (zT_1 3 (by decide +kernel) rfl), (zT_1 28 (by decide +kernel) rfl)⟩, by decide +kernel, by decide +kernel, by decide +kernel⟩
theorem zw_RX4_44 : zCi RX4 44 yX0_init cX0_init 1 0 := ⟨⟨(zT_1 146 (by decide +kernel) rfl), (zT_1 147 (by decide +kernel) rfl), rfl, (zT_1 5 (by decide +kernel) rfl), (zT_1 148 (by decide +kernel) rfl)⟩, by decide +kernel, by decide +kernel, by decide +kernel⟩
theorem zw_RX4_45 : zCv RX4 45 yX5_copyFrom cX5_copyFrom 3 none 1 := ⟨⟨(zT_2 37 (by decide +kernel) rfl), (zT_2 38 (by decide +kernel) rfl), (zT_2 39 (by decide +kernel) rfl), (zT_1 3 (by decide +kernel) rfl), (zT_2 40 (by decide +kernel) rfl)⟩, by decide +kernel, by decide +kernel, by decide +kernel⟩
theorem zw_RX4_49 : zCv RX4 49 yX0_copyFrom cX0_copyFrom 3 none 1 := ⟨⟨(zT_2 53 (by decide +kernel) rfl), (zT_2 54 (by decide +kernel) rfl), (zT_2 55 (by decide +kernel) rfl), (zT_1 5 (by decide +kernel) rfl), (zT_2 56 (by decide +kernel) rfl)⟩, by decide +kernel, by decide +kernel, by decide +kernel⟩
theorem zw_RX5_17 : zCi RX5 17 yX2_init cX2_init 1 0 := ⟨⟨(zT_1 33 (by decide +kernel) rfl), (zT_1 34 (by decide +kernel) rfl), rfl, (zT_1 4 (by decide +kernel) rfl), (zT_1 35 (by decide +kernel) rfl)⟩, by decide +kernel, by decide +kernel, by decide +kernel⟩
theorem zw_RX5_38 : zCv RX5 38 yX2_copyFrom cX2_copyFrom 2 none 1 := ⟨⟨(zT_2 41 (by decide +kernel) rfl), (zT_2 42 (by decide +kernel) rfl), (zT_2 43 (by decide +kernel) rfl), (zT_1 4 (by decide +kernel) rfl), (zT_2 44 (by decide +kernel) rfl)⟩, by decide +kernel, by decide +kernel, by decide +kernel⟩
theorem zw_RX5_46 : zCv RX5 46 yX5_startOf cX5_startOf 3 (some .int) 1 := ⟨⟨(zT_2 94 (by decide +kernel) rfl), (zT_2 95 (by decide +kernel) rfl), (zT_2 96 (by decide +kernel) rfl), (zT_1 3 (by decide +kernel) rfl), (zT_2 97 (by decide +kernel) rfl)⟩, by decide +kernel, by decide +kernel, by decide +kernel⟩
theorem zw_RX5_50 : zCv RX5 50 yX5_nodeAt cX5_nodeAt 2 (some (.object RX2)) 1 := ⟨⟨(zT_2 85 (by decide +kernel) rfl), (zT_2 74 (by decide +kernel) rfl), (zT_2 75 (by decide +kernel) rfl), (zT_1 3 (by decide +kernel) rfl), (zT_2 76 (by decide +kernel) rfl)⟩, by decide +kernel, by decide +kernel, by decide +kernel⟩
theorem zw_RX5_57 : zCs RX5 57 yJ9_min_7cf53 cJ9_min_7cf53 2 (some .int) 2 := ⟨⟨(zT_2 98 (by decide +kernel) rfl), (zT_2 99 (by decide +kernel) rfl), (zT_1 9 (by decide +kernel) rfl), (zT_2 100 (by decide +kernel) rfl)⟩, by decide +kernel, by decide +kernel, by decide +kernel⟩
theorem zw_RX5_63 : zCv RX5 63 yX5_endOf cX5_endOf 4 (some .int) 1 := ⟨⟨(zT_2 90 (by decide +kernel) rfl), (zT_2 91 (by decide +kernel) rfl), (zT_2 92 (by decide +kernel) rfl), (zT_1 3 (by decide +kernel) rfl), (zT_2 93 (by decide +kernel) rfl)⟩, by decide +kernel, by decide +kernel, by decide +kernel⟩
theorem zw_RX5_69 : zCv RX5 69 yX5_putIn cX5_putIn 5 none 2 := ⟨⟨(zT_2 86 (by decide +kernel) rfl), (zT_2 87 (by decide +kernel) rfl), (zT_2 88 (by decide +kernel) rfl), (zT_1 3 (by decide +kernel) rfl), (zT_2 89 (by decide +kernel) rfl)⟩, by decide +kernel, by decide +kernel, by decide +kernel⟩
theorem zw_RX5_73 : zCv RX5 73 yX5_cutOut cX5_cutOut 5 (some .int) 1 := ⟨⟨(zT_2 138 (by decide +kernel) rfl), (zT_2 139 (by decide +kernel) rfl), (zT_2 140 (by decide +kernel) rfl), (zT_1 3 (by decide +kernel) rfl), (zT_2 141 (by decide +kernel) rfl)⟩, by decide +kernel, by decide +kernel, by decide +kernel⟩
theorem zw_RX5_76 : zCs RX5 76 yJ9_max_7cf53 cJ9_max_7cf53 2 (some .int) 2 := ⟨⟨(zT_2 150 (by decide +kernel) rfl), (zT_2 151 (by decide +kernel) rfl), (zT_1 9 (by decide +kernel) rfl), (zT_2 152 (by decide +kernel) rfl)⟩, by decide +kernel, by decide +kernel, by decide +kernel⟩
theorem zw_RX5_79 : zCv RX5 79 yX5_settle cX5_settle 3 none 0 := ⟨⟨(zT_2 101 (by decide +kernel) rfl), (zT_2 102 (by decide +kernel) rfl), (zT_2 103 (by decide +kernel) rfl), (zT_1 3 (by decide +kernel) rfl), (zT_2 104 (by decide +kernel) rfl)⟩, by decide +kernel, by decide +kernel, by decide +kernel⟩
theorem zw_RX5_82 : zCv RX5 82 yX2_settleBelow cX2_settleBelow 2 none 1 := ⟨⟨(zT_2 105 (by decide +kernel) rfl), (zT_2 106 (by decide +kernel) rfl), (zT_2 107 (by decide +kernel) rfl), (zT_1 4 (by decide +kernel) rfl), (zT_2 108 (by decide +kernel) rfl)⟩, by decide +kernel, by decide +kernel, by decide +kernel⟩
theorem zw_RL_9 : zCi RL 9 yX6_init cX6_init 2 0 := ⟨⟨(zT_1 12 (by decide +kernel) rfl), (zT_1 13 (by decide +kernel) rfl), rfl, (zT_1 1 (by decide +kernel) rfl), (zT_1 14 (by decide +kernel) rfl)⟩, by decide +kernel, by decide +kernel, by decide +kernel⟩
theorem zw_RL_12 : zCi RL 12 yX7_init cX7_init 2 0 := ⟨⟨(zT_3 182 (by decide +kernel) rfl), (zT_3 183 (by decide +kernel) rfl), rfl, (zT_1 8 (by decide +kernel) rfl), (zT_3 184 (by decide +kernel) rfl)⟩, by decide +kernel, by decide +kernel, by decide +kernel⟩
theorem zw_RL_13 : zCv RL 13 yX6_setSize cX6_setSize 4 (some .int) 2 := ⟨⟨(zT_2 22 (by decide +kernel) rfl), (zT_2 23 (by decide +kernel) rfl), (zT_2 24 (by decide +kernel) rfl), (zT_1 1 (by decide +kernel) rfl), (zT_2 25 (by decide +kernel) rfl)⟩, by decide +kernel, by decide +kernel, by decide +kernel⟩
theorem zw_RL_17 : zCv RL 17 yX7_setSize cX7_setSize 4 (some .int) 2 := ⟨⟨(zT_4 8 (by decide +kernel) rfl), (zT_4 9 (by decide +kernel) rfl), (zT_4 10 (by decide +kernel) rfl), (zT_1 8 (by decide +kernel) rfl), (zT_4 11 (by decide +kernel) rfl)⟩, by decide +kernel, by decide +kernel, by decide +kernel⟩
theorem zw_RL_18 : zCv RL 18 yX6_addGroup cX6_addGroup 7 (some .int) 4 := ⟨⟨(zT_2 57 (by decide +kernel) rfl), (zT_2 58 (by decide +kernel) rfl), (zT_2 59 (by decide +kernel) rfl), (zT_1 1 (by decide +kernel) rfl), (zT_2 60 (by decide +kernel) rfl)⟩, by decide +kernel, by decide +kernel, by decide +kernel⟩
theorem zw_RL_22 : zCv RL 22 yX7_addGroup cX7_addGroup 6 (some .int) 4 := ⟨⟨(zT_4 23 (by decide +kernel) rfl), (zT_4 24 (by decide +kernel) rfl), (zT_4 25 (by decide +kernel) rfl), (zT_1 8 (by decide +kernel) rfl), (zT_4 26 (by decide +kernel) rfl)⟩, by decide +kernel, by decide +kernel, by decide +kernel⟩
theorem zw_RL_23 : zCv RL 23 yX6_addRect cX6_addRect 4 (some .int) 1 := ⟨⟨(zT_2 109 (by decide +kernel) rfl), (zT_2 110 (by decide +kernel) rfl), (zT_2 111 (by decide +kernel) rfl), (zT_1 1 (by decide +kernel) rfl), (zT_2 112 (by decide +kernel) rfl)⟩, by decide +kernel, by decide +kernel, by decide +kernel⟩
theorem zw_RL_27 : zCv RL 27 yX7_addRect cX7_addRect 4 (some .int) 1 := ⟨⟨(zT_4 50 (by decide +kernel) rfl), (zT_4 51 (by decide +kernel) rfl), (zT_4 52 (by decide +kernel) rfl), (zT_1 8 (by decide +kernel) rfl), (zT_4 53 (by decide +kernel) rfl)⟩, by decide +kernel, by decide +kernel, by decide +kernel⟩
theorem zw_RL_28 : zCv RL 28 yX6_addSpot cX6_addSpot 6 (some .int) 3 := ⟨⟨(zT_2 115 (by decide +kernel) rfl), (zT_2 116 (by decide +kernel) rfl), (zT_2 117 (by decide +kernel) rfl), (zT_1 1 (by decide +kernel) rfl), (zT_2 118 (by decide +kernel) rfl)⟩, by decide +kernel, by decide +kernel, by decide +kernel⟩
theorem zw_RL_32 : zCv RL 32 yX7_addSpot cX7_addSpot 5 (some .int) 3 := ⟨⟨(zT_4 54 (by decide +kernel) rfl), (zT_4 55 (by decide +kernel) rfl), (zT_4 56 (by decide +kernel) rfl), (zT_1 8 (by decide +kernel) rfl), (zT_4 57 (by decide +kernel) rfl)⟩, by decide +kernel, by decide +kernel, by decide +kernel⟩
theorem zw_RL_33 : zCv RL 33 yX6_setBox cX6_setBox 5 (some .int) 4 := ⟨⟨(zT_2 122 (by decide +kernel) rfl), (zT_2 123 (by decide +kernel) rfl), (zT_2 124 (by decide +kernel) rfl), (zT_1 1 (by decide +kernel) rfl), (zT_2 125 (by decide +kernel) rfl)⟩, by decide +kernel, by decide +kernel, by decide +kernel⟩
theorem zw_RL_36 : zCv RL 36 yX7_setBox cX7_setBox 5 (some .int) 4 := ⟨⟨(zT_4 58 (by decide +kernel) rfl), (zT_4 59 (by decide +kernel) rfl), (zT_4 60 (by decide +kernel) rfl), (zT_1 8 (by decide +kernel) rfl), (zT_4 61 (by decide +kernel) rfl)⟩, by decide +kernel, by decide +kernel, by decide +kernel⟩
theorem zw_RL_37 : zCv RL 37 yX6_setInk cX6_setInk 4 (some .int) 3 := ⟨⟨(zT_2 126 (by decide +kernel) rfl), (zT_2 127 (by decide +kernel) rfl), (zT_2 128 (by decide +kernel) rfl), (zT_1 1 (by decide +kernel) rfl), (zT_2 129 (by decide +kernel) rfl)⟩, by decide +kernel, by decide +kernel, by decide +kernel⟩
theorem zw_RL_40 : zCv RL 40 yX7_setInk cX7_setInk 4 (some .int) 3 := ⟨⟨(zT_4 62 (by decide +kernel) rfl), (zT_4 63 (by decide +kernel) rfl), (zT_4 64 (by decide +kernel) rfl), (zT_1 8 (by decide +kernel) rfl), (zT_4 65 (by decide +kernel) rfl)⟩, by decide +kernel, by decide +kernel, by decide +kernel⟩
theorem zw_RL_41 : zCv RL 41 yX6_remove cX6_remove 2 (some .int) 1 := ⟨⟨(zT_2 130 (by decide +kernel) rfl), (zT_2 131 (by decide +kernel) rfl), (zT_2 132 (by decide +kernel) rfl), (zT_1 1 (by decide +kernel) rfl), (zT_2 133 (by decide +kernel) rfl)⟩, by decide +kernel, by decide +kernel, by decide +kernel⟩
theorem zw_RL_44 : zCv RL 44 yX7_remove cX7_remove 4 (some .int) 1 := ⟨⟨(zT_4 66 (by decide +kernel) rfl), (zT_4 67 (by decide +kernel) rfl), (zT_4 68 (by decide +kernel) rfl), (zT_1 8 (by decide +kernel) rfl), (zT_4 69 (by decide +kernel) rfl)⟩, by decide +kernel, by decide +kernel, by decide +kernel⟩
theorem zw_RL_45 : zCv RL 45 yX6_move cX6_move 3 (some .int) 2 := ⟨⟨(zT_2 142 (by decide +kernel) rfl), (zT_2 143 (by decide +kernel) rfl), (zT_2 144 (by decide +kernel) rfl), (zT_1 1 (by decide +kernel) rfl), (zT_2 145 (by decide +kernel) rfl)⟩, by decide +kernel, by decide +kernel, by decide +kernel⟩
theorem zw_RL_48 : zCv RL 48 yX7_move cX7_move 5 (some .int) 2 := ⟨⟨(zT_4 74 (by decide +kernel) rfl), (zT_4 75 (by decide +kernel) rfl), (zT_4 76 (by decide +kernel) rfl), (zT_1 8 (by decide +kernel) rfl), (zT_4 77 (by decide +kernel) rfl)⟩, by decide +kernel, by decide +kernel, by decide +kernel⟩
theorem zw_RL_49 : zCv RL 49 yX6_nodeInfo cX6_nodeInfo 3 (some .int) 2 := ⟨⟨(zT_2 157 (by decide +kernel) rfl), (zT_2 158 (by decide +kernel) rfl), (zT_2 159 (by decide +kernel) rfl), (zT_1 1 (by decide +kernel) rfl), (zT_2 160 (by decide +kernel) rfl)⟩, by decide +kernel, by decide +kernel, by decide +kernel⟩
theorem zw_RL_52 : zCv RL 52 yX7_nodeInfo cX7_nodeInfo 3 (some .int) 2 := ⟨⟨(zT_4 78 (by decide +kernel) rfl), (zT_4 79 (by decide +kernel) rfl), (zT_4 80 (by decide +kernel) rfl), (zT_1 8 (by decide +kernel) rfl), (zT_4 81 (by decide +kernel) rfl)⟩, by decide +kernel, by decide +kernel, by decide +kernel⟩
theorem zw_RL_53 : zCv RL 53 yX6_nodeCount cX6_nodeCount 1 (some .int) 0 := ⟨⟨(zT_2 173 (by decide +kernel) rfl), (zT_2 174 (by decide +kernel) rfl), (zT_2 175 (by decide +kernel) rfl), (zT_1 1 (by decide +kernel) rfl), (zT_2 176 (by decide +kernel) rfl)⟩, by decide +kernel, by decide +kernel, by decide +kernel⟩
theorem zw_RL_57 : zCv RL 57 yX7_nodeCount cX7_nodeCount 1 (some .int) 0 := ⟨⟨(zT_4 94 (by decide +kernel) rfl), (zT_4 95 (by decide +kernel) rfl), (zT_4 96 (by decide +kernel) rfl), (zT_1 8 (by decide +kernel) rfl), (zT_4 97 (by decide +kernel) rfl)⟩, by decide +kernel, by decide +kernel, by decide +kernel⟩
theorem zw_RL_58 : zCv RL 58 yX6_set cX6_set 4 (some .int) 2 := ⟨⟨(zT_2 177 (by decide +kernel) rfl), (zT_2 178 (by decide +kernel) rfl), (zT_2 179 (by decide +kernel) rfl), (zT_1 1 (by decide +kernel) rfl), (zT_2 180 (by decide +kernel) rfl)⟩, by decide +kernel, by decide +kernel, by decide +kernel⟩
theorem zw_RL_61 : zCv RL 61 yX7_set cX7_set 3 (some .int) 2 := ⟨⟨(zT_4 98 (by decide +kernel) rfl), (zT_4 99 (by decide +kernel) rfl), (zT_4 100 (by decide +kernel) rfl), (zT_1 8 (by decide +kernel) rfl), (zT_4 101 (by decide +kernel) rfl)⟩, by decide +kernel, by decide +kernel, by decide +kernel⟩
theorem zw_RL_62 : zCv RL 62 yX6_setKnockout cX6_setKnockout 4 (some .int) 2 := ⟨⟨(zT_2 184 (by decide +kernel) rfl), (zT_2 185 (by decide +kernel) rfl), (zT_2 186 (by decide +kernel) rfl), (zT_1 1 (by decide +kernel) rfl), (zT_2 187 (by decide +kernel) rfl)⟩, by decide +kernel, by decide +kernel, by decide +kernel⟩
theorem zw_RL_65 : zCv RL 65 yX7_setKnockout cX7_setKnockout 3 (some .int) 2 := ⟨⟨(zT_4 106 (by decide +kernel) rfl), (zT_4 107 (by decide +kernel) rfl), (zT_4 108 (by decide +kernel) rfl), (zT_1 8 (by decide +kernel) rfl), (zT_4 109 (by decide +kernel) rfl)⟩, by decide +kernel, by decide +kernel, by decide +kernel⟩
theorem zw_RL_66 : zCv RL 66 yX6_setPoint cX6_setPoint 5 (some .int) 3 := ⟨⟨(zT_2 188 (by decide +kernel) rfl), (zT_2 189 (by decide +kernel) rfl), (zT_2 190 (by decide +kernel) rfl), (zT_1 1 (by decide +kernel) rfl), (zT_2 191 (by decide +kernel) rfl)⟩, by decide +kernel, by decide +kernel, by decide +kernel⟩
theorem zw_RL_69 : zCv RL 69 yX7_setPoint cX7_setPoint 10 (some .int) 3 := ⟨⟨(zT_4 110 (by decide +kernel) rfl), (zT_4 111 (by decide +kernel) rfl), (zT_4 112 (by decide +kernel) rfl), (zT_1 8 (by decide +kernel) rfl), (zT_4 113 (by decide +kernel) rfl)⟩, by decide +kernel, by decide +kernel, by decide +kernel⟩
theorem zw_RL_70 : zCv RL 70 yX6_removePoint cX6_removePoint 5 (some .int) 2 := ⟨⟨(zT_2 212 (by decide +kernel) rfl), (zT_2 213 (by decide +kernel) rfl), (zT_2 214 (by decide +kernel) rfl), (zT_1 1 (by decide +kernel) rfl), (zT_2 215 (by decide +kernel) rfl)⟩, by decide +kernel, by decide +kernel, by decide +kernel⟩
theorem zw_RL_73 : zCv RL 73 yX7_removePoint cX7_removePoint 7 (some .int) 2 := ⟨⟨(zT_4 124 (by decide +kernel) rfl), (zT_4 125 (by decide +kernel) rfl), (zT_4 126 (by decide +kernel) rfl), (zT_1 8 (by decide +kernel) rfl), (zT_4 127 (by decide +kernel) rfl)⟩, by decide +kernel, by decide +kernel, by decide +kernel⟩
theorem zw_RL_74 : zCv RL 74 yX6_curve cX6_curve 3 (some .int) 2 := ⟨⟨(zT_2 220 (by decide +kernel) rfl), (zT_2 221 (by decide +kernel) rfl), (zT_2 222 (by decide +kernel) rfl), (zT_1 1 (by decide +kernel) rfl), (zT_2 223 (by decide +kernel) rfl)⟩, by decide +kernel, by decide +kernel, by decide +kernel⟩
theorem zw_RL_77 : zCv RL 77 yX7_curve cX7_curve 3 (some .int) 2 := ⟨⟨(zT_4 128 (by decide +kernel) rfl), (zT_4 129 (by decide +kernel) rfl), (zT_4 130 (by decide +kernel) rfl), (zT_1 8 (by decide +kernel) rfl), (zT_4 131 (by decide +kernel) rfl)⟩, by decide +kernel, by decide +kernel, by decide +kernel⟩
theorem zw_RL_78 : zCv RL 78 yX6_inverse cX6_inverse 5 (some .int) 2 := ⟨⟨(zT_2 232 (by decide +kernel) rfl), (zT_2 233 (by decide +kernel) rfl), (zT_2 234 (by decide +kernel) rfl), (zT_1 1 (by decide +kernel) rfl), (zT_2 235 (by decide +kernel) rfl)⟩, by decide +kernel, by decide +kernel, by decide +kernel⟩
theorem zw_RL_81 : zCv RL 81 yX7_inverse cX7_inverse 4 (some .int) 2 := ⟨⟨(zT_4 136 (by decide +kernel) rfl), (zT_4 137 (by decide +kernel) rfl), (zT_4 138 (by decide +kernel) rfl), (zT_1 8 (by decide +kernel) rfl), (zT_4 139 (by decide +kernel) rfl)⟩, by decide +kernel, by decide +kernel, by decide +kernel⟩
theorem zw_RL_82 : zCv RL 82 yX6_simplify cX6_simplify 3 (some .int) 1 := ⟨⟨(zT_2 236 (by decide +kernel) rfl), (zT_2 237 (by decide +kernel) rfl), (zT_2 238 (by decide +kernel) rfl), (zT_1 1 (by decide +kernel) rfl), (zT_2 239 (by decide +kernel) rfl)⟩, by decide +kernel, by decide +kernel, by decide +kernel⟩
theorem zw_RL_85 : zCv RL 85 yX7_simplify cX7_simplify 6 (some .int) 1 := ⟨⟨(zT_4 140 (by decide +kernel) rfl), (zT_4 141 (by decide +kernel) rfl), (zT_4 142 (by decide +kernel) rfl), (zT_1 8 (by decide +kernel) rfl), (zT_4 143 (by decide +kernel) rfl)⟩, by decide +kernel, by decide +kernel, by decide +kernel⟩
theorem zw_RL_86 : zCv RL 86 yX6_rendered cX6_rendered 4 (some .int) 3 := ⟨⟨(zT_3 12 (by decide +kernel) rfl), (zT_3 13 (by decide +kernel) rfl), (zT_3 14 (by decide +kernel) rfl), (zT_1 1 (by decide +kernel) rfl), (zT_3 15 (by decide +kernel) rfl)⟩, by decide +kernel, by decide +kernel, by decide +kernel⟩
theorem zw_RL_89 : zCv RL 89 yX7_rendered cX7_rendered 4 (some .int) 3 := ⟨⟨(zT_4 144 (by decide +kernel) rfl), (zT_4 145 (by decide +kernel) rfl), (zT_4 146 (by decide +kernel) rfl), (zT_1 8 (by decide +kernel) rfl), (zT_4 147 (by decide +kernel) rfl)⟩, by decide +kernel, by decide +kernel, by decide +kernel⟩
theorem zw_RL_90 : zCv RL 90 yX6_ink cX6_ink 4 (some .int) 3 := ⟨⟨(zT_3 54 (by decide +kernel) rfl), (zT_3 55 (by decide +kernel) rfl), (zT_3 56 (by decide +kernel) rfl), (zT_1 1 (by decide +kernel) rfl), (zT_3 57 (by decide +kernel) rfl)⟩, by decide +kernel, by decide +kernel, by decide +kernel⟩
theorem zw_RL_93 : zCv RL 93 yX7_ink cX7_ink 4 (some .int) 3 := ⟨⟨(zT_4 179 (by decide +kernel) rfl), (zT_4 180 (by decide +kernel) rfl), (zT_4 181 (by decide +kernel) rfl), (zT_1 8 (by decide +kernel) rfl), (zT_4 182 (by decide +kernel) rfl)⟩, by decide +kernel, by decide +kernel, by decide +kernel⟩
theorem zw_RL_94 : zCv RL 94 yX6_inkOf cX6_inkOf 3 (some .int) 2 := ⟨⟨(zT_3 83 (by decide +kernel) rfl), (zT_3 84 (by decide +kernel) rfl), (zT_3 85 (by decide +kernel) rfl), (zT_1 1 (by decide +kernel) rfl), (zT_3 86 (by decide +kernel) rfl)⟩, by decide +kernel, by decide +kernel, by decide +kernel⟩
theorem zw_RL_97 : zCv RL 97 yX7_inkOf cX7_inkOf 3 (some .int) 2 := ⟨⟨(zT_4 195 (by decide +kernel) rfl), (zT_4 196 (by decide +kernel) rfl), (zT_4 197 (by decide +kernel) rfl), (zT_1 8 (by decide +kernel) rfl), (zT_4 198 (by decide +kernel) rfl)⟩, by decide +kernel, by decide +kernel, by decide +kernel⟩
theorem zw_RL_98 : zCv RL 98 yX6_touchedBy cX6_touchedBy 8 (some .int) 2 := ⟨⟨(zT_3 89 (by decide +kernel) rfl), (zT_3 90 (by decide +kernel) rfl), (zT_3 91 (by decide +kernel) rfl), (zT_1 1 (by decide +kernel) rfl), (zT_3 92 (by decide +kernel) rfl)⟩, by decide +kernel, by decide +kernel, by decide +kernel⟩
theorem zw_RL_101 : zCv RL 101 yX7_touchedBy cX7_touchedBy 6 (some .int) 2 := ⟨⟨(zT_4 201 (by decide +kernel) rfl), (zT_4 202 (by decide +kernel) rfl), (zT_4 203 (by decide +kernel) rfl), (zT_1 8 (by decide +kernel) rfl), (zT_4 204 (by decide +kernel) rfl)⟩, by decide +kernel, by decide +kernel, by decide +kernel⟩
theorem zw_RL_102 : zCv RL 102 yX6_coverage cX6_coverage 2 (some .int) 1 := ⟨⟨(zT_3 94 (by decide +kernel) rfl), (zT_3 95 (by decide +kernel) rfl), (zT_3 96 (by decide +kernel) rfl), (zT_1 1 (by decide +kernel) rfl), (zT_3 97 (by decide +kernel) rfl)⟩, by decide +kernel, by decide +kernel, by decide +kernel⟩
theorem zw_RL_105 : zCv RL 105 yX7_coverage cX7_coverage 2 (some .int) 1 := ⟨⟨(zT_4 205 (by decide +kernel) rfl), (zT_4 206 (by decide +kernel) rfl), (zT_4 207 (by decide +kernel) rfl), (zT_1 8 (by decide +kernel) rfl), (zT_4 208 (by decide +kernel) rfl)⟩, by decide +kernel, by decide +kernel, by decide +kernel⟩
theorem zw_RL_106 : zCv RL 106 yX6_plateAt cX6_plateAt 3 (some .int) 1 := ⟨⟨(zT_3 103 (by decide +kernel) rfl), (zT_3 104 (by decide +kernel) rfl), (zT_3 105 (by decide +kernel) rfl), (zT_1 1 (by decide +kernel) rfl), (zT_3 106 (by decide +kernel) rfl)⟩, by decide +kernel, by decide +kernel, by decide +kernel⟩
theorem zw_RL_109 : zCv RL 109 yX7_plateAt cX7_plateAt 6 (some .int) 1 := ⟨⟨(zT_4 221 (by decide +kernel) rfl), (zT_4 222 (by decide +kernel) rfl), (zT_4 223 (by decide +kernel) rfl), (zT_1 8 (by decide +kernel) rfl), (zT_4 224 (by decide +kernel) rfl)⟩, by decide +kernel, by decide +kernel, by decide +kernel⟩
theorem zw_RL_110 : zCv RL 110 yX6_greatestSum cX6_greatestSum 4 (some .int) 0 := ⟨⟨(zT_3 111 (by decide +kernel) rfl), (zT_3 112 (by decide +kernel) rfl), (zT_3 113 (by decide +kernel) rfl), (zT_1 1 (by decide +kernel) rfl), (zT_3 114 (by decide +kernel) rfl)⟩, by decide +kernel, by decide +kernel, by decide +kernel⟩
theorem zw_RL_113 : zCv RL 113 yX7_greatestSum cX7_greatestSum 3 (some .int) 0 := ⟨⟨(zT_4 225 (by decide +kernel) rfl), (zT_4 226 (by decide +kernel) rfl), (zT_4 227 (by decide +kernel) rfl), (zT_1 8 (by decide +kernel) rfl), (zT_4 228 (by decide +kernel) rfl)⟩, by decide +kernel, by decide +kernel, by decide +kernel⟩
theorem zw_RL_114 : zCv RL 114 yX6_limitedPixels cX6_limitedPixels 4 (some .int) 0 := ⟨⟨(zT_3 115 (by decide +kernel) rfl), (zT_3 116 (by decide +kernel) rfl), (zT_3 117 (by decide +kernel) rfl), (zT_1 1 (by decide +kernel) rfl), (zT_3 118 (by decide +kernel) rfl)⟩, by decide +kernel, by decide +kernel, by decide +kernel⟩
theorem zw_RL_117 : zCv RL 117 yX7_limitedPixels cX7_limitedPixels 5 (some .int) 0 := ⟨⟨(zT_4 229 (by decide +kernel) rfl), (zT_4 230 (by decide +kernel) rfl), (zT_4 231 (by decide +kernel) rfl), (zT_1 8 (by decide +kernel) rfl), (zT_4 232 (by decide +kernel) rfl)⟩, by decide +kernel, by decide +kernel, by decide +kernel⟩
theorem zw_RL_118 : zCv RL 118 yX6_inkCount cX6_inkCount 1 (some .int) 0 := ⟨⟨(zT_3 122 (by decide +kernel) rfl), (zT_3 123 (by decide +kernel) rfl), (zT_3 124 (by decide +kernel) rfl), (zT_1 1 (by decide +kernel) rfl), (zT_3 125 (by decide +kernel) rfl)⟩, by decide +kernel, by decide +kernel, by decide +kernel⟩
theorem zw_RL_121 : zCv RL 121 yX7_inkCount cX7_inkCount 1 (some .int) 0 := ⟨⟨(zT_4 233 (by decide +kernel) rfl), (zT_4 234 (by decide +kernel) rfl), (zT_4 235 (by decide +kernel) rfl), (zT_1 8 (by decide +kernel) rfl), (zT_4 236 (by decide +kernel) rfl)⟩, by decide +kernel, by decide +kernel, by decide +kernel⟩
theorem zw_RL_122 : zCv RL 122 yX6_inkAt cX6_inkAt 4 (some .int) 2 := ⟨⟨(zT_3 136 (by decide +kernel) rfl), (zT_3 137 (by decide +kernel) rfl), (zT_3 138 (by decide +kernel) rfl), (zT_1 1 (by decide +kernel) rfl), (zT_3 139 (by decide +kernel) rfl)⟩, by decide +kernel, by decide +kernel, by decide +kernel⟩
theorem zw_RL_125 : zCv RL 125 yX7_inkAt cX7_inkAt 7 (some .int) 2 := ⟨⟨(zT_5 5 (by decide +kernel) rfl), (zT_5 6 (by decide +kernel) rfl), (zT_5 7 (by decide +kernel) rfl), (zT_1 8 (by decide +kernel) rfl), (zT_5 8 (by decide +kernel) rfl)⟩, by decide +kernel, by decide +kernel, by decide +kernel⟩
theorem zw_RL_126 : zCv RL 126 yX6_neededLimit cX6_neededLimit 4 (some .int) 0 := ⟨⟨(zT_3 156 (by decide +kernel) rfl), (zT_3 157 (by decide +kernel) rfl), (zT_3 158 (by decide +kernel) rfl), (zT_1 1 (by decide +kernel) rfl), (zT_3 159 (by decide +kernel) rfl)⟩, by decide +kernel, by decide +kernel, by decide +kernel⟩
theorem zw_RL_129 : zCv RL 129 yX7_neededLimit cX7_neededLimit 3 (some .int) 0 := ⟨⟨(zT_5 13 (by decide +kernel) rfl), (zT_5 14 (by decide +kernel) rfl), (zT_5 15 (by decide +kernel) rfl), (zT_1 8 (by decide +kernel) rfl), (zT_5 16 (by decide +kernel) rfl)⟩, by decide +kernel, by decide +kernel, by decide +kernel⟩
theorem zw_RL_130 : zCv RL 130 yX6_thriftiestAmount cX6_thriftiestAmount 3 (some .int) 0 := ⟨⟨(zT_3 160 (by decide +kernel) rfl), (zT_3 161 (by decide +kernel) rfl), (zT_3 162 (by decide +kernel) rfl), (zT_1 1 (by decide +kernel) rfl), (zT_3 163 (by decide +kernel) rfl)⟩, by decide +kernel, by decide +kernel, by decide +kernel⟩
theorem zw_RL_133 : zCv RL 133 yX7_thriftiestAmount cX7_thriftiestAmount 5 (some .int) 0 := ⟨⟨(zT_5 21 (by decide +kernel) rfl), (zT_5 22 (by decide +kernel) rfl), (zT_5 23 (by decide +kernel) rfl), (zT_1 8 (by decide +kernel) rfl), (zT_5 24 (by decide +kernel) rfl)⟩, by decide +kernel, by decide +kernel, by decide +kernel⟩
theorem zw_RL_134 : zCv RL 134 yX6_disorderedPixels cX6_disorderedPixels 4 (some .int) 0 := ⟨⟨(zT_3 168 (by decide +kernel) rfl), (zT_3 169 (by decide +kernel) rfl), (zT_3 170 (by decide +kernel) rfl), (zT_1 1 (by decide +kernel) rfl), (zT_3 171 (by decide +kernel) rfl)⟩, by decide +kernel, by decide +kernel, by decide +kernel⟩
theorem zw_RL_137 : zCv RL 137 yX7_disorderedPixels cX7_disorderedPixels 3 (some .int) 0 := ⟨⟨(zT_5 25 (by decide +kernel) rfl), (zT_5 26 (by decide +kernel) rfl), (zT_5 27 (by decide +kernel) rfl), (zT_1 8 (by decide +kernel) rfl), (zT_5 28 (by decide +kernel) rfl)⟩, by decide +kernel, by decide +kernel, by decide +kernel⟩
theorem zw_RL_138 : zCv RL 138 yX6_undo cX6_undo 1 (some .int) 0 := ⟨⟨(zT_3 176 (by decide +kernel) rfl), (zT_3 177 (by decide +kernel) rfl), (zT_3 178 (by decide +kernel) rfl), (zT_1 1 (by decide +kernel) rfl), (zT_3 179 (by decide +kernel) rfl)⟩, by decide +kernel, by decide +kernel, by decide +kernel⟩
theorem zw_RL_141 : zCv RL 141 yX7_undo cX7_undo 2 (some .int) 0 := ⟨⟨(zT_5 33 (by decide +kernel) rfl), (zT_5 34 (by decide +kernel) rfl), (zT_5 35 (by decide +kernel) rfl), (zT_1 8 (by decide +kernel) rfl), (zT_5 36 (by decide +kernel) rfl)⟩, by decide +kernel, by decide +kernel, by decide +kernel⟩
theorem zw_RX7_66 : zCv RX7 66 yX7_hold cX7_hold 2 none 0 := ⟨⟨(zT_4 15 (by decide +kernel) rfl), (zT_4 17 (by decide +kernel) rfl), (zT_0 8 (by decide +kernel) rfl), (zT_1 8 (by decide +kernel) rfl), (zT_4 18 (by decide +kernel) rfl)⟩, by decide +kernel, by decide +kernel, by decide +kernel⟩
theorem zw_RX7_69 : zCv RX7 69 yX7_ends cX7_ends 3 (some .int) 1 := ⟨⟨(zT_4 19 (by decide +kernel) rfl), (zT_4 21 (by decide +kernel) rfl), (zT_0 9 (by decide +kernel) rfl), (zT_1 8 (by decide +kernel) rfl), (zT_4 22 (by decide +kernel) rfl)⟩, by decide +kernel, by decide +kernel, by decide +kernel⟩
theorem zw_RX7_73 : zCs RX7 73 yX7_in cX7_in 3 (some .boolean) 3 := ⟨⟨(zT_4 12 (by decide +kernel) rfl), (zT_4 13 (by decide +kernel) rfl), (zT_1 8 (by decide +kernel) rfl), (zT_4 14 (by decide +kernel) rfl)⟩, by decide +kernel, by decide +kernel, by decide +kernel⟩
theorem zw_RX7_77 : zCv RX7 77 yX7_of cX7_of 3 (some .int) 2 := ⟨⟨(zT_4 31 (by decide +kernel) rfl), (zT_4 33 (by decide +kernel) rfl), (zT_0 11 (by decide +kernel) rfl), (zT_1 8 (by decide +kernel) rfl), (zT_4 34 (by decide +kernel) rfl)⟩, by decide +kernel, by decide +kernel, by decide +kernel⟩
theorem zw_RX7_81 : zCv RX7 81 yX7_depth cX7_depth 4 (some .int) 1 := ⟨⟨(zT_4 42 (by decide +kernel) rfl), (zT_4 44 (by decide +kernel) rfl), (zT_0 13 (by decide +kernel) rfl), (zT_1 8 (by decide +kernel) rfl), (zT_4 45 (by decide +kernel) rfl)⟩, by decide +kernel, by decide +kernel, by decide +kernel⟩
theorem zw_RX7_84 : zCv RX7 84 yX7_free cX7_free 3 (some .int) 0 := ⟨⟨(zT_4 46 (by decide +kernel) rfl), (zT_4 48 (by decide +kernel) rfl), (zT_0 14 (by decide +kernel) rfl), (zT_1 8 (by decide +kernel) rfl), (zT_4 49 (by decide +kernel) rfl)⟩, by decide +kernel, by decide +kernel, by decide +kernel⟩
theorem zw_RX7_88 : zCv RX7 88 yX7_isNode cX7_isNode 2 (some .boolean) 1 := ⟨⟨(zT_4 27 (by decide +kernel) rfl), (zT_4 29 (by decide +kernel) rfl), (zT_0 10 (by decide +kernel) rfl), (zT_1 8 (by decide +kernel) rfl), (zT_4 30 (by decide +kernel) rfl)⟩, by decide +kernel, by decide +kernel, by decide +kernel⟩
theorem zw_RX7_92 : zCs RX7 92 yX7_isOffset cX7_isOffset 1 (some .boolean) 1 := ⟨⟨(zT_4 35 (by decide +kernel) rfl), (zT_4 36 (by decide +kernel) rfl), (zT_1 8 (by decide +kernel) rfl), (zT_4 37 (by decide +kernel) rfl)⟩, by decide +kernel, by decide +kernel, by decide +kernel⟩
theorem zw_RX7_95 : zCv RX7 95 yX7_comes cX7_comes 6 (some .int) 2 := ⟨⟨(zT_4 38 (by decide +kernel) rfl), (zT_4 40 (by decide +kernel) rfl), (zT_0 12 (by decide +kernel) rfl), (zT_1 8 (by decide +kernel) rfl), (zT_4 41 (by decide +kernel) rfl)⟩, by decide +kernel, by decide +kernel, by decide +kernel⟩
theorem zw_RX7_98 : zCv RX7 98 yX7_isBelow cX7_isBelow 4 (some .boolean) 2 := ⟨⟨(zT_4 70 (by decide +kernel) rfl), (zT_4 72 (by decide +kernel) rfl), (zT_0 15 (by decide +kernel) rfl), (zT_1 8 (by decide +kernel) rfl), (zT_4 73 (by decide +kernel) rfl)⟩, by decide +kernel, by decide +kernel, by decide +kernel⟩
theorem zw_RX7_102 : zCv RX7 102 yX7_isChild cX7_isChild 3 (some .boolean) 2 := ⟨⟨(zT_4 86 (by decide +kernel) rfl), (zT_4 88 (by decide +kernel) rfl), (zT_0 17 (by decide +kernel) rfl), (zT_1 8 (by decide +kernel) rfl), (zT_4 89 (by decide +kernel) rfl)⟩, by decide +kernel, by decide +kernel, by decide +kernel⟩
theorem zw_RX7_105 : zCv RX7 105 yX7_children cX7_children 5 (some .int) 2 := ⟨⟨(zT_4 82 (by decide +kernel) rfl), (zT_4 84 (by decide +kernel) rfl), (zT_0 16 (by decide +kernel) rfl), (zT_1 8 (by decide +kernel) rfl), (zT_4 85 (by decide +kernel) rfl)⟩, by decide +kernel, by decide +kernel, by decide +kernel⟩
theorem zw_RX7_108 : zCv RX7 108 yX7_countBelow cX7_countBelow 4 (some .int) 1 := ⟨⟨(zT_4 90 (by decide +kernel) rfl), (zT_4 92 (by decide +kernel) rfl), (zT_0 18 (by decide +kernel) rfl), (zT_1 8 (by decide +kernel) rfl), (zT_4 93 (by decide +kernel) rfl)⟩, by decide +kernel, by decide +kernel, by decide +kernel⟩
theorem zw_RX7_111 : zCv RX7 111 yX7_becomes cX7_becomes 4 (some .int) 2 := ⟨⟨(zT_4 102 (by decide +kernel) rfl), (zT_4 104 (by decide +kernel) rfl), (zT_0 19 (by decide +kernel) rfl), (zT_1 8 (by decide +kernel) rfl), (zT_4 105 (by decide +kernel) rfl)⟩, by decide +kernel, by decide +kernel, by decide +kernel⟩
theorem zw_RX7_114 : zCv RX7 114 yX7_pointAt cX7_pointAt 5 (some .int) 2 := ⟨⟨(zT_4 120 (by decide +kernel) rfl), (zT_4 122 (by decide +kernel) rfl), (zT_0 20 (by decide +kernel) rfl), (zT_1 8 (by decide +kernel) rfl), (zT_4 123 (by decide +kernel) rfl)⟩, by decide +kernel, by decide +kernel, by decide +kernel⟩
theorem zw_RX7_117 : zCs RX7 117 yX7_isPlate cX7_isPlate 1 (some .boolean) 1 := ⟨⟨(zT_4 114 (by decide +kernel) rfl), (zT_4 115 (by decide +kernel) rfl), (zT_1 8 (by decide +kernel) rfl), (zT_4 116 (by decide +kernel) rfl)⟩, by decide +kernel, by decide +kernel, by decide +kernel⟩
theorem zw_RX7_120 : zCs RX7 120 yX7_isValue cX7_isValue 1 (some .boolean) 1 := ⟨⟨(zT_4 117 (by decide +kernel) rfl), (zT_4 118 (by decide +kernel) rfl), (zT_1 8 (by decide +kernel) rfl), (zT_4 119 (by decide +kernel) rfl)⟩, by decide +kernel, by decide +kernel, by decide +kernel⟩
theorem zw_RX7_123 : zCv RX7 123 yX7_valueOf cX7_valueOf 9 (some .int) 2 := ⟨⟨(zT_4 132 (by decide +kernel) rfl), (zT_4 134 (by decide +kernel) rfl), (zT_0 21 (by decide +kernel) rfl), (zT_1 8 (by decide +kernel) rfl), (zT_4 135 (by decide +kernel) rfl)⟩, by decide +kernel, by decide +kernel, by decide +kernel⟩
theorem zw_RX7_129 : zCv RX7 129 yX7_lastChild cX7_lastChild 5 (some .int) 2 := ⟨⟨(zT_4 156 (by decide +kernel) rfl), (zT_4 158 (by decide +kernel) rfl), (zT_0 24 (by decide +kernel) rfl), (zT_1 8 (by decide +kernel) rfl), (zT_4 159 (by decide +kernel) rfl)⟩, by decide +kernel, by decide +kernel, by decide +kernel⟩
theorem zw_RX7_132 : zCs RX7 132 yX7_floor cX7_floor 3 (some .int) 2 := ⟨⟨(zT_4 176 (by decide +kernel) rfl), (zT_4 177 (by decide +kernel) rfl), (zT_1 8 (by decide +kernel) rfl), (zT_4 178 (by decide +kernel) rfl)⟩, by decide +kernel, by decide +kernel, by decide +kernel⟩
theorem zw_RX7_135 : zCv RX7 135 yX7_moves cX7_moves 4 none 3 := ⟨⟨(zT_4 172 (by decide +kernel) rfl), (zT_4 174 (by decide +kernel) rfl), (zT_0 28 (by decide +kernel) rfl), (zT_1 8 (by decide +kernel) rfl), (zT_4 175 (by decide +kernel) rfl)⟩, by decide +kernel, by decide +kernel, by decide +kernel⟩
theorem zw_RX7_139 : zCv RX7 139 yX7_isIn cX7_isIn 7 (some .boolean) 3 := ⟨⟨(zT_4 164 (by decide +kernel) rfl), (zT_4 166 (by decide +kernel) rfl), (zT_0 26 (by decide +kernel) rfl), (zT_1 8 (by decide +kernel) rfl), (zT_4 167 (by decide +kernel) rfl)⟩, by decide +kernel, by decide +kernel, by decide +kernel⟩
theorem zw_RX7_142 : zCv RX7 142 yX7_touches cX7_touches 5 none 1 := ⟨⟨(zT_4 168 (by decide +kernel) rfl), (zT_4 170 (by decide +kernel) rfl), (zT_0 27 (by decide +kernel) rfl), (zT_1 8 (by decide +kernel) rfl), (zT_4 171 (by decide +kernel) rfl)⟩, by decide +kernel, by decide +kernel, by decide +kernel⟩
theorem zw_RX7_146 : zCv RX7 146 yX7_limits cX7_limits 5 none 0 := ⟨⟨(zT_4 187 (by decide +kernel) rfl), (zT_4 189 (by decide +kernel) rfl), (zT_0 30 (by decide +kernel) rfl), (zT_1 8 (by decide +kernel) rfl), (zT_4 190 (by decide +kernel) rfl)⟩, by decide +kernel, by decide +kernel, by decide +kernel⟩
theorem zw_RX7_149 : zCv RX7 149 yX7_isPixel cX7_isPixel 3 (some .boolean) 2 := ⟨⟨(zT_4 148 (by decide +kernel) rfl), (zT_4 150 (by decide +kernel) rfl), (zT_0 22 (by decide +kernel) rfl), (zT_1 8 (by decide +kernel) rfl), (zT_4 151 (by decide +kernel) rfl)⟩, by decide +kernel, by decide +kernel, by decide +kernel⟩
theorem zw_RX7_152 : zCv RX7 152 yX7_lays cX7_lays 6 none 0 := ⟨⟨(zT_4 152 (by decide +kernel) rfl), (zT_4 154 (by decide +kernel) rfl), (zT_0 23 (by decide +kernel) rfl), (zT_1 8 (by decide +kernel) rfl), (zT_4 155 (by decide +kernel) rfl)⟩, by decide +kernel, by decide +kernel, by decide +kernel⟩
theorem zw_RX7_155 : zCv RX7 155 yX7_renders cX7_renders 4 none 2 := ⟨⟨(zT_4 160 (by decide +kernel) rfl), (zT_4 162 (by decide +kernel) rfl), (zT_0 25 (by decide +kernel) rfl), (zT_1 8 (by decide +kernel) rfl), (zT_4 163 (by decide +kernel) rfl)⟩, by decide +kernel, by decide +kernel, by decide +kernel⟩
theorem zw_RX7_159 : zCv RX7 159 yX7_separates cX7_separates 5 none 1 := ⟨⟨(zT_4 183 (by decide +kernel) rfl), (zT_4 185 (by decide +kernel) rfl), (zT_0 29 (by decide +kernel) rfl), (zT_1 8 (by decide +kernel) rfl), (zT_4 186 (by decide +kernel) rfl)⟩, by decide +kernel, by decide +kernel, by decide +kernel⟩
theorem zw_RX7_162 : zCv RX7 162 yX7_told cX7_told 4 (some .int) 1 := ⟨⟨(zT_4 191 (by decide +kernel) rfl), (zT_4 193 (by decide +kernel) rfl), (zT_0 31 (by decide +kernel) rfl), (zT_1 8 (by decide +kernel) rfl), (zT_4 194 (by decide +kernel) rfl)⟩, by decide +kernel, by decide +kernel, by decide +kernel⟩
theorem zw_RX7_167 : zCv RX7 167 yX7_pixels cX7_pixels 1 (some .int) 0 := ⟨⟨(zT_4 213 (by decide +kernel) rfl), (zT_4 215 (by decide +kernel) rfl), (zT_0 33 (by decide +kernel) rfl), (zT_1 8 (by decide +kernel) rfl), (zT_4 216 (by decide +kernel) rfl)⟩, by decide +kernel, by decide +kernel, by decide +kernel⟩
theorem zw_RX7_170 : zCv RX7 170 yX7_pixelAt cX7_pixelAt 3 none 2 := ⟨⟨(zT_4 217 (by decide +kernel) rfl), (zT_4 219 (by decide +kernel) rfl), (zT_0 34 (by decide +kernel) rfl), (zT_1 8 (by decide +kernel) rfl), (zT_4 220 (by decide +kernel) rfl)⟩, by decide +kernel, by decide +kernel, by decide +kernel⟩
theorem zw_RX7_173 : zCv RX7 173 yX7_covered cX7_covered 5 (some .int) 2 := ⟨⟨(zT_4 209 (by decide +kernel) rfl), (zT_4 211 (by decide +kernel) rfl), (zT_0 32 (by decide +kernel) rfl), (zT_1 8 (by decide +kernel) rfl), (zT_4 212 (by decide +kernel) rfl)⟩, by decide +kernel, by decide +kernel, by decide +kernel⟩
theorem zw_RX7_179 : zCv RX7 179 yX7_isInk cX7_isInk 4 (some .boolean) 1 := ⟨⟨(zT_5 1 (by decide +kernel) rfl), (zT_5 3 (by decide +kernel) rfl), (zT_0 36 (by decide +kernel) rfl), (zT_1 8 (by decide +kernel) rfl), (zT_5 4 (by decide +kernel) rfl)⟩, by decide +kernel, by decide +kernel, by decide +kernel⟩
theorem zw_RX7_182 : zCv RX7 182 yX7_counts cX7_counts 4 none 0 := ⟨⟨(zT_4 237 (by decide +kernel) rfl), (zT_4 239 (by decide +kernel) rfl), (zT_0 35 (by decide +kernel) rfl), (zT_1 8 (by decide +kernel) rfl), (zT_5 0 (by decide +kernel) rfl)⟩, by decide +kernel, by decide +kernel, by decide +kernel⟩
theorem zw_RX7_185 : zCv RX7 185 yX7_isAhead cX7_isAhead 4 (some .boolean) 2 := ⟨⟨(zT_5 9 (by decide +kernel) rfl), (zT_5 11 (by decide +kernel) rfl), (zT_0 37 (by decide +kernel) rfl), (zT_1 8 (by decide +kernel) rfl), (zT_5 12 (by decide +kernel) rfl)⟩, by decide +kernel, by decide +kernel, by decide +kernel⟩
theorem zw_RX7_188 : zCv RX7 188 yX7_sumEarly cX7_sumEarly 3 (some .int) 0 := ⟨⟨(zT_5 17 (by decide +kernel) rfl), (zT_5 19 (by decide +kernel) rfl), (zT_0 38 (by decide +kernel) rfl), (zT_1 8 (by decide +kernel) rfl), (zT_5 20 (by decide +kernel) rfl)⟩, by decide +kernel, by decide +kernel, by decide +kernel⟩
theorem zw_RX7_191 : zCv RX7 191 yX7_isDisordered cX7_isDisordered 4 (some .boolean) 0 := ⟨⟨(zT_5 29 (by decide +kernel) rfl), (zT_5 31 (by decide +kernel) rfl), (zT_0 39 (by decide +kernel) rfl), (zT_1 8 (by decide +kernel) rfl), (zT_5 32 (by decide +kernel) rfl)⟩, by decide +kernel, by decide +kernel, by decide +kernel⟩
theorem zw_RX1_20 : zCn RX1 20 yX6_sameValues "SeparationDesk" cX6_sameValues 3 (some .boolean) 2 := ⟨⟨by decide +kernel, (zT_3 120 (by decide +kernel) rfl), (zT_1 1 (by decide +kernel) rfl), (zT_3 121 (by decide +kernel) rfl)⟩, by decide +kernel, by decide +kernel, by decide +kernel⟩
theorem zw_RX1_24 : zCn RX1 24 yX6_sumOf "SeparationDesk" cX6_sumOf 6 (some .int) 1 := ⟨⟨by decide +kernel, (zT_3 81 (by decide +kernel) rfl), (zT_1 1 (by decide +kernel) rfl), (zT_3 82 (by decide +kernel) rfl)⟩, by decide +kernel, by decide +kernel, by decide +kernel⟩
theorem zw_RX2_73 : zCn RX2 73 yX6_within "SeparationDesk" cX6_within 3 (some .boolean) 3 := ⟨⟨by decide +kernel, (zT_2 27 (by decide +kernel) rfl), (zT_1 1 (by decide +kernel) rfl), (zT_2 28 (by decide +kernel) rfl)⟩, by decide +kernel, by decide +kernel, by decide +kernel⟩
theorem zw_RX3_88 : zCn RX3 88 yX6_within "SeparationDesk" cX6_within 3 (some .boolean) 3 := ⟨⟨by decide +kernel, (zT_2 27 (by decide +kernel) rfl), (zT_1 1 (by decide +kernel) rfl), (zT_2 28 (by decide +kernel) rfl)⟩, by decide +kernel, by decide +kernel, by decide +kernel⟩
theorem zw_RX3_134 : zCn RX3 134 yX6_sumOf "SeparationDesk" cX6_sumOf 6 (some .int) 1 := ⟨⟨by decide +kernel, (zT_3 81 (by decide +kernel) rfl), (zT_1 1 (by decide +kernel) rfl), (zT_3 82 (by decide +kernel) rfl)⟩, by decide +kernel, by decide +kernel, by decide +kernel⟩
theorem zw_RX5_42 : zCn RX5 42 yX6_within "SeparationDesk" cX6_within 3 (some .boolean) 3 := ⟨⟨by decide +kernel, (zT_2 27 (by decide +kernel) rfl), (zT_1 1 (by decide +kernel) rfl), (zT_2 28 (by decide +kernel) rfl)⟩, by decide +kernel, by decide +kernel, by decide +kernel⟩
end
section
/-! printed by gen.py: X0_init X0_copyFrom X0_indexOf X0_keepsRising X0_openGap X0_put X0_drop X0_between X0_valueAt X0_straighten X1_init X6_sameValues X6_sumOf X1_add X1_comesBefore X1_inksBefore X1_rowAt X1_valueOf X2_init X2_takeBox X2_takeColor -/
def zrX0_init : Room := { frames := 1, cells := 2, slots := 16, locals := 20 }
def mX0_init (a0 : Nat) (h : Zm) (Q : Zm → Prop) : Prop :=
  cRc h 10 a0 <| cNw h 1 8 fun r1 h2 => cPr h2 10 a0 0 r1 fun h3 => cNw h3 1 8 fun r4 h5 => cPr h5 10 a0 1 r4 fun h6 => cGr h6 10 a0 0 fun r7 => cSt h6 r7 1 255 fun h8 => cGr h8 10 a0 1 fun r9 => cSt h8 r9 1 255 fun h10 => cPi h10 10 a0 2 2 fun h11 => Q h11
section
variable {p : Program} {l : Launch} {e : Env} {s : State} {m : MethodId} {args : Array Value} {below : List Frame} {meth : Method} {c : Code} {D : Zd} {base : Nat}
set_option maxRecDepth 100000 in
set_option maxHeartbeats 4000000 in
theorem rX0_init (hc : zOk p s m args meth c D cX0_init 1 RX0 none) (hin : meth.name = "<init>") {a0 : Nat} {h : Zm} {Q : Zm → Prop} (H : mX0_init a0 h Q) : zW p l e zrX0_init s m args below meth c D base 1 (MQ below (zQv D base Q) args s 2 16 (zFree base)) 0 0 0 [some (.inr a0)] [] h := by
  unfold mX0_init at H
  refine z_aload_n (pc := 0) hc dX0_init_0 rfl ?_
  refine z_objInit (pc := 1) hc dX0_init_1 (zT_mem 189 (by decide +kernel) rfl) (zT_mem 56 (by decide +kernel) rfl) (zT_mem 57 (by decide +kernel) rfl) (by decide) (by decide) (by decide) (d := 10) (by decide) H (fun H => ?_)
  refine z_aload_n (pc := 4) hc dX0_init_4 rfl ?_
  refine z_bipush (pc := 5) hc dX0_init_5 (by decide) ?_
  refine z_newarr (pc := 7) (t := 1) (n := 8) hc dX0_init_7 (by decide) rfl (zT_mem 165 (by decide +kernel) rfl) (by decide) (by exact Nat.le_of_ble_eq_true rfl) (by exact Nat.le_of_ble_eq_true rfl) H (fun r1 h2 H => ?_)
  refine z_putR (pc := 9) hc dX0_init_9 zf_RX0_9 rfl rfl rfl hin (fun C T N q => by cases q; rfl) H (fun h3 H => ?_)
  refine z_aload_n (pc := 12) hc dX0_init_12 rfl ?_
  refine z_bipush (pc := 13) hc dX0_init_13 (by decide) ?_
  refine z_newarr (pc := 15) (t := 1) (n := 8) hc dX0_init_15 (by decide) rfl (zT_mem 165 (by decide +kernel) rfl) (by decide) (by exact Nat.le_of_ble_eq_true rfl) (by exact Nat.le_of_ble_eq_true rfl) H (fun r4 h5 H => ?_)
  refine z_putR (pc := 17) hc dX0_init_17 zf_RX0_15 rfl rfl rfl hin (fun C T N q => by cases q; rfl) H (fun h6 H => ?_)
  refine z_aload_n (pc := 20) hc dX0_init_20 rfl ?_
  refine z_getR (pc := 21) hc dX0_init_21 zf_RX0_9 rfl rfl rfl H (fun r7 H => ?_)
  refine z_iconst (pc := 24) hc dX0_init_24 ?_
  refine z_sipush (pc := 25) hc dX0_init_25 (by decide) ?_
  refine z_iastore (pc := 28) hc dX0_init_28 H (fun h8 H => ?_)
  refine z_aload_n (pc := 29) hc dX0_init_29 rfl ?_
  refine z_getR (pc := 30) hc dX0_init_30 zf_RX0_15 rfl rfl rfl H (fun r9 H => ?_)
  refine z_iconst (pc := 33) hc dX0_init_33 ?_
  refine z_sipush (pc := 34) hc dX0_init_34 (by decide) ?_
  refine z_iastore (pc := 37) hc dX0_init_37 H (fun h10 H => ?_)
  refine z_aload_n (pc := 38) hc dX0_init_38 rfl ?_
  refine z_iconst (pc := 39) hc dX0_init_39 ?_
  refine z_putI (pc := 40) hc dX0_init_40 zf_RX0_18 rfl rfl rfl H (fun h11 H => ?_)
  refine z_cells (cells' := 2) (slots' := 16) (by omega) (by omega) ?_
  exact z_return (pc := 43) hc dX0_init_43 H
end
theorem metX0_init (l : Launch) (D : Zd) (base : Nat) {a0 : Nat} {h : Zm} {Q : Zm → Prop} (H : mX0_init a0 h Q) : zMet l D base yX0_init cX0_init 1 none zrX0_init [.inr a0] h (zQv D base Q) :=
  z_met (by decide +kernel) (Nat.le_of_ble_eq_true rfl) (fun p e s m args below meth c hc hn => rX0_init hc hn H)
def zrX0_copyFrom : Room := { frames := 0, cells := 0, slots := 0, locals := 0 }
def mX0_copyFrom_B2 (X2 : Int → Zm → Prop) (a0 : Nat) (a1 : Nat) (x2 : Int) (h : Zm) (Q : Zm → Prop) : Prop :=
  cLt x2 8
  (cGr h 10 a0 0 fun r3 => cGr h 10 a1 0 fun r4 => cLd h 1 r4 x2 fun v5 => cSt h r3 x2 v5 fun h6 => cGr h6 10 a0 1 fun r7 => cGr h6 10 a1 1 fun r8 => cLd h6 1 r8 x2 fun v9 => cSt h6 r7 x2 v9 fun h10 => X2 (x2 + 1) h10)
  (cGi h 10 a1 2 fun v1 => cPi h 10 a0 2 v1 fun h2 => Q h2)
def mX0_copyFrom_H2  (a0 : Nat) (a1 : Nat) (x2 : Int) (h : Zm) (Q : Zm → Prop) : Prop :=
  lfp1 (fun X2 x2 h => mX0_copyFrom_B2 X2 a0 a1 x2 h Q) x2 h
def mX0_copyFrom (a0 : Nat) (a1 : Nat) (h : Zm) (Q : Zm → Prop) : Prop :=
  mX0_copyFrom_H2  a0 a1 0 h Q
section
variable {p : Program} {l : Launch} {e : Env} {s : State} {m : MethodId} {args : Array Value} {below : List Frame} {meth : Method} {c : Code} {D : Zd} {base : Nat}
set_option maxRecDepth 100000 in
set_option maxHeartbeats 4000000 in
theorem rX0_copyFrom_B2 (hc : zOk p s m args meth c D cX0_copyFrom 3 RX0 none) {X2 : Int → Zm → Prop} {a0 : Nat} {a1 : Nat} {x2 : Int} {h : Zm} {Q : Zm → Prop} (hX2 : ∀ (x2 : Int) (h : Zm), X2 x2 h → zW p l e zrX0_copyFrom s m args below meth c D base 3 (MQ below (zQv D base Q) args s 0 0 (zFree base)) 0 0 2 [some (.inr a0), some (.inr a1), some (.inl x2)] [] h) (H : mX0_copyFrom_B2 X2 a0 a1 x2 h Q) : zW p l e zrX0_copyFrom s m args below meth c D base 3 (MQ below (zQv D base Q) args s 0 0 (zFree base)) 0 0 2 [some (.inr a0), some (.inr a1), some (.inl x2)] [] h := by
  unfold mX0_copyFrom_B2 at H
  refine z_iload_n (pc := 2) hc dX0_copyFrom_2 rfl ?_
  refine z_bipush (pc := 3) hc dX0_copyFrom_3 (by decide) ?_
  refine z_icmp_ge (tgt := 38) (pc := 5) hc dX0_copyFrom_5 rfl H (fun H => ?_) (fun H => ?_)
  · refine z_aload_n (pc := 8) hc dX0_copyFrom_8 rfl ?_
    refine z_getR (pc := 9) hc dX0_copyFrom_9 zf_RX0_9 rfl rfl rfl H (fun r3 H => ?_)
    refine z_iload_n (pc := 12) hc dX0_copyFrom_12 rfl ?_
    refine z_aload_n (pc := 13) hc dX0_copyFrom_13 rfl ?_
    refine z_getR (pc := 14) hc dX0_copyFrom_14 zf_RX0_9 rfl rfl rfl H (fun r4 H => ?_)
    refine z_iload_n (pc := 17) hc dX0_copyFrom_17 rfl ?_
    refine z_iaload (pc := 18) hc dX0_copyFrom_18 H (fun v5 H => ?_)
    refine z_iastore (pc := 19) hc dX0_copyFrom_19 H (fun h6 H => ?_)
    refine z_aload_n (pc := 20) hc dX0_copyFrom_20 rfl ?_
    refine z_getR (pc := 21) hc dX0_copyFrom_21 zf_RX0_15 rfl rfl rfl H (fun r7 H => ?_)
    refine z_iload_n (pc := 24) hc dX0_copyFrom_24 rfl ?_
    refine z_aload_n (pc := 25) hc dX0_copyFrom_25 rfl ?_
    refine z_getR (pc := 26) hc dX0_copyFrom_26 zf_RX0_15 rfl rfl rfl H (fun r8 H => ?_)
    refine z_iload_n (pc := 29) hc dX0_copyFrom_29 rfl ?_
    refine z_iaload (pc := 30) hc dX0_copyFrom_30 H (fun v9 H => ?_)
    refine z_iastore (pc := 31) hc dX0_copyFrom_31 H (fun h10 H => ?_)
    refine z_iinc (pc := 32) hc dX0_copyFrom_32 (by decide) rfl (ρ' := [some (.inr a0), some (.inr a1), some (.inl (x2 + 1))]) rfl ?_
    refine z_goto (tgt := 2) (pc := 35) hc dX0_copyFrom_35 rfl ?_
    exact hX2 _ _ H
  · refine z_aload_n (pc := 38) hc dX0_copyFrom_38 rfl ?_
    refine z_aload_n (pc := 39) hc dX0_copyFrom_39 rfl ?_
    refine z_getI (pc := 40) hc dX0_copyFrom_40 zf_RX0_18 rfl rfl rfl H (fun v1 H => ?_)
    refine z_putI (pc := 43) hc dX0_copyFrom_43 zf_RX0_18 rfl rfl rfl H (fun h2 H => ?_)
    exact z_return (pc := 46) hc dX0_copyFrom_46 H
theorem rX0_copyFrom_H2 (hc : zOk p s m args meth c D cX0_copyFrom 3 RX0 none)  {a0 : Nat} {a1 : Nat} {x2 : Int} {h : Zm} {Q : Zm → Prop}  (H : mX0_copyFrom_H2  a0 a1 x2 h Q) : zW p l e zrX0_copyFrom s m args below meth c D base 3 (MQ below (zQv D base Q) args s 0 0 (zFree base)) 0 0 2 [some (.inr a0), some (.inr a1), some (.inl x2)] [] h :=
  H (fun x2 h => zW p l e zrX0_copyFrom s m args below meth c D base 3 (MQ below (zQv D base Q) args s 0 0 (zFree base)) 0 0 2 [some (.inr a0), some (.inr a1), some (.inl x2)] [] h) (fun x2 h H => rX0_copyFrom_B2 hc (fun _ _ q => q) H)
set_option maxRecDepth 100000 in
set_option maxHeartbeats 4000000 in
theorem rX0_copyFrom (hc : zOk p s m args meth c D cX0_copyFrom 3 RX0 none) {a0 : Nat} {a1 : Nat} {h : Zm} {Q : Zm → Prop} (H : mX0_copyFrom a0 a1 h Q) : zW p l e zrX0_copyFrom s m args below meth c D base 3 (MQ below (zQv D base Q) args s 0 0 (zFree base)) 0 0 0 [some (.inr a0), some (.inr a1), none] [] h := by
  unfold mX0_copyFrom at H
  refine z_iconst (pc := 0) hc dX0_copyFrom_0 ?_
  refine z_istore_n (pc := 1) hc dX0_copyFrom_1 (by decide) (ρ' := [some (.inr a0), some (.inr a1), some (.inl 0)]) rfl ?_
  exact rX0_copyFrom_H2 hc H
end
theorem metX0_copyFrom (l : Launch) (D : Zd) (base : Nat) {a0 : Nat} {a1 : Nat} {h : Zm} {Q : Zm → Prop} (H : mX0_copyFrom a0 a1 h Q) : zMet l D base yX0_copyFrom cX0_copyFrom 3 none zrX0_copyFrom [.inr a0, .inr a1] h (zQv D base Q) :=
  z_met (by decide +kernel) (Nat.le_of_ble_eq_true rfl) (fun p e s m args below meth c hc hn => rX0_copyFrom hc H)
def zrX0_indexOf : Room := { frames := 0, cells := 0, slots := 0, locals := 0 }
def mX0_indexOf_B2 (X2 : Int → Zm → Prop) (a0 : Nat) (x1 : Int) (x2 : Int) (h : Zm) (Q : Int → Zm → Prop) : Prop :=
  cGi h 10 a0 2 fun v1 => cLt x2 v1
  (cGr h 10 a0 0 fun r2 => cLd h 1 r2 x2 fun v3 => cEq v3 x1
    (Q x2 h)
    (X2 (x2 + 1) h))
  (Q (-1) h)
def mX0_indexOf_H2  (a0 : Nat) (x1 : Int) (x2 : Int) (h : Zm) (Q : Int → Zm → Prop) : Prop :=
  lfp1 (fun X2 x2 h => mX0_indexOf_B2 X2 a0 x1 x2 h Q) x2 h
def mX0_indexOf (a0 : Nat) (x1 : Int) (h : Zm) (Q : Int → Zm → Prop) : Prop :=
  mX0_indexOf_H2  a0 x1 0 h Q
section
variable {p : Program} {l : Launch} {e : Env} {s : State} {m : MethodId} {args : Array Value} {below : List Frame} {meth : Method} {c : Code} {D : Zd} {base : Nat}
set_option maxRecDepth 100000 in
set_option maxHeartbeats 4000000 in
theorem rX0_indexOf_B2 (hc : zOk p s m args meth c D cX0_indexOf 3 RX0 (some .int)) {X2 : Int → Zm → Prop} {a0 : Nat} {x1 : Int} {x2 : Int} {h : Zm} {Q : Int → Zm → Prop} (hX2 : ∀ (x2 : Int) (h : Zm), X2 x2 h → zW p l e zrX0_indexOf s m args below meth c D base 3 (MQ below (zQi D base Q) args s 0 0 (zFree base)) 0 0 2 [some (.inr a0), some (.inl x1), some (.inl x2)] [] h) (H : mX0_indexOf_B2 X2 a0 x1 x2 h Q) : zW p l e zrX0_indexOf s m args below meth c D base 3 (MQ below (zQi D base Q) args s 0 0 (zFree base)) 0 0 2 [some (.inr a0), some (.inl x1), some (.inl x2)] [] h := by
  unfold mX0_indexOf_B2 at H
  refine z_iload_n (pc := 2) hc dX0_indexOf_2 rfl ?_
  refine z_aload_n (pc := 3) hc dX0_indexOf_3 rfl ?_
  refine z_getI (pc := 4) hc dX0_indexOf_4 zf_RX0_18 rfl rfl rfl H (fun v1 H => ?_)
  refine z_icmp_ge (tgt := 28) (pc := 7) hc dX0_indexOf_7 rfl H (fun H => ?_) (fun H => ?_)
  · refine z_aload_n (pc := 10) hc dX0_indexOf_10 rfl ?_
    refine z_getR (pc := 11) hc dX0_indexOf_11 zf_RX0_9 rfl rfl rfl H (fun r2 H => ?_)
    refine z_iload_n (pc := 14) hc dX0_indexOf_14 rfl ?_
    refine z_iaload (pc := 15) hc dX0_indexOf_15 H (fun v3 H => ?_)
    refine z_iload_n (pc := 16) hc dX0_indexOf_16 rfl ?_
    refine z_icmp_ne (tgt := 22) (pc := 17) hc dX0_indexOf_17 rfl H (fun H => ?_) (fun H => ?_)
    · refine z_iload_n (pc := 20) hc dX0_indexOf_20 rfl ?_
      exact z_ireturn (pc := 21) hc dX0_indexOf_21 H
    · refine z_iinc (pc := 22) hc dX0_indexOf_22 (by decide) rfl (ρ' := [some (.inr a0), some (.inl x1), some (.inl (x2 + 1))]) rfl ?_
      refine z_goto (tgt := 2) (pc := 25) hc dX0_indexOf_25 rfl ?_
      exact hX2 _ _ H
  · refine z_iconst (pc := 28) hc dX0_indexOf_28 ?_
    exact z_ireturn (pc := 29) hc dX0_indexOf_29 H
theorem rX0_indexOf_H2 (hc : zOk p s m args meth c D cX0_indexOf 3 RX0 (some .int))  {a0 : Nat} {x1 : Int} {x2 : Int} {h : Zm} {Q : Int → Zm → Prop}  (H : mX0_indexOf_H2  a0 x1 x2 h Q) : zW p l e zrX0_indexOf s m args below meth c D base 3 (MQ below (zQi D base Q) args s 0 0 (zFree base)) 0 0 2 [some (.inr a0), some (.inl x1), some (.inl x2)] [] h :=
  H (fun x2 h => zW p l e zrX0_indexOf s m args below meth c D base 3 (MQ below (zQi D base Q) args s 0 0 (zFree base)) 0 0 2 [some (.inr a0), some (.inl x1), some (.inl x2)] [] h) (fun x2 h H => rX0_indexOf_B2 hc (fun _ _ q => q) H)
set_option maxRecDepth 100000 in
set_option maxHeartbeats 4000000 in
theorem rX0_indexOf (hc : zOk p s m args meth c D cX0_indexOf 3 RX0 (some .int)) {a0 : Nat} {x1 : Int} {h : Zm} {Q : Int → Zm → Prop} (H : mX0_indexOf a0 x1 h Q) : zW p l e zrX0_indexOf s m args below meth c D base 3 (MQ below (zQi D base Q) args s 0 0 (zFree base)) 0 0 0 [some (.inr a0), some (.inl x1), none] [] h := by
  unfold mX0_indexOf at H
  refine z_iconst (pc := 0) hc dX0_indexOf_0 ?_
  refine z_istore_n (pc := 1) hc dX0_indexOf_1 (by decide) (ρ' := [some (.inr a0), some (.inl x1), some (.inl 0)]) rfl ?_
  exact rX0_indexOf_H2 hc H
end
theorem metX0_indexOf (l : Launch) (D : Zd) (base : Nat) {a0 : Nat} {x1 : Int} {h : Zm} {Q : Int → Zm → Prop} (H : mX0_indexOf a0 x1 h Q) : zMet l D base yX0_indexOf cX0_indexOf 3 (some .int) zrX0_indexOf [.inr a0, .inl x1] h (zQi D base Q) :=
  z_met (by decide +kernel) (Nat.le_of_ble_eq_true rfl) (fun p e s m args below meth c hc hn => rX0_indexOf hc H)
def zrX0_keepsRising : Room := { frames := 0, cells := 0, slots := 0, locals := 0 }
def mX0_keepsRising_J32 (X2 : Int → Zm → Prop) (a0 : Nat) (x1 : Int) (x2 : Int) (x3 : Int) (h : Zm) (Q : Int → Zm → Prop) : Prop :=
  cGr h 10 a0 0 fun r6 => cLd h 1 r6 x3 fun v7 => cLe v7 x1
  (X2 (x3 + 1) h)
  (cGr h 10 a0 1 fun r8 => cLd h 1 r8 x3 fun v9 => cLt v9 x2
    (Q 0 h)
    (X2 (x3 + 1) h))
def mX0_keepsRising_B2 (X2 : Int → Zm → Prop) (a0 : Nat) (x1 : Int) (x2 : Int) (x3 : Int) (h : Zm) (Q : Int → Zm → Prop) : Prop :=
  cGi h 10 a0 2 fun v1 => cLt x3 v1
  (cGr h 10 a0 0 fun r2 => cLd h 1 r2 x3 fun v3 => cLt v3 x1
    (cGr h 10 a0 1 fun r4 => cLd h 1 r4 x3 fun v5 => cLe v5 x2
      (mX0_keepsRising_J32 X2 a0 x1 x2 x3 h Q)
      (Q 0 h))
    (mX0_keepsRising_J32 X2 a0 x1 x2 x3 h Q))
  (Q 1 h)
def mX0_keepsRising_H2  (a0 : Nat) (x1 : Int) (x2 : Int) (x3 : Int) (h : Zm) (Q : Int → Zm → Prop) : Prop :=
  lfp1 (fun X2 x3 h => mX0_keepsRising_B2 X2 a0 x1 x2 x3 h Q) x3 h
def mX0_keepsRising (a0 : Nat) (x1 : Int) (x2 : Int) (h : Zm) (Q : Int → Zm → Prop) : Prop :=
  mX0_keepsRising_H2  a0 x1 x2 0 h Q
section
variable {p : Program} {l : Launch} {e : Env} {s : State} {m : MethodId} {args : Array Value} {below : List Frame} {meth : Method} {c : Code} {D : Zd} {base : Nat}
set_option maxRecDepth 100000 in
set_option maxHeartbeats 4000000 in
theorem rX0_keepsRising_J32 (hc : zOk p s m args meth c D cX0_keepsRising 4 RX0 (some .boolean)) {X2 : Int → Zm → Prop} {a0 : Nat} {x1 : Int} {x2 : Int} {x3 : Int} {h : Zm} {Q : Int → Zm → Prop} (hX2 : ∀ (x3 : Int) (h : Zm), X2 x3 h → zW p l e zrX0_keepsRising s m args below meth c D base 4 (MQ below (zQi D base Q) args s 0 0 (zFree base)) 0 0 2 [some (.inr a0), some (.inl x1), some (.inl x2), some (.inl x3)] [] h) (H : mX0_keepsRising_J32 X2 a0 x1 x2 x3 h Q) : zW p l e zrX0_keepsRising s m args below meth c D base 4 (MQ below (zQi D base Q) args s 0 0 (zFree base)) 0 0 32 [some (.inr a0), some (.inl x1), some (.inl x2), some (.inl x3)] [] h := by
  unfold mX0_keepsRising_J32 at H
  refine z_aload_n (pc := 32) hc dX0_keepsRising_32 rfl ?_
  refine z_getR (pc := 33) hc dX0_keepsRising_33 zf_RX0_9 rfl rfl rfl H (fun r6 H => ?_)
  refine z_iload_n (pc := 36) hc dX0_keepsRising_36 rfl ?_
  refine z_iaload (pc := 37) hc dX0_keepsRising_37 H (fun v7 H => ?_)
  refine z_iload_n (pc := 38) hc dX0_keepsRising_38 rfl ?_
  refine z_icmp_le (tgt := 54) (pc := 39) hc dX0_keepsRising_39 rfl H (fun H => ?_) (fun H => ?_)
  · refine z_iinc (pc := 54) hc dX0_keepsRising_54 (by decide) rfl (ρ' := [some (.inr a0), some (.inl x1), some (.inl x2), some (.inl (x3 + 1))]) rfl ?_
    refine z_goto (tgt := 2) (pc := 57) hc dX0_keepsRising_57 rfl ?_
    exact hX2 _ _ H
  · refine z_aload_n (pc := 42) hc dX0_keepsRising_42 rfl ?_
    refine z_getR (pc := 43) hc dX0_keepsRising_43 zf_RX0_15 rfl rfl rfl H (fun r8 H => ?_)
    refine z_iload_n (pc := 46) hc dX0_keepsRising_46 rfl ?_
    refine z_iaload (pc := 47) hc dX0_keepsRising_47 H (fun v9 H => ?_)
    refine z_iload_n (pc := 48) hc dX0_keepsRising_48 rfl ?_
    refine z_icmp_ge (tgt := 54) (pc := 49) hc dX0_keepsRising_49 rfl H (fun H => ?_) (fun H => ?_)
    · refine z_iconst (pc := 52) hc dX0_keepsRising_52 ?_
      exact z_zreturn (pc := 53) hc dX0_keepsRising_53 ⟨Or.inl rfl, H⟩
    · refine z_iinc (pc := 54) hc dX0_keepsRising_54 (by decide) rfl (ρ' := [some (.inr a0), some (.inl x1), some (.inl x2), some (.inl (x3 + 1))]) rfl ?_
      refine z_goto (tgt := 2) (pc := 57) hc dX0_keepsRising_57 rfl ?_
      exact hX2 _ _ H
set_option maxRecDepth 100000 in
set_option maxHeartbeats 4000000 in
theorem rX0_keepsRising_B2 (hc : zOk p s m args meth c D cX0_keepsRising 4 RX0 (some .boolean)) {X2 : Int → Zm → Prop} {a0 : Nat} {x1 : Int} {x2 : Int} {x3 : Int} {h : Zm} {Q : Int → Zm → Prop} (hX2 : ∀ (x3 : Int) (h : Zm), X2 x3 h → zW p l e zrX0_keepsRising s m args below meth c D base 4 (MQ below (zQi D base Q) args s 0 0 (zFree base)) 0 0 2 [some (.inr a0), some (.inl x1), some (.inl x2), some (.inl x3)] [] h) (H : mX0_keepsRising_B2 X2 a0 x1 x2 x3 h Q) : zW p l e zrX0_keepsRising s m args below meth c D base 4 (MQ below (zQi D base Q) args s 0 0 (zFree base)) 0 0 2 [some (.inr a0), some (.inl x1), some (.inl x2), some (.inl x3)] [] h := by
  unfold mX0_keepsRising_B2 at H
  refine z_iload_n (pc := 2) hc dX0_keepsRising_2 rfl ?_
  refine z_aload_n (pc := 3) hc dX0_keepsRising_3 rfl ?_
  refine z_getI (pc := 4) hc dX0_keepsRising_4 zf_RX0_18 rfl rfl rfl H (fun v1 H => ?_)
  refine z_icmp_ge (tgt := 60) (pc := 7) hc dX0_keepsRising_7 rfl H (fun H => ?_) (fun H => ?_)
  · refine z_aload_n (pc := 10) hc dX0_keepsRising_10 rfl ?_
    refine z_getR (pc := 11) hc dX0_keepsRising_11 zf_RX0_9 rfl rfl rfl H (fun r2 H => ?_)
    refine z_iload_n (pc := 14) hc dX0_keepsRising_14 rfl ?_
    refine z_iaload (pc := 15) hc dX0_keepsRising_15 H (fun v3 H => ?_)
    refine z_iload_n (pc := 16) hc dX0_keepsRising_16 rfl ?_
    refine z_icmp_ge (tgt := 32) (pc := 17) hc dX0_keepsRising_17 rfl H (fun H => ?_) (fun H => ?_)
    · refine z_aload_n (pc := 20) hc dX0_keepsRising_20 rfl ?_
      refine z_getR (pc := 21) hc dX0_keepsRising_21 zf_RX0_15 rfl rfl rfl H (fun r4 H => ?_)
      refine z_iload_n (pc := 24) hc dX0_keepsRising_24 rfl ?_
      refine z_iaload (pc := 25) hc dX0_keepsRising_25 H (fun v5 H => ?_)
      refine z_iload_n (pc := 26) hc dX0_keepsRising_26 rfl ?_
      refine z_icmp_le (tgt := 32) (pc := 27) hc dX0_keepsRising_27 rfl H (fun H => ?_) (fun H => ?_)
      · exact rX0_keepsRising_J32 hc hX2 H
      · refine z_iconst (pc := 30) hc dX0_keepsRising_30 ?_
        exact z_zreturn (pc := 31) hc dX0_keepsRising_31 ⟨Or.inl rfl, H⟩
    · exact rX0_keepsRising_J32 hc hX2 H
  · refine z_iconst (pc := 60) hc dX0_keepsRising_60 ?_
    exact z_zreturn (pc := 61) hc dX0_keepsRising_61 ⟨Or.inr rfl, H⟩
theorem rX0_keepsRising_H2 (hc : zOk p s m args meth c D cX0_keepsRising 4 RX0 (some .boolean))  {a0 : Nat} {x1 : Int} {x2 : Int} {x3 : Int} {h : Zm} {Q : Int → Zm → Prop}  (H : mX0_keepsRising_H2  a0 x1 x2 x3 h Q) : zW p l e zrX0_keepsRising s m args below meth c D base 4 (MQ below (zQi D base Q) args s 0 0 (zFree base)) 0 0 2 [some (.inr a0), some (.inl x1), some (.inl x2), some (.inl x3)] [] h :=
  H (fun x3 h => zW p l e zrX0_keepsRising s m args below meth c D base 4 (MQ below (zQi D base Q) args s 0 0 (zFree base)) 0 0 2 [some (.inr a0), some (.inl x1), some (.inl x2), some (.inl x3)] [] h) (fun x3 h H => rX0_keepsRising_B2 hc (fun _ _ q => q) H)
set_option maxRecDepth 100000 in
set_option maxHeartbeats 4000000 in
theorem rX0_keepsRising (hc : zOk p s m args meth c D cX0_keepsRising 4 RX0 (some .boolean)) {a0 : Nat} {x1 : Int} {x2 : Int} {h : Zm} {Q : Int → Zm → Prop} (H : mX0_keepsRising a0 x1 x2 h Q) : zW p l e zrX0_keepsRising s m args below meth c D base 4 (MQ below (zQi D base Q) args s 0 0 (zFree base)) 0 0 0 [some (.inr a0), some (.inl x1), some (.inl x2), none] [] h := by
  unfold mX0_keepsRising at H
  refine z_iconst (pc := 0) hc dX0_keepsRising_0 ?_
  refine z_istore_n (pc := 1) hc dX0_keepsRising_1 (by decide) (ρ' := [some (.inr a0), some (.inl x1), some (.inl x2), some (.inl 0)]) rfl ?_
  exact rX0_keepsRising_H2 hc H
end
theorem metX0_keepsRising (l : Launch) (D : Zd) (base : Nat) {a0 : Nat} {x1 : Int} {x2 : Int} {h : Zm} {Q : Int → Zm → Prop} (H : mX0_keepsRising a0 x1 x2 h Q) : zMet l D base yX0_keepsRising cX0_keepsRising 4 (some .boolean) zrX0_keepsRising [.inr a0, .inl x1, .inl x2] h (zQi D base Q) :=
  z_met (by decide +kernel) (Nat.le_of_ble_eq_true rfl) (fun p e s m args below meth c hc hn => rX0_keepsRising hc H)
def zrX0_openGap : Room := { frames := 0, cells := 0, slots := 0, locals := 0 }
def mX0_openGap_B17 (X17 : Int → Zm → Prop) (a0 : Nat) (x1 : Int) (x2 : Int) (h : Zm) (Q : Int → Zm → Prop) : Prop :=
  cLe x2 0
  (cGi h 10 a0 2 fun v3 => cPi h 10 a0 2 (v3 + 1) fun h4 => Q x2 h4)
  (cGr h 10 a0 0 fun r5 => cLd h 1 r5 (x2 - 1) fun v6 => cLe v6 x1
    (cGi h 10 a0 2 fun v7 => cPi h 10 a0 2 (v7 + 1) fun h8 => Q x2 h8)
    (cGr h 10 a0 0 fun r9 => cGr h 10 a0 0 fun r10 => cLd h 1 r10 (x2 - 1) fun v11 => cSt h r9 x2 v11 fun h12 => cGr h12 10 a0 1 fun r13 => cGr h12 10 a0 1 fun r14 => cLd h12 1 r14 (x2 - 1) fun v15 => cSt h12 r13 x2 v15 fun h16 => X17 (x2 + (-1)) h16))
def mX0_openGap_H17  (a0 : Nat) (x1 : Int) (x2 : Int) (h : Zm) (Q : Int → Zm → Prop) : Prop :=
  lfp1 (fun X17 x2 h => mX0_openGap_B17 X17 a0 x1 x2 h Q) x2 h
def mX0_openGap (a0 : Nat) (x1 : Int) (h : Zm) (Q : Int → Zm → Prop) : Prop :=
  cGi h 10 a0 2 fun v1 => cLt v1 8
  (cGi h 10 a0 2 fun v2 => mX0_openGap_H17  a0 x1 v2 h Q)
  (Q 8 h)
section
variable {p : Program} {l : Launch} {e : Env} {s : State} {m : MethodId} {args : Array Value} {below : List Frame} {meth : Method} {c : Code} {D : Zd} {base : Nat}
set_option maxRecDepth 100000 in
set_option maxHeartbeats 4000000 in
theorem rX0_openGap_B17 (hc : zOk p s m args meth c D cX0_openGap 3 RX0 (some .int)) {X17 : Int → Zm → Prop} {a0 : Nat} {x1 : Int} {x2 : Int} {h : Zm} {Q : Int → Zm → Prop} (hX17 : ∀ (x2 : Int) (h : Zm), X17 x2 h → zW p l e zrX0_openGap s m args below meth c D base 3 (MQ below (zQi D base Q) args s 0 0 (zFree base)) 0 0 17 [some (.inr a0), some (.inl x1), some (.inl x2)] [] h) (H : mX0_openGap_B17 X17 a0 x1 x2 h Q) : zW p l e zrX0_openGap s m args below meth c D base 3 (MQ below (zQi D base Q) args s 0 0 (zFree base)) 0 0 17 [some (.inr a0), some (.inl x1), some (.inl x2)] [] h := by
  unfold mX0_openGap_B17 at H
  refine z_iload_n (pc := 17) hc dX0_openGap_17 rfl ?_
  refine z_if_le (tgt := 67) (pc := 18) hc dX0_openGap_18 rfl H (fun H => ?_) (fun H => ?_)
  · refine z_aload_n (pc := 67) hc dX0_openGap_67 rfl ?_
    refine z_dup (pc := 68) hc dX0_openGap_68 ?_
    refine z_getI (pc := 69) hc dX0_openGap_69 zf_RX0_18 rfl rfl rfl H (fun v3 H => ?_)
    refine z_iconst (pc := 72) hc dX0_openGap_72 ?_
    refine z_iadd (pc := 73) hc dX0_openGap_73 ?_
    refine z_putI (pc := 74) hc dX0_openGap_74 zf_RX0_18 rfl rfl rfl H (fun h4 H => ?_)
    refine z_iload_n (pc := 77) hc dX0_openGap_77 rfl ?_
    exact z_ireturn (pc := 78) hc dX0_openGap_78 H
  · refine z_aload_n (pc := 21) hc dX0_openGap_21 rfl ?_
    refine z_getR (pc := 22) hc dX0_openGap_22 zf_RX0_9 rfl rfl rfl H (fun r5 H => ?_)
    refine z_iload_n (pc := 25) hc dX0_openGap_25 rfl ?_
    refine z_iconst (pc := 26) hc dX0_openGap_26 ?_
    refine z_isub (pc := 27) hc dX0_openGap_27 ?_
    refine z_iaload (pc := 28) hc dX0_openGap_28 H (fun v6 H => ?_)
    refine z_iload_n (pc := 29) hc dX0_openGap_29 rfl ?_
    refine z_icmp_le (tgt := 67) (pc := 30) hc dX0_openGap_30 rfl H (fun H => ?_) (fun H => ?_)
    · refine z_aload_n (pc := 67) hc dX0_openGap_67 rfl ?_
      refine z_dup (pc := 68) hc dX0_openGap_68 ?_
      refine z_getI (pc := 69) hc dX0_openGap_69 zf_RX0_18 rfl rfl rfl H (fun v7 H => ?_)
      refine z_iconst (pc := 72) hc dX0_openGap_72 ?_
      refine z_iadd (pc := 73) hc dX0_openGap_73 ?_
      refine z_putI (pc := 74) hc dX0_openGap_74 zf_RX0_18 rfl rfl rfl H (fun h8 H => ?_)
      refine z_iload_n (pc := 77) hc dX0_openGap_77 rfl ?_
      exact z_ireturn (pc := 78) hc dX0_openGap_78 H
    · refine z_aload_n (pc := 33) hc dX0_openGap_33 rfl ?_
      refine z_getR (pc := 34) hc dX0_openGap_34 zf_RX0_9 rfl rfl rfl H (fun r9 H => ?_)
      refine z_iload_n (pc := 37) hc dX0_openGap_37 rfl ?_
      refine z_aload_n (pc := 38) hc dX0_openGap_38 rfl ?_
      refine z_getR (pc := 39) hc dX0_openGap_39 zf_RX0_9 rfl rfl rfl H (fun r10 H => ?_)
      refine z_iload_n (pc := 42) hc dX0_openGap_42 rfl ?_
      refine z_iconst (pc := 43) hc dX0_openGap_43 ?_
      refine z_isub (pc := 44) hc dX0_openGap_44 ?_
      refine z_iaload (pc := 45) hc dX0_openGap_45 H (fun v11 H => ?_)
      refine z_iastore (pc := 46) hc dX0_openGap_46 H (fun h12 H => ?_)
      refine z_aload_n (pc := 47) hc dX0_openGap_47 rfl ?_
      refine z_getR (pc := 48) hc dX0_openGap_48 zf_RX0_15 rfl rfl rfl H (fun r13 H => ?_)
      refine z_iload_n (pc := 51) hc dX0_openGap_51 rfl ?_
      refine z_aload_n (pc := 52) hc dX0_openGap_52 rfl ?_
      refine z_getR (pc := 53) hc dX0_openGap_53 zf_RX0_15 rfl rfl rfl H (fun r14 H => ?_)
      refine z_iload_n (pc := 56) hc dX0_openGap_56 rfl ?_
      refine z_iconst (pc := 57) hc dX0_openGap_57 ?_
      refine z_isub (pc := 58) hc dX0_openGap_58 ?_
      refine z_iaload (pc := 59) hc dX0_openGap_59 H (fun v15 H => ?_)
      refine z_iastore (pc := 60) hc dX0_openGap_60 H (fun h16 H => ?_)
      refine z_iinc (pc := 61) hc dX0_openGap_61 (by decide) rfl (ρ' := [some (.inr a0), some (.inl x1), some (.inl (x2 + (-1)))]) rfl ?_
      refine z_goto (tgt := 17) (pc := 64) hc dX0_openGap_64 rfl ?_
      exact hX17 _ _ H
theorem rX0_openGap_H17 (hc : zOk p s m args meth c D cX0_openGap 3 RX0 (some .int))  {a0 : Nat} {x1 : Int} {x2 : Int} {h : Zm} {Q : Int → Zm → Prop}  (H : mX0_openGap_H17  a0 x1 x2 h Q) : zW p l e zrX0_openGap s m args below meth c D base 3 (MQ below (zQi D base Q) args s 0 0 (zFree base)) 0 0 17 [some (.inr a0), some (.inl x1), some (.inl x2)] [] h :=
  H (fun x2 h => zW p l e zrX0_openGap s m args below meth c D base 3 (MQ below (zQi D base Q) args s 0 0 (zFree base)) 0 0 17 [some (.inr a0), some (.inl x1), some (.inl x2)] [] h) (fun x2 h H => rX0_openGap_B17 hc (fun _ _ q => q) H)
set_option maxRecDepth 100000 in
set_option maxHeartbeats 4000000 in
theorem rX0_openGap (hc : zOk p s m args meth c D cX0_openGap 3 RX0 (some .int)) {a0 : Nat} {x1 : Int} {h : Zm} {Q : Int → Zm → Prop} (H : mX0_openGap a0 x1 h Q) : zW p l e zrX0_openGap s m args below meth c D base 3 (MQ below (zQi D base Q) args s 0 0 (zFree base)) 0 0 0 [some (.inr a0), some (.inl x1), none] [] h := by
  unfold mX0_openGap at H
  refine z_aload_n (pc := 0) hc dX0_openGap_0 rfl ?_
  refine z_getI (pc := 1) hc dX0_openGap_1 zf_RX0_18 rfl rfl rfl H (fun v1 H => ?_)
  refine z_bipush (pc := 4) hc dX0_openGap_4 (by decide) ?_
  refine z_icmp_lt (tgt := 12) (pc := 6) hc dX0_openGap_6 rfl H (fun H => ?_) (fun H => ?_)
  · refine z_aload_n (pc := 12) hc dX0_openGap_12 rfl ?_
    refine z_getI (pc := 13) hc dX0_openGap_13 zf_RX0_18 rfl rfl rfl H (fun v2 H => ?_)
    refine z_istore_n (pc := 16) hc dX0_openGap_16 (by decide) (ρ' := [some (.inr a0), some (.inl x1), some (.inl v2)]) rfl ?_
    exact rX0_openGap_H17 hc H
  · refine z_bipush (pc := 9) hc dX0_openGap_9 (by decide) ?_
    exact z_ireturn (pc := 11) hc dX0_openGap_11 H
end
theorem metX0_openGap (l : Launch) (D : Zd) (base : Nat) {a0 : Nat} {x1 : Int} {h : Zm} {Q : Int → Zm → Prop} (H : mX0_openGap a0 x1 h Q) : zMet l D base yX0_openGap cX0_openGap 3 (some .int) zrX0_openGap [.inr a0, .inl x1] h (zQi D base Q) :=
  z_met (by decide +kernel) (Nat.le_of_ble_eq_true rfl) (fun p e s m args below meth c hc hn => rX0_openGap hc H)
def zrX0_put : Room := { frames := 1, cells := 0, slots := 0, locals := 22 }
def mX0_put_J17  (a0 : Nat) (x1 : Int) (x2 : Int) (x3 : Int) (h : Zm) (Q : Zm → Prop) : Prop :=
  cLt x3 8
  (cGr h 10 a0 0 fun r5 => cSt h r5 x3 x1 fun h6 => cGr h6 10 a0 1 fun r7 => cSt h6 r7 x3 x2 fun h8 => Q h8)
  (Q h)
def mX0_put (a0 : Nat) (x1 : Int) (x2 : Int) (h : Zm) (Q : Zm → Prop) : Prop :=
  cRc h 10 a0 <| mX0_indexOf a0 x1 h fun v2 h1 => cEq v2 (-1)
  (cRc h1 10 a0 <| mX0_openGap a0 x1 h1 fun v4 h3 => mX0_put_J17  a0 x1 x2 v4 h3 Q)
  (mX0_put_J17  a0 x1 x2 v2 h1 Q)
section
variable {p : Program} {l : Launch} {e : Env} {s : State} {m : MethodId} {args : Array Value} {below : List Frame} {meth : Method} {c : Code} {D : Zd} {base : Nat}
set_option maxRecDepth 100000 in
set_option maxHeartbeats 4000000 in
theorem rX0_put_J17 (hc : zOk p s m args meth c D cX0_put 4 RX0 none)  {a0 : Nat} {x1 : Int} {x2 : Int} {x3 : Int} {h : Zm} {Q : Zm → Prop}  (H : mX0_put_J17  a0 x1 x2 x3 h Q) : zW p l e zrX0_put s m args below meth c D base 4 (MQ below (zQv D base Q) args s 0 0 (zFree base)) 0 0 17 [some (.inr a0), some (.inl x1), some (.inl x2), some (.inl x3)] [] h := by
  unfold mX0_put_J17 at H
  refine z_iload_n (pc := 17) hc dX0_put_17 rfl ?_
  refine z_bipush (pc := 18) hc dX0_put_18 (by decide) ?_
  refine z_icmp_ge (tgt := 37) (pc := 20) hc dX0_put_20 rfl H (fun H => ?_) (fun H => ?_)
  · refine z_aload_n (pc := 23) hc dX0_put_23 rfl ?_
    refine z_getR (pc := 24) hc dX0_put_24 zf_RX0_9 rfl rfl rfl H (fun r5 H => ?_)
    refine z_iload_n (pc := 27) hc dX0_put_27 rfl ?_
    refine z_iload_n (pc := 28) hc dX0_put_28 rfl ?_
    refine z_iastore (pc := 29) hc dX0_put_29 H (fun h6 H => ?_)
    refine z_aload_n (pc := 30) hc dX0_put_30 rfl ?_
    refine z_getR (pc := 31) hc dX0_put_31 zf_RX0_15 rfl rfl rfl H (fun r7 H => ?_)
    refine z_iload_n (pc := 34) hc dX0_put_34 rfl ?_
    refine z_iload_n (pc := 35) hc dX0_put_35 rfl ?_
    refine z_iastore (pc := 36) hc dX0_put_36 H (fun h8 H => ?_)
    exact z_return (pc := 37) hc dX0_put_37 H
  · exact z_return (pc := 37) hc dX0_put_37 H
set_option maxRecDepth 100000 in
set_option maxHeartbeats 4000000 in
theorem rX0_put (hc : zOk p s m args meth c D cX0_put 4 RX0 none) {a0 : Nat} {x1 : Int} {x2 : Int} {h : Zm} {Q : Zm → Prop} (H : mX0_put a0 x1 x2 h Q) : zW p l e zrX0_put s m args below meth c D base 4 (MQ below (zQv D base Q) args s 0 0 (zFree base)) 0 0 0 [some (.inr a0), some (.inl x1), some (.inl x2), none] [] h := by
  unfold mX0_put at H
  refine z_aload_n (pc := 0) hc dX0_put_0 rfl ?_
  refine z_iload_n (pc := 1) hc dX0_put_1 rfl ?_
  refine z_calI (z_runV (pc := 2) (ci := 0) (T := TX0) (N := 3) hc dX0_put_2 zw_RX0_22 (metX0_indexOf _ _ _ H.2) rfl (Nat.le_of_ble_eq_true rfl) ⟨Nat.le_of_ble_eq_true rfl, Nat.le_of_ble_eq_true rfl⟩ ⟨by exact Nat.le_of_ble_eq_true rfl, by exact Nat.le_of_ble_eq_true rfl⟩ rfl H.1) rfl ⟨rfl, rfl⟩ (fun v2 h1 H => ?_)
  refine z_istore_n (pc := 5) hc dX0_put_5 (by decide) (ρ' := [some (.inr a0), some (.inl x1), some (.inl x2), some (.inl v2)]) rfl ?_
  refine z_iload_n (pc := 6) hc dX0_put_6 rfl ?_
  refine z_iconst (pc := 7) hc dX0_put_7 ?_
  refine z_icmp_ne (tgt := 17) (pc := 8) hc dX0_put_8 rfl H (fun H => ?_) (fun H => ?_)
  · refine z_aload_n (pc := 11) hc dX0_put_11 rfl ?_
    refine z_iload_n (pc := 12) hc dX0_put_12 rfl ?_
    refine z_calI (z_runV (pc := 13) (ci := 0) (T := TX0) (N := 3) hc dX0_put_13 zw_RX0_26 (metX0_openGap _ _ _ H.2) rfl (Nat.le_of_ble_eq_true rfl) ⟨Nat.le_of_ble_eq_true rfl, Nat.le_of_ble_eq_true rfl⟩ ⟨by exact Nat.le_of_ble_eq_true rfl, by exact Nat.le_of_ble_eq_true rfl⟩ rfl H.1) rfl ⟨rfl, rfl⟩ (fun v4 h3 H => ?_)
    refine z_istore_n (pc := 16) hc dX0_put_16 (by decide) (ρ' := [some (.inr a0), some (.inl x1), some (.inl x2), some (.inl v4)]) rfl ?_
    exact rX0_put_J17 hc H
  · exact rX0_put_J17 hc H
end
theorem metX0_put (l : Launch) (D : Zd) (base : Nat) {a0 : Nat} {x1 : Int} {x2 : Int} {h : Zm} {Q : Zm → Prop} (H : mX0_put a0 x1 x2 h Q) : zMet l D base yX0_put cX0_put 4 none zrX0_put [.inr a0, .inl x1, .inl x2] h (zQv D base Q) :=
  z_met (by decide +kernel) (Nat.le_of_ble_eq_true rfl) (fun p e s m args below meth c hc hn => rX0_put hc H)
def zrX0_drop : Room := { frames := 0, cells := 0, slots := 0, locals := 0 }
def mX0_drop_B11 (X11 : Int → Zm → Prop) (a0 : Nat) (x2 : Int) (x3 : Int) (h : Zm) (Q : Int → Zm → Prop) : Prop :=
  cGi h 10 a0 2 fun v3 => cLt x3 v3
  (cGr h 10 a0 0 fun r6 => cGr h 10 a0 0 fun r7 => cLd h 1 r7 x3 fun v8 => cSt h r6 (x3 - 1) v8 fun h9 => cGr h9 10 a0 1 fun r10 => cGr h9 10 a0 1 fun r11 => cLd h9 1 r11 x3 fun v12 => cSt h9 r10 (x3 - 1) v12 fun h13 => X11 (x3 + 1) h13)
  (cGi h 10 a0 2 fun v4 => cPi h 10 a0 2 (v4 - 1) fun h5 => Q x2 h5)
def mX0_drop_H11  (a0 : Nat) (x2 : Int) (x3 : Int) (h : Zm) (Q : Int → Zm → Prop) : Prop :=
  lfp1 (fun X11 x3 h => mX0_drop_B11 X11 a0 x2 x3 h Q) x3 h
def mX0_drop (a0 : Nat) (x1 : Int) (h : Zm) (Q : Int → Zm → Prop) : Prop :=
  cGr h 10 a0 1 fun r1 => cLd h 1 r1 x1 fun v2 => mX0_drop_H11  a0 v2 (x1 + 1) h Q
section
variable {p : Program} {l : Launch} {e : Env} {s : State} {m : MethodId} {args : Array Value} {below : List Frame} {meth : Method} {c : Code} {D : Zd} {base : Nat}
set_option maxRecDepth 100000 in
set_option maxHeartbeats 4000000 in
theorem rX0_drop_B11 (hc : zOk p s m args meth c D cX0_drop 4 RX0 (some .int)) {X11 : Int → Zm → Prop} {a0 : Nat} {x2 : Int} {x3 : Int} {h : Zm} {Q : Int → Zm → Prop} (hX11 : ∀ (x3 : Int) (h : Zm), X11 x3 h → zW p l e zrX0_drop s m args below meth c D base 4 (MQ below (zQi D base Q) args s 0 0 (zFree base)) 0 0 11 [some (.inr a0), none, some (.inl x2), some (.inl x3)] [] h) (H : mX0_drop_B11 X11 a0 x2 x3 h Q) : zW p l e zrX0_drop s m args below meth c D base 4 (MQ below (zQi D base Q) args s 0 0 (zFree base)) 0 0 11 [some (.inr a0), none, some (.inl x2), some (.inl x3)] [] h := by
  unfold mX0_drop_B11 at H
  refine z_iload_n (pc := 11) hc dX0_drop_11 rfl ?_
  refine z_aload_n (pc := 12) hc dX0_drop_12 rfl ?_
  refine z_getI (pc := 13) hc dX0_drop_13 zf_RX0_18 rfl rfl rfl H (fun v3 H => ?_)
  refine z_icmp_ge (tgt := 53) (pc := 16) hc dX0_drop_16 rfl H (fun H => ?_) (fun H => ?_)
  · refine z_aload_n (pc := 19) hc dX0_drop_19 rfl ?_
    refine z_getR (pc := 20) hc dX0_drop_20 zf_RX0_9 rfl rfl rfl H (fun r6 H => ?_)
    refine z_iload_n (pc := 23) hc dX0_drop_23 rfl ?_
    refine z_iconst (pc := 24) hc dX0_drop_24 ?_
    refine z_isub (pc := 25) hc dX0_drop_25 ?_
    refine z_aload_n (pc := 26) hc dX0_drop_26 rfl ?_
    refine z_getR (pc := 27) hc dX0_drop_27 zf_RX0_9 rfl rfl rfl H (fun r7 H => ?_)
    refine z_iload_n (pc := 30) hc dX0_drop_30 rfl ?_
    refine z_iaload (pc := 31) hc dX0_drop_31 H (fun v8 H => ?_)
    refine z_iastore (pc := 32) hc dX0_drop_32 H (fun h9 H => ?_)
    refine z_aload_n (pc := 33) hc dX0_drop_33 rfl ?_
    refine z_getR (pc := 34) hc dX0_drop_34 zf_RX0_15 rfl rfl rfl H (fun r10 H => ?_)
    refine z_iload_n (pc := 37) hc dX0_drop_37 rfl ?_
    refine z_iconst (pc := 38) hc dX0_drop_38 ?_
    refine z_isub (pc := 39) hc dX0_drop_39 ?_
    refine z_aload_n (pc := 40) hc dX0_drop_40 rfl ?_
    refine z_getR (pc := 41) hc dX0_drop_41 zf_RX0_15 rfl rfl rfl H (fun r11 H => ?_)
    refine z_iload_n (pc := 44) hc dX0_drop_44 rfl ?_
    refine z_iaload (pc := 45) hc dX0_drop_45 H (fun v12 H => ?_)
    refine z_iastore (pc := 46) hc dX0_drop_46 H (fun h13 H => ?_)
    refine z_iinc (pc := 47) hc dX0_drop_47 (by decide) rfl (ρ' := [some (.inr a0), none, some (.inl x2), some (.inl (x3 + 1))]) rfl ?_
    refine z_goto (tgt := 11) (pc := 50) hc dX0_drop_50 rfl ?_
    exact hX11 _ _ H
  · refine z_aload_n (pc := 53) hc dX0_drop_53 rfl ?_
    refine z_dup (pc := 54) hc dX0_drop_54 ?_
    refine z_getI (pc := 55) hc dX0_drop_55 zf_RX0_18 rfl rfl rfl H (fun v4 H => ?_)
    refine z_iconst (pc := 58) hc dX0_drop_58 ?_
    refine z_isub (pc := 59) hc dX0_drop_59 ?_
    refine z_putI (pc := 60) hc dX0_drop_60 zf_RX0_18 rfl rfl rfl H (fun h5 H => ?_)
    refine z_iload_n (pc := 63) hc dX0_drop_63 rfl ?_
    exact z_ireturn (pc := 64) hc dX0_drop_64 H
theorem rX0_drop_H11 (hc : zOk p s m args meth c D cX0_drop 4 RX0 (some .int))  {a0 : Nat} {x2 : Int} {x3 : Int} {h : Zm} {Q : Int → Zm → Prop}  (H : mX0_drop_H11  a0 x2 x3 h Q) : zW p l e zrX0_drop s m args below meth c D base 4 (MQ below (zQi D base Q) args s 0 0 (zFree base)) 0 0 11 [some (.inr a0), none, some (.inl x2), some (.inl x3)] [] h :=
  H (fun x3 h => zW p l e zrX0_drop s m args below meth c D base 4 (MQ below (zQi D base Q) args s 0 0 (zFree base)) 0 0 11 [some (.inr a0), none, some (.inl x2), some (.inl x3)] [] h) (fun x3 h H => rX0_drop_B11 hc (fun _ _ q => q) H)
set_option maxRecDepth 100000 in
set_option maxHeartbeats 4000000 in
theorem rX0_drop (hc : zOk p s m args meth c D cX0_drop 4 RX0 (some .int)) {a0 : Nat} {x1 : Int} {h : Zm} {Q : Int → Zm → Prop} (H : mX0_drop a0 x1 h Q) : zW p l e zrX0_drop s m args below meth c D base 4 (MQ below (zQi D base Q) args s 0 0 (zFree base)) 0 0 0 [some (.inr a0), some (.inl x1), none, none] [] h := by
  unfold mX0_drop at H
  refine z_aload_n (pc := 0) hc dX0_drop_0 rfl ?_
  refine z_getR (pc := 1) hc dX0_drop_1 zf_RX0_15 rfl rfl rfl H (fun r1 H => ?_)
  refine z_iload_n (pc := 4) hc dX0_drop_4 rfl ?_
  refine z_iaload (pc := 5) hc dX0_drop_5 H (fun v2 H => ?_)
  refine z_istore_n (pc := 6) hc dX0_drop_6 (by decide) (ρ' := [some (.inr a0), some (.inl x1), some (.inl v2), none]) rfl ?_
  refine z_iload_n (pc := 7) hc dX0_drop_7 rfl ?_
  refine z_iconst (pc := 8) hc dX0_drop_8 ?_
  refine z_iadd (pc := 9) hc dX0_drop_9 ?_
  refine z_istore_n (pc := 10) hc dX0_drop_10 (by decide) (ρ' := [some (.inr a0), some (.inl x1), some (.inl v2), some (.inl (x1 + 1))]) rfl ?_
  refine z_mask [true, false, true, true] (ρ' := [some (.inr a0), none, some (.inl v2), some (.inl (x1 + 1))]) rfl ?_
  exact rX0_drop_H11 hc H
end
theorem metX0_drop (l : Launch) (D : Zd) (base : Nat) {a0 : Nat} {x1 : Int} {h : Zm} {Q : Int → Zm → Prop} (H : mX0_drop a0 x1 h Q) : zMet l D base yX0_drop cX0_drop 4 (some .int) zrX0_drop [.inr a0, .inl x1] h (zQi D base Q) :=
  z_met (by decide +kernel) (Nat.le_of_ble_eq_true rfl) (fun p e s m args below meth c hc hn => rX0_drop hc H)
def zrX0_between : Room := { frames := 0, cells := 0, slots := 0, locals := 0 }
def mX0_between (a0 : Nat) (x1 : Int) (x2 : Int) (h : Zm) (Q : Int → Zm → Prop) : Prop :=
  cGr h 10 a0 1 fun r1 => cLd h 1 r1 (x1 - 1) fun v2 => cGr h 10 a0 0 fun r3 => cLd h 1 r3 x1 fun v4 => cGr h 10 a0 0 fun r5 => cLd h 1 r5 (x1 - 1) fun v6 => cLe (v4 - v6) 0
  (Q v2 h)
  (cGr h 10 a0 1 fun r7 => cLd h 1 r7 x1 fun v8 => cGr h 10 a0 0 fun r9 => cLd h 1 r9 (x1 - 1) fun v10 => cDiv ((v8 - v2) * (x2 - v10)) (v4 - v6) fun v11 => Q (v2 + v11) h)
section
variable {p : Program} {l : Launch} {e : Env} {s : State} {m : MethodId} {args : Array Value} {below : List Frame} {meth : Method} {c : Code} {D : Zd} {base : Nat}
set_option maxRecDepth 100000 in
set_option maxHeartbeats 4000000 in
theorem rX0_between (hc : zOk p s m args meth c D cX0_between 5 RX0 (some .int)) {a0 : Nat} {x1 : Int} {x2 : Int} {h : Zm} {Q : Int → Zm → Prop} (H : mX0_between a0 x1 x2 h Q) : zW p l e zrX0_between s m args below meth c D base 5 (MQ below (zQi D base Q) args s 0 0 (zFree base)) 0 0 0 [some (.inr a0), some (.inl x1), some (.inl x2), none, none] [] h := by
  unfold mX0_between at H
  refine z_aload_n (pc := 0) hc dX0_between_0 rfl ?_
  refine z_getR (pc := 1) hc dX0_between_1 zf_RX0_15 rfl rfl rfl H (fun r1 H => ?_)
  refine z_iload_n (pc := 4) hc dX0_between_4 rfl ?_
  refine z_iconst (pc := 5) hc dX0_between_5 ?_
  refine z_isub (pc := 6) hc dX0_between_6 ?_
  refine z_iaload (pc := 7) hc dX0_between_7 H (fun v2 H => ?_)
  refine z_istore_n (pc := 8) hc dX0_between_8 (by decide) (ρ' := [some (.inr a0), some (.inl x1), some (.inl x2), some (.inl v2), none]) rfl ?_
  refine z_aload_n (pc := 9) hc dX0_between_9 rfl ?_
  refine z_getR (pc := 10) hc dX0_between_10 zf_RX0_9 rfl rfl rfl H (fun r3 H => ?_)
  refine z_iload_n (pc := 13) hc dX0_between_13 rfl ?_
  refine z_iaload (pc := 14) hc dX0_between_14 H (fun v4 H => ?_)
  refine z_aload_n (pc := 15) hc dX0_between_15 rfl ?_
  refine z_getR (pc := 16) hc dX0_between_16 zf_RX0_9 rfl rfl rfl H (fun r5 H => ?_)
  refine z_iload_n (pc := 19) hc dX0_between_19 rfl ?_
  refine z_iconst (pc := 20) hc dX0_between_20 ?_
  refine z_isub (pc := 21) hc dX0_between_21 ?_
  refine z_iaload (pc := 22) hc dX0_between_22 H (fun v6 H => ?_)
  refine z_isub (pc := 23) hc dX0_between_23 ?_
  refine z_istore (pc := 24) hc dX0_between_24 (by decide) (ρ' := [some (.inr a0), some (.inl x1), some (.inl x2), some (.inl v2), some (.inl (v4 - v6))]) rfl ?_
  refine z_iload (pc := 26) hc dX0_between_26 rfl ?_
  refine z_if_gt (tgt := 33) (pc := 28) hc dX0_between_28 rfl H (fun H => ?_) (fun H => ?_)
  · refine z_iload_n (pc := 31) hc dX0_between_31 rfl ?_
    exact z_ireturn (pc := 32) hc dX0_between_32 H
  · refine z_iload_n (pc := 33) hc dX0_between_33 rfl ?_
    refine z_aload_n (pc := 34) hc dX0_between_34 rfl ?_
    refine z_getR (pc := 35) hc dX0_between_35 zf_RX0_15 rfl rfl rfl H (fun r7 H => ?_)
    refine z_iload_n (pc := 38) hc dX0_between_38 rfl ?_
    refine z_iaload (pc := 39) hc dX0_between_39 H (fun v8 H => ?_)
    refine z_iload_n (pc := 40) hc dX0_between_40 rfl ?_
    refine z_isub (pc := 41) hc dX0_between_41 ?_
    refine z_iload_n (pc := 42) hc dX0_between_42 rfl ?_
    refine z_aload_n (pc := 43) hc dX0_between_43 rfl ?_
    refine z_getR (pc := 44) hc dX0_between_44 zf_RX0_9 rfl rfl rfl H (fun r9 H => ?_)
    refine z_iload_n (pc := 47) hc dX0_between_47 rfl ?_
    refine z_iconst (pc := 48) hc dX0_between_48 ?_
    refine z_isub (pc := 49) hc dX0_between_49 ?_
    refine z_iaload (pc := 50) hc dX0_between_50 H (fun v10 H => ?_)
    refine z_isub (pc := 51) hc dX0_between_51 ?_
    refine z_imul (pc := 52) hc dX0_between_52 ?_
    refine z_iload (pc := 53) hc dX0_between_53 rfl ?_
    refine z_idiv (pc := 55) hc dX0_between_55 H (fun v11 H => ?_)
    refine z_iadd (pc := 56) hc dX0_between_56 ?_
    exact z_ireturn (pc := 57) hc dX0_between_57 H
end
theorem metX0_between (l : Launch) (D : Zd) (base : Nat) {a0 : Nat} {x1 : Int} {x2 : Int} {h : Zm} {Q : Int → Zm → Prop} (H : mX0_between a0 x1 x2 h Q) : zMet l D base yX0_between cX0_between 5 (some .int) zrX0_between [.inr a0, .inl x1, .inl x2] h (zQi D base Q) :=
  z_met (by decide +kernel) (Nat.le_of_ble_eq_true rfl) (fun p e s m args below meth c hc hn => rX0_between hc H)
def zrX0_valueAt : Room := { frames := 1, cells := 0, slots := 0, locals := 24 }
def mX0_valueAt_B2 (X2 : Int → Zm → Prop) (a0 : Nat) (x1 : Int) (x2 : Int) (h : Zm) (Q : Int → Zm → Prop) : Prop :=
  cGi h 10 a0 2 fun v1 => cLt x2 v1
  (cGr h 10 a0 0 fun r5 => cLd h 1 r5 x2 fun v6 => cLe x1 v6
    (cRc h 10 a0 <| mX0_between a0 x2 x1 h fun v8 h7 => Q v8 h7)
    (X2 (x2 + 1) h))
  (cGr h 10 a0 1 fun r2 => cGi h 10 a0 2 fun v3 => cLd h 1 r2 (v3 - 1) fun v4 => Q v4 h)
def mX0_valueAt_H2  (a0 : Nat) (x1 : Int) (x2 : Int) (h : Zm) (Q : Int → Zm → Prop) : Prop :=
  lfp1 (fun X2 x2 h => mX0_valueAt_B2 X2 a0 x1 x2 h Q) x2 h
def mX0_valueAt (a0 : Nat) (x1 : Int) (h : Zm) (Q : Int → Zm → Prop) : Prop :=
  mX0_valueAt_H2  a0 x1 1 h Q
section
variable {p : Program} {l : Launch} {e : Env} {s : State} {m : MethodId} {args : Array Value} {below : List Frame} {meth : Method} {c : Code} {D : Zd} {base : Nat}
set_option maxRecDepth 100000 in
set_option maxHeartbeats 4000000 in
theorem rX0_valueAt_B2 (hc : zOk p s m args meth c D cX0_valueAt 3 RX0 (some .int)) {X2 : Int → Zm → Prop} {a0 : Nat} {x1 : Int} {x2 : Int} {h : Zm} {Q : Int → Zm → Prop} (hX2 : ∀ (x2 : Int) (h : Zm), X2 x2 h → zW p l e zrX0_valueAt s m args below meth c D base 3 (MQ below (zQi D base Q) args s 0 0 (zFree base)) 0 0 2 [some (.inr a0), some (.inl x1), some (.inl x2)] [] h) (H : mX0_valueAt_B2 X2 a0 x1 x2 h Q) : zW p l e zrX0_valueAt s m args below meth c D base 3 (MQ below (zQi D base Q) args s 0 0 (zFree base)) 0 0 2 [some (.inr a0), some (.inl x1), some (.inl x2)] [] h := by
  unfold mX0_valueAt_B2 at H
  refine z_iload_n (pc := 2) hc dX0_valueAt_2 rfl ?_
  refine z_aload_n (pc := 3) hc dX0_valueAt_3 rfl ?_
  refine z_getI (pc := 4) hc dX0_valueAt_4 zf_RX0_18 rfl rfl rfl H (fun v1 H => ?_)
  refine z_icmp_ge (tgt := 33) (pc := 7) hc dX0_valueAt_7 rfl H (fun H => ?_) (fun H => ?_)
  · refine z_iload_n (pc := 10) hc dX0_valueAt_10 rfl ?_
    refine z_aload_n (pc := 11) hc dX0_valueAt_11 rfl ?_
    refine z_getR (pc := 12) hc dX0_valueAt_12 zf_RX0_9 rfl rfl rfl H (fun r5 H => ?_)
    refine z_iload_n (pc := 15) hc dX0_valueAt_15 rfl ?_
    refine z_iaload (pc := 16) hc dX0_valueAt_16 H (fun v6 H => ?_)
    refine z_icmp_gt (tgt := 27) (pc := 17) hc dX0_valueAt_17 rfl H (fun H => ?_) (fun H => ?_)
    · refine z_aload_n (pc := 20) hc dX0_valueAt_20 rfl ?_
      refine z_iload_n (pc := 21) hc dX0_valueAt_21 rfl ?_
      refine z_iload_n (pc := 22) hc dX0_valueAt_22 rfl ?_
      refine z_calI (z_runV (pc := 23) (ci := 0) (T := TX0) (N := 3) hc dX0_valueAt_23 zw_RX0_29 (metX0_between _ _ _ H.2) rfl (Nat.le_of_ble_eq_true rfl) ⟨Nat.le_of_ble_eq_true rfl, Nat.le_of_ble_eq_true rfl⟩ ⟨by exact Nat.le_of_ble_eq_true rfl, by exact Nat.le_of_ble_eq_true rfl⟩ rfl H.1) rfl ⟨rfl, rfl⟩ (fun v8 h7 H => ?_)
      exact z_ireturn (pc := 26) hc dX0_valueAt_26 H
    · refine z_iinc (pc := 27) hc dX0_valueAt_27 (by decide) rfl (ρ' := [some (.inr a0), some (.inl x1), some (.inl (x2 + 1))]) rfl ?_
      refine z_goto (tgt := 2) (pc := 30) hc dX0_valueAt_30 rfl ?_
      exact hX2 _ _ H
  · refine z_aload_n (pc := 33) hc dX0_valueAt_33 rfl ?_
    refine z_getR (pc := 34) hc dX0_valueAt_34 zf_RX0_15 rfl rfl rfl H (fun r2 H => ?_)
    refine z_aload_n (pc := 37) hc dX0_valueAt_37 rfl ?_
    refine z_getI (pc := 38) hc dX0_valueAt_38 zf_RX0_18 rfl rfl rfl H (fun v3 H => ?_)
    refine z_iconst (pc := 41) hc dX0_valueAt_41 ?_
    refine z_isub (pc := 42) hc dX0_valueAt_42 ?_
    refine z_iaload (pc := 43) hc dX0_valueAt_43 H (fun v4 H => ?_)
    exact z_ireturn (pc := 44) hc dX0_valueAt_44 H
theorem rX0_valueAt_H2 (hc : zOk p s m args meth c D cX0_valueAt 3 RX0 (some .int))  {a0 : Nat} {x1 : Int} {x2 : Int} {h : Zm} {Q : Int → Zm → Prop}  (H : mX0_valueAt_H2  a0 x1 x2 h Q) : zW p l e zrX0_valueAt s m args below meth c D base 3 (MQ below (zQi D base Q) args s 0 0 (zFree base)) 0 0 2 [some (.inr a0), some (.inl x1), some (.inl x2)] [] h :=
  H (fun x2 h => zW p l e zrX0_valueAt s m args below meth c D base 3 (MQ below (zQi D base Q) args s 0 0 (zFree base)) 0 0 2 [some (.inr a0), some (.inl x1), some (.inl x2)] [] h) (fun x2 h H => rX0_valueAt_B2 hc (fun _ _ q => q) H)
set_option maxRecDepth 100000 in
set_option maxHeartbeats 4000000 in
theorem rX0_valueAt (hc : zOk p s m args meth c D cX0_valueAt 3 RX0 (some .int)) {a0 : Nat} {x1 : Int} {h : Zm} {Q : Int → Zm → Prop} (H : mX0_valueAt a0 x1 h Q) : zW p l e zrX0_valueAt s m args below meth c D base 3 (MQ below (zQi D base Q) args s 0 0 (zFree base)) 0 0 0 [some (.inr a0), some (.inl x1), none] [] h := by
  unfold mX0_valueAt at H
  refine z_iconst (pc := 0) hc dX0_valueAt_0 ?_
  refine z_istore_n (pc := 1) hc dX0_valueAt_1 (by decide) (ρ' := [some (.inr a0), some (.inl x1), some (.inl 1)]) rfl ?_
  exact rX0_valueAt_H2 hc H
end
theorem metX0_valueAt (l : Launch) (D : Zd) (base : Nat) {a0 : Nat} {x1 : Int} {h : Zm} {Q : Int → Zm → Prop} (H : mX0_valueAt a0 x1 h Q) : zMet l D base yX0_valueAt cX0_valueAt 3 (some .int) zrX0_valueAt [.inr a0, .inl x1] h (zQi D base Q) :=
  z_met (by decide +kernel) (Nat.le_of_ble_eq_true rfl) (fun p e s m args below meth c hc hn => rX0_valueAt hc H)
def zrX0_straighten : Room := { frames := 2, cells := 0, slots := 0, locals := 46 }
def mX0_straighten (a0 : Nat) (h : Zm) (Q : Zm → Prop) : Prop :=
  cRc h 10 a0 <| mX0_valueAt a0 85 h fun v2 h1 => cRc h1 10 a0 <| mX0_valueAt a0 170 h1 fun v4 h3 => cRc h3 10 a0 <| mX0_valueAt a0 255 h3 fun v6 h5 => cGr h5 10 a0 0 fun r7 => cSt h5 r7 1 85 fun h8 => cGr h8 10 a0 1 fun r9 => cSt h8 r9 1 v2 fun h10 => cGr h10 10 a0 0 fun r11 => cSt h10 r11 2 170 fun h12 => cGr h12 10 a0 1 fun r13 => cSt h12 r13 2 v4 fun h14 => cGr h14 10 a0 0 fun r15 => cSt h14 r15 3 255 fun h16 => cGr h16 10 a0 1 fun r17 => cSt h16 r17 3 v6 fun h18 => cPi h18 10 a0 2 4 fun h19 => Q h19
section
variable {p : Program} {l : Launch} {e : Env} {s : State} {m : MethodId} {args : Array Value} {below : List Frame} {meth : Method} {c : Code} {D : Zd} {base : Nat}
set_option maxRecDepth 100000 in
set_option maxHeartbeats 4000000 in
theorem rX0_straighten (hc : zOk p s m args meth c D cX0_straighten 4 RX0 none) {a0 : Nat} {h : Zm} {Q : Zm → Prop} (H : mX0_straighten a0 h Q) : zW p l e zrX0_straighten s m args below meth c D base 4 (MQ below (zQv D base Q) args s 0 0 (zFree base)) 0 0 0 [some (.inr a0), none, none, none] [] h := by
  unfold mX0_straighten at H
  refine z_aload_n (pc := 0) hc dX0_straighten_0 rfl ?_
  refine z_bipush (pc := 1) hc dX0_straighten_1 (by decide) ?_
  refine z_calI (z_runV (pc := 3) (ci := 0) (T := TX0) (N := 3) hc dX0_straighten_3 zw_RX0_33 (metX0_valueAt _ _ _ H.2) rfl (Nat.le_of_ble_eq_true rfl) ⟨Nat.le_of_ble_eq_true rfl, Nat.le_of_ble_eq_true rfl⟩ ⟨by exact Nat.le_of_ble_eq_true rfl, by exact Nat.le_of_ble_eq_true rfl⟩ rfl H.1) rfl ⟨rfl, rfl⟩ (fun v2 h1 H => ?_)
  refine z_istore_n (pc := 6) hc dX0_straighten_6 (by decide) (ρ' := [some (.inr a0), some (.inl v2), none, none]) rfl ?_
  refine z_aload_n (pc := 7) hc dX0_straighten_7 rfl ?_
  refine z_sipush (pc := 8) hc dX0_straighten_8 (by decide) ?_
  refine z_calI (z_runV (pc := 11) (ci := 0) (T := TX0) (N := 3) hc dX0_straighten_11 zw_RX0_33 (metX0_valueAt _ _ _ H.2) rfl (Nat.le_of_ble_eq_true rfl) ⟨Nat.le_of_ble_eq_true rfl, Nat.le_of_ble_eq_true rfl⟩ ⟨by exact Nat.le_of_ble_eq_true rfl, by exact Nat.le_of_ble_eq_true rfl⟩ rfl H.1) rfl ⟨rfl, rfl⟩ (fun v4 h3 H => ?_)
  refine z_istore_n (pc := 14) hc dX0_straighten_14 (by decide) (ρ' := [some (.inr a0), some (.inl v2), some (.inl v4), none]) rfl ?_
  refine z_aload_n (pc := 15) hc dX0_straighten_15 rfl ?_
  refine z_sipush (pc := 16) hc dX0_straighten_16 (by decide) ?_
  refine z_calI (z_runV (pc := 19) (ci := 0) (T := TX0) (N := 3) hc dX0_straighten_19 zw_RX0_33 (metX0_valueAt _ _ _ H.2) rfl (Nat.le_of_ble_eq_true rfl) ⟨Nat.le_of_ble_eq_true rfl, Nat.le_of_ble_eq_true rfl⟩ ⟨by exact Nat.le_of_ble_eq_true rfl, by exact Nat.le_of_ble_eq_true rfl⟩ rfl H.1) rfl ⟨rfl, rfl⟩ (fun v6 h5 H => ?_)
  refine z_istore_n (pc := 22) hc dX0_straighten_22 (by decide) (ρ' := [some (.inr a0), some (.inl v2), some (.inl v4), some (.inl v6)]) rfl ?_
  refine z_aload_n (pc := 23) hc dX0_straighten_23 rfl ?_
  refine z_getR (pc := 24) hc dX0_straighten_24 zf_RX0_9 rfl rfl rfl H (fun r7 H => ?_)
  refine z_iconst (pc := 27) hc dX0_straighten_27 ?_
  refine z_bipush (pc := 28) hc dX0_straighten_28 (by decide) ?_
  refine z_iastore (pc := 30) hc dX0_straighten_30 H (fun h8 H => ?_)
  refine z_aload_n (pc := 31) hc dX0_straighten_31 rfl ?_
  refine z_getR (pc := 32) hc dX0_straighten_32 zf_RX0_15 rfl rfl rfl H (fun r9 H => ?_)
  refine z_iconst (pc := 35) hc dX0_straighten_35 ?_
  refine z_iload_n (pc := 36) hc dX0_straighten_36 rfl ?_
  refine z_iastore (pc := 37) hc dX0_straighten_37 H (fun h10 H => ?_)
  refine z_aload_n (pc := 38) hc dX0_straighten_38 rfl ?_
  refine z_getR (pc := 39) hc dX0_straighten_39 zf_RX0_9 rfl rfl rfl H (fun r11 H => ?_)
  refine z_iconst (pc := 42) hc dX0_straighten_42 ?_
  refine z_sipush (pc := 43) hc dX0_straighten_43 (by decide) ?_
  refine z_iastore (pc := 46) hc dX0_straighten_46 H (fun h12 H => ?_)
  refine z_aload_n (pc := 47) hc dX0_straighten_47 rfl ?_
  refine z_getR (pc := 48) hc dX0_straighten_48 zf_RX0_15 rfl rfl rfl H (fun r13 H => ?_)
  refine z_iconst (pc := 51) hc dX0_straighten_51 ?_
  refine z_iload_n (pc := 52) hc dX0_straighten_52 rfl ?_
  refine z_iastore (pc := 53) hc dX0_straighten_53 H (fun h14 H => ?_)
  refine z_aload_n (pc := 54) hc dX0_straighten_54 rfl ?_
  refine z_getR (pc := 55) hc dX0_straighten_55 zf_RX0_9 rfl rfl rfl H (fun r15 H => ?_)
  refine z_iconst (pc := 58) hc dX0_straighten_58 ?_
  refine z_sipush (pc := 59) hc dX0_straighten_59 (by decide) ?_
  refine z_iastore (pc := 62) hc dX0_straighten_62 H (fun h16 H => ?_)
  refine z_aload_n (pc := 63) hc dX0_straighten_63 rfl ?_
  refine z_getR (pc := 64) hc dX0_straighten_64 zf_RX0_15 rfl rfl rfl H (fun r17 H => ?_)
  refine z_iconst (pc := 67) hc dX0_straighten_67 ?_
  refine z_iload_n (pc := 68) hc dX0_straighten_68 rfl ?_
  refine z_iastore (pc := 69) hc dX0_straighten_69 H (fun h18 H => ?_)
  refine z_aload_n (pc := 70) hc dX0_straighten_70 rfl ?_
  refine z_iconst (pc := 71) hc dX0_straighten_71 ?_
  refine z_putI (pc := 72) hc dX0_straighten_72 zf_RX0_18 rfl rfl rfl H (fun h19 H => ?_)
  exact z_return (pc := 75) hc dX0_straighten_75 H
end
theorem metX0_straighten (l : Launch) (D : Zd) (base : Nat) {a0 : Nat} {h : Zm} {Q : Zm → Prop} (H : mX0_straighten a0 h Q) : zMet l D base yX0_straighten cX0_straighten 4 none zrX0_straighten [.inr a0] h (zQv D base Q) :=
  z_met (by decide +kernel) (Nat.le_of_ble_eq_true rfl) (fun p e s m args below meth c hc hn => rX0_straighten hc H)
def zrX1_init : Room := { frames := 1, cells := 145, slots := 1440, locals := 20 }
def mX1_init (a0 : Nat) (h : Zm) (Q : Zm → Prop) : Prop :=
  cRc h 11 a0 <| cNw2 h 144 9 fun r1 h2 => cPr h2 11 a0 0 r1 fun h3 => cPi h3 11 a0 1 0 fun h4 => Q h4
section
variable {p : Program} {l : Launch} {e : Env} {s : State} {m : MethodId} {args : Array Value} {below : List Frame} {meth : Method} {c : Code} {D : Zd} {base : Nat}
set_option maxRecDepth 100000 in
set_option maxHeartbeats 4000000 in
theorem rX1_init (hc : zOk p s m args meth c D cX1_init 1 RX1 none) (hin : meth.name = "<init>") {a0 : Nat} {h : Zm} {Q : Zm → Prop} (H : mX1_init a0 h Q) : zW p l e zrX1_init s m args below meth c D base 1 (MQ below (zQv D base Q) args s 145 1440 (zFree base)) 0 0 0 [some (.inr a0)] [] h := by
  unfold mX1_init at H
  refine z_aload_n (pc := 0) hc dX1_init_0 rfl ?_
  refine z_objInit (pc := 1) hc dX1_init_1 (zT_mem 266 (by decide +kernel) rfl) (zT_mem 56 (by decide +kernel) rfl) (zT_mem 57 (by decide +kernel) rfl) (by decide) (by decide) (by decide) (d := 11) (by decide) H (fun H => ?_)
  refine z_aload_n (pc := 4) hc dX1_init_4 rfl ?_
  refine z_sipush (pc := 5) hc dX1_init_5 (by decide) ?_
  refine z_bipush (pc := 8) hc dX1_init_8 (by decide) ?_
  refine z_mna (pc := 10) (n := 144) (k := 9) hc dX1_init_10 (zT_mem 267 (by decide +kernel) rfl) (zT_mem 165 (by decide +kernel) rfl) (by decide) (by decide) (by exact Nat.le_of_ble_eq_true rfl) (by exact Nat.le_of_ble_eq_true rfl) H (fun r1 h2 H => ?_)
  refine z_putR (pc := 14) hc dX1_init_14 zf_RX1_11 rfl rfl rfl hin (fun C T N q => by cases q; rfl) H (fun h3 H => ?_)
  refine z_aload_n (pc := 17) hc dX1_init_17 rfl ?_
  refine z_iconst (pc := 18) hc dX1_init_18 ?_
  refine z_putI (pc := 19) hc dX1_init_19 zf_RX1_16 rfl rfl rfl H (fun h4 H => ?_)
  refine z_cells (cells' := 145) (slots' := 1440) (by omega) (by omega) ?_
  exact z_return (pc := 22) hc dX1_init_22 H
end
theorem metX1_init (l : Launch) (D : Zd) (base : Nat) {a0 : Nat} {h : Zm} {Q : Zm → Prop} (H : mX1_init a0 h Q) : zMet l D base yX1_init cX1_init 1 none zrX1_init [.inr a0] h (zQv D base Q) :=
  z_met (by decide +kernel) (Nat.le_of_ble_eq_true rfl) (fun p e s m args below meth c hc hn => rX1_init hc hn H)
def zrX6_sameValues : Room := { frames := 0, cells := 0, slots := 0, locals := 0 }
def mX6_sameValues_B2 (X2 : Int → Zm → Prop) (a0 : Nat) (a1 : Nat) (x2 : Int) (h : Zm) (Q : Int → Zm → Prop) : Prop :=
  cLt x2 7
  (cLd h 1 a0 x2 fun v1 => cLd h 1 a1 x2 fun v2 => cEq v1 v2
    (X2 (x2 + 1) h)
    (Q 0 h))
  (Q 1 h)
def mX6_sameValues_H2  (a0 : Nat) (a1 : Nat) (x2 : Int) (h : Zm) (Q : Int → Zm → Prop) : Prop :=
  lfp1 (fun X2 x2 h => mX6_sameValues_B2 X2 a0 a1 x2 h Q) x2 h
def mX6_sameValues (a0 : Nat) (a1 : Nat) (h : Zm) (Q : Int → Zm → Prop) : Prop :=
  mX6_sameValues_H2  a0 a1 0 h Q
section
variable {p : Program} {l : Launch} {e : Env} {s : State} {m : MethodId} {args : Array Value} {below : List Frame} {meth : Method} {c : Code} {D : Zd} {base : Nat}
set_option maxRecDepth 100000 in
set_option maxHeartbeats 4000000 in
theorem rX6_sameValues_B2 (hc : zOk p s m args meth c D cX6_sameValues 3 RX6 (some .boolean)) {X2 : Int → Zm → Prop} {a0 : Nat} {a1 : Nat} {x2 : Int} {h : Zm} {Q : Int → Zm → Prop} (hX2 : ∀ (x2 : Int) (h : Zm), X2 x2 h → zW p l e zrX6_sameValues s m args below meth c D base 3 (MQ below (zQi D base Q) args s 0 0 (zFree base)) 0 0 2 [some (.inr a0), some (.inr a1), some (.inl x2)] [] h) (H : mX6_sameValues_B2 X2 a0 a1 x2 h Q) : zW p l e zrX6_sameValues s m args below meth c D base 3 (MQ below (zQi D base Q) args s 0 0 (zFree base)) 0 0 2 [some (.inr a0), some (.inr a1), some (.inl x2)] [] h := by
  unfold mX6_sameValues_B2 at H
  refine z_iload_n (pc := 2) hc dX6_sameValues_2 rfl ?_
  refine z_bipush (pc := 3) hc dX6_sameValues_3 (by decide) ?_
  refine z_icmp_ge (tgt := 25) (pc := 5) hc dX6_sameValues_5 rfl H (fun H => ?_) (fun H => ?_)
  · refine z_aload_n (pc := 8) hc dX6_sameValues_8 rfl ?_
    refine z_iload_n (pc := 9) hc dX6_sameValues_9 rfl ?_
    refine z_iaload (pc := 10) hc dX6_sameValues_10 H (fun v1 H => ?_)
    refine z_aload_n (pc := 11) hc dX6_sameValues_11 rfl ?_
    refine z_iload_n (pc := 12) hc dX6_sameValues_12 rfl ?_
    refine z_iaload (pc := 13) hc dX6_sameValues_13 H (fun v2 H => ?_)
    refine z_icmp_eq (tgt := 19) (pc := 14) hc dX6_sameValues_14 rfl H (fun H => ?_) (fun H => ?_)
    · refine z_iinc (pc := 19) hc dX6_sameValues_19 (by decide) rfl (ρ' := [some (.inr a0), some (.inr a1), some (.inl (x2 + 1))]) rfl ?_
      refine z_goto (tgt := 2) (pc := 22) hc dX6_sameValues_22 rfl ?_
      exact hX2 _ _ H
    · refine z_iconst (pc := 17) hc dX6_sameValues_17 ?_
      exact z_zreturn (pc := 18) hc dX6_sameValues_18 ⟨Or.inl rfl, H⟩
  · refine z_iconst (pc := 25) hc dX6_sameValues_25 ?_
    exact z_zreturn (pc := 26) hc dX6_sameValues_26 ⟨Or.inr rfl, H⟩
theorem rX6_sameValues_H2 (hc : zOk p s m args meth c D cX6_sameValues 3 RX6 (some .boolean))  {a0 : Nat} {a1 : Nat} {x2 : Int} {h : Zm} {Q : Int → Zm → Prop}  (H : mX6_sameValues_H2  a0 a1 x2 h Q) : zW p l e zrX6_sameValues s m args below meth c D base 3 (MQ below (zQi D base Q) args s 0 0 (zFree base)) 0 0 2 [some (.inr a0), some (.inr a1), some (.inl x2)] [] h :=
  H (fun x2 h => zW p l e zrX6_sameValues s m args below meth c D base 3 (MQ below (zQi D base Q) args s 0 0 (zFree base)) 0 0 2 [some (.inr a0), some (.inr a1), some (.inl x2)] [] h) (fun x2 h H => rX6_sameValues_B2 hc (fun _ _ q => q) H)
set_option maxRecDepth 100000 in
set_option maxHeartbeats 4000000 in
theorem rX6_sameValues (hc : zOk p s m args meth c D cX6_sameValues 3 RX6 (some .boolean)) {a0 : Nat} {a1 : Nat} {h : Zm} {Q : Int → Zm → Prop} (H : mX6_sameValues a0 a1 h Q) : zW p l e zrX6_sameValues s m args below meth c D base 3 (MQ below (zQi D base Q) args s 0 0 (zFree base)) 0 0 0 [some (.inr a0), some (.inr a1), none] [] h := by
  unfold mX6_sameValues at H
  refine z_iconst (pc := 0) hc dX6_sameValues_0 ?_
  refine z_istore_n (pc := 1) hc dX6_sameValues_1 (by decide) (ρ' := [some (.inr a0), some (.inr a1), some (.inl 0)]) rfl ?_
  exact rX6_sameValues_H2 hc H
end
theorem metX6_sameValues (l : Launch) (D : Zd) (base : Nat) {a0 : Nat} {a1 : Nat} {h : Zm} {Q : Int → Zm → Prop} (H : mX6_sameValues a0 a1 h Q) : zMet l D base yX6_sameValues cX6_sameValues 3 (some .boolean) zrX6_sameValues [.inr a0, .inr a1] h (zQi D base Q) :=
  z_met (by decide +kernel) (Nat.le_of_ble_eq_true rfl) (fun p e s m args below meth c hc hn => rX6_sameValues hc H)
def zrX6_sumOf : Room := { frames := 0, cells := 0, slots := 0, locals := 0 }
def mX6_sumOf_B10 (X10 : Int → Int → Zm → Prop) (x1 : Int) (a2 : Nat) (x3 : Int) (x4 : Int) (h : Zm) (Q : Int → Zm → Prop) : Prop :=
  cLt x4 x3
  (cLd h 1 a2 x4 fun v2 => X10 (x1 + v2) (x4 + 1) h)
  (Q x1 h)
def mX6_sumOf_H10  (x1 : Int) (a2 : Nat) (x3 : Int) (x4 : Int) (h : Zm) (Q : Int → Zm → Prop) : Prop :=
  lfp2 (fun X10 x1 x4 h => mX6_sumOf_B10 X10 x1 a2 x3 x4 h Q) x1 x4 h
def mX6_sumOf (a0 : Nat) (h : Zm) (Q : Int → Zm → Prop) : Prop :=
  cLen h a0 fun v1 => mX6_sumOf_H10  0 a0 v1 0 h Q
section
variable {p : Program} {l : Launch} {e : Env} {s : State} {m : MethodId} {args : Array Value} {below : List Frame} {meth : Method} {c : Code} {D : Zd} {base : Nat}
set_option maxRecDepth 100000 in
set_option maxHeartbeats 4000000 in
theorem rX6_sumOf_B10 (hc : zOk p s m args meth c D cX6_sumOf 6 RX6 (some .int)) {X10 : Int → Int → Zm → Prop} {x1 : Int} {a2 : Nat} {x3 : Int} {x4 : Int} {h : Zm} {Q : Int → Zm → Prop} (hX10 : ∀ (x1 : Int) (x4 : Int) (h : Zm), X10 x1 x4 h → zW p l e zrX6_sumOf s m args below meth c D base 6 (MQ below (zQi D base Q) args s 0 0 (zFree base)) 0 0 10 [none, some (.inl x1), some (.inr a2), some (.inl x3), some (.inl x4), none] [] h) (H : mX6_sumOf_B10 X10 x1 a2 x3 x4 h Q) : zW p l e zrX6_sumOf s m args below meth c D base 6 (MQ below (zQi D base Q) args s 0 0 (zFree base)) 0 0 10 [none, some (.inl x1), some (.inr a2), some (.inl x3), some (.inl x4), none] [] h := by
  unfold mX6_sumOf_B10 at H
  refine z_iload (pc := 10) hc dX6_sumOf_10 rfl ?_
  refine z_iload_n (pc := 12) hc dX6_sumOf_12 rfl ?_
  refine z_icmp_ge (tgt := 33) (pc := 13) hc dX6_sumOf_13 rfl H (fun H => ?_) (fun H => ?_)
  · refine z_aload_n (pc := 16) hc dX6_sumOf_16 rfl ?_
    refine z_iload (pc := 17) hc dX6_sumOf_17 rfl ?_
    refine z_iaload (pc := 19) hc dX6_sumOf_19 H (fun v2 H => ?_)
    refine z_istore (pc := 20) hc dX6_sumOf_20 (by decide) (ρ' := [none, some (.inl x1), some (.inr a2), some (.inl x3), some (.inl x4), some (.inl v2)]) rfl ?_
    refine z_iload_n (pc := 22) hc dX6_sumOf_22 rfl ?_
    refine z_iload (pc := 23) hc dX6_sumOf_23 rfl ?_
    refine z_iadd (pc := 25) hc dX6_sumOf_25 ?_
    refine z_istore_n (pc := 26) hc dX6_sumOf_26 (by decide) (ρ' := [none, some (.inl (x1 + v2)), some (.inr a2), some (.inl x3), some (.inl x4), some (.inl v2)]) rfl ?_
    refine z_iinc (pc := 27) hc dX6_sumOf_27 (by decide) rfl (ρ' := [none, some (.inl (x1 + v2)), some (.inr a2), some (.inl x3), some (.inl (x4 + 1)), some (.inl v2)]) rfl ?_
    refine z_goto (tgt := 10) (pc := 30) hc dX6_sumOf_30 rfl ?_
    refine z_mask [false, true, true, true, true, false] (ρ' := [none, some (.inl (x1 + v2)), some (.inr a2), some (.inl x3), some (.inl (x4 + 1)), none]) rfl ?_
    exact hX10 _ _ _ H
  · refine z_iload_n (pc := 33) hc dX6_sumOf_33 rfl ?_
    exact z_ireturn (pc := 34) hc dX6_sumOf_34 H
theorem rX6_sumOf_H10 (hc : zOk p s m args meth c D cX6_sumOf 6 RX6 (some .int))  {x1 : Int} {a2 : Nat} {x3 : Int} {x4 : Int} {h : Zm} {Q : Int → Zm → Prop}  (H : mX6_sumOf_H10  x1 a2 x3 x4 h Q) : zW p l e zrX6_sumOf s m args below meth c D base 6 (MQ below (zQi D base Q) args s 0 0 (zFree base)) 0 0 10 [none, some (.inl x1), some (.inr a2), some (.inl x3), some (.inl x4), none] [] h :=
  H (fun x1 x4 h => zW p l e zrX6_sumOf s m args below meth c D base 6 (MQ below (zQi D base Q) args s 0 0 (zFree base)) 0 0 10 [none, some (.inl x1), some (.inr a2), some (.inl x3), some (.inl x4), none] [] h) (fun x1 x4 h H => rX6_sumOf_B10 hc (fun _ _ _ q => q) H)
set_option maxRecDepth 100000 in
set_option maxHeartbeats 4000000 in
theorem rX6_sumOf (hc : zOk p s m args meth c D cX6_sumOf 6 RX6 (some .int)) {a0 : Nat} {h : Zm} {Q : Int → Zm → Prop} (H : mX6_sumOf a0 h Q) : zW p l e zrX6_sumOf s m args below meth c D base 6 (MQ below (zQi D base Q) args s 0 0 (zFree base)) 0 0 0 [some (.inr a0), none, none, none, none, none] [] h := by
  unfold mX6_sumOf at H
  refine z_iconst (pc := 0) hc dX6_sumOf_0 ?_
  refine z_istore_n (pc := 1) hc dX6_sumOf_1 (by decide) (ρ' := [some (.inr a0), some (.inl 0), none, none, none, none]) rfl ?_
  refine z_aload_n (pc := 2) hc dX6_sumOf_2 rfl ?_
  refine z_astore_n (pc := 3) hc dX6_sumOf_3 (by decide) (ρ' := [some (.inr a0), some (.inl 0), some (.inr a0), none, none, none]) rfl ?_
  refine z_aload_n (pc := 4) hc dX6_sumOf_4 rfl ?_
  refine z_alen (pc := 5) hc dX6_sumOf_5 H (fun v1 H => ?_)
  refine z_istore_n (pc := 6) hc dX6_sumOf_6 (by decide) (ρ' := [some (.inr a0), some (.inl 0), some (.inr a0), some (.inl v1), none, none]) rfl ?_
  refine z_iconst (pc := 7) hc dX6_sumOf_7 ?_
  refine z_istore (pc := 8) hc dX6_sumOf_8 (by decide) (ρ' := [some (.inr a0), some (.inl 0), some (.inr a0), some (.inl v1), some (.inl 0), none]) rfl ?_
  refine z_mask [false, true, true, true, true, false] (ρ' := [none, some (.inl 0), some (.inr a0), some (.inl v1), some (.inl 0), none]) rfl ?_
  exact rX6_sumOf_H10 hc H
end
theorem metX6_sumOf (l : Launch) (D : Zd) (base : Nat) {a0 : Nat} {h : Zm} {Q : Int → Zm → Prop} (H : mX6_sumOf a0 h Q) : zMet l D base yX6_sumOf cX6_sumOf 6 (some .int) zrX6_sumOf [.inr a0] h (zQi D base Q) :=
  z_met (by decide +kernel) (Nat.le_of_ble_eq_true rfl) (fun p e s m args below meth c hc hn => rX6_sumOf hc H)
def zrX1_add : Room := { frames := 1, cells := 0, slots := 0, locals := 25 }
def mX1_add_B65 (X65 : Int → Zm → Prop) (a0 : Nat) (a1 : Nat) (a2 : Nat) (x3 : Int) (h : Zm) (Q : Zm → Prop) : Prop :=
  cLt x3 7
  (cLd h 1 a1 x3 fun v20 => cSt h a2 x3 v20 fun h21 => X65 (x3 + 1) h21)
  (mX6_sumOf a1 h fun v15 h14 => cSt h14 a2 7 v15 fun h16 => cSt h16 a2 8 1 fun h17 => cGi h17 11 a0 1 fun v18 => cPi h17 11 a0 1 (v18 + 1) fun h19 => Q h19)
def mX1_add_H65  (a0 : Nat) (a1 : Nat) (a2 : Nat) (x3 : Int) (h : Zm) (Q : Zm → Prop) : Prop :=
  lfp1 (fun X65 x3 h => mX1_add_B65 X65 a0 a1 a2 x3 h Q) x3 h
def mX1_add_B2 (X2 : Int → Zm → Prop) (a0 : Nat) (a1 : Nat) (x2 : Int) (h : Zm) (Q : Zm → Prop) : Prop :=
  cGi h 11 a0 1 fun v1 => cLt x2 v1
  (cGr h 11 a0 0 fun r6 => cLdR h r6 x2 fun r7 => mX6_sameValues a1 r7 h fun v9 h8 => cEq v9 0
    (X2 (x2 + 1) h8)
    (cGr h8 11 a0 0 fun r10 => cLdR h8 r10 x2 fun r11 => cLd h8 1 r11 8 fun v12 => cSt h8 r11 8 (v12 + 1) fun h13 => Q h13))
  (cGi h 11 a0 1 fun v2 => cLt v2 144
    (cGr h 11 a0 0 fun r3 => cGi h 11 a0 1 fun v4 => cLdR h r3 v4 fun r5 => mX1_add_H65  a0 a1 r5 0 h Q)
    (Q h))
def mX1_add_H2  (a0 : Nat) (a1 : Nat) (x2 : Int) (h : Zm) (Q : Zm → Prop) : Prop :=
  lfp1 (fun X2 x2 h => mX1_add_B2 X2 a0 a1 x2 h Q) x2 h
def mX1_add (a0 : Nat) (a1 : Nat) (h : Zm) (Q : Zm → Prop) : Prop :=
  mX1_add_H2  a0 a1 0 h Q
section
variable {p : Program} {l : Launch} {e : Env} {s : State} {m : MethodId} {args : Array Value} {below : List Frame} {meth : Method} {c : Code} {D : Zd} {base : Nat}
set_option maxRecDepth 100000 in
set_option maxHeartbeats 4000000 in
theorem rX1_add_B65 (hc : zOk p s m args meth c D cX1_add 4 RX1 none) {X65 : Int → Zm → Prop} {a0 : Nat} {a1 : Nat} {a2 : Nat} {x3 : Int} {h : Zm} {Q : Zm → Prop} (hX65 : ∀ (x3 : Int) (h : Zm), X65 x3 h → zW p l e zrX1_add s m args below meth c D base 4 (MQ below (zQv D base Q) args s 0 0 (zFree base)) 0 0 65 [some (.inr a0), some (.inr a1), some (.inr a2), some (.inl x3)] [] h) (H : mX1_add_B65 X65 a0 a1 a2 x3 h Q) : zW p l e zrX1_add s m args below meth c D base 4 (MQ below (zQv D base Q) args s 0 0 (zFree base)) 0 0 65 [some (.inr a0), some (.inr a1), some (.inr a2), some (.inl x3)] [] h := by
  unfold mX1_add_B65 at H
  refine z_iload_n (pc := 65) hc dX1_add_65 rfl ?_
  refine z_bipush (pc := 66) hc dX1_add_66 (by decide) ?_
  refine z_icmp_ge (tgt := 83) (pc := 68) hc dX1_add_68 rfl H (fun H => ?_) (fun H => ?_)
  · refine z_aload_n (pc := 71) hc dX1_add_71 rfl ?_
    refine z_iload_n (pc := 72) hc dX1_add_72 rfl ?_
    refine z_aload_n (pc := 73) hc dX1_add_73 rfl ?_
    refine z_iload_n (pc := 74) hc dX1_add_74 rfl ?_
    refine z_iaload (pc := 75) hc dX1_add_75 H (fun v20 H => ?_)
    refine z_iastore (pc := 76) hc dX1_add_76 H (fun h21 H => ?_)
    refine z_iinc (pc := 77) hc dX1_add_77 (by decide) rfl (ρ' := [some (.inr a0), some (.inr a1), some (.inr a2), some (.inl (x3 + 1))]) rfl ?_
    refine z_goto (tgt := 65) (pc := 80) hc dX1_add_80 rfl ?_
    exact hX65 _ _ H
  · refine z_aload_n (pc := 83) hc dX1_add_83 rfl ?_
    refine z_bipush (pc := 84) hc dX1_add_84 (by decide) ?_
    refine z_aload_n (pc := 86) hc dX1_add_86 rfl ?_
    refine z_calI (z_runN (pc := 87) hc dX1_add_87 zw_RX1_24 (metX6_sumOf _ _ _ H) rfl (Nat.le_of_ble_eq_true rfl) ⟨Nat.le_of_ble_eq_true rfl, Nat.le_of_ble_eq_true rfl⟩ ⟨by exact Nat.le_of_ble_eq_true rfl, by exact Nat.le_of_ble_eq_true rfl⟩) rfl ⟨rfl, rfl⟩ (fun v15 h14 H => ?_)
    refine z_iastore (pc := 90) hc dX1_add_90 H (fun h16 H => ?_)
    refine z_aload_n (pc := 91) hc dX1_add_91 rfl ?_
    refine z_bipush (pc := 92) hc dX1_add_92 (by decide) ?_
    refine z_iconst (pc := 94) hc dX1_add_94 ?_
    refine z_iastore (pc := 95) hc dX1_add_95 H (fun h17 H => ?_)
    refine z_aload_n (pc := 96) hc dX1_add_96 rfl ?_
    refine z_dup (pc := 97) hc dX1_add_97 ?_
    refine z_getI (pc := 98) hc dX1_add_98 zf_RX1_16 rfl rfl rfl H (fun v18 H => ?_)
    refine z_iconst (pc := 101) hc dX1_add_101 ?_
    refine z_iadd (pc := 102) hc dX1_add_102 ?_
    refine z_putI (pc := 103) hc dX1_add_103 zf_RX1_16 rfl rfl rfl H (fun h19 H => ?_)
    exact z_return (pc := 106) hc dX1_add_106 H
theorem rX1_add_H65 (hc : zOk p s m args meth c D cX1_add 4 RX1 none)  {a0 : Nat} {a1 : Nat} {a2 : Nat} {x3 : Int} {h : Zm} {Q : Zm → Prop}  (H : mX1_add_H65  a0 a1 a2 x3 h Q) : zW p l e zrX1_add s m args below meth c D base 4 (MQ below (zQv D base Q) args s 0 0 (zFree base)) 0 0 65 [some (.inr a0), some (.inr a1), some (.inr a2), some (.inl x3)] [] h :=
  H (fun x3 h => zW p l e zrX1_add s m args below meth c D base 4 (MQ below (zQv D base Q) args s 0 0 (zFree base)) 0 0 65 [some (.inr a0), some (.inr a1), some (.inr a2), some (.inl x3)] [] h) (fun x3 h H => rX1_add_B65 hc (fun _ _ q => q) H)
set_option maxRecDepth 100000 in
set_option maxHeartbeats 4000000 in
theorem rX1_add_B2 (hc : zOk p s m args meth c D cX1_add 4 RX1 none) {X2 : Int → Zm → Prop} {a0 : Nat} {a1 : Nat} {x2 : Int} {h : Zm} {Q : Zm → Prop} (hX2 : ∀ (x2 : Int) (h : Zm), X2 x2 h → zW p l e zrX1_add s m args below meth c D base 4 (MQ below (zQv D base Q) args s 0 0 (zFree base)) 0 0 2 [some (.inr a0), some (.inr a1), some (.inl x2), none] [] h) (H : mX1_add_B2 X2 a0 a1 x2 h Q) : zW p l e zrX1_add s m args below meth c D base 4 (MQ below (zQv D base Q) args s 0 0 (zFree base)) 0 0 2 [some (.inr a0), some (.inr a1), some (.inl x2), none] [] h := by
  unfold mX1_add_B2 at H
  refine z_iload_n (pc := 2) hc dX1_add_2 rfl ?_
  refine z_aload_n (pc := 3) hc dX1_add_3 rfl ?_
  refine z_getI (pc := 4) hc dX1_add_4 zf_RX1_16 rfl rfl rfl H (fun v1 H => ?_)
  refine z_icmp_ge (tgt := 43) (pc := 7) hc dX1_add_7 rfl H (fun H => ?_) (fun H => ?_)
  · refine z_aload_n (pc := 10) hc dX1_add_10 rfl ?_
    refine z_aload_n (pc := 11) hc dX1_add_11 rfl ?_
    refine z_getR (pc := 12) hc dX1_add_12 zf_RX1_11 rfl rfl rfl H (fun r6 H => ?_)
    refine z_iload_n (pc := 15) hc dX1_add_15 rfl ?_
    refine z_aaload (pc := 16) hc dX1_add_16 H (fun r7 H => ?_)
    refine z_calI (z_runN (pc := 17) hc dX1_add_17 zw_RX1_20 (metX6_sameValues _ _ _ H) rfl (Nat.le_of_ble_eq_true rfl) ⟨Nat.le_of_ble_eq_true rfl, Nat.le_of_ble_eq_true rfl⟩ ⟨by exact Nat.le_of_ble_eq_true rfl, by exact Nat.le_of_ble_eq_true rfl⟩) rfl ⟨rfl, rfl⟩ (fun v9 h8 H => ?_)
    refine z_if_eq (tgt := 37) (pc := 20) hc dX1_add_20 rfl H (fun H => ?_) (fun H => ?_)
    · refine z_iinc (pc := 37) hc dX1_add_37 (by decide) rfl (ρ' := [some (.inr a0), some (.inr a1), some (.inl (x2 + 1)), none]) rfl ?_
      refine z_goto (tgt := 2) (pc := 40) hc dX1_add_40 rfl ?_
      exact hX2 _ _ H
    · refine z_aload_n (pc := 23) hc dX1_add_23 rfl ?_
      refine z_getR (pc := 24) hc dX1_add_24 zf_RX1_11 rfl rfl rfl H (fun r10 H => ?_)
      refine z_iload_n (pc := 27) hc dX1_add_27 rfl ?_
      refine z_aaload (pc := 28) hc dX1_add_28 H (fun r11 H => ?_)
      refine z_bipush (pc := 29) hc dX1_add_29 (by decide) ?_
      refine z_dup2 (pc := 31) hc dX1_add_31 ?_
      refine z_iaload (pc := 32) hc dX1_add_32 H (fun v12 H => ?_)
      refine z_iconst (pc := 33) hc dX1_add_33 ?_
      refine z_iadd (pc := 34) hc dX1_add_34 ?_
      refine z_iastore (pc := 35) hc dX1_add_35 H (fun h13 H => ?_)
      exact z_return (pc := 36) hc dX1_add_36 H
  · refine z_aload_n (pc := 43) hc dX1_add_43 rfl ?_
    refine z_getI (pc := 44) hc dX1_add_44 zf_RX1_16 rfl rfl rfl H (fun v2 H => ?_)
    refine z_sipush (pc := 47) hc dX1_add_47 (by decide) ?_
    refine z_icmp_ge (tgt := 106) (pc := 50) hc dX1_add_50 rfl H (fun H => ?_) (fun H => ?_)
    · refine z_aload_n (pc := 53) hc dX1_add_53 rfl ?_
      refine z_getR (pc := 54) hc dX1_add_54 zf_RX1_11 rfl rfl rfl H (fun r3 H => ?_)
      refine z_aload_n (pc := 57) hc dX1_add_57 rfl ?_
      refine z_getI (pc := 58) hc dX1_add_58 zf_RX1_16 rfl rfl rfl H (fun v4 H => ?_)
      refine z_aaload (pc := 61) hc dX1_add_61 H (fun r5 H => ?_)
      refine z_astore_n (pc := 62) hc dX1_add_62 (by decide) (ρ' := [some (.inr a0), some (.inr a1), some (.inr r5), none]) rfl ?_
      refine z_iconst (pc := 63) hc dX1_add_63 ?_
      refine z_istore_n (pc := 64) hc dX1_add_64 (by decide) (ρ' := [some (.inr a0), some (.inr a1), some (.inr r5), some (.inl 0)]) rfl ?_
      exact rX1_add_H65 hc H
    · exact z_return (pc := 106) hc dX1_add_106 H
theorem rX1_add_H2 (hc : zOk p s m args meth c D cX1_add 4 RX1 none)  {a0 : Nat} {a1 : Nat} {x2 : Int} {h : Zm} {Q : Zm → Prop}  (H : mX1_add_H2  a0 a1 x2 h Q) : zW p l e zrX1_add s m args below meth c D base 4 (MQ below (zQv D base Q) args s 0 0 (zFree base)) 0 0 2 [some (.inr a0), some (.inr a1), some (.inl x2), none] [] h :=
  H (fun x2 h => zW p l e zrX1_add s m args below meth c D base 4 (MQ below (zQv D base Q) args s 0 0 (zFree base)) 0 0 2 [some (.inr a0), some (.inr a1), some (.inl x2), none] [] h) (fun x2 h H => rX1_add_B2 hc (fun _ _ q => q) H)
set_option maxRecDepth 100000 in
set_option maxHeartbeats 4000000 in
theorem rX1_add (hc : zOk p s m args meth c D cX1_add 4 RX1 none) {a0 : Nat} {a1 : Nat} {h : Zm} {Q : Zm → Prop} (H : mX1_add a0 a1 h Q) : zW p l e zrX1_add s m args below meth c D base 4 (MQ below (zQv D base Q) args s 0 0 (zFree base)) 0 0 0 [some (.inr a0), some (.inr a1), none, none] [] h := by
  unfold mX1_add at H
  refine z_iconst (pc := 0) hc dX1_add_0 ?_
  refine z_istore_n (pc := 1) hc dX1_add_1 (by decide) (ρ' := [some (.inr a0), some (.inr a1), some (.inl 0), none]) rfl ?_
  exact rX1_add_H2 hc H
end
theorem metX1_add (l : Launch) (D : Zd) (base : Nat) {a0 : Nat} {a1 : Nat} {h : Zm} {Q : Zm → Prop} (H : mX1_add a0 a1 h Q) : zMet l D base yX1_add cX1_add 4 none zrX1_add [.inr a0, .inr a1] h (zQv D base Q) :=
  z_met (by decide +kernel) (Nat.le_of_ble_eq_true rfl) (fun p e s m args below meth c hc hn => rX1_add hc H)
def zrX1_comesBefore : Room := { frames := 0, cells := 0, slots := 0, locals := 0 }
def mX1_comesBefore_B58 (X58 : Int → Zm → Prop) (a1 : Nat) (a2 : Nat) (x3 : Int) (h : Zm) (Q : Int → Zm → Prop) : Prop :=
  cLt x3 7
  (cLd h 1 a1 x3 fun v9 => cLd h 1 a2 x3 fun v10 => cEq v9 v10
    (X58 (x3 + 1) h)
    (cLd h 1 a1 x3 fun v11 => cLd h 1 a2 x3 fun v12 => cLt v11 v12
      (Q 1 h)
      (Q 0 h)))
  (Q 0 h)
def mX1_comesBefore_H58  (a1 : Nat) (a2 : Nat) (x3 : Int) (h : Zm) (Q : Int → Zm → Prop) : Prop :=
  lfp1 (fun X58 x3 h => mX1_comesBefore_B58 X58 a1 a2 x3 h Q) x3 h
def mX1_comesBefore (a0 : Nat) (a1 : Nat) (a2 : Nat) (h : Zm) (Q : Int → Zm → Prop) : Prop :=
  cLd h 1 a1 8 fun v1 => cLd h 1 a2 8 fun v2 => cEq v1 v2
  (cLd h 1 a1 7 fun v3 => cLd h 1 a2 7 fun v4 => cEq v3 v4
    (mX1_comesBefore_H58  a1 a2 0 h Q)
    (cLd h 1 a1 7 fun v5 => cLd h 1 a2 7 fun v6 => cLt v5 v6
      (Q 1 h)
      (Q 0 h)))
  (cLd h 1 a1 8 fun v7 => cLd h 1 a2 8 fun v8 => cLe v7 v8
    (Q 0 h)
    (Q 1 h))
section
variable {p : Program} {l : Launch} {e : Env} {s : State} {m : MethodId} {args : Array Value} {below : List Frame} {meth : Method} {c : Code} {D : Zd} {base : Nat}
set_option maxRecDepth 100000 in
set_option maxHeartbeats 4000000 in
theorem rX1_comesBefore_B58 (hc : zOk p s m args meth c D cX1_comesBefore 4 RX1 (some .boolean)) {X58 : Int → Zm → Prop} {a1 : Nat} {a2 : Nat} {x3 : Int} {h : Zm} {Q : Int → Zm → Prop} (hX58 : ∀ (x3 : Int) (h : Zm), X58 x3 h → zW p l e zrX1_comesBefore s m args below meth c D base 4 (MQ below (zQi D base Q) args s 0 0 (zFree base)) 0 0 58 [none, some (.inr a1), some (.inr a2), some (.inl x3)] [] h) (H : mX1_comesBefore_B58 X58 a1 a2 x3 h Q) : zW p l e zrX1_comesBefore s m args below meth c D base 4 (MQ below (zQi D base Q) args s 0 0 (zFree base)) 0 0 58 [none, some (.inr a1), some (.inr a2), some (.inl x3)] [] h := by
  unfold mX1_comesBefore_B58 at H
  refine z_iload_n (pc := 58) hc dX1_comesBefore_58 rfl ?_
  refine z_bipush (pc := 59) hc dX1_comesBefore_59 (by decide) ?_
  refine z_icmp_ge (tgt := 94) (pc := 61) hc dX1_comesBefore_61 rfl H (fun H => ?_) (fun H => ?_)
  · refine z_aload_n (pc := 64) hc dX1_comesBefore_64 rfl ?_
    refine z_iload_n (pc := 65) hc dX1_comesBefore_65 rfl ?_
    refine z_iaload (pc := 66) hc dX1_comesBefore_66 H (fun v9 H => ?_)
    refine z_aload_n (pc := 67) hc dX1_comesBefore_67 rfl ?_
    refine z_iload_n (pc := 68) hc dX1_comesBefore_68 rfl ?_
    refine z_iaload (pc := 69) hc dX1_comesBefore_69 H (fun v10 H => ?_)
    refine z_icmp_eq (tgt := 88) (pc := 70) hc dX1_comesBefore_70 rfl H (fun H => ?_) (fun H => ?_)
    · refine z_iinc (pc := 88) hc dX1_comesBefore_88 (by decide) rfl (ρ' := [none, some (.inr a1), some (.inr a2), some (.inl (x3 + 1))]) rfl ?_
      refine z_goto (tgt := 58) (pc := 91) hc dX1_comesBefore_91 rfl ?_
      exact hX58 _ _ H
    · refine z_aload_n (pc := 73) hc dX1_comesBefore_73 rfl ?_
      refine z_iload_n (pc := 74) hc dX1_comesBefore_74 rfl ?_
      refine z_iaload (pc := 75) hc dX1_comesBefore_75 H (fun v11 H => ?_)
      refine z_aload_n (pc := 76) hc dX1_comesBefore_76 rfl ?_
      refine z_iload_n (pc := 77) hc dX1_comesBefore_77 rfl ?_
      refine z_iaload (pc := 78) hc dX1_comesBefore_78 H (fun v12 H => ?_)
      refine z_icmp_ge (tgt := 86) (pc := 79) hc dX1_comesBefore_79 rfl H (fun H => ?_) (fun H => ?_)
      · refine z_iconst (pc := 82) hc dX1_comesBefore_82 ?_
        refine z_goto (tgt := 87) (pc := 83) hc dX1_comesBefore_83 rfl ?_
        exact z_zreturn (pc := 87) hc dX1_comesBefore_87 ⟨Or.inr rfl, H⟩
      · refine z_iconst (pc := 86) hc dX1_comesBefore_86 ?_
        exact z_zreturn (pc := 87) hc dX1_comesBefore_87 ⟨Or.inl rfl, H⟩
  · refine z_iconst (pc := 94) hc dX1_comesBefore_94 ?_
    exact z_zreturn (pc := 95) hc dX1_comesBefore_95 ⟨Or.inl rfl, H⟩
theorem rX1_comesBefore_H58 (hc : zOk p s m args meth c D cX1_comesBefore 4 RX1 (some .boolean))  {a1 : Nat} {a2 : Nat} {x3 : Int} {h : Zm} {Q : Int → Zm → Prop}  (H : mX1_comesBefore_H58  a1 a2 x3 h Q) : zW p l e zrX1_comesBefore s m args below meth c D base 4 (MQ below (zQi D base Q) args s 0 0 (zFree base)) 0 0 58 [none, some (.inr a1), some (.inr a2), some (.inl x3)] [] h :=
  H (fun x3 h => zW p l e zrX1_comesBefore s m args below meth c D base 4 (MQ below (zQi D base Q) args s 0 0 (zFree base)) 0 0 58 [none, some (.inr a1), some (.inr a2), some (.inl x3)] [] h) (fun x3 h H => rX1_comesBefore_B58 hc (fun _ _ q => q) H)
set_option maxRecDepth 100000 in
set_option maxHeartbeats 4000000 in
theorem rX1_comesBefore (hc : zOk p s m args meth c D cX1_comesBefore 4 RX1 (some .boolean)) {a0 : Nat} {a1 : Nat} {a2 : Nat} {h : Zm} {Q : Int → Zm → Prop} (H : mX1_comesBefore a0 a1 a2 h Q) : zW p l e zrX1_comesBefore s m args below meth c D base 4 (MQ below (zQi D base Q) args s 0 0 (zFree base)) 0 0 0 [some (.inr a0), some (.inr a1), some (.inr a2), none] [] h := by
  unfold mX1_comesBefore at H
  refine z_aload_n (pc := 0) hc dX1_comesBefore_0 rfl ?_
  refine z_bipush (pc := 1) hc dX1_comesBefore_1 (by decide) ?_
  refine z_iaload (pc := 3) hc dX1_comesBefore_3 H (fun v1 H => ?_)
  refine z_aload_n (pc := 4) hc dX1_comesBefore_4 rfl ?_
  refine z_bipush (pc := 5) hc dX1_comesBefore_5 (by decide) ?_
  refine z_iaload (pc := 7) hc dX1_comesBefore_7 H (fun v2 H => ?_)
  refine z_icmp_eq (tgt := 28) (pc := 8) hc dX1_comesBefore_8 rfl H (fun H => ?_) (fun H => ?_)
  · refine z_aload_n (pc := 28) hc dX1_comesBefore_28 rfl ?_
    refine z_bipush (pc := 29) hc dX1_comesBefore_29 (by decide) ?_
    refine z_iaload (pc := 31) hc dX1_comesBefore_31 H (fun v3 H => ?_)
    refine z_aload_n (pc := 32) hc dX1_comesBefore_32 rfl ?_
    refine z_bipush (pc := 33) hc dX1_comesBefore_33 (by decide) ?_
    refine z_iaload (pc := 35) hc dX1_comesBefore_35 H (fun v4 H => ?_)
    refine z_icmp_eq (tgt := 56) (pc := 36) hc dX1_comesBefore_36 rfl H (fun H => ?_) (fun H => ?_)
    · refine z_iconst (pc := 56) hc dX1_comesBefore_56 ?_
      refine z_istore_n (pc := 57) hc dX1_comesBefore_57 (by decide) (ρ' := [some (.inr a0), some (.inr a1), some (.inr a2), some (.inl 0)]) rfl ?_
      refine z_mask [false, true, true, true] (ρ' := [none, some (.inr a1), some (.inr a2), some (.inl 0)]) rfl ?_
      exact rX1_comesBefore_H58 hc H
    · refine z_aload_n (pc := 39) hc dX1_comesBefore_39 rfl ?_
      refine z_bipush (pc := 40) hc dX1_comesBefore_40 (by decide) ?_
      refine z_iaload (pc := 42) hc dX1_comesBefore_42 H (fun v5 H => ?_)
      refine z_aload_n (pc := 43) hc dX1_comesBefore_43 rfl ?_
      refine z_bipush (pc := 44) hc dX1_comesBefore_44 (by decide) ?_
      refine z_iaload (pc := 46) hc dX1_comesBefore_46 H (fun v6 H => ?_)
      refine z_icmp_ge (tgt := 54) (pc := 47) hc dX1_comesBefore_47 rfl H (fun H => ?_) (fun H => ?_)
      · refine z_iconst (pc := 50) hc dX1_comesBefore_50 ?_
        refine z_goto (tgt := 55) (pc := 51) hc dX1_comesBefore_51 rfl ?_
        exact z_zreturn (pc := 55) hc dX1_comesBefore_55 ⟨Or.inr rfl, H⟩
      · refine z_iconst (pc := 54) hc dX1_comesBefore_54 ?_
        exact z_zreturn (pc := 55) hc dX1_comesBefore_55 ⟨Or.inl rfl, H⟩
  · refine z_aload_n (pc := 11) hc dX1_comesBefore_11 rfl ?_
    refine z_bipush (pc := 12) hc dX1_comesBefore_12 (by decide) ?_
    refine z_iaload (pc := 14) hc dX1_comesBefore_14 H (fun v7 H => ?_)
    refine z_aload_n (pc := 15) hc dX1_comesBefore_15 rfl ?_
    refine z_bipush (pc := 16) hc dX1_comesBefore_16 (by decide) ?_
    refine z_iaload (pc := 18) hc dX1_comesBefore_18 H (fun v8 H => ?_)
    refine z_icmp_le (tgt := 26) (pc := 19) hc dX1_comesBefore_19 rfl H (fun H => ?_) (fun H => ?_)
    · refine z_iconst (pc := 26) hc dX1_comesBefore_26 ?_
      exact z_zreturn (pc := 27) hc dX1_comesBefore_27 ⟨Or.inl rfl, H⟩
    · refine z_iconst (pc := 22) hc dX1_comesBefore_22 ?_
      refine z_goto (tgt := 27) (pc := 23) hc dX1_comesBefore_23 rfl ?_
      exact z_zreturn (pc := 27) hc dX1_comesBefore_27 ⟨Or.inr rfl, H⟩
end
theorem metX1_comesBefore (l : Launch) (D : Zd) (base : Nat) {a0 : Nat} {a1 : Nat} {a2 : Nat} {h : Zm} {Q : Int → Zm → Prop} (H : mX1_comesBefore a0 a1 a2 h Q) : zMet l D base yX1_comesBefore cX1_comesBefore 4 (some .boolean) zrX1_comesBefore [.inr a0, .inr a1, .inr a2] h (zQi D base Q) :=
  z_met (by decide +kernel) (Nat.le_of_ble_eq_true rfl) (fun p e s m args below meth c hc hn => rX1_comesBefore hc H)
def zrX1_inksBefore : Room := { frames := 1, cells := 0, slots := 0, locals := 23 }
def mX1_inksBefore_B4 (X4 : Int → Int → Zm → Prop) (a0 : Nat) (x1 : Int) (x2 : Int) (x3 : Int) (h : Zm) (Q : Int → Zm → Prop) : Prop :=
  cGi h 11 a0 1 fun v1 => cLt x3 v1
  (cGr h 11 a0 0 fun r2 => cLdR h r2 x3 fun r3 => cGr h 11 a0 0 fun r4 => cLdR h r4 x1 fun r5 => cRc h 11 a0 <| mX1_comesBefore a0 r3 r5 h fun v7 h6 => cEq v7 0
    (X4 x2 (x3 + 1) h6)
    (X4 (x2 + 1) (x3 + 1) h6))
  (Q x2 h)
def mX1_inksBefore_H4  (a0 : Nat) (x1 : Int) (x2 : Int) (x3 : Int) (h : Zm) (Q : Int → Zm → Prop) : Prop :=
  lfp2 (fun X4 x2 x3 h => mX1_inksBefore_B4 X4 a0 x1 x2 x3 h Q) x2 x3 h
def mX1_inksBefore (a0 : Nat) (x1 : Int) (h : Zm) (Q : Int → Zm → Prop) : Prop :=
  mX1_inksBefore_H4  a0 x1 0 0 h Q
section
variable {p : Program} {l : Launch} {e : Env} {s : State} {m : MethodId} {args : Array Value} {below : List Frame} {meth : Method} {c : Code} {D : Zd} {base : Nat}
set_option maxRecDepth 100000 in
set_option maxHeartbeats 4000000 in
theorem rX1_inksBefore_B4 (hc : zOk p s m args meth c D cX1_inksBefore 4 RX1 (some .int)) {X4 : Int → Int → Zm → Prop} {a0 : Nat} {x1 : Int} {x2 : Int} {x3 : Int} {h : Zm} {Q : Int → Zm → Prop} (hX4 : ∀ (x2 : Int) (x3 : Int) (h : Zm), X4 x2 x3 h → zW p l e zrX1_inksBefore s m args below meth c D base 4 (MQ below (zQi D base Q) args s 0 0 (zFree base)) 0 0 4 [some (.inr a0), some (.inl x1), some (.inl x2), some (.inl x3)] [] h) (H : mX1_inksBefore_B4 X4 a0 x1 x2 x3 h Q) : zW p l e zrX1_inksBefore s m args below meth c D base 4 (MQ below (zQi D base Q) args s 0 0 (zFree base)) 0 0 4 [some (.inr a0), some (.inl x1), some (.inl x2), some (.inl x3)] [] h := by
  unfold mX1_inksBefore_B4 at H
  refine z_iload_n (pc := 4) hc dX1_inksBefore_4 rfl ?_
  refine z_aload_n (pc := 5) hc dX1_inksBefore_5 rfl ?_
  refine z_getI (pc := 6) hc dX1_inksBefore_6 zf_RX1_16 rfl rfl rfl H (fun v1 H => ?_)
  refine z_icmp_ge (tgt := 40) (pc := 9) hc dX1_inksBefore_9 rfl H (fun H => ?_) (fun H => ?_)
  · refine z_aload_n (pc := 12) hc dX1_inksBefore_12 rfl ?_
    refine z_aload_n (pc := 13) hc dX1_inksBefore_13 rfl ?_
    refine z_getR (pc := 14) hc dX1_inksBefore_14 zf_RX1_11 rfl rfl rfl H (fun r2 H => ?_)
    refine z_iload_n (pc := 17) hc dX1_inksBefore_17 rfl ?_
    refine z_aaload (pc := 18) hc dX1_inksBefore_18 H (fun r3 H => ?_)
    refine z_aload_n (pc := 19) hc dX1_inksBefore_19 rfl ?_
    refine z_getR (pc := 20) hc dX1_inksBefore_20 zf_RX1_11 rfl rfl rfl H (fun r4 H => ?_)
    refine z_iload_n (pc := 23) hc dX1_inksBefore_23 rfl ?_
    refine z_aaload (pc := 24) hc dX1_inksBefore_24 H (fun r5 H => ?_)
    refine z_calI (z_runV (pc := 25) (ci := 1) (T := TX1) (N := 2) hc dX1_inksBefore_25 zw_RX1_32 (metX1_comesBefore _ _ _ H.2) rfl (Nat.le_of_ble_eq_true rfl) ⟨Nat.le_of_ble_eq_true rfl, Nat.le_of_ble_eq_true rfl⟩ ⟨by exact Nat.le_of_ble_eq_true rfl, by exact Nat.le_of_ble_eq_true rfl⟩ rfl H.1) rfl ⟨rfl, rfl⟩ (fun v7 h6 H => ?_)
    refine z_if_eq (tgt := 34) (pc := 28) hc dX1_inksBefore_28 rfl H (fun H => ?_) (fun H => ?_)
    · refine z_iinc (pc := 34) hc dX1_inksBefore_34 (by decide) rfl (ρ' := [some (.inr a0), some (.inl x1), some (.inl x2), some (.inl (x3 + 1))]) rfl ?_
      refine z_goto (tgt := 4) (pc := 37) hc dX1_inksBefore_37 rfl ?_
      exact hX4 _ _ _ H
    · refine z_iinc (pc := 31) hc dX1_inksBefore_31 (by decide) rfl (ρ' := [some (.inr a0), some (.inl x1), some (.inl (x2 + 1)), some (.inl x3)]) rfl ?_
      refine z_iinc (pc := 34) hc dX1_inksBefore_34 (by decide) rfl (ρ' := [some (.inr a0), some (.inl x1), some (.inl (x2 + 1)), some (.inl (x3 + 1))]) rfl ?_
      refine z_goto (tgt := 4) (pc := 37) hc dX1_inksBefore_37 rfl ?_
      exact hX4 _ _ _ H
  · refine z_iload_n (pc := 40) hc dX1_inksBefore_40 rfl ?_
    exact z_ireturn (pc := 41) hc dX1_inksBefore_41 H
theorem rX1_inksBefore_H4 (hc : zOk p s m args meth c D cX1_inksBefore 4 RX1 (some .int))  {a0 : Nat} {x1 : Int} {x2 : Int} {x3 : Int} {h : Zm} {Q : Int → Zm → Prop}  (H : mX1_inksBefore_H4  a0 x1 x2 x3 h Q) : zW p l e zrX1_inksBefore s m args below meth c D base 4 (MQ below (zQi D base Q) args s 0 0 (zFree base)) 0 0 4 [some (.inr a0), some (.inl x1), some (.inl x2), some (.inl x3)] [] h :=
  H (fun x2 x3 h => zW p l e zrX1_inksBefore s m args below meth c D base 4 (MQ below (zQi D base Q) args s 0 0 (zFree base)) 0 0 4 [some (.inr a0), some (.inl x1), some (.inl x2), some (.inl x3)] [] h) (fun x2 x3 h H => rX1_inksBefore_B4 hc (fun _ _ _ q => q) H)
set_option maxRecDepth 100000 in
set_option maxHeartbeats 4000000 in
theorem rX1_inksBefore (hc : zOk p s m args meth c D cX1_inksBefore 4 RX1 (some .int)) {a0 : Nat} {x1 : Int} {h : Zm} {Q : Int → Zm → Prop} (H : mX1_inksBefore a0 x1 h Q) : zW p l e zrX1_inksBefore s m args below meth c D base 4 (MQ below (zQi D base Q) args s 0 0 (zFree base)) 0 0 0 [some (.inr a0), some (.inl x1), none, none] [] h := by
  unfold mX1_inksBefore at H
  refine z_iconst (pc := 0) hc dX1_inksBefore_0 ?_
  refine z_istore_n (pc := 1) hc dX1_inksBefore_1 (by decide) (ρ' := [some (.inr a0), some (.inl x1), some (.inl 0), none]) rfl ?_
  refine z_iconst (pc := 2) hc dX1_inksBefore_2 ?_
  refine z_istore_n (pc := 3) hc dX1_inksBefore_3 (by decide) (ρ' := [some (.inr a0), some (.inl x1), some (.inl 0), some (.inl 0)]) rfl ?_
  exact rX1_inksBefore_H4 hc H
end
theorem metX1_inksBefore (l : Launch) (D : Zd) (base : Nat) {a0 : Nat} {x1 : Int} {h : Zm} {Q : Int → Zm → Prop} (H : mX1_inksBefore a0 x1 h Q) : zMet l D base yX1_inksBefore cX1_inksBefore 4 (some .int) zrX1_inksBefore [.inr a0, .inl x1] h (zQi D base Q) :=
  z_met (by decide +kernel) (Nat.le_of_ble_eq_true rfl) (fun p e s m args below meth c hc hn => rX1_inksBefore hc H)
def zrX1_rowAt : Room := { frames := 2, cells := 0, slots := 0, locals := 46 }
def mX1_rowAt_B2 (X2 : Int → Zm → Prop) (a0 : Nat) (x1 : Int) (x2 : Int) (h : Zm) (Q : Int → Zm → Prop) : Prop :=
  cGi h 11 a0 1 fun v1 => cLt x2 v1
  (cRc h 11 a0 <| mX1_inksBefore a0 x2 h fun v3 h2 => cEq v3 x1
    (Q x2 h2)
    (X2 (x2 + 1) h2))
  (Q (-1) h)
def mX1_rowAt_H2  (a0 : Nat) (x1 : Int) (x2 : Int) (h : Zm) (Q : Int → Zm → Prop) : Prop :=
  lfp1 (fun X2 x2 h => mX1_rowAt_B2 X2 a0 x1 x2 h Q) x2 h
def mX1_rowAt (a0 : Nat) (x1 : Int) (h : Zm) (Q : Int → Zm → Prop) : Prop :=
  mX1_rowAt_H2  a0 x1 0 h Q
section
variable {p : Program} {l : Launch} {e : Env} {s : State} {m : MethodId} {args : Array Value} {below : List Frame} {meth : Method} {c : Code} {D : Zd} {base : Nat}
set_option maxRecDepth 100000 in
set_option maxHeartbeats 4000000 in
theorem rX1_rowAt_B2 (hc : zOk p s m args meth c D cX1_rowAt 3 RX1 (some .int)) {X2 : Int → Zm → Prop} {a0 : Nat} {x1 : Int} {x2 : Int} {h : Zm} {Q : Int → Zm → Prop} (hX2 : ∀ (x2 : Int) (h : Zm), X2 x2 h → zW p l e zrX1_rowAt s m args below meth c D base 3 (MQ below (zQi D base Q) args s 0 0 (zFree base)) 0 0 2 [some (.inr a0), some (.inl x1), some (.inl x2)] [] h) (H : mX1_rowAt_B2 X2 a0 x1 x2 h Q) : zW p l e zrX1_rowAt s m args below meth c D base 3 (MQ below (zQi D base Q) args s 0 0 (zFree base)) 0 0 2 [some (.inr a0), some (.inl x1), some (.inl x2)] [] h := by
  unfold mX1_rowAt_B2 at H
  refine z_iload_n (pc := 2) hc dX1_rowAt_2 rfl ?_
  refine z_aload_n (pc := 3) hc dX1_rowAt_3 rfl ?_
  refine z_getI (pc := 4) hc dX1_rowAt_4 zf_RX1_16 rfl rfl rfl H (fun v1 H => ?_)
  refine z_icmp_ge (tgt := 27) (pc := 7) hc dX1_rowAt_7 rfl H (fun H => ?_) (fun H => ?_)
  · refine z_aload_n (pc := 10) hc dX1_rowAt_10 rfl ?_
    refine z_iload_n (pc := 11) hc dX1_rowAt_11 rfl ?_
    refine z_calI (z_runV (pc := 12) (ci := 1) (T := TX1) (N := 2) hc dX1_rowAt_12 zw_RX1_28 (metX1_inksBefore _ _ _ H.2) rfl (Nat.le_of_ble_eq_true rfl) ⟨Nat.le_of_ble_eq_true rfl, Nat.le_of_ble_eq_true rfl⟩ ⟨by exact Nat.le_of_ble_eq_true rfl, by exact Nat.le_of_ble_eq_true rfl⟩ rfl H.1) rfl ⟨rfl, rfl⟩ (fun v3 h2 H => ?_)
    refine z_iload_n (pc := 15) hc dX1_rowAt_15 rfl ?_
    refine z_icmp_ne (tgt := 21) (pc := 16) hc dX1_rowAt_16 rfl H (fun H => ?_) (fun H => ?_)
    · refine z_iload_n (pc := 19) hc dX1_rowAt_19 rfl ?_
      exact z_ireturn (pc := 20) hc dX1_rowAt_20 H
    · refine z_iinc (pc := 21) hc dX1_rowAt_21 (by decide) rfl (ρ' := [some (.inr a0), some (.inl x1), some (.inl (x2 + 1))]) rfl ?_
      refine z_goto (tgt := 2) (pc := 24) hc dX1_rowAt_24 rfl ?_
      exact hX2 _ _ H
  · refine z_iconst (pc := 27) hc dX1_rowAt_27 ?_
    exact z_ireturn (pc := 28) hc dX1_rowAt_28 H
theorem rX1_rowAt_H2 (hc : zOk p s m args meth c D cX1_rowAt 3 RX1 (some .int))  {a0 : Nat} {x1 : Int} {x2 : Int} {h : Zm} {Q : Int → Zm → Prop}  (H : mX1_rowAt_H2  a0 x1 x2 h Q) : zW p l e zrX1_rowAt s m args below meth c D base 3 (MQ below (zQi D base Q) args s 0 0 (zFree base)) 0 0 2 [some (.inr a0), some (.inl x1), some (.inl x2)] [] h :=
  H (fun x2 h => zW p l e zrX1_rowAt s m args below meth c D base 3 (MQ below (zQi D base Q) args s 0 0 (zFree base)) 0 0 2 [some (.inr a0), some (.inl x1), some (.inl x2)] [] h) (fun x2 h H => rX1_rowAt_B2 hc (fun _ _ q => q) H)
set_option maxRecDepth 100000 in
set_option maxHeartbeats 4000000 in
theorem rX1_rowAt (hc : zOk p s m args meth c D cX1_rowAt 3 RX1 (some .int)) {a0 : Nat} {x1 : Int} {h : Zm} {Q : Int → Zm → Prop} (H : mX1_rowAt a0 x1 h Q) : zW p l e zrX1_rowAt s m args below meth c D base 3 (MQ below (zQi D base Q) args s 0 0 (zFree base)) 0 0 0 [some (.inr a0), some (.inl x1), none] [] h := by
  unfold mX1_rowAt at H
  refine z_iconst (pc := 0) hc dX1_rowAt_0 ?_
  refine z_istore_n (pc := 1) hc dX1_rowAt_1 (by decide) (ρ' := [some (.inr a0), some (.inl x1), some (.inl 0)]) rfl ?_
  exact rX1_rowAt_H2 hc H
end
theorem metX1_rowAt (l : Launch) (D : Zd) (base : Nat) {a0 : Nat} {x1 : Int} {h : Zm} {Q : Int → Zm → Prop} (H : mX1_rowAt a0 x1 h Q) : zMet l D base yX1_rowAt cX1_rowAt 3 (some .int) zrX1_rowAt [.inr a0, .inl x1] h (zQi D base Q) :=
  z_met (by decide +kernel) (Nat.le_of_ble_eq_true rfl) (fun p e s m args below meth c hc hn => rX1_rowAt hc H)
def zrX1_valueOf : Room := { frames := 0, cells := 0, slots := 0, locals := 0 }
def mX1_valueOf (a0 : Nat) (x1 : Int) (x2 : Int) (h : Zm) (Q : Int → Zm → Prop) : Prop :=
  cGr h 11 a0 0 fun r1 => cLdR h r1 x1 fun r2 => cLd h 1 r2 x2 fun v3 => Q v3 h
section
variable {p : Program} {l : Launch} {e : Env} {s : State} {m : MethodId} {args : Array Value} {below : List Frame} {meth : Method} {c : Code} {D : Zd} {base : Nat}
set_option maxRecDepth 100000 in
set_option maxHeartbeats 4000000 in
theorem rX1_valueOf (hc : zOk p s m args meth c D cX1_valueOf 3 RX1 (some .int)) {a0 : Nat} {x1 : Int} {x2 : Int} {h : Zm} {Q : Int → Zm → Prop} (H : mX1_valueOf a0 x1 x2 h Q) : zW p l e zrX1_valueOf s m args below meth c D base 3 (MQ below (zQi D base Q) args s 0 0 (zFree base)) 0 0 0 [some (.inr a0), some (.inl x1), some (.inl x2)] [] h := by
  unfold mX1_valueOf at H
  refine z_aload_n (pc := 0) hc dX1_valueOf_0 rfl ?_
  refine z_getR (pc := 1) hc dX1_valueOf_1 zf_RX1_11 rfl rfl rfl H (fun r1 H => ?_)
  refine z_iload_n (pc := 4) hc dX1_valueOf_4 rfl ?_
  refine z_aaload (pc := 5) hc dX1_valueOf_5 H (fun r2 H => ?_)
  refine z_iload_n (pc := 6) hc dX1_valueOf_6 rfl ?_
  refine z_iaload (pc := 7) hc dX1_valueOf_7 H (fun v3 H => ?_)
  exact z_ireturn (pc := 8) hc dX1_valueOf_8 H
end
theorem metX1_valueOf (l : Launch) (D : Zd) (base : Nat) {a0 : Nat} {x1 : Int} {x2 : Int} {h : Zm} {Q : Int → Zm → Prop} (H : mX1_valueOf a0 x1 x2 h Q) : zMet l D base yX1_valueOf cX1_valueOf 3 (some .int) zrX1_valueOf [.inr a0, .inl x1, .inl x2] h (zQi D base Q) :=
  z_met (by decide +kernel) (Nat.le_of_ble_eq_true rfl) (fun p e s m args below meth c hc hn => rX1_valueOf hc H)
def zrX2_init : Room := { frames := 1, cells := 0, slots := 0, locals := 20 }
def mX2_init (a0 : Nat) (h : Zm) (Q : Zm → Prop) : Prop :=
  cRc h 12 a0 <| cPi h 12 a0 0 (-1) fun h1 => cPi h1 12 a0 1 (-1) fun h2 => cPi h2 12 a0 11 1 fun h3 => cPi h3 12 a0 12 1 fun h4 => Q h4
section
variable {p : Program} {l : Launch} {e : Env} {s : State} {m : MethodId} {args : Array Value} {below : List Frame} {meth : Method} {c : Code} {D : Zd} {base : Nat}
set_option maxRecDepth 100000 in
set_option maxHeartbeats 4000000 in
theorem rX2_init (hc : zOk p s m args meth c D cX2_init 1 RX2 none) (hin : meth.name = "<init>") {a0 : Nat} {h : Zm} {Q : Zm → Prop} (H : mX2_init a0 h Q) : zW p l e zrX2_init s m args below meth c D base 1 (MQ below (zQv D base Q) args s 0 0 (zFree base)) 0 0 0 [some (.inr a0)] [] h := by
  unfold mX2_init at H
  refine z_aload_n (pc := 0) hc dX2_init_0 rfl ?_
  refine z_objInit (pc := 1) hc dX2_init_1 (zT_mem 76 (by decide +kernel) rfl) (zT_mem 56 (by decide +kernel) rfl) (zT_mem 57 (by decide +kernel) rfl) (by decide) (by decide) (by decide) (d := 12) (by decide) H (fun H => ?_)
  refine z_aload_n (pc := 4) hc dX2_init_4 rfl ?_
  refine z_iconst (pc := 5) hc dX2_init_5 ?_
  refine z_putI (pc := 6) hc dX2_init_6 zf_RX2_9 rfl rfl rfl H (fun h1 H => ?_)
  refine z_aload_n (pc := 9) hc dX2_init_9 rfl ?_
  refine z_iconst (pc := 10) hc dX2_init_10 ?_
  refine z_putI (pc := 11) hc dX2_init_11 zf_RX2_15 rfl rfl rfl H (fun h2 H => ?_)
  refine z_aload_n (pc := 14) hc dX2_init_14 rfl ?_
  refine z_iconst (pc := 15) hc dX2_init_15 ?_
  refine z_putI (pc := 16) hc dX2_init_16 zf_RX2_18 rfl rfl rfl H (fun h3 H => ?_)
  refine z_aload_n (pc := 19) hc dX2_init_19 rfl ?_
  refine z_iconst (pc := 20) hc dX2_init_20 ?_
  refine z_putI (pc := 21) hc dX2_init_21 zf_RX2_21 rfl rfl rfl H (fun h4 H => ?_)
  refine z_cells (cells' := 0) (slots' := 0) (by omega) (by omega) ?_
  exact z_return (pc := 24) hc dX2_init_24 H
end
theorem metX2_init (l : Launch) (D : Zd) (base : Nat) {a0 : Nat} {h : Zm} {Q : Zm → Prop} (H : mX2_init a0 h Q) : zMet l D base yX2_init cX2_init 1 none zrX2_init [.inr a0] h (zQv D base Q) :=
  z_met (by decide +kernel) (Nat.le_of_ble_eq_true rfl) (fun p e s m args below meth c hc hn => rX2_init hc hn H)
def zrX2_takeBox : Room := { frames := 0, cells := 0, slots := 0, locals := 0 }
def mX2_takeBox (a0 : Nat) (a1 : Nat) (h : Zm) (Q : Zm → Prop) : Prop :=
  cGi h 12 a1 9 fun v1 => cPi h 12 a0 9 v1 fun h2 => cGi h2 12 a1 10 fun v3 => cPi h2 12 a0 10 v3 fun h4 => cGi h4 12 a1 11 fun v5 => cPi h4 12 a0 11 v5 fun h6 => cGi h6 12 a1 12 fun v7 => cPi h6 12 a0 12 v7 fun h8 => Q h8
section
variable {p : Program} {l : Launch} {e : Env} {s : State} {m : MethodId} {args : Array Value} {below : List Frame} {meth : Method} {c : Code} {D : Zd} {base : Nat}
set_option maxRecDepth 100000 in
set_option maxHeartbeats 4000000 in
theorem rX2_takeBox (hc : zOk p s m args meth c D cX2_takeBox 2 RX2 none) {a0 : Nat} {a1 : Nat} {h : Zm} {Q : Zm → Prop} (H : mX2_takeBox a0 a1 h Q) : zW p l e zrX2_takeBox s m args below meth c D base 2 (MQ below (zQv D base Q) args s 0 0 (zFree base)) 0 0 0 [some (.inr a0), some (.inr a1)] [] h := by
  unfold mX2_takeBox at H
  refine z_aload_n (pc := 0) hc dX2_takeBox_0 rfl ?_
  refine z_aload_n (pc := 1) hc dX2_takeBox_1 rfl ?_
  refine z_getI (pc := 2) hc dX2_takeBox_2 zf_RX2_24 rfl rfl rfl H (fun v1 H => ?_)
  refine z_putI (pc := 5) hc dX2_takeBox_5 zf_RX2_24 rfl rfl rfl H (fun h2 H => ?_)
  refine z_aload_n (pc := 8) hc dX2_takeBox_8 rfl ?_
  refine z_aload_n (pc := 9) hc dX2_takeBox_9 rfl ?_
  refine z_getI (pc := 10) hc dX2_takeBox_10 zf_RX2_27 rfl rfl rfl H (fun v3 H => ?_)
  refine z_putI (pc := 13) hc dX2_takeBox_13 zf_RX2_27 rfl rfl rfl H (fun h4 H => ?_)
  refine z_aload_n (pc := 16) hc dX2_takeBox_16 rfl ?_
  refine z_aload_n (pc := 17) hc dX2_takeBox_17 rfl ?_
  refine z_getI (pc := 18) hc dX2_takeBox_18 zf_RX2_18 rfl rfl rfl H (fun v5 H => ?_)
  refine z_putI (pc := 21) hc dX2_takeBox_21 zf_RX2_18 rfl rfl rfl H (fun h6 H => ?_)
  refine z_aload_n (pc := 24) hc dX2_takeBox_24 rfl ?_
  refine z_aload_n (pc := 25) hc dX2_takeBox_25 rfl ?_
  refine z_getI (pc := 26) hc dX2_takeBox_26 zf_RX2_21 rfl rfl rfl H (fun v7 H => ?_)
  refine z_putI (pc := 29) hc dX2_takeBox_29 zf_RX2_21 rfl rfl rfl H (fun h8 H => ?_)
  exact z_return (pc := 32) hc dX2_takeBox_32 H
end
theorem metX2_takeBox (l : Launch) (D : Zd) (base : Nat) {a0 : Nat} {a1 : Nat} {h : Zm} {Q : Zm → Prop} (H : mX2_takeBox a0 a1 h Q) : zMet l D base yX2_takeBox cX2_takeBox 2 none zrX2_takeBox [.inr a0, .inr a1] h (zQv D base Q) :=
  z_met (by decide +kernel) (Nat.le_of_ble_eq_true rfl) (fun p e s m args below meth c hc hn => rX2_takeBox hc H)
def zrX2_takeColor : Room := { frames := 0, cells := 0, slots := 0, locals := 0 }
def mX2_takeColor (a0 : Nat) (a1 : Nat) (h : Zm) (Q : Zm → Prop) : Prop :=
  cGi h 12 a1 13 fun v1 => cPi h 12 a0 13 v1 fun h2 => cGi h2 12 a1 14 fun v3 => cPi h2 12 a0 14 v3 fun h4 => cGi h4 12 a1 15 fun v5 => cPi h4 12 a0 15 v5 fun h6 => Q h6
section
variable {p : Program} {l : Launch} {e : Env} {s : State} {m : MethodId} {args : Array Value} {below : List Frame} {meth : Method} {c : Code} {D : Zd} {base : Nat}
set_option maxRecDepth 100000 in
set_option maxHeartbeats 4000000 in
theorem rX2_takeColor (hc : zOk p s m args meth c D cX2_takeColor 2 RX2 none) {a0 : Nat} {a1 : Nat} {h : Zm} {Q : Zm → Prop} (H : mX2_takeColor a0 a1 h Q) : zW p l e zrX2_takeColor s m args below meth c D base 2 (MQ below (zQv D base Q) args s 0 0 (zFree base)) 0 0 0 [some (.inr a0), some (.inr a1)] [] h := by
  unfold mX2_takeColor at H
  refine z_aload_n (pc := 0) hc dX2_takeColor_0 rfl ?_
  refine z_aload_n (pc := 1) hc dX2_takeColor_1 rfl ?_
  refine z_getI (pc := 2) hc dX2_takeColor_2 zf_RX2_30 rfl rfl rfl H (fun v1 H => ?_)
  refine z_putI (pc := 5) hc dX2_takeColor_5 zf_RX2_30 rfl rfl rfl H (fun h2 H => ?_)
  refine z_aload_n (pc := 8) hc dX2_takeColor_8 rfl ?_
  refine z_aload_n (pc := 9) hc dX2_takeColor_9 rfl ?_
  refine z_getI (pc := 10) hc dX2_takeColor_10 zf_RX2_33 rfl rfl rfl H (fun v3 H => ?_)
  refine z_putI (pc := 13) hc dX2_takeColor_13 zf_RX2_33 rfl rfl rfl H (fun h4 H => ?_)
  refine z_aload_n (pc := 16) hc dX2_takeColor_16 rfl ?_
  refine z_aload_n (pc := 17) hc dX2_takeColor_17 rfl ?_
  refine z_getI (pc := 18) hc dX2_takeColor_18 zf_RX2_36 rfl rfl rfl H (fun v5 H => ?_)
  refine z_putI (pc := 21) hc dX2_takeColor_21 zf_RX2_36 rfl rfl rfl H (fun h6 H => ?_)
  exact z_return (pc := 24) hc dX2_takeColor_24 H
end
theorem metX2_takeColor (l : Launch) (D : Zd) (base : Nat) {a0 : Nat} {a1 : Nat} {h : Zm} {Q : Zm → Prop} (H : mX2_takeColor a0 a1 h Q) : zMet l D base yX2_takeColor cX2_takeColor 2 none zrX2_takeColor [.inr a0, .inr a1] h (zQv D base Q) :=
  z_met (by decide +kernel) (Nat.le_of_ble_eq_true rfl) (fun p e s m args below meth c hc hn => rX2_takeColor hc H)
end
