-- ===== PART A: goes FIRST, ahead of the names: the tables' words, and 'selects' of the private methods out of them =====
/-- a private method of a class that the tables say can be made, by its rows of tables_1 -/
def lw_okq (q : MethodName × Nat) : Prop := (q.1.cls ≠ "java/lang/invoke/MethodHandle" ∧ q.1.cls ≠ "java/lang/invoke/VarHandle") ∧ Cond.instantiable q.1.cls q.2 ∈ tables_1 ∧ Cond.privateMethod q.1 ∈ tables_1 ∧ Cond.instanceMethod q.1 ∈ tables_1
theorem lw_p0 : lw_okq (⟨"MotionStepper", "lawAt", "(I)LMotionStepper$Law;"⟩, 11) := ⟨⟨by decide +kernel, by decide +kernel⟩, List.mem_of_getElem? (i := 15) (by decide +kernel), List.mem_of_getElem? (i := 245) (by decide +kernel), List.mem_of_getElem? (i := 246) (by decide +kernel)⟩
theorem lw_p1 : lw_okq (⟨"MotionStepper", "fits", "(LMotionStepper$Law;IIII)Z"⟩, 11) := ⟨⟨by decide +kernel, by decide +kernel⟩, List.mem_of_getElem? (i := 15) (by decide +kernel), List.mem_of_getElem? (i := 263) (by decide +kernel), List.mem_of_getElem? (i := 264) (by decide +kernel)⟩
theorem lw_p2 : lw_okq (⟨"MotionStepper", "runAt", "(I)LMotionStepper$Run;"⟩, 11) := ⟨⟨by decide +kernel, by decide +kernel⟩, List.mem_of_getElem? (i := 15) (by decide +kernel), List.mem_of_getElem? (i := 436) (by decide +kernel), List.mem_of_getElem? (i := 437) (by decide +kernel)⟩
theorem lw_p3 : lw_okq (⟨"MotionStepper", "advance", "(LMotionStepper$Run;DZD)I"⟩, 11) := ⟨⟨by decide +kernel, by decide +kernel⟩, List.mem_of_getElem? (i := 15) (by decide +kernel), List.mem_of_getElem? (i := 480) (by decide +kernel), List.mem_of_getElem? (i := 481) (by decide +kernel)⟩
theorem lw_p4 : lw_okq (⟨"MotionStepper$Step", "slope", "(IDLMotionStepper$Row;)Z"⟩, 14) := ⟨⟨by decide +kernel, by decide +kernel⟩, List.mem_of_getElem? (i := 58) (by decide +kernel), List.mem_of_getElem? (i := 492) (by decide +kernel), List.mem_of_getElem? (i := 493) (by decide +kernel)⟩
theorem lw_p5 : lw_okq (⟨"MotionStepper$Law", "reckoned", "(IDLMotionStepper$Row;)D"⟩, 14) := ⟨⟨by decide +kernel, by decide +kernel⟩, List.mem_of_getElem? (i := 183) (by decide +kernel), List.mem_of_getElem? (i := 504) (by decide +kernel), List.mem_of_getElem? (i := 505) (by decide +kernel)⟩
theorem lw_p6 : lw_okq (⟨"MotionStepper$Step", "move", "(LMotionStepper$Row;DI)V"⟩, 14) := ⟨⟨by decide +kernel, by decide +kernel⟩, List.mem_of_getElem? (i := 58) (by decide +kernel), List.mem_of_getElem? (i := 560) (by decide +kernel), List.mem_of_getElem? (i := 561) (by decide +kernel)⟩
theorem lw_p7 : lw_okq (⟨"MotionStepper$Step", "arrive", "(LMotionStepper$Row;ILMotionStepper$Row;DD)V"⟩, 14) := ⟨⟨by decide +kernel, by decide +kernel⟩, List.mem_of_getElem? (i := 58) (by decide +kernel), List.mem_of_getElem? (i := 565) (by decide +kernel), List.mem_of_getElem? (i := 566) (by decide +kernel)⟩
theorem lw_p8 : lw_okq (⟨"MotionStepper$Step", "middle", "()Z"⟩, 14) := ⟨⟨by decide +kernel, by decide +kernel⟩, List.mem_of_getElem? (i := 58) (by decide +kernel), List.mem_of_getElem? (i := 574) (by decide +kernel), List.mem_of_getElem? (i := 575) (by decide +kernel)⟩
theorem lw_p9 : lw_okq (⟨"MotionStepper$Step", "third", "()Z"⟩, 14) := ⟨⟨by decide +kernel, by decide +kernel⟩, List.mem_of_getElem? (i := 58) (by decide +kernel), List.mem_of_getElem? (i := 579) (by decide +kernel), List.mem_of_getElem? (i := 580) (by decide +kernel)⟩
theorem lw_p10 : lw_okq (⟨"MotionStepper$Step", "fourth", "()Z"⟩, 14) := ⟨⟨by decide +kernel, by decide +kernel⟩, List.mem_of_getElem? (i := 58) (by decide +kernel), List.mem_of_getElem? (i := 586) (by decide +kernel), List.mem_of_getElem? (i := 587) (by decide +kernel)⟩
theorem lw_p11 : lw_okq (⟨"MotionStepper$Step", "pair", "()Z"⟩, 14) := ⟨⟨by decide +kernel, by decide +kernel⟩, List.mem_of_getElem? (i := 58) (by decide +kernel), List.mem_of_getElem? (i := 590) (by decide +kernel), List.mem_of_getElem? (i := 591) (by decide +kernel)⟩
theorem lw_p12 : lw_okq (⟨"MotionStepper$Step", "backward", "()Z"⟩, 14) := ⟨⟨by decide +kernel, by decide +kernel⟩, List.mem_of_getElem? (i := 58) (by decide +kernel), List.mem_of_getElem? (i := 599) (by decide +kernel), List.mem_of_getElem? (i := 600) (by decide +kernel)⟩
theorem lw_p13 : lw_okq (⟨"MotionStepper$Step", "unlikeCount", "()I"⟩, 14) := ⟨⟨by decide +kernel, by decide +kernel⟩, List.mem_of_getElem? (i := 58) (by decide +kernel), List.mem_of_getElem? (i := 603) (by decide +kernel), List.mem_of_getElem? (i := 604) (by decide +kernel)⟩
theorem lw_p14 : lw_okq (⟨"MotionStepper$Step", "leap", "()Z"⟩, 14) := ⟨⟨by decide +kernel, by decide +kernel⟩, List.mem_of_getElem? (i := 58) (by decide +kernel), List.mem_of_getElem? (i := 607) (by decide +kernel), List.mem_of_getElem? (i := 608) (by decide +kernel)⟩
theorem lw_p15 : lw_okq (⟨"MotionStepper", "finish", "(LMotionStepper$Run;IZD)V"⟩, 11) := ⟨⟨by decide +kernel, by decide +kernel⟩, List.mem_of_getElem? (i := 15) (by decide +kernel), List.mem_of_getElem? (i := 616) (by decide +kernel), List.mem_of_getElem? (i := 617) (by decide +kernel)⟩
def lw_privs_1 : List (MethodName × Nat) := [(⟨"MotionStepper", "lawAt", "(I)LMotionStepper$Law;"⟩, 11), (⟨"MotionStepper", "fits", "(LMotionStepper$Law;IIII)Z"⟩, 11), (⟨"MotionStepper", "runAt", "(I)LMotionStepper$Run;"⟩, 11), (⟨"MotionStepper", "advance", "(LMotionStepper$Run;DZD)I"⟩, 11), (⟨"MotionStepper$Step", "slope", "(IDLMotionStepper$Row;)Z"⟩, 14), (⟨"MotionStepper$Law", "reckoned", "(IDLMotionStepper$Row;)D"⟩, 14), (⟨"MotionStepper$Step", "move", "(LMotionStepper$Row;DI)V"⟩, 14), (⟨"MotionStepper$Step", "arrive", "(LMotionStepper$Row;ILMotionStepper$Row;DD)V"⟩, 14), (⟨"MotionStepper$Step", "middle", "()Z"⟩, 14), (⟨"MotionStepper$Step", "third", "()Z"⟩, 14), (⟨"MotionStepper$Step", "fourth", "()Z"⟩, 14), (⟨"MotionStepper$Step", "pair", "()Z"⟩, 14), (⟨"MotionStepper$Step", "backward", "()Z"⟩, 14), (⟨"MotionStepper$Step", "unlikeCount", "()I"⟩, 14), (⟨"MotionStepper$Step", "leap", "()Z"⟩, 14), (⟨"MotionStepper", "finish", "(LMotionStepper$Run;IZD)V"⟩, 11)]
theorem lw_r1 : ∀ q ∈ lw_privs_1, lw_okq q := List.forall_mem_cons.mpr ⟨lw_p0, List.forall_mem_cons.mpr ⟨lw_p1, List.forall_mem_cons.mpr ⟨lw_p2, List.forall_mem_cons.mpr ⟨lw_p3, List.forall_mem_cons.mpr ⟨lw_p4, List.forall_mem_cons.mpr ⟨lw_p5, List.forall_mem_cons.mpr ⟨lw_p6, List.forall_mem_cons.mpr ⟨lw_p7, List.forall_mem_cons.mpr ⟨lw_p8, List.forall_mem_cons.mpr ⟨lw_p9, List.forall_mem_cons.mpr ⟨lw_p10, List.forall_mem_cons.mpr ⟨lw_p11, List.forall_mem_cons.mpr ⟨lw_p12, List.forall_mem_cons.mpr ⟨lw_p13, List.forall_mem_cons.mpr ⟨lw_p14, List.forall_mem_cons.mpr ⟨lw_p15, fun _ h => absurd h List.not_mem_nil⟩⟩⟩⟩⟩⟩⟩⟩⟩⟩⟩⟩⟩⟩⟩⟩
theorem lw_p16 : lw_okq (⟨"MotionStepper$Run", "highOf", "(I)D"⟩, 12) := ⟨⟨by decide +kernel, by decide +kernel⟩, List.mem_of_getElem? (i := 328) (by decide +kernel), List.mem_of_getElem? (i := 645) (by decide +kernel), List.mem_of_getElem? (i := 646) (by decide +kernel)⟩
theorem lw_p17 : lw_okq (⟨"MotionStepper$Run", "search", "(II)D"⟩, 12) := ⟨⟨by decide +kernel, by decide +kernel⟩, List.mem_of_getElem? (i := 328) (by decide +kernel), List.mem_of_getElem? (i := 656) (by decide +kernel), List.mem_of_getElem? (i := 657) (by decide +kernel)⟩
theorem lw_p18 : lw_okq (⟨"MotionStepper$Run", "act", "(ID)V"⟩, 12) := ⟨⟨by decide +kernel, by decide +kernel⟩, List.mem_of_getElem? (i := 328) (by decide +kernel), List.mem_of_getElem? (i := 685) (by decide +kernel), List.mem_of_getElem? (i := 686) (by decide +kernel)⟩
theorem lw_p19 : lw_okq (⟨"MotionStepper", "store", "(LMotionStepper$Run;I)LMotionStepper$Run;"⟩, 11) := ⟨⟨by decide +kernel, by decide +kernel⟩, List.mem_of_getElem? (i := 15) (by decide +kernel), List.mem_of_getElem? (i := 695) (by decide +kernel), List.mem_of_getElem? (i := 696) (by decide +kernel)⟩
theorem lw_p20 : lw_okq (⟨"MotionStepper$Teller", "bitsOfSize", "(D)J"⟩, 1) := ⟨⟨by decide +kernel, by decide +kernel⟩, List.mem_of_getElem? (i := 40) (by decide +kernel), List.mem_of_getElem? (i := 725) (by decide +kernel), List.mem_of_getElem? (i := 726) (by decide +kernel)⟩
theorem lw_p21 : lw_okq (⟨"MotionStepperModel", "comesNode", "(IIIII)I"⟩, 62) := ⟨⟨by decide +kernel, by decide +kernel⟩, List.mem_of_getElem? (i := 789) (by decide +kernel), List.mem_of_getElem? (i := 993) (by decide +kernel), List.mem_of_getElem? (i := 994) (by decide +kernel)⟩
theorem lw_p22 : lw_okq (⟨"MotionStepperModel", "isRun", "(I)Z"⟩, 62) := ⟨⟨by decide +kernel, by decide +kernel⟩, List.mem_of_getElem? (i := 789) (by decide +kernel), List.mem_of_getElem? (i := 1030) (by decide +kernel), List.mem_of_getElem? (i := 1031) (by decide +kernel)⟩
theorem lw_p23 : lw_okq (⟨"MotionStepperModel", "put", "(IID)D"⟩, 62) := ⟨⟨by decide +kernel, by decide +kernel⟩, List.mem_of_getElem? (i := 789) (by decide +kernel), List.mem_of_getElem? (i := 1034) (by decide +kernel), List.mem_of_getElem? (i := 1035) (by decide +kernel)⟩
theorem lw_p24 : lw_okq (⟨"MotionStepperModel", "goes", "(IDZD)I"⟩, 62) := ⟨⟨by decide +kernel, by decide +kernel⟩, List.mem_of_getElem? (i := 789) (by decide +kernel), List.mem_of_getElem? (i := 1066) (by decide +kernel), List.mem_of_getElem? (i := 1067) (by decide +kernel)⟩
theorem lw_p25 : lw_okq (⟨"MotionStepperModel", "made", "(IIDD)Z"⟩, 62) := ⟨⟨by decide +kernel, by decide +kernel⟩, List.mem_of_getElem? (i := 789) (by decide +kernel), List.mem_of_getElem? (i := 1070) (by decide +kernel), List.mem_of_getElem? (i := 1071) (by decide +kernel)⟩
theorem lw_p26 : lw_okq (⟨"MotionStepperModel", "rates", "(ID[D[D)V"⟩, 62) := ⟨⟨by decide +kernel, by decide +kernel⟩, List.mem_of_getElem? (i := 789) (by decide +kernel), List.mem_of_getElem? (i := 1074) (by decide +kernel), List.mem_of_getElem? (i := 1075) (by decide +kernel)⟩
theorem lw_p27 : lw_okq (⟨"MotionStepperModel", "all", "(ID[D)V"⟩, 62) := ⟨⟨by decide +kernel, by decide +kernel⟩, List.mem_of_getElem? (i := 789) (by decide +kernel), List.mem_of_getElem? (i := 1078) (by decide +kernel), List.mem_of_getElem? (i := 1079) (by decide +kernel)⟩
theorem lw_p28 : lw_okq (⟨"MotionStepperModel", "worth", "(IID[D)D"⟩, 62) := ⟨⟨by decide +kernel, by decide +kernel⟩, List.mem_of_getElem? (i := 789) (by decide +kernel), List.mem_of_getElem? (i := 1082) (by decide +kernel), List.mem_of_getElem? (i := 1083) (by decide +kernel)⟩
theorem lw_p29 : lw_okq (⟨"MotionStepperModel", "signalAt", "(ID)D"⟩, 62) := ⟨⟨by decide +kernel, by decide +kernel⟩, List.mem_of_getElem? (i := 789) (by decide +kernel), List.mem_of_getElem? (i := 1116) (by decide +kernel), List.mem_of_getElem? (i := 1117) (by decide +kernel)⟩
theorem lw_p30 : lw_okq (⟨"MotionStepperModel", "plain", "(IID)V"⟩, 62) := ⟨⟨by decide +kernel, by decide +kernel⟩, List.mem_of_getElem? (i := 789) (by decide +kernel), List.mem_of_getElem? (i := 1120) (by decide +kernel), List.mem_of_getElem? (i := 1121) (by decide +kernel)⟩
theorem lw_p31 : lw_okq (⟨"MotionStepperModel", "byMiddle", "(IIDD)V"⟩, 62) := ⟨⟨by decide +kernel, by decide +kernel⟩, List.mem_of_getElem? (i := 789) (by decide +kernel), List.mem_of_getElem? (i := 1124) (by decide +kernel), List.mem_of_getElem? (i := 1125) (by decide +kernel)⟩
def lw_privs_2 : List (MethodName × Nat) := [(⟨"MotionStepper$Run", "highOf", "(I)D"⟩, 12), (⟨"MotionStepper$Run", "search", "(II)D"⟩, 12), (⟨"MotionStepper$Run", "act", "(ID)V"⟩, 12), (⟨"MotionStepper", "store", "(LMotionStepper$Run;I)LMotionStepper$Run;"⟩, 11), (⟨"MotionStepper$Teller", "bitsOfSize", "(D)J"⟩, 1), (⟨"MotionStepperModel", "comesNode", "(IIIII)I"⟩, 62), (⟨"MotionStepperModel", "isRun", "(I)Z"⟩, 62), (⟨"MotionStepperModel", "put", "(IID)D"⟩, 62), (⟨"MotionStepperModel", "goes", "(IDZD)I"⟩, 62), (⟨"MotionStepperModel", "made", "(IIDD)Z"⟩, 62), (⟨"MotionStepperModel", "rates", "(ID[D[D)V"⟩, 62), (⟨"MotionStepperModel", "all", "(ID[D)V"⟩, 62), (⟨"MotionStepperModel", "worth", "(IID[D)D"⟩, 62), (⟨"MotionStepperModel", "signalAt", "(ID)D"⟩, 62), (⟨"MotionStepperModel", "plain", "(IID)V"⟩, 62), (⟨"MotionStepperModel", "byMiddle", "(IIDD)V"⟩, 62)]
theorem lw_r2 : ∀ q ∈ lw_privs_2, lw_okq q := List.forall_mem_cons.mpr ⟨lw_p16, List.forall_mem_cons.mpr ⟨lw_p17, List.forall_mem_cons.mpr ⟨lw_p18, List.forall_mem_cons.mpr ⟨lw_p19, List.forall_mem_cons.mpr ⟨lw_p20, List.forall_mem_cons.mpr ⟨lw_p21, List.forall_mem_cons.mpr ⟨lw_p22, List.forall_mem_cons.mpr ⟨lw_p23, List.forall_mem_cons.mpr ⟨lw_p24, List.forall_mem_cons.mpr ⟨lw_p25, List.forall_mem_cons.mpr ⟨lw_p26, List.forall_mem_cons.mpr ⟨lw_p27, List.forall_mem_cons.mpr ⟨lw_p28, List.forall_mem_cons.mpr ⟨lw_p29, List.forall_mem_cons.mpr ⟨lw_p30, List.forall_mem_cons.mpr ⟨lw_p31, fun _ h => absurd h List.not_mem_nil⟩⟩⟩⟩⟩⟩⟩⟩⟩⟩⟩⟩⟩⟩⟩⟩
theorem lw_p32 : lw_okq (⟨"MotionStepperModel", "third", "(IIDD)V"⟩, 62) := ⟨⟨by decide +kernel, by decide +kernel⟩, List.mem_of_getElem? (i := 789) (by decide +kernel), List.mem_of_getElem? (i := 1129) (by decide +kernel), List.mem_of_getElem? (i := 1130) (by decide +kernel)⟩
theorem lw_p33 : lw_okq (⟨"MotionStepperModel", "fourth", "(IIDD)V"⟩, 62) := ⟨⟨by decide +kernel, by decide +kernel⟩, List.mem_of_getElem? (i := 789) (by decide +kernel), List.mem_of_getElem? (i := 1135) (by decide +kernel), List.mem_of_getElem? (i := 1136) (by decide +kernel)⟩
theorem lw_p34 : lw_okq (⟨"MotionStepperModel", "pair", "(IIDD)V"⟩, 62) := ⟨⟨by decide +kernel, by decide +kernel⟩, List.mem_of_getElem? (i := 789) (by decide +kernel), List.mem_of_getElem? (i := 1139) (by decide +kernel), List.mem_of_getElem? (i := 1140) (by decide +kernel)⟩
theorem lw_p35 : lw_okq (⟨"MotionStepperModel", "backward", "(IIDD)V"⟩, 62) := ⟨⟨by decide +kernel, by decide +kernel⟩, List.mem_of_getElem? (i := 789) (by decide +kernel), List.mem_of_getElem? (i := 1148) (by decide +kernel), List.mem_of_getElem? (i := 1149) (by decide +kernel)⟩
theorem lw_p36 : lw_okq (⟨"MotionStepperModel", "leap", "(IIDD)V"⟩, 62) := ⟨⟨by decide +kernel, by decide +kernel⟩, List.mem_of_getElem? (i := 789) (by decide +kernel), List.mem_of_getElem? (i := 1152) (by decide +kernel), List.mem_of_getElem? (i := 1153) (by decide +kernel)⟩
theorem lw_p37 : lw_okq (⟨"MotionStepperModel", "greatestRatio", "(II)D"⟩, 62) := ⟨⟨by decide +kernel, by decide +kernel⟩, List.mem_of_getElem? (i := 789) (by decide +kernel), List.mem_of_getElem? (i := 1156) (by decide +kernel), List.mem_of_getElem? (i := 1157) (by decide +kernel)⟩
theorem lw_p38 : lw_okq (⟨"MotionStepperModel", "keepsStep", "(IIID)V"⟩, 62) := ⟨⟨by decide +kernel, by decide +kernel⟩, List.mem_of_getElem? (i := 789) (by decide +kernel), List.mem_of_getElem? (i := 1165) (by decide +kernel), List.mem_of_getElem? (i := 1166) (by decide +kernel)⟩
theorem lw_p39 : lw_okq (⟨"MotionStepperModel", "looksAtEvents", "(I)V"⟩, 62) := ⟨⟨by decide +kernel, by decide +kernel⟩, List.mem_of_getElem? (i := 789) (by decide +kernel), List.mem_of_getElem? (i := 1169) (by decide +kernel), List.mem_of_getElem? (i := 1170) (by decide +kernel)⟩
theorem lw_p40 : lw_okq (⟨"MotionStepperModel", "looksAt", "(II)V"⟩, 62) := ⟨⟨by decide +kernel, by decide +kernel⟩, List.mem_of_getElem? (i := 789) (by decide +kernel), List.mem_of_getElem? (i := 1173) (by decide +kernel), List.mem_of_getElem? (i := 1174) (by decide +kernel)⟩
theorem lw_p41 : lw_okq (⟨"MotionStepperModel", "valueAt", "(IID)D"⟩, 62) := ⟨⟨by decide +kernel, by decide +kernel⟩, List.mem_of_getElem? (i := 789) (by decide +kernel), List.mem_of_getElem? (i := 1177) (by decide +kernel), List.mem_of_getElem? (i := 1178) (by decide +kernel)⟩
theorem lw_p42 : lw_okq (⟨"MotionStepperModel", "cubic", "(IID)D"⟩, 62) := ⟨⟨by decide +kernel, by decide +kernel⟩, List.mem_of_getElem? (i := 789) (by decide +kernel), List.mem_of_getElem? (i := 1181) (by decide +kernel), List.mem_of_getElem? (i := 1182) (by decide +kernel)⟩
theorem lw_p43 : lw_okq (⟨"MotionStepperModel", "fires", "(II)V"⟩, 62) := ⟨⟨by decide +kernel, by decide +kernel⟩, List.mem_of_getElem? (i := 789) (by decide +kernel), List.mem_of_getElem? (i := 1185) (by decide +kernel), List.mem_of_getElem? (i := 1186) (by decide +kernel)⟩
theorem lw_p44 : lw_okq (⟨"MotionStepperModel", "copies", "(II)V"⟩, 62) := ⟨⟨by decide +kernel, by decide +kernel⟩, List.mem_of_getElem? (i := 789) (by decide +kernel), List.mem_of_getElem? (i := 1193) (by decide +kernel), List.mem_of_getElem? (i := 1194) (by decide +kernel)⟩
theorem lw_p45 : lw_okq (⟨"MotionStepperModel", "copiesVariable", "(II)V"⟩, 62) := ⟨⟨by decide +kernel, by decide +kernel⟩, List.mem_of_getElem? (i := 789) (by decide +kernel), List.mem_of_getElem? (i := 1197) (by decide +kernel), List.mem_of_getElem? (i := 1198) (by decide +kernel)⟩
def lw_privs_3 : List (MethodName × Nat) := [(⟨"MotionStepperModel", "third", "(IIDD)V"⟩, 62), (⟨"MotionStepperModel", "fourth", "(IIDD)V"⟩, 62), (⟨"MotionStepperModel", "pair", "(IIDD)V"⟩, 62), (⟨"MotionStepperModel", "backward", "(IIDD)V"⟩, 62), (⟨"MotionStepperModel", "leap", "(IIDD)V"⟩, 62), (⟨"MotionStepperModel", "greatestRatio", "(II)D"⟩, 62), (⟨"MotionStepperModel", "keepsStep", "(IIID)V"⟩, 62), (⟨"MotionStepperModel", "looksAtEvents", "(I)V"⟩, 62), (⟨"MotionStepperModel", "looksAt", "(II)V"⟩, 62), (⟨"MotionStepperModel", "valueAt", "(IID)D"⟩, 62), (⟨"MotionStepperModel", "cubic", "(IID)D"⟩, 62), (⟨"MotionStepperModel", "fires", "(II)V"⟩, 62), (⟨"MotionStepperModel", "copies", "(II)V"⟩, 62), (⟨"MotionStepperModel", "copiesVariable", "(II)V"⟩, 62)]
theorem lw_r3 : ∀ q ∈ lw_privs_3, lw_okq q := List.forall_mem_cons.mpr ⟨lw_p32, List.forall_mem_cons.mpr ⟨lw_p33, List.forall_mem_cons.mpr ⟨lw_p34, List.forall_mem_cons.mpr ⟨lw_p35, List.forall_mem_cons.mpr ⟨lw_p36, List.forall_mem_cons.mpr ⟨lw_p37, List.forall_mem_cons.mpr ⟨lw_p38, List.forall_mem_cons.mpr ⟨lw_p39, List.forall_mem_cons.mpr ⟨lw_p40, List.forall_mem_cons.mpr ⟨lw_p41, List.forall_mem_cons.mpr ⟨lw_p42, List.forall_mem_cons.mpr ⟨lw_p43, List.forall_mem_cons.mpr ⟨lw_p44, List.forall_mem_cons.mpr ⟨lw_p45, fun _ h => absurd h List.not_mem_nil⟩⟩⟩⟩⟩⟩⟩⟩⟩⟩⟩⟩⟩⟩
def lw_privs : List (MethodName × Nat) := lw_privs_1 ++ (lw_privs_2 ++ (lw_privs_3))
def lw_tbl : List Cond := k2_sels lw_privs ++ tables_1
theorem lw_privs_ok : ∀ q ∈ lw_privs, lw_okq q := by
  show ∀ q ∈ lw_privs_1 ++ (lw_privs_2 ++ (lw_privs_3)), lw_okq q
  exact List.forall_mem_append.mpr ⟨lw_r1, List.forall_mem_append.mpr ⟨lw_r2, lw_r3⟩⟩
/-- the streams that the claim lets the run draw from -/
abbrev lw_cs : List Choice := [Jvm.Choice.named "NaN.bits"]
theorem lw_bits : nanBits ∈ lw_cs := by first | decide | exact List.mem_cons_self | simp [lw_cs, nanBits]
/-! ===== BEGIN words of one list among another's, by their places ===== -/
theorem goodIn_r {big : List Cond} (ws : List Cond) (ps : List Nat) (hp : ws = ps.filterMap (fun i => big[i]?)) (h : ws.all goodWord = true) : GoodIn big ws := by
  intro w hw
  have h1 := List.all_eq_true.mp h w hw
  rw [hp] at hw
  obtain ⟨i, -, hi⟩ := List.mem_filterMap.mp hw
  have hm : w ∈ big := by first | exact List.mem_of_getElem? hi | exact List.getElem?_mem hi
  exact ⟨hm, good_of_word h1⟩
theorem goodIn_app {big a b : List Cond} (ha : GoodIn big a) (hb : GoodIn big b) : GoodIn big (a ++ b) := fun w h => (List.mem_append.mp h).elim (ha w) (hb w)
theorem goodIn_ca {big a b : List Cond} {c : Cond} (ha : GoodIn big (c :: a)) (hb : GoodIn big b) : GoodIn big (c :: (a ++ b)) := fun w h => (List.mem_cons.mp h).elim (fun e => ha w (List.mem_cons.mpr (Or.inl e))) (fun h => (List.mem_append.mp h).elim (fun h => ha w (List.mem_cons.mpr (Or.inr h))) (hb w))
theorem goodIn_sub {big ws : List Cond} (hm : ∀ w ∈ ws, w ∈ big) (h : ws.all goodWord = true) : GoodIn big ws := fun w hw => ⟨hm w hw, good_of_word (List.all_eq_true.mp h w hw)⟩
/-! ===== END ===== -/

/-! ===== BEGIN printed: names, fields, word lists, decode rows ===== -/
def RX0 : String := "MotionStepper$Events"
def TX0 : u_T := fun k => match k with
  | 0 => ("MotionStepper$Events", "eventCount", "I", false)
  | 1 => ("MotionStepper$Events", "nodes", "[I", true)
  | 2 => ("MotionStepper$Events", "directions", "[I", true)
  | 3 => ("MotionStepper$Events", "actions", "[I", true)
  | 4 => ("MotionStepper$Events", "targets", "[I", true)
  | 5 => ("MotionStepper$Events", "highs", "[D", true)
  | 6 => ("MotionStepper$Events", "firedCount", "I", false)
  | 7 => ("MotionStepper$Events", "firedEvent", "[I", true)
  | _ => ("MotionStepper$Events", "firedTime", "[D", true)
def tyX0 : Nat → FieldType := fun k => match k with
  | 0 => .int
  | 1 => .array .int
  | 2 => .array .int
  | 3 => .array .int
  | 4 => .array .int
  | 5 => .array .double
  | 6 => .int
  | 7 => .array .int
  | _ => .array .double
abbrev wsX00 : List Cond := u_ws RX0 TX0 9
theorem nmX0 : ∀ a, a < 9 → ∀ b, b < 9 → a ≠ b → (TX0 a).2.1 ≠ (TX0 b).2.1 := by decide +kernel
theorem tyX0_ok : ∀ k, k < 9 → parseFieldDescriptor (TX0 k).2.2.1 = some (tyX0 k) := by decide +kernel
abbrev cX0_init : ByteArray := prog_2_method_1_code
def yX0_init : MethodName := ⟨RX0, "<init>", "()V"⟩
abbrev cX0_copy : ByteArray := prog_2_method_2_code
def yX0_copy : MethodName := ⟨RX0, "copy", "(LMotionStepper$Events;)V"⟩
abbrev cX0_add : ByteArray := prog_2_method_3_code
def yX0_add : MethodName := ⟨RX0, "add", "(IIII)I"⟩
abbrev cX0_hasFired : ByteArray := prog_2_method_4_code
def yX0_hasFired : MethodName := ⟨RX0, "hasFired", "(I)Z"⟩
abbrev cX0_fire : ByteArray := prog_2_method_5_code
def yX0_fire : MethodName := ⟨RX0, "fire", "(ID)V"⟩
abbrev cX0_earliest : ByteArray := prog_2_method_6_code
def yX0_earliest : MethodName := ⟨RX0, "earliest", "()I"⟩
abbrev cX0_turn : ByteArray := prog_2_method_7_code
def yX0_turn : MethodName := ⟨RX0, "turn", "(III)I"⟩
def RX1 : String := "MotionStepper$Law"
def TX1 : u_T := fun k => match k with
  | 0 => ("MotionStepper$Law", "number", "I", true)
  | 1 => ("MotionStepper$Law", "n", "I", true)
  | 2 => ("MotionStepper$Law", "narrow", "I", true)
  | 3 => ("MotionStepper$Law", "signals", "[LMotionStepper$Signal;", true)
  | 4 => ("MotionStepper$Law", "reckoner", "LMotionStepper$Reckoner;", true)
  | 5 => ("MotionStepper$Law", "kinds", "[I", true)
  | 6 => ("MotionStepper$Law", "as", "[I", true)
  | 7 => ("MotionStepper$Law", "bs", "[I", true)
  | 8 => ("MotionStepper$Law", "cs", "[I", true)
  | 9 => ("MotionStepper$Law", "constants", "[D", true)
  | 10 => ("MotionStepper$Law", "nodeCount", "I", false)
  | 11 => ("MotionStepper$Law", "sides", "[I", true)
  | 12 => ("MotionStepper$Law", "sideEnd", "I", false)
  | _ => ("MotionStepper$Law", "values", "LMotionStepper$Row;", true)
def tyX1 : Nat → FieldType := fun k => match k with
  | 0 => .int
  | 1 => .int
  | 2 => .int
  | 3 => .array (.object "MotionStepper$Signal")
  | 4 => .object "MotionStepper$Reckoner"
  | 5 => .array .int
  | 6 => .array .int
  | 7 => .array .int
  | 8 => .array .int
  | 9 => .array .double
  | 10 => .int
  | 11 => .array .int
  | 12 => .int
  | _ => .object "MotionStepper$Row"
abbrev wsX10 : List Cond := u_ws RX1 TX1 14
theorem nmX1 : ∀ a, a < 14 → ∀ b, b < 14 → a ≠ b → (TX1 a).2.1 ≠ (TX1 b).2.1 := by decide +kernel
theorem tyX1_ok : ∀ k, k < 14 → parseFieldDescriptor (TX1 k).2.2.1 = some (tyX1 k) := by decide +kernel
abbrev cX1_init : ByteArray := prog_3_method_1_code
def yX1_init : MethodName := ⟨RX1, "<init>", "(III[LMotionStepper$Signal;LMotionStepper$Reckoner;)V"⟩
abbrev cX1_hasVariable : ByteArray := prog_3_method_2_code
def yX1_hasVariable : MethodName := ⟨RX1, "hasVariable", "(I)Z"⟩
abbrev cX1_hasNode : ByteArray := prog_3_method_3_code
def yX1_hasNode : MethodName := ⟨RX1, "hasNode", "(I)Z"⟩
abbrev cX1_isNarrow : ByteArray := prog_3_method_4_code
def yX1_isNarrow : MethodName := ⟨RX1, "isNarrow", "(I)Z"⟩
abbrev cX1_isReady : ByteArray := prog_3_method_5_code
def yX1_isReady : MethodName := ⟨RX1, "isReady", "()Z"⟩
abbrev cX1_add : ByteArray := prog_3_method_6_code
def yX1_add : MethodName := ⟨RX1, "add", "(IIIID)I"⟩
abbrev cX1_putSide : ByteArray := prog_3_method_7_code
def yX1_putSide : MethodName := ⟨RX1, "putSide", "(II)V"⟩
abbrev cX1_reckonNodes : ByteArray := prog_3_method_8_code
def yX1_reckonNodes : MethodName := ⟨RX1, "reckonNodes", "(DLMotionStepper$Row;I)V"⟩
abbrev cX1_readSides : ByteArray := prog_3_method_9_code
def yX1_readSides : MethodName := ⟨RX1, "readSides", "(LMotionStepper$Row;)V"⟩
abbrev cX1_reckoned : ByteArray := prog_3_method_10_code
def yX1_reckoned : MethodName := ⟨RX1, "reckoned", "(IDLMotionStepper$Row;)D"⟩
abbrev cX1_signOf : ByteArray := prog_3_method_11_code
def yX1_signOf : MethodName := ⟨RX1, "signOf", "(I)I"⟩
def RX2 : String := "MotionStepper$Reckoner"
def TX2 : u_T := fun k => match k with
  | 0 => ("MotionStepper$Reckoner", "greatest", "D", true)
  | _ => ("MotionStepper$Reckoner", "none", "Z", false)
def tyX2 : Nat → FieldType := fun k => match k with
  | 0 => .double
  | _ => .boolean
abbrev wsX20 : List Cond := u_ws RX2 TX2 2
theorem nmX2 : ∀ a, a < 2 → ∀ b, b < 2 → a ≠ b → (TX2 a).2.1 ≠ (TX2 b).2.1 := by decide +kernel
theorem tyX2_ok : ∀ k, k < 2 → parseFieldDescriptor (TX2 k).2.2.1 = some (tyX2 k) := by decide +kernel
abbrev cX2_init : ByteArray := prog_4_method_1_code
def yX2_init : MethodName := ⟨RX2, "<init>", "()V"⟩
abbrev cX2_begin : ByteArray := prog_4_method_2_code
def yX2_begin : MethodName := ⟨RX2, "begin", "()V"⟩
abbrev cX2_read : ByteArray := prog_4_method_3_code
def yX2_read : MethodName := ⟨RX2, "read", "(LMotionStepper$Row;I)D"⟩
abbrev cX2_sum : ByteArray := prog_4_method_4_code
def yX2_sum : MethodName := ⟨RX2, "sum", "(DD)D"⟩
abbrev cX2_difference : ByteArray := prog_4_method_5_code
def yX2_difference : MethodName := ⟨RX2, "difference", "(DD)D"⟩
abbrev cX2_product : ByteArray := prog_4_method_6_code
def yX2_product : MethodName := ⟨RX2, "product", "(DD)D"⟩
abbrev cX2_quotient : ByteArray := prog_4_method_7_code
def yX2_quotient : MethodName := ⟨RX2, "quotient", "(DD)D"⟩
abbrev cX2_lesser : ByteArray := prog_4_method_8_code
def yX2_lesser : MethodName := ⟨RX2, "lesser", "(DD)D"⟩
abbrev cX2_greater : ByteArray := prog_4_method_9_code
def yX2_greater : MethodName := ⟨RX2, "greater", "(DD)D"⟩
abbrev cX2_power : ByteArray := prog_4_method_10_code
def yX2_power : MethodName := ⟨RX2, "power", "(DI)D"⟩
def RX3 : String := "MotionStepper$Row"
def TX3 : u_T := fun k => match k with
  | 0 => ("MotionStepper$Row", "number", "[D", true)
  | _ => ("MotionStepper$Row", "none", "[Z", true)
def tyX3 : Nat → FieldType := fun k => match k with
  | 0 => .array .double
  | _ => .array .boolean
abbrev wsX30 : List Cond := u_ws RX3 TX3 2
theorem nmX3 : ∀ a, a < 2 → ∀ b, b < 2 → a ≠ b → (TX3 a).2.1 ≠ (TX3 b).2.1 := by decide +kernel
theorem tyX3_ok : ∀ k, k < 2 → parseFieldDescriptor (TX3 k).2.2.1 = some (tyX3 k) := by decide +kernel
abbrev cX3_init : ByteArray := prog_5_method_1_code
def yX3_init : MethodName := ⟨RX3, "<init>", "(I)V"⟩
abbrev cX3_copy : ByteArray := prog_5_method_2_code
def yX3_copy : MethodName := ⟨RX3, "copy", "(LMotionStepper$Row;)V"⟩
abbrev cX3_copyOne : ByteArray := prog_5_method_3_code
def yX3_copyOne : MethodName := ⟨RX3, "copyOne", "(ILMotionStepper$Row;)V"⟩
abbrev cX3_put : ByteArray := prog_5_method_4_code
def yX3_put : MethodName := ⟨RX3, "put", "(IDZZ)V"⟩
abbrev cX3_isFinite : ByteArray := prog_5_method_5_code
def yX3_isFinite : MethodName := ⟨RX3, "isFinite", "(I)Z"⟩
def RX4 : String := "MotionStepper$Run"
def TX4 : u_T := fun k => match k with
  | 0 => ("MotionStepper$Run", "law", "LMotionStepper$Law;", false)
  | 1 => ("MotionStepper$Run", "time", "D", false)
  | 2 => ("MotionStepper$Run", "state", "LMotionStepper$Row;", true)
  | 3 => ("MotionStepper$Run", "method", "I", false)
  | 4 => ("MotionStepper$Run", "length", "D", false)
  | 5 => ("MotionStepper$Run", "absolute", "D", false)
  | 6 => ("MotionStepper$Run", "relative", "D", false)
  | 7 => ("MotionStepper$Run", "ended", "Z", false)
  | 8 => ("MotionStepper$Run", "taken", "I", false)
  | 9 => ("MotionStepper$Run", "rejected", "I", false)
  | 10 => ("MotionStepper$Run", "events", "LMotionStepper$Events;", true)
  | _ => ("MotionStepper$Run", "last", "LMotionStepper$Step;", true)
def tyX4 : Nat → FieldType := fun k => match k with
  | 0 => .object "MotionStepper$Law"
  | 1 => .double
  | 2 => .object "MotionStepper$Row"
  | 3 => .int
  | 4 => .double
  | 5 => .double
  | 6 => .double
  | 7 => .boolean
  | 8 => .int
  | 9 => .int
  | 10 => .object "MotionStepper$Events"
  | _ => .object "MotionStepper$Step"
abbrev wsX40 : List Cond := u_ws RX4 TX4 12
theorem nmX4 : ∀ a, a < 12 → ∀ b, b < 12 → a ≠ b → (TX4 a).2.1 ≠ (TX4 b).2.1 := by decide +kernel
theorem tyX4_ok : ∀ k, k < 12 → parseFieldDescriptor (TX4 k).2.2.1 = some (tyX4 k) := by decide +kernel
abbrev cX4_init : ByteArray := prog_6_method_1_code
def yX4_init : MethodName := ⟨RX4, "<init>", "(LMotionStepper$Law;DLMotionStepper$Reckoner;)V"⟩
abbrev cX4_copy : ByteArray := prog_6_method_2_code
def yX4_copy : MethodName := ⟨RX4, "copy", "(LMotionStepper$Run;)V"⟩
abbrev cX4_take : ByteArray := prog_6_method_3_code
def yX4_take : MethodName := ⟨RX4, "take", "(LMotionStepper$Step;I)V"⟩
abbrev cX4_lookAtEvents : ByteArray := prog_6_method_4_code
def yX4_lookAtEvents : MethodName := ⟨RX4, "lookAtEvents", "()V"⟩
abbrev cX4_highOf : ByteArray := prog_6_method_5_code
def yX4_highOf : MethodName := ⟨RX4, "highOf", "(I)D"⟩
abbrev cX4_search : ByteArray := prog_6_method_6_code
def yX4_search : MethodName := ⟨RX4, "search", "(II)D"⟩
abbrev cX4_act : ByteArray := prog_6_method_7_code
def yX4_act : MethodName := ⟨RX4, "act", "(ID)V"⟩
def RX5 : String := "MotionStepper$Signal"
def TX5 : u_T := fun k => match k with
  | 0 => ("MotionStepper$Signal", "isLine", "Z", true)
  | 1 => ("MotionStepper$Signal", "times", "[D", true)
  | 2 => ("MotionStepper$Signal", "heights", "[D", true)
  | _ => ("MotionStepper$Signal", "pointCount", "I", false)
def tyX5 : Nat → FieldType := fun k => match k with
  | 0 => .boolean
  | 1 => .array .double
  | 2 => .array .double
  | _ => .int
abbrev wsX50 : List Cond := u_ws RX5 TX5 4
theorem nmX5 : ∀ a, a < 4 → ∀ b, b < 4 → a ≠ b → (TX5 a).2.1 ≠ (TX5 b).2.1 := by decide +kernel
theorem tyX5_ok : ∀ k, k < 4 → parseFieldDescriptor (TX5 k).2.2.1 = some (tyX5 k) := by decide +kernel
abbrev cX5_init : ByteArray := prog_7_method_1_code
def yX5_init : MethodName := ⟨RX5, "<init>", "(Z)V"⟩
abbrev cX5_add : ByteArray := prog_7_method_2_code
def yX5_add : MethodName := ⟨RX5, "add", "(DD)I"⟩
abbrev cX5_heightAt : ByteArray := prog_7_method_3_code
def yX5_heightAt : MethodName := ⟨RX5, "heightAt", "(D)D"⟩
def RX6 : String := "MotionStepper$Step"
def TX6 : u_T := fun k => match k with
  | 0 => ("MotionStepper$Step", "reckoner", "LMotionStepper$Reckoner;", true)
  | 1 => ("MotionStepper$Step", "law", "LMotionStepper$Law;", false)
  | 2 => ("MotionStepper$Step", "method", "I", false)
  | 3 => ("MotionStepper$Step", "t", "D", false)
  | 4 => ("MotionStepper$Step", "h", "D", false)
  | 5 => ("MotionStepper$Step", "end", "D", false)
  | 6 => ("MotionStepper$Step", "x", "LMotionStepper$Row;", true)
  | 7 => ("MotionStepper$Step", "y", "LMotionStepper$Row;", true)
  | 8 => ("MotionStepper$Step", "z", "LMotionStepper$Row;", true)
  | 9 => ("MotionStepper$Step", "k", "[LMotionStepper$Row;", true)
  | 10 => ("MotionStepper$Step", "e", "LMotionStepper$Row;", true)
  | 11 => ("MotionStepper$Step", "f1", "LMotionStepper$Row;", true)
  | 12 => ("MotionStepper$Step", "error", "D", false)
  | _ => ("MotionStepper$Step", "gap", "I", false)
def tyX6 : Nat → FieldType := fun k => match k with
  | 0 => .object "MotionStepper$Reckoner"
  | 1 => .object "MotionStepper$Law"
  | 2 => .int
  | 3 => .double
  | 4 => .double
  | 5 => .double
  | 6 => .object "MotionStepper$Row"
  | 7 => .object "MotionStepper$Row"
  | 8 => .object "MotionStepper$Row"
  | 9 => .array (.object "MotionStepper$Row")
  | 10 => .object "MotionStepper$Row"
  | 11 => .object "MotionStepper$Row"
  | 12 => .double
  | _ => .int
abbrev wsX60 : List Cond := u_ws RX6 TX6 14
theorem nmX6 : ∀ a, a < 14 → ∀ b, b < 14 → a ≠ b → (TX6 a).2.1 ≠ (TX6 b).2.1 := by decide +kernel
theorem tyX6_ok : ∀ k, k < 14 → parseFieldDescriptor (TX6 k).2.2.1 = some (tyX6 k) := by decide +kernel
abbrev cX6_init : ByteArray := prog_8_method_1_code
def yX6_init : MethodName := ⟨RX6, "<init>", "(LMotionStepper$Reckoner;)V"⟩
abbrev cX6_copy : ByteArray := prog_8_method_2_code
def yX6_copy : MethodName := ⟨RX6, "copy", "(LMotionStepper$Step;)V"⟩
abbrev cX6_make : ByteArray := prog_8_method_3_code
def yX6_make : MethodName := ⟨RX6, "make", "(LMotionStepper$Law;IDLMotionStepper$Row;D)Z"⟩
abbrev cX6_slope : ByteArray := prog_8_method_4_code
def yX6_slope : MethodName := ⟨RX6, "slope", "(IDLMotionStepper$Row;)Z"⟩
abbrev cX6_arrive : ByteArray := prog_8_method_5_code
def yX6_arrive : MethodName := ⟨RX6, "arrive", "(LMotionStepper$Row;ILMotionStepper$Row;DD)V"⟩
abbrev cX6_move : ByteArray := prog_8_method_6_code
def yX6_move : MethodName := ⟨RX6, "move", "(LMotionStepper$Row;DI)V"⟩
abbrev cX6_middle : ByteArray := prog_8_method_7_code
def yX6_middle : MethodName := ⟨RX6, "middle", "()Z"⟩
abbrev cX6_third : ByteArray := prog_8_method_8_code
def yX6_third : MethodName := ⟨RX6, "third", "()Z"⟩
abbrev cX6_fourth : ByteArray := prog_8_method_9_code
def yX6_fourth : MethodName := ⟨RX6, "fourth", "()Z"⟩
abbrev cX6_pair : ByteArray := prog_8_method_10_code
def yX6_pair : MethodName := ⟨RX6, "pair", "()Z"⟩
abbrev cX6_backward : ByteArray := prog_8_method_11_code
def yX6_backward : MethodName := ⟨RX6, "backward", "()Z"⟩
abbrev cX6_unlikeCount : ByteArray := prog_8_method_12_code
def yX6_unlikeCount : MethodName := ⟨RX6, "unlikeCount", "()I"⟩
abbrev cX6_leap : ByteArray := prog_8_method_13_code
def yX6_leap : MethodName := ⟨RX6, "leap", "()Z"⟩
abbrev cX6_judge : ByteArray := prog_8_method_14_code
def yX6_judge : MethodName := ⟨RX6, "judge", "(DD)V"⟩
abbrev cX6_reckonEnd : ByteArray := prog_8_method_15_code
def yX6_reckonEnd : MethodName := ⟨RX6, "reckonEnd", "()V"⟩
abbrev cX6_blend : ByteArray := prog_8_method_16_code
def yX6_blend : MethodName := ⟨RX6, "blend", "(ID)V"⟩
abbrev cX6_blendAll : ByteArray := prog_8_method_17_code
def yX6_blendAll : MethodName := ⟨RX6, "blendAll", "(D)V"⟩
abbrev cX6_timeAt : ByteArray := prog_8_method_18_code
def yX6_timeAt : MethodName := ⟨RX6, "timeAt", "(D)D"⟩
def RX7 : String := "MotionStepper$Teller"
def TX7 : u_T := fun k => match k with
  | _ => ("MotionStepper$Teller", "powers", "[D", true)
def tyX7 : Nat → FieldType := fun k => match k with
  | _ => .array .double
abbrev wsX70 : List Cond := u_ws RX7 TX7 1
theorem nmX7 : ∀ a, a < 1 → ∀ b, b < 1 → a ≠ b → (TX7 a).2.1 ≠ (TX7 b).2.1 := by decide +kernel
theorem tyX7_ok : ∀ k, k < 1 → parseFieldDescriptor (TX7 k).2.2.1 = some (tyX7 k) := by decide +kernel
abbrev cX7_init : ByteArray := prog_9_method_1_code
def yX7_init : MethodName := ⟨RX7, "<init>", "()V"⟩
abbrev cX7_told : ByteArray := prog_9_method_2_code
def yX7_told : MethodName := ⟨RX7, "told", "(LMotionStepper$Row;I)J"⟩
abbrev cX7_bits : ByteArray := prog_9_method_3_code
def yX7_bits : MethodName := ⟨RX7, "bits", "(D)J"⟩
abbrev cX7_bitsOfSize : ByteArray := prog_9_method_4_code
def yX7_bitsOfSize : MethodName := ⟨RX7, "bitsOfSize", "(D)J"⟩
def RX8 : String := "MotionStepper"
def TX8 : u_T := fun k => match k with
  | 0 => ("MotionStepper", "reckoner", "LMotionStepper$Reckoner;", true)
  | 1 => ("MotionStepper", "teller", "LMotionStepper$Teller;", true)
  | 2 => ("MotionStepper", "laws", "[LMotionStepper$Law;", true)
  | 3 => ("MotionStepper", "lawCount", "I", false)
  | 4 => ("MotionStepper", "signals", "[LMotionStepper$Signal;", true)
  | 5 => ("MotionStepper", "signalCount", "I", false)
  | 6 => ("MotionStepper", "runs", "[LMotionStepper$Run;", true)
  | 7 => ("MotionStepper", "runCount", "I", false)
  | 8 => ("MotionStepper", "kept", "[LMotionStepper$Run;", true)
  | 9 => ("MotionStepper", "trial", "LMotionStepper$Step;", true)
  | _ => ("MotionStepper", "firstHalf", "LMotionStepper$Step;", true)
def tyX8 : Nat → FieldType := fun k => match k with
  | 0 => .object "MotionStepper$Reckoner"
  | 1 => .object "MotionStepper$Teller"
  | 2 => .array (.object "MotionStepper$Law")
  | 3 => .int
  | 4 => .array (.object "MotionStepper$Signal")
  | 5 => .int
  | 6 => .array (.object "MotionStepper$Run")
  | 7 => .int
  | 8 => .array (.object "MotionStepper$Run")
  | 9 => .object "MotionStepper$Step"
  | _ => .object "MotionStepper$Step"
abbrev wsX80 : List Cond := u_ws RX8 TX8 11
theorem nmX8 : ∀ a, a < 11 → ∀ b, b < 11 → a ≠ b → (TX8 a).2.1 ≠ (TX8 b).2.1 := by decide +kernel
theorem tyX8_ok : ∀ k, k < 11 → parseFieldDescriptor (TX8 k).2.2.1 = some (tyX8 k) := by decide +kernel
abbrev cX8_init : ByteArray := prog_1_method_1_code
def yX8_init : MethodName := ⟨RX8, "<init>", "()V"⟩
abbrev cX8_law : ByteArray := prog_1_method_2_code
def yX8_law : MethodName := ⟨RX8, "law", "(II)I"⟩
abbrev cX8_constant : ByteArray := prog_1_method_3_code
def yX8_constant : MethodName := ⟨RX8, "constant", "(IJI)I"⟩
abbrev cX8_node : ByteArray := prog_1_method_4_code
def yX8_node : MethodName := ⟨RX8, "node", "(IIIII)I"⟩
abbrev cX8_side : ByteArray := prog_1_method_5_code
def yX8_side : MethodName := ⟨RX8, "side", "(III)I"⟩
abbrev cX8_signal : ByteArray := prog_1_method_6_code
def yX8_signal : MethodName := ⟨RX8, "signal", "(I)I"⟩
abbrev cX8_point : ByteArray := prog_1_method_7_code
def yX8_point : MethodName := ⟨RX8, "point", "(IJJI)I"⟩
abbrev cX8_many : ByteArray := prog_1_method_8_code
def yX8_many : MethodName := ⟨RX8, "many", "(I)I"⟩
abbrev cX8_run : ByteArray := prog_1_method_9_code
def yX8_run : MethodName := ⟨RX8, "run", "(IJI)I"⟩
abbrev cX8_set : ByteArray := prog_1_method_10_code
def yX8_set : MethodName := ⟨RX8, "set", "(IIJI)I"⟩
abbrev cX8_method : ByteArray := prog_1_method_11_code
def yX8_method : MethodName := ⟨RX8, "method", "(II)I"⟩
abbrev cX8_length : ByteArray := prog_1_method_12_code
def yX8_length : MethodName := ⟨RX8, "length", "(IJI)I"⟩
abbrev cX8_tolerance : ByteArray := prog_1_method_13_code
def yX8_tolerance : MethodName := ⟨RX8, "tolerance", "(IJJI)I"⟩
abbrev cX8_event : ByteArray := prog_1_method_14_code
def yX8_event : MethodName := ⟨RX8, "event", "(IIIII)I"⟩
abbrev cX8_step : ByteArray := prog_1_method_15_code
def yX8_step : MethodName := ⟨RX8, "step", "(I)I"⟩
abbrev cX8_to : ByteArray := prog_1_method_16_code
def yX8_to : MethodName := ⟨RX8, "to", "(IJII)I"⟩
abbrev cX8_state : ByteArray := prog_1_method_17_code
def yX8_state : MethodName := ⟨RX8, "state", "(II)J"⟩
abbrev cX8_clock : ByteArray := prog_1_method_18_code
def yX8_clock : MethodName := ⟨RX8, "clock", "(II)J"⟩
abbrev cX8_count : ByteArray := prog_1_method_19_code
def yX8_count : MethodName := ⟨RX8, "count", "(II)I"⟩
abbrev cX8_stage : ByteArray := prog_1_method_20_code
def yX8_stage : MethodName := ⟨RX8, "stage", "(III)J"⟩
abbrev cX8_value : ByteArray := prog_1_method_21_code
def yX8_value : MethodName := ⟨RX8, "value", "(II)J"⟩
abbrev cX8_between : ByteArray := prog_1_method_22_code
def yX8_between : MethodName := ⟨RX8, "between", "(IIJI)J"⟩
abbrev cX8_fired : ByteArray := prog_1_method_23_code
def yX8_fired : MethodName := ⟨RX8, "fired", "(III)J"⟩
abbrev cX8_halves : ByteArray := prog_1_method_24_code
def yX8_halves : MethodName := ⟨RX8, "halves", "(II)J"⟩
abbrev cX8_keep : ByteArray := prog_1_method_25_code
def yX8_keep : MethodName := ⟨RX8, "keep", "(II)I"⟩
abbrev cX8_back : ByteArray := prog_1_method_26_code
def yX8_back : MethodName := ⟨RX8, "back", "(II)I"⟩
abbrev cX8_unlike : ByteArray := prog_1_method_27_code
def yX8_unlike : MethodName := ⟨RX8, "unlike", "(II)I"⟩
abbrev cX8_lawAt : ByteArray := prog_1_method_28_code
def yX8_lawAt : MethodName := ⟨RX8, "lawAt", "(I)LMotionStepper$Law;"⟩
abbrev cX8_runAt : ByteArray := prog_1_method_29_code
def yX8_runAt : MethodName := ⟨RX8, "runAt", "(I)LMotionStepper$Run;"⟩
abbrev cX8_isK : ByteArray := prog_1_method_30_code
def yX8_isK : MethodName := ⟨RX8, "isK", "(I)Z"⟩
abbrev cX8_quotient : ByteArray := prog_1_method_31_code
def yX8_quotient : MethodName := ⟨RX8, "quotient", "(JI)D"⟩
abbrev cX8_size : ByteArray := prog_1_method_32_code
def yX8_size : MethodName := ⟨RX8, "size", "(D)D"⟩
abbrev cX8_isTooSmall : ByteArray := prog_1_method_33_code
def yX8_isTooSmall : MethodName := ⟨RX8, "isTooSmall", "(D)Z"⟩
abbrev cX8_fits : ByteArray := prog_1_method_34_code
def yX8_fits : MethodName := ⟨RX8, "fits", "(LMotionStepper$Law;IIII)Z"⟩
abbrev cX8_advance : ByteArray := prog_1_method_35_code
def yX8_advance : MethodName := ⟨RX8, "advance", "(LMotionStepper$Run;DZD)I"⟩
abbrev cX8_finish : ByteArray := prog_1_method_36_code
def yX8_finish : MethodName := ⟨RX8, "finish", "(LMotionStepper$Run;IZD)V"⟩
abbrev cX8_grown : ByteArray := prog_1_method_37_code
def yX8_grown : MethodName := ⟨RX8, "grown", "(DD)D"⟩
abbrev cX8_store : ByteArray := prog_1_method_38_code
def yX8_store : MethodName := ⟨RX8, "store", "(LMotionStepper$Run;I)LMotionStepper$Run;"⟩
def RX9 : String := "MotionStepperModel"
def TX9 : u_T := fun k => match k with
  | 0 => ("MotionStepperModel", "variables", "[I", true)
  | 1 => ("MotionStepperModel", "narrow", "[I", true)
  | 2 => ("MotionStepperModel", "nodes", "[I", true)
  | 3 => ("MotionStepperModel", "side", "[I", true)
  | 4 => ("MotionStepperModel", "kind", "[I", true)
  | 5 => ("MotionStepperModel", "one", "[I", true)
  | 6 => ("MotionStepperModel", "two", "[I", true)
  | 7 => ("MotionStepperModel", "three", "[I", true)
  | 8 => ("MotionStepperModel", "constant", "[D", true)
  | 9 => ("MotionStepperModel", "laws", "I", false)
  | 10 => ("MotionStepperModel", "how", "[I", true)
  | 11 => ("MotionStepperModel", "points", "[I", true)
  | 12 => ("MotionStepperModel", "pointTime", "[D", true)
  | 13 => ("MotionStepperModel", "pointValue", "[D", true)
  | 14 => ("MotionStepperModel", "signals", "I", false)
  | 15 => ("MotionStepperModel", "law", "[I", true)
  | 16 => ("MotionStepperModel", "method", "[I", true)
  | 17 => ("MotionStepperModel", "events", "[I", true)
  | 18 => ("MotionStepperModel", "taken", "[I", true)
  | 19 => ("MotionStepperModel", "rejected", "[I", true)
  | 20 => ("MotionStepperModel", "gap", "[I", true)
  | 21 => ("MotionStepperModel", "fired", "[I", true)
  | 22 => ("MotionStepperModel", "ended", "[Z", true)
  | 23 => ("MotionStepperModel", "stepped", "[Z", true)
  | 24 => ("MotionStepperModel", "kept", "[Z", true)
  | 25 => ("MotionStepperModel", "time", "[D", true)
  | 26 => ("MotionStepperModel", "length", "[D", true)
  | 27 => ("MotionStepperModel", "firstTolerance", "[D", true)
  | 28 => ("MotionStepperModel", "secondTolerance", "[D", true)
  | 29 => ("MotionStepperModel", "error", "[D", true)
  | 30 => ("MotionStepperModel", "x", "[D", true)
  | 31 => ("MotionStepperModel", "eventNode", "[I", true)
  | 32 => ("MotionStepperModel", "eventWay", "[I", true)
  | 33 => ("MotionStepperModel", "eventAct", "[I", true)
  | 34 => ("MotionStepperModel", "eventVariable", "[I", true)
  | 35 => ("MotionStepperModel", "firedNumber", "[I", true)
  | 36 => ("MotionStepperModel", "firedTime", "[D", true)
  | 37 => ("MotionStepperModel", "stepMethod", "[I", true)
  | 38 => ("MotionStepperModel", "stepTime", "[D", true)
  | 39 => ("MotionStepperModel", "stepLength", "[D", true)
  | 40 => ("MotionStepperModel", "x0", "[D", true)
  | 41 => ("MotionStepperModel", "x1", "[D", true)
  | 42 => ("MotionStepperModel", "f0", "[D", true)
  | 43 => ("MotionStepperModel", "f1", "[D", true)
  | 44 => ("MotionStepperModel", "rows", "[D", true)
  | 45 => ("MotionStepperModel", "runs", "I", false)
  | 46 => ("MotionStepperModel", "node", "[D", true)
  | 47 => ("MotionStepperModel", "from", "[D", true)
  | 48 => ("MotionStepperModel", "y", "[D", true)
  | 49 => ("MotionStepperModel", "z", "[D", true)
  | 50 => ("MotionStepperModel", "w", "[D", true)
  | 51 => ("MotionStepperModel", "e", "[D", true)
  | 52 => ("MotionStepperModel", "k1", "[D", true)
  | 53 => ("MotionStepperModel", "k2", "[D", true)
  | 54 => ("MotionStepperModel", "k3", "[D", true)
  | 55 => ("MotionStepperModel", "k4", "[D", true)
  | 56 => ("MotionStepperModel", "middle", "[D", true)
  | 57 => ("MotionStepperModel", "whole", "[D", true)
  | 58 => ("MotionStepperModel", "high", "[D", true)
  | 59 => ("MotionStepperModel", "comes", "[Z", true)
  | 60 => ("MotionStepperModel", "wild", "Z", false)
  | _ => ("MotionStepperModel", "unlikeOnes", "I", false)
def tyX9 : Nat → FieldType := fun k => match k with
  | 0 => .array .int
  | 1 => .array .int
  | 2 => .array .int
  | 3 => .array .int
  | 4 => .array .int
  | 5 => .array .int
  | 6 => .array .int
  | 7 => .array .int
  | 8 => .array .double
  | 9 => .int
  | 10 => .array .int
  | 11 => .array .int
  | 12 => .array .double
  | 13 => .array .double
  | 14 => .int
  | 15 => .array .int
  | 16 => .array .int
  | 17 => .array .int
  | 18 => .array .int
  | 19 => .array .int
  | 20 => .array .int
  | 21 => .array .int
  | 22 => .array .boolean
  | 23 => .array .boolean
  | 24 => .array .boolean
  | 25 => .array .double
  | 26 => .array .double
  | 27 => .array .double
  | 28 => .array .double
  | 29 => .array .double
  | 30 => .array .double
  | 31 => .array .int
  | 32 => .array .int
  | 33 => .array .int
  | 34 => .array .int
  | 35 => .array .int
  | 36 => .array .double
  | 37 => .array .int
  | 38 => .array .double
  | 39 => .array .double
  | 40 => .array .double
  | 41 => .array .double
  | 42 => .array .double
  | 43 => .array .double
  | 44 => .array .double
  | 45 => .int
  | 46 => .array .double
  | 47 => .array .double
  | 48 => .array .double
  | 49 => .array .double
  | 50 => .array .double
  | 51 => .array .double
  | 52 => .array .double
  | 53 => .array .double
  | 54 => .array .double
  | 55 => .array .double
  | 56 => .array .double
  | 57 => .array .double
  | 58 => .array .double
  | 59 => .array .boolean
  | 60 => .boolean
  | _ => .int
abbrev wsX90 : List Cond := u_ws RX9 TX9 62
theorem nmX9 : ∀ a, a < 62 → ∀ b, b < 62 → a ≠ b → (TX9 a).2.1 ≠ (TX9 b).2.1 := by decide +kernel
theorem tyX9_ok : ∀ k, k < 62 → parseFieldDescriptor (TX9 k).2.2.1 = some (tyX9 k) := by decide +kernel
abbrev cX9_init : ByteArray := prog_11_method_1_code
def yX9_init : MethodName := ⟨RX9, "<init>", "()V"⟩
abbrev cX9_in : ByteArray := prog_11_method_3_code
def yX9_in : MethodName := ⟨RX9, "in", "(III)Z"⟩
abbrev cX9_number : ByteArray := prog_11_method_4_code
def yX9_number : MethodName := ⟨RX9, "number", "(JI)D"⟩
abbrev cX9_isFinite : ByteArray := prog_11_method_5_code
def yX9_isFinite : MethodName := ⟨RX9, "isFinite", "(D)Z"⟩
abbrev cX9_isNumber : ByteArray := prog_11_method_6_code
def yX9_isNumber : MethodName := ⟨RX9, "isNumber", "(D)Z"⟩
abbrev cX9_plus : ByteArray := prog_11_method_7_code
def yX9_plus : MethodName := ⟨RX9, "plus", "(DD)D"⟩
abbrev cX9_less : ByteArray := prog_11_method_8_code
def yX9_less : MethodName := ⟨RX9, "less", "(DD)D"⟩
abbrev cX9_times : ByteArray := prog_11_method_9_code
def yX9_times : MethodName := ⟨RX9, "times", "(DD)D"⟩
abbrev cX9_by : ByteArray := prog_11_method_10_code
def yX9_by : MethodName := ⟨RX9, "by", "(DD)D"⟩
abbrev cX9_turned : ByteArray := prog_11_method_11_code
def yX9_turned : MethodName := ⟨RX9, "turned", "(D)D"⟩
abbrev cX9_size : ByteArray := prog_11_method_12_code
def yX9_size : MethodName := ⟨RX9, "size", "(D)D"⟩
abbrev cX9_least : ByteArray := prog_11_method_13_code
def yX9_least : MethodName := ⟨RX9, "least", "(DD)D"⟩
abbrev cX9_greatest : ByteArray := prog_11_method_14_code
def yX9_greatest : MethodName := ⟨RX9, "greatest", "(DD)D"⟩
abbrev cX9_bits : ByteArray := prog_11_method_15_code
def yX9_bits : MethodName := ⟨RX9, "bits", "(D)J"⟩
abbrev cX9_put : ByteArray := prog_11_method_16_code
def yX9_put : MethodName := ⟨RX9, "put", "(IID)D"⟩
abbrev cX9_signalAt : ByteArray := prog_11_method_17_code
def yX9_signalAt : MethodName := ⟨RX9, "signalAt", "(ID)D"⟩
abbrev cX9_power : ByteArray := prog_11_method_18_code
def yX9_power : MethodName := ⟨RX9, "power", "(DI)D"⟩
abbrev cX9_worth : ByteArray := prog_11_method_19_code
def yX9_worth : MethodName := ⟨RX9, "worth", "(IID[D)D"⟩
abbrev cX9_all : ByteArray := prog_11_method_20_code
def yX9_all : MethodName := ⟨RX9, "all", "(ID[D)V"⟩
abbrev cX9_rates : ByteArray := prog_11_method_21_code
def yX9_rates : MethodName := ⟨RX9, "rates", "(ID[D[D)V"⟩
abbrev cX9_made : ByteArray := prog_11_method_22_code
def yX9_made : MethodName := ⟨RX9, "made", "(IIDD)Z"⟩
abbrev cX9_plain : ByteArray := prog_11_method_23_code
def yX9_plain : MethodName := ⟨RX9, "plain", "(IID)V"⟩
abbrev cX9_byMiddle : ByteArray := prog_11_method_24_code
def yX9_byMiddle : MethodName := ⟨RX9, "byMiddle", "(IIDD)V"⟩
abbrev cX9_third : ByteArray := prog_11_method_25_code
def yX9_third : MethodName := ⟨RX9, "third", "(IIDD)V"⟩
abbrev cX9_fourth : ByteArray := prog_11_method_26_code
def yX9_fourth : MethodName := ⟨RX9, "fourth", "(IIDD)V"⟩
abbrev cX9_pair : ByteArray := prog_11_method_27_code
def yX9_pair : MethodName := ⟨RX9, "pair", "(IIDD)V"⟩
abbrev cX9_backward : ByteArray := prog_11_method_28_code
def yX9_backward : MethodName := ⟨RX9, "backward", "(IIDD)V"⟩
abbrev cX9_leap : ByteArray := prog_11_method_29_code
def yX9_leap : MethodName := ⟨RX9, "leap", "(IIDD)V"⟩
abbrev cX9_greatestRatio : ByteArray := prog_11_method_30_code
def yX9_greatestRatio : MethodName := ⟨RX9, "greatestRatio", "(II)D"⟩
abbrev cX9_goes : ByteArray := prog_11_method_31_code
def yX9_goes : MethodName := ⟨RX9, "goes", "(IDZD)I"⟩
abbrev cX9_longer : ByteArray := prog_11_method_32_code
def yX9_longer : MethodName := ⟨RX9, "longer", "(DD)D"⟩
abbrev cX9_keepsStep : ByteArray := prog_11_method_33_code
def yX9_keepsStep : MethodName := ⟨RX9, "keepsStep", "(IIID)V"⟩
abbrev cX9_cubic : ByteArray := prog_11_method_34_code
def yX9_cubic : MethodName := ⟨RX9, "cubic", "(IID)D"⟩
abbrev cX9_valueAt : ByteArray := prog_11_method_35_code
def yX9_valueAt : MethodName := ⟨RX9, "valueAt", "(IID)D"⟩
abbrev cX9_looksAt : ByteArray := prog_11_method_36_code
def yX9_looksAt : MethodName := ⟨RX9, "looksAt", "(II)V"⟩
abbrev cX9_looksAtEvents : ByteArray := prog_11_method_37_code
def yX9_looksAtEvents : MethodName := ⟨RX9, "looksAtEvents", "(I)V"⟩
abbrev cX9_fires : ByteArray := prog_11_method_38_code
def yX9_fires : MethodName := ⟨RX9, "fires", "(II)V"⟩
abbrev cX9_law : ByteArray := prog_11_method_39_code
def yX9_law : MethodName := ⟨RX9, "law", "(II)I"⟩
abbrev cX9_comesNode : ByteArray := prog_11_method_40_code
def yX9_comesNode : MethodName := ⟨RX9, "comesNode", "(IIIII)I"⟩
abbrev cX9_constant : ByteArray := prog_11_method_41_code
def yX9_constant : MethodName := ⟨RX9, "constant", "(IJI)I"⟩
abbrev cX9_node : ByteArray := prog_11_method_42_code
def yX9_node : MethodName := ⟨RX9, "node", "(IIIII)I"⟩
abbrev cX9_side : ByteArray := prog_11_method_43_code
def yX9_side : MethodName := ⟨RX9, "side", "(III)I"⟩
abbrev cX9_signal : ByteArray := prog_11_method_44_code
def yX9_signal : MethodName := ⟨RX9, "signal", "(I)I"⟩
abbrev cX9_point : ByteArray := prog_11_method_45_code
def yX9_point : MethodName := ⟨RX9, "point", "(IJJI)I"⟩
abbrev cX9_many : ByteArray := prog_11_method_46_code
def yX9_many : MethodName := ⟨RX9, "many", "(I)I"⟩
abbrev cX9_isRun : ByteArray := prog_11_method_47_code
def yX9_isRun : MethodName := ⟨RX9, "isRun", "(I)Z"⟩
abbrev cX9_run : ByteArray := prog_11_method_48_code
def yX9_run : MethodName := ⟨RX9, "run", "(IJI)I"⟩
abbrev cX9_set : ByteArray := prog_11_method_49_code
def yX9_set : MethodName := ⟨RX9, "set", "(IIJI)I"⟩
abbrev cX9_method : ByteArray := prog_11_method_50_code
def yX9_method : MethodName := ⟨RX9, "method", "(II)I"⟩
abbrev cX9_length : ByteArray := prog_11_method_51_code
def yX9_length : MethodName := ⟨RX9, "length", "(IJI)I"⟩
abbrev cX9_tolerance : ByteArray := prog_11_method_52_code
def yX9_tolerance : MethodName := ⟨RX9, "tolerance", "(IJJI)I"⟩
abbrev cX9_event : ByteArray := prog_11_method_53_code
def yX9_event : MethodName := ⟨RX9, "event", "(IIIII)I"⟩
abbrev cX9_step : ByteArray := prog_11_method_54_code
def yX9_step : MethodName := ⟨RX9, "step", "(I)I"⟩
abbrev cX9_to : ByteArray := prog_11_method_55_code
def yX9_to : MethodName := ⟨RX9, "to", "(IJII)I"⟩
abbrev cX9_state : ByteArray := prog_11_method_56_code
def yX9_state : MethodName := ⟨RX9, "state", "(II)J"⟩
abbrev cX9_clock : ByteArray := prog_11_method_57_code
def yX9_clock : MethodName := ⟨RX9, "clock", "(II)J"⟩
abbrev cX9_count : ByteArray := prog_11_method_58_code
def yX9_count : MethodName := ⟨RX9, "count", "(II)I"⟩
abbrev cX9_stage : ByteArray := prog_11_method_59_code
def yX9_stage : MethodName := ⟨RX9, "stage", "(III)J"⟩
abbrev cX9_value : ByteArray := prog_11_method_60_code
def yX9_value : MethodName := ⟨RX9, "value", "(II)J"⟩
abbrev cX9_between : ByteArray := prog_11_method_61_code
def yX9_between : MethodName := ⟨RX9, "between", "(IIJI)J"⟩
abbrev cX9_fired : ByteArray := prog_11_method_62_code
def yX9_fired : MethodName := ⟨RX9, "fired", "(III)J"⟩
abbrev cX9_halves : ByteArray := prog_11_method_63_code
def yX9_halves : MethodName := ⟨RX9, "halves", "(II)J"⟩
abbrev cX9_copies : ByteArray := prog_11_method_64_code
def yX9_copies : MethodName := ⟨RX9, "copies", "(II)V"⟩
abbrev cX9_copiesVariable : ByteArray := prog_11_method_65_code
def yX9_copiesVariable : MethodName := ⟨RX9, "copiesVariable", "(II)V"⟩
abbrev cX9_keep : ByteArray := prog_11_method_66_code
def yX9_keep : MethodName := ⟨RX9, "keep", "(II)I"⟩
abbrev cX9_back : ByteArray := prog_11_method_67_code
def yX9_back : MethodName := ⟨RX9, "back", "(II)I"⟩
abbrev cX9_unlike : ByteArray := prog_11_method_68_code
def yX9_unlike : MethodName := ⟨RX9, "unlike", "(II)I"⟩
def RJxe99ae : String := "java/lang/Double"
def TJxe99ae : u_T := fun k => match k with
  | _ => ("", "", "", false)
def tyJxe99ae : Nat → FieldType := fun k => match k with
  | _ => .int
abbrev wsJxe99ae0 : List Cond := u_ws RJxe99ae TJxe99ae 0
theorem nmJxe99ae : ∀ a, a < 0 → ∀ b, b < 0 → a ≠ b → (TJxe99ae a).2.1 ≠ (TJxe99ae b).2.1 := by decide +kernel
theorem tyJxe99ae_ok : ∀ k, k < 0 → parseFieldDescriptor (TJxe99ae k).2.2.1 = some (tyJxe99ae k) := by decide +kernel
abbrev cJxe99ae_isNaN_b9ae7 : ByteArray := prog_12_method_6_code
def yJxe99ae_isNaN_b9ae7 : MethodName := ⟨RJxe99ae, "isNaN", "(D)Z"⟩
abbrev cJxe99ae_doubleToLongBits_ccdee : ByteArray := prog_12_method_23_code
def yJxe99ae_doubleToLongBits_ccdee : MethodName := ⟨RJxe99ae, "doubleToLongBits", "(D)J"⟩
def RJ9 : String := "java/lang/Math"
def TJ9 : u_T := fun k => match k with
  | _ => ("", "", "", false)
def tyJ9 : Nat → FieldType := fun k => match k with
  | _ => .int
abbrev wsJ90 : List Cond := u_ws RJ9 TJ9 0
theorem nmJ9 : ∀ a, a < 0 → ∀ b, b < 0 → a ≠ b → (TJ9 a).2.1 ≠ (TJ9 b).2.1 := by decide +kernel
theorem tyJ9_ok : ∀ k, k < 0 → parseFieldDescriptor (TJ9 k).2.2.1 = some (tyJ9 k) := by decide +kernel
abbrev cJ9_max_7cf53 : ByteArray := prog_13_method_65_code
def yJ9_max_7cf53 : MethodName := ⟨RJ9, "max", "(II)I"⟩
abbrev cJ9_min_7cf53 : ByteArray := prog_13_method_69_code
def yJ9_min_7cf53 : MethodName := ⟨RJ9, "min", "(II)I"⟩
def RJ10 : String := "java/lang/System"
def TJ10 : u_T := fun k => match k with
  | _ => ("", "", "", false)
def tyJ10 : Nat → FieldType := fun k => match k with
  | _ => .int
abbrev wsJ100 : List Cond := u_ws RJ10 TJ10 0
theorem nmJ10 : ∀ a, a < 0 → ∀ b, b < 0 → a ≠ b → (TJ10 a).2.1 ≠ (TJ10 b).2.1 := by decide +kernel
theorem tyJ10_ok : ∀ k, k < 0 → parseFieldDescriptor (TJ10 k).2.2.1 = some (tyJ10 k) := by decide +kernel
def RL : String := "MotionStepperLaw"
abbrev cL_law : ByteArray := code
def yL_law : MethodName := ⟨RL, "law", "([I)Z"⟩
def wsJxe99ae_isNaN_b9ae7 : List Cond := .code yJxe99ae_isNaN_b9ae7 cJxe99ae_isNaN_b9ae7 2 (some .boolean) :: ([])
def wsJxe99ae_doubleToLongBits_ccdee : List Cond := .code yJxe99ae_doubleToLongBits_ccdee cJxe99ae_doubleToLongBits_ccdee 2 (some .long) :: ([.methodLink RJxe99ae 134 ⟨"java/lang/Double", "doubleToRawLongBits", "(D)J"⟩, .native ⟨"java/lang/Double", "doubleToRawLongBits", "(D)J"⟩, .static ⟨"java/lang/Double", "doubleToRawLongBits", "(D)J"⟩, .initialized "java/lang/Double", .constantLong RJxe99ae 137 (9221120237041090560), .methodLink RJxe99ae 122 yJxe99ae_isNaN_b9ae7, .static yJxe99ae_isNaN_b9ae7, .initialized RJxe99ae, .code yJxe99ae_isNaN_b9ae7 cJxe99ae_isNaN_b9ae7 2 (some .boolean)])
def wsJ9_max_7cf53 : List Cond := .code yJ9_max_7cf53 cJ9_max_7cf53 2 (some .int) :: ([])
def wsJ9_min_7cf53 : List Cond := .code yJ9_min_7cf53 cJ9_min_7cf53 2 (some .int) :: ([])
def wsL_law_r1 : List Cond := [Cond.classLink RL 7 RX8, Cond.instantiable RX8 11, Cond.initialized RX8, Cond.classLink RL 10 RX9, Cond.instantiable RX9 62, Cond.initialized RX9, Cond.constantLong RL 18 (4294967295), Cond.methodLink RL 9 yX8_init, Cond.instanceMethod yX8_init, Cond.code yX8_init cX8_init 1 none, Cond.methodLink RX8 1 objectInit, Cond.instanceMethod objectInit, Cond.code objectInit ⟨#[0xb1]⟩ 1 none, Cond.classLink RX8 7 RX2, Cond.instantiable RX2 2, Cond.initialized RX2, Cond.fieldLink RX8 10 "MotionStepper" "reckoner" "LMotionStepper$Reckoner;", Cond.classLink RX8 16 RX7, Cond.instantiable RX7 1, Cond.initialized RX7, Cond.fieldLink RX8 19 "MotionStepper" "teller" "LMotionStepper$Teller;", Cond.classLink RX8 23 RX1, Cond.fieldLink RX8 25 "MotionStepper" "laws" "[LMotionStepper$Law;", Cond.classLink RX8 29 RX5]
def wsL_law_r2 : List Cond := [Cond.fieldLink RX8 31 "MotionStepper" "signals" "[LMotionStepper$Signal;", Cond.classLink RX8 35 RX4, Cond.fieldLink RX8 37 "MotionStepper" "runs" "[LMotionStepper$Run;", Cond.fieldLink RX8 41 "MotionStepper" "kept" "[LMotionStepper$Run;", Cond.classLink RX8 44 RX6, Cond.instantiable RX6 14, Cond.initialized RX6, Cond.fieldLink RX8 49 "MotionStepper" "trial" "LMotionStepper$Step;", Cond.fieldLink RX8 53 "MotionStepper" "firstHalf" "LMotionStepper$Step;", Cond.methodLink RX8 9 yX2_init, Cond.instanceMethod yX2_init, Cond.code yX2_init cX2_init 1 none, Cond.methodLink RX2 1 objectInit, Cond.constantDouble RX2 7 (9218868437227405311), Cond.fieldLink RX2 9 "MotionStepper$Reckoner" "greatest" "D", Cond.methodLink RX8 18 yX7_init, Cond.instanceMethod yX7_init, Cond.code yX7_init cX7_init 4 none, Cond.methodLink RX7 3 objectInit, Cond.arrayClass .double, Cond.fieldLink RX7 9 "MotionStepper$Teller" "powers" "[D", Cond.constantDouble RX7 15 (4611686018427387904), Cond.methodLink RX8 46 yX6_init, Cond.instanceMethod yX6_init]
def wsL_law_r3 : List Cond := [Cond.code yX6_init cX6_init 3 none, Cond.methodLink RX6 3 objectInit, Cond.fieldLink RX6 9 "MotionStepper$Step" "reckoner" "LMotionStepper$Reckoner;", Cond.classLink RX6 15 RX3, Cond.instantiable RX3 2, Cond.initialized RX3, Cond.fieldLink RX6 20 "MotionStepper$Step" "x" "LMotionStepper$Row;", Cond.fieldLink RX6 24 "MotionStepper$Step" "y" "LMotionStepper$Row;", Cond.fieldLink RX6 27 "MotionStepper$Step" "z" "LMotionStepper$Row;", Cond.fieldLink RX6 30 "MotionStepper$Step" "k" "[LMotionStepper$Row;", Cond.fieldLink RX6 34 "MotionStepper$Step" "e" "LMotionStepper$Row;", Cond.fieldLink RX6 37 "MotionStepper$Step" "f1" "LMotionStepper$Row;", Cond.methodLink RX6 17 yX3_init, Cond.instanceMethod yX3_init, Cond.code yX3_init cX3_init 2 none, Cond.methodLink RX3 1 objectInit, Cond.fieldLink RX3 7 "MotionStepper$Row" "number" "[D", Cond.arrayClass .boolean, Cond.fieldLink RX3 13 "MotionStepper$Row" "none" "[Z", Cond.methodLink RL 12 yX9_init, Cond.instanceMethod yX9_init, Cond.code yX9_init cX9_init 2 none, Cond.methodLink RX9 3 objectInit, Cond.arrayClass .int]
def wsL_law_r4 : List Cond := [Cond.fieldLink RX9 9 "MotionStepperModel" "variables" "[I", Cond.fieldLink RX9 15 "MotionStepperModel" "narrow" "[I", Cond.fieldLink RX9 18 "MotionStepperModel" "nodes" "[I", Cond.fieldLink RX9 21 "MotionStepperModel" "side" "[I", Cond.fieldLink RX9 24 "MotionStepperModel" "kind" "[I", Cond.fieldLink RX9 27 "MotionStepperModel" "one" "[I", Cond.fieldLink RX9 30 "MotionStepperModel" "two" "[I", Cond.fieldLink RX9 33 "MotionStepperModel" "three" "[I", Cond.fieldLink RX9 36 "MotionStepperModel" "constant" "[D", Cond.fieldLink RX9 40 "MotionStepperModel" "how" "[I", Cond.fieldLink RX9 43 "MotionStepperModel" "points" "[I", Cond.fieldLink RX9 46 "MotionStepperModel" "pointTime" "[D", Cond.fieldLink RX9 49 "MotionStepperModel" "pointValue" "[D", Cond.fieldLink RX9 52 "MotionStepperModel" "law" "[I", Cond.fieldLink RX9 55 "MotionStepperModel" "method" "[I", Cond.fieldLink RX9 58 "MotionStepperModel" "events" "[I", Cond.fieldLink RX9 61 "MotionStepperModel" "taken" "[I", Cond.fieldLink RX9 64 "MotionStepperModel" "rejected" "[I", Cond.fieldLink RX9 67 "MotionStepperModel" "gap" "[I", Cond.fieldLink RX9 70 "MotionStepperModel" "fired" "[I", Cond.fieldLink RX9 73 "MotionStepperModel" "ended" "[Z", Cond.fieldLink RX9 77 "MotionStepperModel" "stepped" "[Z", Cond.fieldLink RX9 80 "MotionStepperModel" "kept" "[Z", Cond.fieldLink RX9 83 "MotionStepperModel" "time" "[D"]
def wsL_law_r5 : List Cond := [Cond.fieldLink RX9 86 "MotionStepperModel" "length" "[D", Cond.fieldLink RX9 89 "MotionStepperModel" "firstTolerance" "[D", Cond.fieldLink RX9 92 "MotionStepperModel" "secondTolerance" "[D", Cond.fieldLink RX9 95 "MotionStepperModel" "error" "[D", Cond.fieldLink RX9 98 "MotionStepperModel" "x" "[D", Cond.fieldLink RX9 101 "MotionStepperModel" "eventNode" "[I", Cond.fieldLink RX9 104 "MotionStepperModel" "eventWay" "[I", Cond.fieldLink RX9 107 "MotionStepperModel" "eventAct" "[I", Cond.fieldLink RX9 110 "MotionStepperModel" "eventVariable" "[I", Cond.fieldLink RX9 113 "MotionStepperModel" "firedNumber" "[I", Cond.fieldLink RX9 116 "MotionStepperModel" "firedTime" "[D", Cond.fieldLink RX9 119 "MotionStepperModel" "stepMethod" "[I", Cond.fieldLink RX9 122 "MotionStepperModel" "stepTime" "[D", Cond.fieldLink RX9 125 "MotionStepperModel" "stepLength" "[D", Cond.fieldLink RX9 128 "MotionStepperModel" "x0" "[D", Cond.fieldLink RX9 131 "MotionStepperModel" "x1" "[D", Cond.fieldLink RX9 134 "MotionStepperModel" "f0" "[D", Cond.fieldLink RX9 137 "MotionStepperModel" "f1" "[D", Cond.fieldLink RX9 140 "MotionStepperModel" "rows" "[D", Cond.fieldLink RX9 143 "MotionStepperModel" "node" "[D", Cond.fieldLink RX9 146 "MotionStepperModel" "from" "[D", Cond.fieldLink RX9 149 "MotionStepperModel" "y" "[D", Cond.fieldLink RX9 152 "MotionStepperModel" "z" "[D", Cond.fieldLink RX9 155 "MotionStepperModel" "w" "[D"]
def wsL_law_r6 : List Cond := [Cond.fieldLink RX9 158 "MotionStepperModel" "e" "[D", Cond.fieldLink RX9 161 "MotionStepperModel" "k1" "[D", Cond.fieldLink RX9 164 "MotionStepperModel" "k2" "[D", Cond.fieldLink RX9 167 "MotionStepperModel" "k3" "[D", Cond.fieldLink RX9 170 "MotionStepperModel" "k4" "[D", Cond.fieldLink RX9 173 "MotionStepperModel" "middle" "[D", Cond.fieldLink RX9 176 "MotionStepperModel" "whole" "[D", Cond.fieldLink RX9 179 "MotionStepperModel" "high" "[D", Cond.fieldLink RX9 182 "MotionStepperModel" "comes" "[Z", Cond.methodLink RL 13 yX8_law, Cond.instanceMethod yX8_law, Cond.selects RX8 yX8_law yX8_law, Cond.code yX8_law cX8_law 3 (some .int), Cond.fieldLink RX8 56 "MotionStepper" "lawCount" "I", Cond.instantiable RX1 14, Cond.initialized RX1, Cond.methodLink RX8 60 yX1_init, Cond.instanceMethod yX1_init, Cond.code yX1_init cX1_init 7 none, Cond.methodLink RX1 3 objectInit, Cond.fieldLink RX1 9 "MotionStepper$Law" "number" "I", Cond.fieldLink RX1 15 "MotionStepper$Law" "n" "I", Cond.fieldLink RX1 18 "MotionStepper$Law" "narrow" "I", Cond.fieldLink RX1 21 "MotionStepper$Law" "signals" "[LMotionStepper$Signal;"]
def wsL_law_r7 : List Cond := [Cond.fieldLink RX1 25 "MotionStepper$Law" "reckoner" "LMotionStepper$Reckoner;", Cond.fieldLink RX1 29 "MotionStepper$Law" "kinds" "[I", Cond.fieldLink RX1 33 "MotionStepper$Law" "as" "[I", Cond.fieldLink RX1 36 "MotionStepper$Law" "bs" "[I", Cond.fieldLink RX1 39 "MotionStepper$Law" "cs" "[I", Cond.fieldLink RX1 42 "MotionStepper$Law" "constants" "[D", Cond.classLink RX1 46 RX3, Cond.fieldLink RX1 51 "MotionStepper$Law" "values" "LMotionStepper$Row;", Cond.fieldLink RX1 55 "MotionStepper$Law" "sides" "[I", Cond.methodLink RX1 48 yX3_init, Cond.methodLink RL 17 yX9_law, Cond.instanceMethod yX9_law, Cond.selects RX9 yX9_law yX9_law, Cond.code yX9_law cX9_law 3 (some .int), Cond.fieldLink RX9 347 "MotionStepperModel" "laws" "I", Cond.methodLink RX9 343 yX9_in, Cond.static yX9_in, Cond.code yX9_in cX9_in 3 (some .boolean), Cond.methodLink RL 20 yX8_constant, Cond.instanceMethod yX8_constant, Cond.selects RX8 yX8_constant yX8_constant, Cond.code yX8_constant cX8_constant 6 (some .int), Cond.methodLink RX8 63 yX8_lawAt, Cond.instanceMethod yX8_lawAt]
def wsL_law_r8 : List Cond := [Cond.selects RX8 yX8_lawAt yX8_lawAt, Cond.code yX8_lawAt cX8_lawAt 2 (some (.object "MotionStepper$Law")), Cond.methodLink RX8 67 yX8_isK, Cond.static yX8_isK, Cond.code yX8_isK cX8_isK 1 (some .boolean), Cond.methodLink RX8 71 yX8_quotient, Cond.static yX8_quotient, Cond.code yX8_quotient cX8_quotient 3 (some .double), Cond.methodLink RX8 75 yX1_add, Cond.instanceMethod yX1_add, Cond.selects RX1 yX1_add yX1_add, Cond.code yX1_add cX1_add 7 (some .int), Cond.fieldLink RX1 58 "MotionStepper$Law" "nodeCount" "I", Cond.methodLink RL 24 yX9_constant, Cond.instanceMethod yX9_constant, Cond.selects RX9 yX9_constant yX9_constant, Cond.code yX9_constant cX9_constant 6 (some .int), Cond.methodLink RX9 350 yX9_comesNode, Cond.instanceMethod yX9_comesNode, Cond.selects RX9 yX9_comesNode yX9_comesNode, Cond.code yX9_comesNode cX9_comesNode 7 (some .int), Cond.methodLink RX9 354 yX9_number, Cond.static yX9_number, Cond.code yX9_number cX9_number 3 (some .double)]
def wsL_law_r9 : List Cond := [Cond.methodLink RL 25 yX8_node, Cond.instanceMethod yX8_node, Cond.selects RX8 yX8_node yX8_node, Cond.code yX8_node cX8_node 7 (some .int), Cond.methodLink RX8 79 yX8_fits, Cond.instanceMethod yX8_fits, Cond.selects RX8 yX8_fits yX8_fits, Cond.code yX8_fits cX8_fits 6 (some .boolean), Cond.fieldLink RX8 100 "MotionStepper" "signalCount" "I", Cond.methodLink RX8 83 yX1_hasVariable, Cond.instanceMethod yX1_hasVariable, Cond.selects RX1 yX1_hasVariable yX1_hasVariable, Cond.code yX1_hasVariable cX1_hasVariable 2 (some .boolean), Cond.methodLink RX8 86 yX1_hasNode, Cond.instanceMethod yX1_hasNode, Cond.selects RX1 yX1_hasNode yX1_hasNode, Cond.code yX1_hasNode cX1_hasNode 2 (some .boolean), Cond.methodLink RL 29 yX9_node, Cond.instanceMethod yX9_node, Cond.selects RX9 yX9_node yX9_node, Cond.code yX9_node cX9_node 8 (some .int), Cond.fieldLink RX9 358 "MotionStepperModel" "signals" "I", Cond.methodLink RL 30 yX8_side, Cond.instanceMethod yX8_side]
def wsL_law_r10 : List Cond := [Cond.selects RX8 yX8_side yX8_side, Cond.code yX8_side cX8_side 7 (some .int), Cond.fieldLink RX8 89 "MotionStepper" "runCount" "I", Cond.fieldLink RX8 92 "MotionStepper$Run" "law" "LMotionStepper$Law;", Cond.methodLink RX8 96 yX1_putSide, Cond.instanceMethod yX1_putSide, Cond.selects RX1 yX1_putSide yX1_putSide, Cond.code yX1_putSide cX1_putSide 4 none, Cond.fieldLink RX1 61 "MotionStepper$Law" "sideEnd" "I", Cond.methodLink RX1 64 Lib.Math.max.name, Cond.static Lib.Math.max.name, Cond.initialized "java/lang/Math", Cond.code Lib.Math.max.name Lib.Math.max.code 2 (some .int), Cond.methodLink RL 34 yX9_side, Cond.instanceMethod yX9_side, Cond.selects RX9 yX9_side yX9_side, Cond.code yX9_side cX9_side 5 (some .int), Cond.fieldLink RX9 361 "MotionStepperModel" "runs" "I", Cond.methodLink RL 35 yX8_signal, Cond.instanceMethod yX8_signal, Cond.selects RX8 yX8_signal yX8_signal, Cond.code yX8_signal cX8_signal 2 (some .int), Cond.instantiable RX5 4, Cond.initialized RX5]
def wsL_law_r11 : List Cond := [Cond.methodLink RX8 103 yX5_init, Cond.instanceMethod yX5_init, Cond.code yX5_init cX5_init 2 none, Cond.methodLink RX5 3 objectInit, Cond.fieldLink RX5 9 "MotionStepper$Signal" "isLine" "Z", Cond.fieldLink RX5 15 "MotionStepper$Signal" "times" "[D", Cond.fieldLink RX5 19 "MotionStepper$Signal" "heights" "[D", Cond.methodLink RL 39 yX9_signal, Cond.instanceMethod yX9_signal, Cond.selects RX9 yX9_signal yX9_signal, Cond.code yX9_signal cX9_signal 2 (some .int), Cond.methodLink RL 40 yX8_point, Cond.instanceMethod yX8_point, Cond.selects RX8 yX8_point yX8_point, Cond.code yX8_point cX8_point 8 (some .int), Cond.methodLink RX8 106 yX5_add, Cond.instanceMethod yX5_add, Cond.selects RX5 yX5_add yX5_add, Cond.code yX5_add cX5_add 5 (some .int), Cond.fieldLink RX5 22 "MotionStepper$Signal" "pointCount" "I", Cond.methodLink RL 44 yX9_point, Cond.instanceMethod yX9_point, Cond.selects RX9 yX9_point yX9_point, Cond.code yX9_point cX9_point 10 (some .int)]
def wsL_law_r12 : List Cond := [Cond.methodLink RL 45 yX8_many, Cond.instanceMethod yX8_many, Cond.selects RX8 yX8_many yX8_many, Cond.code yX8_many cX8_many 3 (some .int), Cond.fieldLink RX8 109 "MotionStepper$Law" "nodeCount" "I", Cond.methodLink RL 48 yX9_many, Cond.instanceMethod yX9_many, Cond.selects RX9 yX9_many yX9_many, Cond.code yX9_many cX9_many 2 (some .int), Cond.methodLink RL 49 yX8_run, Cond.instanceMethod yX8_run, Cond.selects RX8 yX8_run yX8_run, Cond.code yX8_run cX8_run 6 (some .int), Cond.instantiable RX4 12, Cond.initialized RX4, Cond.methodLink RX8 112 yX1_isReady, Cond.instanceMethod yX1_isReady, Cond.selects RX1 yX1_isReady yX1_isReady, Cond.code yX1_isReady cX1_isReady 2 (some .boolean), Cond.methodLink RX8 116 yX4_init, Cond.instanceMethod yX4_init, Cond.code yX4_init cX4_init 5 none, Cond.methodLink RX4 3 objectInit, Cond.fieldLink RX4 9 "MotionStepper$Run" "law" "LMotionStepper$Law;"]
def wsL_law_r13 : List Cond := [Cond.fieldLink RX4 15 "MotionStepper$Run" "time" "D", Cond.classLink RX4 19 RX3, Cond.fieldLink RX4 24 "MotionStepper$Run" "state" "LMotionStepper$Row;", Cond.fieldLink RX4 28 "MotionStepper$Run" "method" "I", Cond.constantDouble RX4 32 (4593671619917905920), Cond.fieldLink RX4 34 "MotionStepper$Run" "length" "D", Cond.constantDouble RX4 37 (4517110426252607488), Cond.fieldLink RX4 39 "MotionStepper$Run" "absolute" "D", Cond.fieldLink RX4 42 "MotionStepper$Run" "relative" "D", Cond.classLink RX4 45 RX0, Cond.instantiable RX0 9, Cond.initialized RX0, Cond.fieldLink RX4 48 "MotionStepper$Run" "events" "LMotionStepper$Events;", Cond.classLink RX4 52 RX6, Cond.fieldLink RX4 57 "MotionStepper$Run" "last" "LMotionStepper$Step;", Cond.methodLink RX4 21 yX3_init, Cond.methodLink RX4 47 yX0_init, Cond.instanceMethod yX0_init, Cond.code yX0_init cX0_init 1 none, Cond.methodLink RX0 3 objectInit, Cond.fieldLink RX0 9 "MotionStepper$Events" "nodes" "[I", Cond.fieldLink RX0 15 "MotionStepper$Events" "directions" "[I", Cond.fieldLink RX0 18 "MotionStepper$Events" "actions" "[I", Cond.fieldLink RX0 21 "MotionStepper$Events" "targets" "[I"]
def wsL_law_r14 : List Cond := [Cond.fieldLink RX0 24 "MotionStepper$Events" "highs" "[D", Cond.fieldLink RX0 28 "MotionStepper$Events" "firedEvent" "[I", Cond.fieldLink RX0 31 "MotionStepper$Events" "firedTime" "[D", Cond.methodLink RX4 54 yX6_init, Cond.methodLink RL 52 yX9_run, Cond.instanceMethod yX9_run, Cond.selects RX9 yX9_run yX9_run, Cond.code yX9_run cX9_run 6 (some .int), Cond.constantDouble RX9 324 (4593671619917905920), Cond.constantDouble RX9 364 (4517110426252607488), Cond.methodLink RL 53 yX8_set, Cond.instanceMethod yX8_set, Cond.selects RX8 yX8_set yX8_set, Cond.code yX8_set cX8_set 7 (some .int), Cond.fieldLink RX8 123 "MotionStepper$Run" "ended" "Z", Cond.fieldLink RX8 127 "MotionStepper$Run" "state" "LMotionStepper$Row;", Cond.methodLink RX8 119 yX8_runAt, Cond.instanceMethod yX8_runAt, Cond.selects RX8 yX8_runAt yX8_runAt, Cond.code yX8_runAt cX8_runAt 2 (some (.object "MotionStepper$Run")), Cond.methodLink RX8 131 yX1_isNarrow, Cond.instanceMethod yX1_isNarrow, Cond.selects RX1 yX1_isNarrow yX1_isNarrow, Cond.code yX1_isNarrow cX1_isNarrow 2 (some .boolean)]
def wsL_law_r15 : List Cond := [Cond.methodLink RX8 134 yX3_put, Cond.instanceMethod yX3_put, Cond.selects RX3 yX3_put yX3_put, Cond.code yX3_put cX3_put 6 none, Cond.methodLink RL 57 yX9_set, Cond.instanceMethod yX9_set, Cond.selects RX9 yX9_set yX9_set, Cond.code yX9_set cX9_set 6 (some .int), Cond.methodLink RX9 366 yX9_isRun, Cond.instanceMethod yX9_isRun, Cond.selects RX9 yX9_isRun yX9_isRun, Cond.code yX9_isRun cX9_isRun 2 (some .boolean), Cond.methodLink RX9 281 yX9_put, Cond.instanceMethod yX9_put, Cond.selects RX9 yX9_put yX9_put, Cond.code yX9_put cX9_put 5 (some .double), Cond.methodLink RX9 189 yX9_isNumber, Cond.static yX9_isNumber, Cond.code yX9_isNumber cX9_isNumber 2 (some .boolean), Cond.methodLink RL 58 yX8_method, Cond.instanceMethod yX8_method, Cond.selects RX8 yX8_method yX8_method, Cond.code yX8_method cX8_method 4 (some .int), Cond.fieldLink RX8 140 "MotionStepper$Law" "n" "I"]
def wsL_law_r16 : List Cond := [Cond.fieldLink RX8 143 "MotionStepper$Run" "method" "I", Cond.methodLink RL 61 yX9_method, Cond.instanceMethod yX9_method, Cond.selects RX9 yX9_method yX9_method, Cond.code yX9_method cX9_method 3 (some .int), Cond.methodLink RL 62 yX8_length, Cond.instanceMethod yX8_length, Cond.selects RX8 yX8_length yX8_length, Cond.code yX8_length cX8_length 10 (some .int), Cond.constantDouble RX8 150 (4652218415073722368), Cond.fieldLink RX8 156 "MotionStepper$Run" "length" "D", Cond.methodLink RX8 146 yX8_size, Cond.static yX8_size, Cond.code yX8_size cX8_size 2 (some .double), Cond.methodLink RX8 152 yX8_isTooSmall, Cond.static yX8_isTooSmall, Cond.code yX8_isTooSmall cX8_isTooSmall 2 (some .boolean), Cond.constantDouble RX8 286 (4472074429978902528), Cond.methodLink RL 65 yX9_length, Cond.instanceMethod yX9_length, Cond.selects RX9 yX9_length yX9_length, Cond.code yX9_length cX9_length 7 (some .int), Cond.constantDouble RX9 309 (4472074429978902528), Cond.constantDouble RX9 326 (4652218415073722368)]
def wsL_law_r17 : List Cond := [Cond.methodLink RX9 221 yX9_size, Cond.static yX9_size, Cond.code yX9_size cX9_size 2 (some .double), Cond.methodLink RL 66 yX8_tolerance, Cond.instanceMethod yX8_tolerance, Cond.selects RX8 yX8_tolerance yX8_tolerance, Cond.code yX8_tolerance cX8_tolerance 8 (some .int), Cond.fieldLink RX8 160 "MotionStepper$Run" "absolute" "D", Cond.fieldLink RX8 163 "MotionStepper$Run" "relative" "D", Cond.methodLink RL 69 yX9_tolerance, Cond.instanceMethod yX9_tolerance, Cond.selects RX9 yX9_tolerance yX9_tolerance, Cond.code yX9_tolerance cX9_tolerance 7 (some .int), Cond.methodLink RL 70 yX8_event, Cond.instanceMethod yX8_event, Cond.selects RX8 yX8_event yX8_event, Cond.code yX8_event cX8_event 7 (some .int), Cond.fieldLink RX8 166 "MotionStepper$Run" "events" "LMotionStepper$Events;", Cond.methodLink RX8 170 yX0_add, Cond.instanceMethod yX0_add, Cond.selects RX0 yX0_add yX0_add, Cond.code yX0_add cX0_add 5 (some .int), Cond.fieldLink RX0 34 "MotionStepper$Events" "eventCount" "I", Cond.methodLink RL 73 yX9_event]
def wsL_law_r18 : List Cond := [Cond.instanceMethod yX9_event, Cond.selects RX9 yX9_event yX9_event, Cond.code yX9_event cX9_event 7 (some .int), Cond.methodLink RL 74 yX8_step, Cond.instanceMethod yX8_step, Cond.selects RX8 yX8_step yX8_step, Cond.code yX8_step cX8_step 3 (some .int), Cond.methodLink RX8 175 yX8_advance, Cond.instanceMethod yX8_advance, Cond.selects RX8 yX8_advance yX8_advance, Cond.code yX8_advance cX8_advance 10 (some .int), Cond.fieldLink RX8 179 "MotionStepper$Run" "time" "D", Cond.fieldLink RX8 203 "MotionStepper$Step" "error" "D", Cond.constantDouble RX8 299 (4620693217682128896), Cond.constantDouble RX8 263 (4611686018427387904), Cond.constantDouble RX8 301 (4616189618054758400), Cond.methodLink RX8 265 yX6_make, Cond.instanceMethod yX6_make, Cond.selects RX6 yX6_make yX6_make, Cond.code yX6_make cX6_make 9 (some .boolean), Cond.fieldLink RX6 40 "MotionStepper$Step" "law" "LMotionStepper$Law;", Cond.fieldLink RX6 44 "MotionStepper$Step" "method" "I", Cond.fieldLink RX6 48 "MotionStepper$Step" "t" "D", Cond.fieldLink RX6 52 "MotionStepper$Step" "h" "D"]
def wsL_law_r19 : List Cond := [Cond.fieldLink RX6 55 "MotionStepper$Step" "end" "D", Cond.fieldLink RX6 62 "MotionStepper$Step" "error" "D", Cond.fieldLink RX6 65 "MotionStepper$Step" "gap" "I", Cond.fieldLink RX6 95 "MotionStepper$Law" "n" "I", Cond.fieldLink RX6 104 "MotionStepper$Reckoner" "greatest" "D", Cond.methodLink RX6 58 yX3_copy, Cond.instanceMethod yX3_copy, Cond.selects RX3 yX3_copy yX3_copy, Cond.code yX3_copy cX3_copy 3 none, Cond.methodLink RX6 68 yX6_slope, Cond.instanceMethod yX6_slope, Cond.selects RX6 yX6_slope yX6_slope, Cond.code yX6_slope cX6_slope 5 (some .boolean), Cond.fieldLink RX6 109 "MotionStepper$Law" "sideEnd" "I", Cond.methodLink RX6 112 yX1_reckonNodes, Cond.instanceMethod yX1_reckonNodes, Cond.selects RX1 yX1_reckonNodes yX1_reckonNodes, Cond.code yX1_reckonNodes cX1_reckonNodes 8 none, Cond.fieldLink RX1 79 "MotionStepper$Reckoner" "none" "Z", Cond.methodLink RX1 70 yX2_begin, Cond.instanceMethod yX2_begin, Cond.selects RX2 yX2_begin yX2_begin, Cond.code yX2_begin cX2_begin 1 none, Cond.fieldLink RX2 15 "MotionStepper$Reckoner" "none" "Z"]
def wsL_law_r20 : List Cond := [Cond.methodLink RX1 75 yX1_reckoned, Cond.instanceMethod yX1_reckoned, Cond.selects RX1 yX1_reckoned yX1_reckoned, Cond.code yX1_reckoned cX1_reckoned 8 (some .double), Cond.fieldLink RX1 127 "MotionStepper$Signal" "pointCount" "I", Cond.methodLink RX1 92 yX2_read, Cond.instanceMethod yX2_read, Cond.selects RX2 yX2_read yX2_read, Cond.code yX2_read cX2_read 3 (some .double), Cond.fieldLink RX2 19 "MotionStepper$Row" "none" "[Z", Cond.fieldLink RX2 24 "MotionStepper$Row" "number" "[D", Cond.methodLink RX1 96 yX2_sum, Cond.instanceMethod yX2_sum, Cond.selects RX2 yX2_sum yX2_sum, Cond.code yX2_sum cX2_sum 5 (some .double), Cond.methodLink RX1 100 yX2_difference, Cond.instanceMethod yX2_difference, Cond.selects RX2 yX2_difference yX2_difference, Cond.code yX2_difference cX2_difference 5 (some .double), Cond.methodLink RX1 103 yX2_product, Cond.instanceMethod yX2_product, Cond.selects RX2 yX2_product yX2_product, Cond.code yX2_product cX2_product 5 (some .double), Cond.methodLink RX1 106 yX2_quotient]
def wsL_law_r21 : List Cond := [Cond.instanceMethod yX2_quotient, Cond.selects RX2 yX2_quotient yX2_quotient, Cond.code yX2_quotient cX2_quotient 6 (some .double), Cond.methodLink RX1 113 yX2_lesser, Cond.instanceMethod yX2_lesser, Cond.selects RX2 yX2_lesser yX2_lesser, Cond.code yX2_lesser cX2_lesser 5 (some .double), Cond.methodLink RX1 116 yX2_greater, Cond.instanceMethod yX2_greater, Cond.selects RX2 yX2_greater yX2_greater, Cond.code yX2_greater cX2_greater 5 (some .double), Cond.methodLink RX1 119 yX1_signOf, Cond.instanceMethod yX1_signOf, Cond.selects RX1 yX1_signOf yX1_signOf, Cond.code yX1_signOf cX1_signOf 4 (some .int), Cond.fieldLink RX1 89 "MotionStepper$Row" "none" "[Z", Cond.fieldLink RX1 87 "MotionStepper$Row" "number" "[D", Cond.methodLink RX1 123 yX2_power, Cond.instanceMethod yX2_power, Cond.selects RX2 yX2_power yX2_power, Cond.code yX2_power cX2_power 7 (some .double), Cond.methodLink RX1 132 yX5_heightAt, Cond.instanceMethod yX5_heightAt, Cond.selects RX5 yX5_heightAt yX5_heightAt]
def wsL_law_r22 : List Cond := [Cond.code yX5_heightAt cX5_heightAt 6 (some .double), Cond.methodLink RX1 83 yX3_put, Cond.methodLink RX6 116 yX1_readSides, Cond.instanceMethod yX1_readSides, Cond.selects RX1 yX1_readSides yX1_readSides, Cond.code yX1_readSides cX1_readSides 4 none, Cond.methodLink RX6 100 yX3_isFinite, Cond.instanceMethod yX3_isFinite, Cond.selects RX3 yX3_isFinite yX3_isFinite, Cond.code yX3_isFinite cX3_isFinite 3 (some .boolean), Cond.constantDouble RX3 17 (9218868437227405311), Cond.constantDouble RX3 19 (18442240474082181119), Cond.methodLink RX6 72 yX6_move, Cond.instanceMethod yX6_move, Cond.selects RX6 yX6_move yX6_move, Cond.code yX6_move cX6_move 6 none, Cond.fieldLink RX6 144 "MotionStepper$Row" "number" "[D", Cond.methodLink RX6 141 yX2_begin, Cond.methodLink RX6 148 yX6_arrive, Cond.instanceMethod yX6_arrive, Cond.selects RX6 yX6_arrive yX6_arrive, Cond.code yX6_arrive cX6_arrive 12 none, Cond.fieldLink RX6 130 "MotionStepper$Reckoner" "none" "Z", Cond.methodLink RX6 119 yX2_product]
def wsL_law_r23 : List Cond := [Cond.methodLink RX6 123 yX2_read, Cond.methodLink RX6 127 yX2_sum, Cond.methodLink RX6 134 yX1_isNarrow, Cond.methodLink RX6 137 yX3_put, Cond.methodLink RX6 76 yX6_middle, Cond.instanceMethod yX6_middle, Cond.selects RX6 yX6_middle yX6_middle, Cond.code yX6_middle cX6_middle 3 (some .boolean), Cond.constantDouble RX6 152 (4611686018427387904), Cond.methodLink RX6 80 yX6_third, Cond.instanceMethod yX6_third, Cond.selects RX6 yX6_third yX6_third, Cond.code yX6_third cX6_third 6 (some .boolean), Cond.constantDouble RX6 157 (4616189618054758400), Cond.constantDouble RX6 159 (4618441417868443648), Cond.methodLink RX6 154 yX2_difference, Cond.methodLink RX6 83 yX6_fourth, Cond.instanceMethod yX6_fourth, Cond.selects RX6 yX6_fourth yX6_fourth, Cond.code yX6_fourth cX6_fourth 6 (some .boolean), Cond.methodLink RX6 86 yX6_pair, Cond.instanceMethod yX6_pair, Cond.selects RX6 yX6_pair yX6_pair, Cond.code yX6_pair cX6_pair 10 (some .boolean)]
def wsL_law_r24 : List Cond := [Cond.constantDouble RX6 161 (4613937818241073152), Cond.constantDouble RX6 163 (4621256167635550208), Cond.constantDouble RX6 165 (4620693217682128896), Cond.constantDouble RX6 167 (4617315517961601024), Cond.constantDouble RX6 169 (4634766966517661696), Cond.methodLink RX6 89 yX6_backward, Cond.instanceMethod yX6_backward, Cond.selects RX6 yX6_backward yX6_backward, Cond.code yX6_backward cX6_backward 2 (some .boolean), Cond.methodLink RX6 171 yX6_unlikeCount, Cond.instanceMethod yX6_unlikeCount, Cond.selects RX6 yX6_unlikeCount yX6_unlikeCount, Cond.code yX6_unlikeCount cX6_unlikeCount 3 (some .int), Cond.fieldLink RX6 175 "MotionStepper$Row" "none" "[Z", Cond.methodLink RX6 92 yX6_leap, Cond.instanceMethod yX6_leap, Cond.selects RX6 yX6_leap yX6_leap, Cond.code yX6_leap cX6_leap 5 (some .boolean), Cond.methodLink RX8 288 yX6_judge, Cond.instanceMethod yX6_judge, Cond.selects RX6 yX6_judge yX6_judge, Cond.code yX6_judge cX6_judge 14 none, Cond.methodLink RX8 292 yX8_finish, Cond.instanceMethod yX8_finish]
def wsL_law_r25 : List Cond := [Cond.selects RX8 yX8_finish yX8_finish, Cond.code yX8_finish cX8_finish 6 none, Cond.fieldLink RX8 206 "MotionStepper$Step" "h" "D", Cond.methodLink RX8 303 yX4_take, Cond.instanceMethod yX4_take, Cond.selects RX4 yX4_take yX4_take, Cond.code yX4_take cX4_take 3 none, Cond.fieldLink RX4 84 "MotionStepper$Step" "z" "LMotionStepper$Row;", Cond.fieldLink RX4 87 "MotionStepper$Step" "end" "D", Cond.fieldLink RX4 69 "MotionStepper$Run" "taken" "I", Cond.fieldLink RX4 72 "MotionStepper$Run" "rejected" "I", Cond.methodLink RX4 78 yX6_copy, Cond.instanceMethod yX6_copy, Cond.selects RX6 yX6_copy yX6_copy, Cond.code yX6_copy cX6_copy 3 none, Cond.methodLink RX4 81 yX6_reckonEnd, Cond.instanceMethod yX6_reckonEnd, Cond.selects RX6 yX6_reckonEnd yX6_reckonEnd, Cond.code yX6_reckonEnd cX6_reckonEnd 1 none, Cond.methodLink RX4 61 yX3_copy, Cond.methodLink RX8 307 yX8_grown, Cond.static yX8_grown, Cond.code yX8_grown cX8_grown 6 (some .double), Cond.constantDouble RX8 311 (4580160821035794432)]
def wsL_law_r26 : List Cond := [Cond.constantDouble RX8 313 (4593671619917905920), Cond.constantDouble RX8 315 (13875590451928498176), Cond.methodLink RX8 296 yX4_lookAtEvents, Cond.instanceMethod yX4_lookAtEvents, Cond.selects RX4 yX4_lookAtEvents yX4_lookAtEvents, Cond.code yX4_lookAtEvents cX4_lookAtEvents 5 none, Cond.fieldLink RX4 90 "MotionStepper$Events" "eventCount" "I", Cond.fieldLink RX4 93 "MotionStepper$Events" "highs" "[D", Cond.fieldLink RX4 113 "MotionStepper$Events" "actions" "[I", Cond.methodLink RX4 97 yX4_highOf, Cond.instanceMethod yX4_highOf, Cond.selects RX4 yX4_highOf yX4_highOf, Cond.code yX4_highOf cX4_highOf 5 (some .double), Cond.fieldLink RX4 120 "MotionStepper$Events" "nodes" "[I", Cond.fieldLink RX4 123 "MotionStepper$Step" "t" "D", Cond.fieldLink RX4 126 "MotionStepper$Step" "x" "LMotionStepper$Row;", Cond.constantDouble RX4 143 (4611686018427387904), Cond.methodLink RX4 129 yX1_reckonNodes, Cond.methodLink RX4 135 yX1_signOf, Cond.methodLink RX4 139 yX0_turn, Cond.instanceMethod yX0_turn, Cond.selects RX0 yX0_turn yX0_turn, Cond.code yX0_turn cX0_turn 4 (some .int), Cond.methodLink RX4 145 yX4_search]
def wsL_law_r27 : List Cond := [Cond.instanceMethod yX4_search, Cond.selects RX4 yX4_search yX4_search, Cond.code yX4_search cX4_search 11 (some .double), Cond.fieldLink RX4 153 "MotionStepper$Step" "y" "LMotionStepper$Row;", Cond.methodLink RX4 149 yX6_blendAll, Cond.instanceMethod yX6_blendAll, Cond.selects RX6 yX6_blendAll yX6_blendAll, Cond.code yX6_blendAll cX6_blendAll 4 none, Cond.methodLink RX6 186 yX6_blend, Cond.instanceMethod yX6_blend, Cond.selects RX6 yX6_blend yX6_blend, Cond.code yX6_blend cX6_blend 12 none, Cond.methodLink RX6 182 yX3_copyOne, Cond.instanceMethod yX3_copyOne, Cond.selects RX3 yX3_copyOne yX3_copyOne, Cond.code yX3_copyOne cX3_copyOne 3 none, Cond.methodLink RX4 105 yX6_timeAt, Cond.instanceMethod yX6_timeAt, Cond.selects RX6 yX6_timeAt yX6_timeAt, Cond.code yX6_timeAt cX6_timeAt 3 (some .double), Cond.methodLink RX4 101 yX0_earliest, Cond.instanceMethod yX0_earliest, Cond.selects RX0 yX0_earliest yX0_earliest, Cond.code yX0_earliest cX0_earliest 5 (some .int)]
def wsL_law_r28 : List Cond := [Cond.constantDouble RX0 47 (4611686018427387904), Cond.methodLink RX4 109 yX0_fire, Cond.instanceMethod yX0_fire, Cond.selects RX0 yX0_fire yX0_fire, Cond.code yX0_fire cX0_fire 4 none, Cond.fieldLink RX0 44 "MotionStepper$Events" "firedCount" "I", Cond.methodLink RX4 117 yX4_act, Cond.instanceMethod yX4_act, Cond.selects RX4 yX4_act yX4_act, Cond.code yX4_act cX4_act 5 none, Cond.fieldLink RX4 65 "MotionStepper$Run" "ended" "Z", Cond.fieldLink RX4 156 "MotionStepper$Events" "targets" "[I", Cond.fieldLink RX4 163 "MotionStepper$Row" "number" "[D", Cond.methodLink RX4 159 yX1_hasVariable, Cond.methodLink RL 77 yX9_step, Cond.instanceMethod yX9_step, Cond.selects RX9 yX9_step yX9_step, Cond.code yX9_step cX9_step 2 (some .int), Cond.methodLink RX9 370 yX9_goes, Cond.instanceMethod yX9_goes, Cond.selects RX9 yX9_goes yX9_goes, Cond.code yX9_goes cX9_goes 17 (some .int), Cond.constantDouble RX9 297 (4620693217682128896), Cond.constantDouble RX9 285 (4611686018427387904)]
def wsL_law_r29 : List Cond := [Cond.constantDouble RX9 289 (4616189618054758400), Cond.methodLink RX9 301 yX9_made, Cond.instanceMethod yX9_made, Cond.selects RX9 yX9_made yX9_made, Cond.code yX9_made cX9_made 9 (some .boolean), Cond.fieldLink RX9 246 "MotionStepperModel" "wild" "Z", Cond.fieldLink RX9 250 "MotionStepperModel" "unlikeOnes" "I", Cond.methodLink RX9 254 yX9_rates, Cond.instanceMethod yX9_rates, Cond.selects RX9 yX9_rates yX9_rates, Cond.code yX9_rates cX9_rates 7 none, Cond.methodLink RX9 242 yX9_all, Cond.instanceMethod yX9_all, Cond.selects RX9 yX9_all yX9_all, Cond.code yX9_all cX9_all 6 none, Cond.methodLink RX9 238 yX9_worth, Cond.instanceMethod yX9_worth, Cond.selects RX9 yX9_worth yX9_worth, Cond.code yX9_worth cX9_worth 9 (some .double), Cond.methodLink RX9 214 yX9_plus, Cond.static yX9_plus, Cond.code yX9_plus cX9_plus 5 (some .double), Cond.constantDouble RX9 196 (9221120237041090560), Cond.methodLink RX9 193 yX9_isFinite]
def wsL_law_r30 : List Cond := [Cond.static yX9_isFinite, Cond.code yX9_isFinite cX9_isFinite 2 (some .boolean), Cond.constantDouble RX9 185 (18442240474082181119), Cond.constantDouble RX9 187 (9218868437227405311), Cond.methodLink RX9 204 yX9_less, Cond.static yX9_less, Cond.code yX9_less cX9_less 5 (some .double), Cond.methodLink RX9 211 yX9_times, Cond.static yX9_times, Cond.code yX9_times cX9_times 5 (some .double), Cond.methodLink RX9 208 yX9_by, Cond.static yX9_by, Cond.code yX9_by cX9_by 5 (some .double), Cond.methodLink RX9 217 yX9_turned, Cond.static yX9_turned, Cond.code yX9_turned cX9_turned 2 (some .double), Cond.methodLink RX9 224 yX9_least, Cond.static yX9_least, Cond.code yX9_least cX9_least 4 (some .double), Cond.methodLink RX9 227 yX9_greatest, Cond.static yX9_greatest, Cond.code yX9_greatest cX9_greatest 4 (some .double), Cond.methodLink RX9 230 yX9_power, Cond.static yX9_power]
def wsL_law_r31 : List Cond := [Cond.code yX9_power cX9_power 6 (some .double), Cond.methodLink RX9 234 yX9_signalAt, Cond.instanceMethod yX9_signalAt, Cond.selects RX9 yX9_signalAt yX9_signalAt, Cond.code yX9_signalAt cX9_signalAt 7 (some .double), Cond.methodLink RX9 258 yX9_plain, Cond.instanceMethod yX9_plain, Cond.selects RX9 yX9_plain yX9_plain, Cond.code yX9_plain cX9_plain 6 none, Cond.methodLink RX9 262 yX9_byMiddle, Cond.instanceMethod yX9_byMiddle, Cond.selects RX9 yX9_byMiddle yX9_byMiddle, Cond.code yX9_byMiddle cX9_byMiddle 10 none, Cond.methodLink RX9 266 yX9_third, Cond.instanceMethod yX9_third, Cond.selects RX9 yX9_third yX9_third, Cond.code yX9_third cX9_third 10 none, Cond.constantDouble RX9 287 (4618441417868443648), Cond.methodLink RX9 269 yX9_fourth, Cond.instanceMethod yX9_fourth, Cond.selects RX9 yX9_fourth yX9_fourth, Cond.code yX9_fourth cX9_fourth 10 none, Cond.methodLink RX9 272 yX9_pair, Cond.instanceMethod yX9_pair]
def wsL_law_r32 : List Cond := [Cond.selects RX9 yX9_pair yX9_pair, Cond.code yX9_pair cX9_pair 12 none, Cond.constantDouble RX9 291 (4613937818241073152), Cond.constantDouble RX9 293 (4621256167635550208), Cond.constantDouble RX9 295 (4634766966517661696), Cond.constantDouble RX9 299 (4617315517961601024), Cond.methodLink RX9 275 yX9_backward, Cond.instanceMethod yX9_backward, Cond.selects RX9 yX9_backward yX9_backward, Cond.code yX9_backward cX9_backward 9 none, Cond.methodLink RX9 278 yX9_leap, Cond.instanceMethod yX9_leap, Cond.selects RX9 yX9_leap yX9_leap, Cond.code yX9_leap cX9_leap 11 none, Cond.methodLink RX9 305 yX9_greatestRatio, Cond.instanceMethod yX9_greatestRatio, Cond.selects RX9 yX9_greatestRatio yX9_greatestRatio, Cond.code yX9_greatestRatio cX9_greatestRatio 12 (some .double), Cond.methodLink RX9 311 yX9_longer, Cond.static yX9_longer, Cond.code yX9_longer cX9_longer 6 (some .double), Cond.constantDouble RX9 322 (4580160821035794432), Cond.constantDouble RX9 328 (13875590451928498176), Cond.methodLink RX9 314 yX9_keepsStep]
def wsL_law_r33 : List Cond := [Cond.instanceMethod yX9_keepsStep, Cond.selects RX9 yX9_keepsStep yX9_keepsStep, Cond.code yX9_keepsStep cX9_keepsStep 8 none, Cond.methodLink RX9 318 yX9_looksAtEvents, Cond.instanceMethod yX9_looksAtEvents, Cond.selects RX9 yX9_looksAtEvents yX9_looksAtEvents, Cond.code yX9_looksAtEvents cX9_looksAtEvents 5 none, Cond.methodLink RX9 336 yX9_looksAt, Cond.instanceMethod yX9_looksAt, Cond.selects RX9 yX9_looksAt yX9_looksAt, Cond.code yX9_looksAt cX9_looksAt 18 none, Cond.methodLink RX9 333 yX9_valueAt, Cond.instanceMethod yX9_valueAt, Cond.selects RX9 yX9_valueAt yX9_valueAt, Cond.code yX9_valueAt cX9_valueAt 7 (some .double), Cond.methodLink RX9 330 yX9_cubic, Cond.instanceMethod yX9_cubic, Cond.selects RX9 yX9_cubic yX9_cubic, Cond.code yX9_cubic cX9_cubic 14 (some .double), Cond.methodLink RX9 340 yX9_fires, Cond.instanceMethod yX9_fires, Cond.selects RX9 yX9_fires yX9_fires, Cond.code yX9_fires cX9_fires 9 none, Cond.methodLink RL 78 yX8_to]
def wsL_law_r34 : List Cond := [Cond.instanceMethod yX8_to, Cond.selects RX8 yX8_to yX8_to, Cond.code yX8_to cX8_to 15 (some .int), Cond.methodLink RX8 182 yX8_store, Cond.instanceMethod yX8_store, Cond.selects RX8 yX8_store yX8_store, Cond.code yX8_store cX8_store 4 (some (.object "MotionStepper$Run")), Cond.methodLink RX8 186 yX4_copy, Cond.instanceMethod yX4_copy, Cond.selects RX4 yX4_copy yX4_copy, Cond.code yX4_copy cX4_copy 2 none, Cond.methodLink RX4 75 yX0_copy, Cond.instanceMethod yX0_copy, Cond.selects RX0 yX0_copy yX0_copy, Cond.code yX0_copy cX0_copy 2 none, Cond.methodLink RX0 38 arraycopyName, Cond.native arraycopyName, Cond.static arraycopyName, Cond.initialized "java/lang/System", Cond.methodLink RL 82 yX9_to, Cond.instanceMethod yX9_to, Cond.selects RX9 yX9_to yX9_to, Cond.code yX9_to cX9_to 13 (some .int), Cond.methodLink RX9 374 yX9_copies]
def wsL_law_r35 : List Cond := [Cond.instanceMethod yX9_copies, Cond.selects RX9 yX9_copies yX9_copies, Cond.code yX9_copies cX9_copies 4 none, Cond.methodLink RX9 380 yX9_copiesVariable, Cond.instanceMethod yX9_copiesVariable, Cond.selects RX9 yX9_copiesVariable yX9_copiesVariable, Cond.code yX9_copiesVariable cX9_copiesVariable 4 none, Cond.methodLink RL 83 yX8_state, Cond.instanceMethod yX8_state, Cond.selects RX8 yX8_state yX8_state, Cond.code yX8_state cX8_state 4 (some .long), Cond.constantLong RX8 190 (9221120237041090560), Cond.methodLink RX8 192 yX7_told, Cond.instanceMethod yX7_told, Cond.selects RX7 yX7_told yX7_told, Cond.code yX7_told cX7_told 3 (some .long), Cond.fieldLink RX7 17 "MotionStepper$Row" "none" "[Z", Cond.constantLong RX7 23 (9221120237041090560), Cond.fieldLink RX7 25 "MotionStepper$Row" "number" "[D", Cond.methodLink RX7 28 yX7_bits, Cond.instanceMethod yX7_bits, Cond.selects RX7 yX7_bits yX7_bits, Cond.code yX7_bits cX7_bits 6 (some .long), Cond.constantLong RX7 32 (-9223372036854775808)]
def wsL_law_r36 : List Cond := [Cond.methodLink RX7 34 yX7_bitsOfSize, Cond.instanceMethod yX7_bitsOfSize, Cond.selects RX7 yX7_bitsOfSize yX7_bitsOfSize, Cond.code yX7_bitsOfSize cX7_bitsOfSize 8 (some .long), Cond.constantDouble RX7 37 (9218868437227405311), Cond.constantLong RX7 39 (9218868437227405312), Cond.constantDouble RX7 41 (4503599627370496), Cond.constantDouble RX7 43 (4832362400168542208), Cond.constantLong RX7 45 (1023), Cond.constantDouble RX7 47 (4841369599423283200), Cond.constantLong RX7 49 (4503599627370496), Cond.methodLink RL 87 yX9_state, Cond.instanceMethod yX9_state, Cond.selects RX9 yX9_state yX9_state, Cond.code yX9_state cX9_state 3 (some .long), Cond.constantLong RX9 198 (9221120237041090560), Cond.methodLink RX9 377 yX9_bits, Cond.static yX9_bits, Cond.code yX9_bits cX9_bits 2 (some .long), Cond.methodLink RX9 200 yJxe99ae_doubleToLongBits_ccdee, Cond.static yJxe99ae_doubleToLongBits_ccdee, Cond.initialized RJxe99ae, Cond.code yJxe99ae_doubleToLongBits_ccdee cJxe99ae_doubleToLongBits_ccdee 2 (some .long), Cond.methodLink RJxe99ae 134 ⟨"java/lang/Double", "doubleToRawLongBits", "(D)J"⟩]
def wsL_law_r37 : List Cond := [Cond.native ⟨"java/lang/Double", "doubleToRawLongBits", "(D)J"⟩, Cond.static ⟨"java/lang/Double", "doubleToRawLongBits", "(D)J"⟩, Cond.initialized "java/lang/Double", Cond.constantLong RJxe99ae 137 (9221120237041090560), Cond.methodLink RJxe99ae 122 yJxe99ae_isNaN_b9ae7, Cond.static yJxe99ae_isNaN_b9ae7, Cond.code yJxe99ae_isNaN_b9ae7 cJxe99ae_isNaN_b9ae7 2 (some .boolean), Cond.methodLink RL 88 yX8_clock, Cond.instanceMethod yX8_clock, Cond.selects RX8 yX8_clock yX8_clock, Cond.code yX8_clock cX8_clock 4 (some .long), Cond.fieldLink RX8 200 "MotionStepper$Run" "last" "LMotionStepper$Step;", Cond.methodLink RX8 196 yX7_bits, Cond.methodLink RL 91 yX9_clock, Cond.instanceMethod yX9_clock, Cond.selects RX9 yX9_clock yX9_clock, Cond.code yX9_clock cX9_clock 3 (some .long), Cond.methodLink RL 92 yX8_count, Cond.instanceMethod yX8_count, Cond.selects RX8 yX8_count yX8_count, Cond.code yX8_count cX8_count 4 (some .int), Cond.fieldLink RX8 209 "MotionStepper$Law" "number" "I", Cond.fieldLink RX8 212 "MotionStepper$Run" "taken" "I", Cond.fieldLink RX8 215 "MotionStepper$Run" "rejected" "I"]
def wsL_law_r38 : List Cond := [Cond.fieldLink RX8 218 "MotionStepper$Step" "gap" "I", Cond.fieldLink RX8 221 "MotionStepper$Events" "eventCount" "I", Cond.fieldLink RX8 224 "MotionStepper$Events" "firedCount" "I", Cond.methodLink RL 95 yX9_count, Cond.instanceMethod yX9_count, Cond.selects RX9 yX9_count yX9_count, Cond.code yX9_count cX9_count 3 (some .int), Cond.methodLink RL 96 yX8_stage, Cond.instanceMethod yX8_stage, Cond.selects RX8 yX8_stage yX8_stage, Cond.code yX8_stage cX8_stage 6 (some .long), Cond.fieldLink RX8 227 "MotionStepper$Step" "method" "I", Cond.fieldLink RX8 228 "MotionStepper$Step" "e" "LMotionStepper$Row;", Cond.fieldLink RX8 231 "MotionStepper" "STAGES" "[I", Cond.fieldLink RX8 235 "MotionStepper$Step" "k" "[LMotionStepper$Row;", Cond.methodLink RL 100 yX9_stage, Cond.instanceMethod yX9_stage, Cond.selects RX9 yX9_stage yX9_stage, Cond.code yX9_stage cX9_stage 7 (some .long), Cond.methodLink RL 101 yX8_value, Cond.instanceMethod yX8_value, Cond.selects RX8 yX8_value yX8_value, Cond.code yX8_value cX8_value 4 (some .long), Cond.fieldLink RX8 243 "MotionStepper$Law" "values" "LMotionStepper$Row;"]
def wsL_law_r39 : List Cond := [Cond.methodLink RX8 239 yX1_reckonNodes, Cond.methodLink RL 104 yX9_value, Cond.instanceMethod yX9_value, Cond.selects RX9 yX9_value yX9_value, Cond.code yX9_value cX9_value 4 (some .long), Cond.methodLink RL 105 yX8_between, Cond.instanceMethod yX8_between, Cond.selects RX8 yX8_between yX8_between, Cond.code yX8_between cX8_between 9 (some .long), Cond.fieldLink RX8 250 "MotionStepper$Step" "y" "LMotionStepper$Row;", Cond.methodLink RX8 246 yX6_blend, Cond.methodLink RL 109 yX9_between, Cond.instanceMethod yX9_between, Cond.selects RX9 yX9_between yX9_between, Cond.code yX9_between cX9_between 8 (some .long), Cond.methodLink RL 110 yX8_fired, Cond.instanceMethod yX8_fired, Cond.selects RX8 yX8_fired yX8_fired, Cond.code yX8_fired cX8_fired 5 (some .long), Cond.fieldLink RX8 256 "MotionStepper$Events" "firedEvent" "[I", Cond.fieldLink RX8 259 "MotionStepper$Events" "firedTime" "[D", Cond.methodLink RX8 253 yX0_hasFired, Cond.instanceMethod yX0_hasFired, Cond.selects RX0 yX0_hasFired yX0_hasFired]
def wsL_law_r40 : List Cond := [Cond.code yX0_hasFired cX0_hasFired 2 (some .boolean), Cond.methodLink RL 113 yX9_fired, Cond.instanceMethod yX9_fired, Cond.selects RX9 yX9_fired yX9_fired, Cond.code yX9_fired cX9_fired 4 (some .long), Cond.methodLink RL 114 yX8_halves, Cond.instanceMethod yX8_halves, Cond.selects RX8 yX8_halves yX8_halves, Cond.code yX8_halves cX8_halves 9 (some .long), Cond.fieldLink RX8 269 "MotionStepper$Step" "z" "LMotionStepper$Row;", Cond.fieldLink RX8 272 "MotionStepper$Row" "number" "[D", Cond.fieldLink RX8 274 "MotionStepper$Step" "end" "D", Cond.methodLink RL 117 yX9_halves, Cond.instanceMethod yX9_halves, Cond.selects RX9 yX9_halves yX9_halves, Cond.code yX9_halves cX9_halves 8 (some .long), Cond.methodLink RL 118 yX8_keep, Cond.instanceMethod yX8_keep, Cond.selects RX8 yX8_keep yX8_keep, Cond.code yX8_keep cX8_keep 4 (some .int), Cond.methodLink RL 121 yX9_keep, Cond.instanceMethod yX9_keep, Cond.selects RX9 yX9_keep yX9_keep, Cond.code yX9_keep cX9_keep 3 (some .int)]
def wsL_law_r41 : List Cond := [Cond.methodLink RL 122 yX8_back, Cond.instanceMethod yX8_back, Cond.selects RX8 yX8_back yX8_back, Cond.code yX8_back cX8_back 5 (some .int), Cond.methodLink RL 125 yX9_back, Cond.instanceMethod yX9_back, Cond.selects RX9 yX9_back yX9_back, Cond.code yX9_back cX9_back 3 (some .int), Cond.methodLink RL 126 yX8_unlike, Cond.instanceMethod yX8_unlike, Cond.selects RX8 yX8_unlike yX8_unlike, Cond.code yX8_unlike cX8_unlike 8 (some .int), Cond.methodLink RX8 277 Lib.Math.min.name, Cond.static Lib.Math.min.name, Cond.code Lib.Math.min.name Lib.Math.min.code 2 (some .int), Cond.methodLink RX8 283 Lib.Math.max.name, Cond.methodLink RL 129 yX9_unlike, Cond.instanceMethod yX9_unlike, Cond.selects RX9 yX9_unlike yX9_unlike, Cond.code yX9_unlike cX9_unlike 8 (some .int)]
def wsL_law : List Cond := (wsL_law_r1 ++ (wsL_law_r2 ++ (wsL_law_r3 ++ (wsL_law_r4 ++ (wsL_law_r5 ++ (wsL_law_r6 ++ (wsL_law_r7 ++ (wsL_law_r8 ++ (wsL_law_r9 ++ (wsL_law_r10 ++ (wsL_law_r11 ++ (wsL_law_r12 ++ (wsL_law_r13 ++ (wsL_law_r14 ++ (wsL_law_r15 ++ (wsL_law_r16 ++ (wsL_law_r17 ++ (wsL_law_r18 ++ (wsL_law_r19 ++ (wsL_law_r20 ++ (wsL_law_r21 ++ (wsL_law_r22 ++ (wsL_law_r23 ++ (wsL_law_r24 ++ (wsL_law_r25 ++ (wsL_law_r26 ++ (wsL_law_r27 ++ (wsL_law_r28 ++ (wsL_law_r29 ++ (wsL_law_r30 ++ (wsL_law_r31 ++ (wsL_law_r32 ++ (wsL_law_r33 ++ (wsL_law_r34 ++ (wsL_law_r35 ++ (wsL_law_r36 ++ (wsL_law_r37 ++ (wsL_law_r38 ++ (wsL_law_r39 ++ (wsL_law_r40 ++ wsL_law_r41)))))))))))))))))))))))))))))))))))))))) ++ wsX80 ++ wsX90 ++ wsX20 ++ wsX70 ++ wsX60 ++ wsX30 ++ wsX10 ++ wsX40 ++ wsX50 ++ wsX00 ++ ([] : List Cond)
theorem inlX0 : ∀ w ∈ wsX00, w ∈ wsL_law := fun _ h => List.mem_append_left _ (List.mem_append_right _ h)
theorem inlX1 : ∀ w ∈ wsX10, w ∈ wsL_law := fun _ h => List.mem_append_left _ (List.mem_append_left _ (List.mem_append_left _ (List.mem_append_left _ (List.mem_append_right _ h))))
theorem inlX2 : ∀ w ∈ wsX20, w ∈ wsL_law := fun _ h => List.mem_append_left _ (List.mem_append_left _ (List.mem_append_left _ (List.mem_append_left _ (List.mem_append_left _ (List.mem_append_left _ (List.mem_append_left _ (List.mem_append_left _ (List.mem_append_right _ h))))))))
theorem inlX3 : ∀ w ∈ wsX30, w ∈ wsL_law := fun _ h => List.mem_append_left _ (List.mem_append_left _ (List.mem_append_left _ (List.mem_append_left _ (List.mem_append_left _ (List.mem_append_right _ h)))))
theorem inlX4 : ∀ w ∈ wsX40, w ∈ wsL_law := fun _ h => List.mem_append_left _ (List.mem_append_left _ (List.mem_append_left _ (List.mem_append_right _ h)))
theorem inlX5 : ∀ w ∈ wsX50, w ∈ wsL_law := fun _ h => List.mem_append_left _ (List.mem_append_left _ (List.mem_append_right _ h))
theorem inlX6 : ∀ w ∈ wsX60, w ∈ wsL_law := fun _ h => List.mem_append_left _ (List.mem_append_left _ (List.mem_append_left _ (List.mem_append_left _ (List.mem_append_left _ (List.mem_append_left _ (List.mem_append_right _ h))))))
theorem inlX7 : ∀ w ∈ wsX70, w ∈ wsL_law := fun _ h => List.mem_append_left _ (List.mem_append_left _ (List.mem_append_left _ (List.mem_append_left _ (List.mem_append_left _ (List.mem_append_left _ (List.mem_append_left _ (List.mem_append_right _ h)))))))
theorem inlX8 : ∀ w ∈ wsX80, w ∈ wsL_law := fun _ h => List.mem_append_left _ (List.mem_append_left _ (List.mem_append_left _ (List.mem_append_left _ (List.mem_append_left _ (List.mem_append_left _ (List.mem_append_left _ (List.mem_append_left _ (List.mem_append_left _ (List.mem_append_left _ (List.mem_append_right _ h))))))))))
theorem inlX9 : ∀ w ∈ wsX90, w ∈ wsL_law := fun _ h => List.mem_append_left _ (List.mem_append_left _ (List.mem_append_left _ (List.mem_append_left _ (List.mem_append_left _ (List.mem_append_left _ (List.mem_append_left _ (List.mem_append_left _ (List.mem_append_left _ (List.mem_append_right _ h)))))))))
theorem inJxe99ae : ∀ w ∈ wsJxe99ae0, w ∈ lw_tbl := by decide +kernel
theorem inJ9 : ∀ w ∈ wsJ90, w ∈ lw_tbl := by decide +kernel
theorem inJ10 : ∀ w ∈ wsJ100, w ∈ lw_tbl := by decide +kernel
theorem dJxe99ae_isNaN_b9ae7_0 : decode cJxe99ae_isNaN_b9ae7 0 = .ok (.dload_n 0, 1) := by decide +kernel
theorem dJxe99ae_isNaN_b9ae7_1 : decode cJxe99ae_isNaN_b9ae7 1 = .ok (.dload_n 0, 1) := by decide +kernel
theorem dJxe99ae_isNaN_b9ae7_2 : decode cJxe99ae_isNaN_b9ae7 2 = .ok (.dcmp .l, 1) := by decide +kernel
theorem dJxe99ae_isNaN_b9ae7_3 : decode cJxe99ae_isNaN_b9ae7 3 = .ok (.ifCond .eq 7, 3) := by decide +kernel
theorem dJxe99ae_isNaN_b9ae7_6 : decode cJxe99ae_isNaN_b9ae7 6 = .ok (.iconst 1, 1) := by decide +kernel
theorem dJxe99ae_isNaN_b9ae7_7 : decode cJxe99ae_isNaN_b9ae7 7 = .ok (.goto 4, 3) := by decide +kernel
theorem dJxe99ae_isNaN_b9ae7_10 : decode cJxe99ae_isNaN_b9ae7 10 = .ok (.iconst 0, 1) := by decide +kernel
theorem dJxe99ae_isNaN_b9ae7_11 : decode cJxe99ae_isNaN_b9ae7 11 = .ok (.ireturn, 1) := by decide +kernel
theorem ggJxe99ae_doubleToLongBits_ccdee_Jxe99ae_isNaN_b9ae7 : GoodIn wsJxe99ae_doubleToLongBits_ccdee wsJxe99ae_isNaN_b9ae7 := goodIn_r _ [9] (by decide +kernel) (by decide +kernel)
theorem gJxe99ae_doubleToLongBits_ccdee_Jxe99ae_isNaN_b9ae7 : GoodIn wsJxe99ae_doubleToLongBits_ccdee (va_wsS RJxe99ae 122 yJxe99ae_isNaN_b9ae7 wsJxe99ae_isNaN_b9ae7) := goodIn_app (goodIn_of _ (by decide +kernel)) ggJxe99ae_doubleToLongBits_ccdee_Jxe99ae_isNaN_b9ae7
theorem dJxe99ae_doubleToLongBits_ccdee_0 : decode cJxe99ae_doubleToLongBits_ccdee 0 = .ok (.dload_n 0, 1) := by decide +kernel
theorem dJxe99ae_doubleToLongBits_ccdee_1 : decode cJxe99ae_doubleToLongBits_ccdee 1 = .ok (.invokestatic 122, 3) := by decide +kernel
theorem dJxe99ae_doubleToLongBits_ccdee_4 : decode cJxe99ae_doubleToLongBits_ccdee 4 = .ok (.ifCond .ne 8, 3) := by decide +kernel
theorem dJxe99ae_doubleToLongBits_ccdee_7 : decode cJxe99ae_doubleToLongBits_ccdee 7 = .ok (.dload_n 0, 1) := by decide +kernel
theorem dJxe99ae_doubleToLongBits_ccdee_8 : decode cJxe99ae_doubleToLongBits_ccdee 8 = .ok (.invokestatic 134, 3) := by decide +kernel
theorem dJxe99ae_doubleToLongBits_ccdee_11 : decode cJxe99ae_doubleToLongBits_ccdee 11 = .ok (.lreturn, 1) := by decide +kernel
theorem dJxe99ae_doubleToLongBits_ccdee_12 : decode cJxe99ae_doubleToLongBits_ccdee 12 = .ok (.ldc2_w 137, 3) := by decide +kernel
theorem dJxe99ae_doubleToLongBits_ccdee_15 : decode cJxe99ae_doubleToLongBits_ccdee 15 = .ok (.lreturn, 1) := by decide +kernel
theorem dJ9_max_7cf53_0 : decode cJ9_max_7cf53 0 = .ok (.iload_n 0, 1) := by decide +kernel
theorem dJ9_max_7cf53_1 : decode cJ9_max_7cf53 1 = .ok (.iload_n 1, 1) := by decide +kernel
theorem dJ9_max_7cf53_2 : decode cJ9_max_7cf53 2 = .ok (.if_icmp .lt 7, 3) := by decide +kernel
theorem dJ9_max_7cf53_5 : decode cJ9_max_7cf53 5 = .ok (.iload_n 0, 1) := by decide +kernel
theorem dJ9_max_7cf53_6 : decode cJ9_max_7cf53 6 = .ok (.goto 4, 3) := by decide +kernel
theorem dJ9_max_7cf53_9 : decode cJ9_max_7cf53 9 = .ok (.iload_n 1, 1) := by decide +kernel
theorem dJ9_max_7cf53_10 : decode cJ9_max_7cf53 10 = .ok (.ireturn, 1) := by decide +kernel
theorem dJ9_min_7cf53_0 : decode cJ9_min_7cf53 0 = .ok (.iload_n 0, 1) := by decide +kernel
theorem dJ9_min_7cf53_1 : decode cJ9_min_7cf53 1 = .ok (.iload_n 1, 1) := by decide +kernel
theorem dJ9_min_7cf53_2 : decode cJ9_min_7cf53 2 = .ok (.if_icmp .gt 7, 3) := by decide +kernel
theorem dJ9_min_7cf53_5 : decode cJ9_min_7cf53 5 = .ok (.iload_n 0, 1) := by decide +kernel
theorem dJ9_min_7cf53_6 : decode cJ9_min_7cf53 6 = .ok (.goto 4, 3) := by decide +kernel
theorem dJ9_min_7cf53_9 : decode cJ9_min_7cf53 9 = .ok (.iload_n 1, 1) := by decide +kernel
theorem dJ9_min_7cf53_10 : decode cJ9_min_7cf53 10 = .ok (.ireturn, 1) := by decide +kernel
abbrev vwCl : List vw_C := [(RX0, TX0, 9), (RX1, TX1, 14), (RX2, TX2, 2), (RX3, TX3, 2), (RX4, TX4, 12), (RX5, TX5, 4), (RX6, TX6, 14), (RX7, TX7, 1), (RX8, TX8, 11), (RX9, TX9, 62)]
theorem in_r1 : ∀ w ∈ wsL_law_r1, w ∈ wsL_law := fun _ h => List.mem_append_left _ (List.mem_append_left _ (List.mem_append_left _ (List.mem_append_left _ (List.mem_append_left _ (List.mem_append_left _ (List.mem_append_left _ (List.mem_append_left _ (List.mem_append_left _ (List.mem_append_left _ (List.mem_append_left _ (List.mem_append_left _ h)))))))))))
theorem in_r2 : ∀ w ∈ wsL_law_r2, w ∈ wsL_law := fun _ h => List.mem_append_left _ (List.mem_append_left _ (List.mem_append_left _ (List.mem_append_left _ (List.mem_append_left _ (List.mem_append_left _ (List.mem_append_left _ (List.mem_append_left _ (List.mem_append_left _ (List.mem_append_left _ (List.mem_append_left _ (List.mem_append_right _ (List.mem_append_left _ h))))))))))))
theorem in_r3 : ∀ w ∈ wsL_law_r3, w ∈ wsL_law := fun _ h => List.mem_append_left _ (List.mem_append_left _ (List.mem_append_left _ (List.mem_append_left _ (List.mem_append_left _ (List.mem_append_left _ (List.mem_append_left _ (List.mem_append_left _ (List.mem_append_left _ (List.mem_append_left _ (List.mem_append_left _ (List.mem_append_right _ (List.mem_append_right _ (List.mem_append_left _ h)))))))))))))
theorem in_r4 : ∀ w ∈ wsL_law_r4, w ∈ wsL_law := fun _ h => List.mem_append_left _ (List.mem_append_left _ (List.mem_append_left _ (List.mem_append_left _ (List.mem_append_left _ (List.mem_append_left _ (List.mem_append_left _ (List.mem_append_left _ (List.mem_append_left _ (List.mem_append_left _ (List.mem_append_left _ (List.mem_append_right _ (List.mem_append_right _ (List.mem_append_right _ (List.mem_append_left _ h))))))))))))))
theorem in_r5 : ∀ w ∈ wsL_law_r5, w ∈ wsL_law := fun _ h => List.mem_append_left _ (List.mem_append_left _ (List.mem_append_left _ (List.mem_append_left _ (List.mem_append_left _ (List.mem_append_left _ (List.mem_append_left _ (List.mem_append_left _ (List.mem_append_left _ (List.mem_append_left _ (List.mem_append_left _ (List.mem_append_right _ (List.mem_append_right _ (List.mem_append_right _ (List.mem_append_right _ (List.mem_append_left _ h)))))))))))))))
theorem in_r6 : ∀ w ∈ wsL_law_r6, w ∈ wsL_law := fun _ h => List.mem_append_left _ (List.mem_append_left _ (List.mem_append_left _ (List.mem_append_left _ (List.mem_append_left _ (List.mem_append_left _ (List.mem_append_left _ (List.mem_append_left _ (List.mem_append_left _ (List.mem_append_left _ (List.mem_append_left _ (List.mem_append_right _ (List.mem_append_right _ (List.mem_append_right _ (List.mem_append_right _ (List.mem_append_right _ (List.mem_append_left _ h))))))))))))))))
theorem in_r7 : ∀ w ∈ wsL_law_r7, w ∈ wsL_law := fun _ h => List.mem_append_left _ (List.mem_append_left _ (List.mem_append_left _ (List.mem_append_left _ (List.mem_append_left _ (List.mem_append_left _ (List.mem_append_left _ (List.mem_append_left _ (List.mem_append_left _ (List.mem_append_left _ (List.mem_append_left _ (List.mem_append_right _ (List.mem_append_right _ (List.mem_append_right _ (List.mem_append_right _ (List.mem_append_right _ (List.mem_append_right _ (List.mem_append_left _ h)))))))))))))))))
theorem in_r8 : ∀ w ∈ wsL_law_r8, w ∈ wsL_law := fun _ h => List.mem_append_left _ (List.mem_append_left _ (List.mem_append_left _ (List.mem_append_left _ (List.mem_append_left _ (List.mem_append_left _ (List.mem_append_left _ (List.mem_append_left _ (List.mem_append_left _ (List.mem_append_left _ (List.mem_append_left _ (List.mem_append_right _ (List.mem_append_right _ (List.mem_append_right _ (List.mem_append_right _ (List.mem_append_right _ (List.mem_append_right _ (List.mem_append_right _ (List.mem_append_left _ h))))))))))))))))))
theorem in_r9 : ∀ w ∈ wsL_law_r9, w ∈ wsL_law := fun _ h => List.mem_append_left _ (List.mem_append_left _ (List.mem_append_left _ (List.mem_append_left _ (List.mem_append_left _ (List.mem_append_left _ (List.mem_append_left _ (List.mem_append_left _ (List.mem_append_left _ (List.mem_append_left _ (List.mem_append_left _ (List.mem_append_right _ (List.mem_append_right _ (List.mem_append_right _ (List.mem_append_right _ (List.mem_append_right _ (List.mem_append_right _ (List.mem_append_right _ (List.mem_append_right _ (List.mem_append_left _ h)))))))))))))))))))
theorem in_r10 : ∀ w ∈ wsL_law_r10, w ∈ wsL_law := fun _ h => List.mem_append_left _ (List.mem_append_left _ (List.mem_append_left _ (List.mem_append_left _ (List.mem_append_left _ (List.mem_append_left _ (List.mem_append_left _ (List.mem_append_left _ (List.mem_append_left _ (List.mem_append_left _ (List.mem_append_left _ (List.mem_append_right _ (List.mem_append_right _ (List.mem_append_right _ (List.mem_append_right _ (List.mem_append_right _ (List.mem_append_right _ (List.mem_append_right _ (List.mem_append_right _ (List.mem_append_right _ (List.mem_append_left _ h))))))))))))))))))))
theorem in_r11 : ∀ w ∈ wsL_law_r11, w ∈ wsL_law := fun _ h => List.mem_append_left _ (List.mem_append_left _ (List.mem_append_left _ (List.mem_append_left _ (List.mem_append_left _ (List.mem_append_left _ (List.mem_append_left _ (List.mem_append_left _ (List.mem_append_left _ (List.mem_append_left _ (List.mem_append_left _ (List.mem_append_right _ (List.mem_append_right _ (List.mem_append_right _ (List.mem_append_right _ (List.mem_append_right _ (List.mem_append_right _ (List.mem_append_right _ (List.mem_append_right _ (List.mem_append_right _ (List.mem_append_right _ (List.mem_append_left _ h)))))))))))))))))))))
theorem in_r12 : ∀ w ∈ wsL_law_r12, w ∈ wsL_law := fun _ h => List.mem_append_left _ (List.mem_append_left _ (List.mem_append_left _ (List.mem_append_left _ (List.mem_append_left _ (List.mem_append_left _ (List.mem_append_left _ (List.mem_append_left _ (List.mem_append_left _ (List.mem_append_left _ (List.mem_append_left _ (List.mem_append_right _ (List.mem_append_right _ (List.mem_append_right _ (List.mem_append_right _ (List.mem_append_right _ (List.mem_append_right _ (List.mem_append_right _ (List.mem_append_right _ (List.mem_append_right _ (List.mem_append_right _ (List.mem_append_right _ (List.mem_append_left _ h))))))))))))))))))))))
theorem in_r13 : ∀ w ∈ wsL_law_r13, w ∈ wsL_law := fun _ h => List.mem_append_left _ (List.mem_append_left _ (List.mem_append_left _ (List.mem_append_left _ (List.mem_append_left _ (List.mem_append_left _ (List.mem_append_left _ (List.mem_append_left _ (List.mem_append_left _ (List.mem_append_left _ (List.mem_append_left _ (List.mem_append_right _ (List.mem_append_right _ (List.mem_append_right _ (List.mem_append_right _ (List.mem_append_right _ (List.mem_append_right _ (List.mem_append_right _ (List.mem_append_right _ (List.mem_append_right _ (List.mem_append_right _ (List.mem_append_right _ (List.mem_append_right _ (List.mem_append_left _ h)))))))))))))))))))))))
theorem in_r14 : ∀ w ∈ wsL_law_r14, w ∈ wsL_law := fun _ h => List.mem_append_left _ (List.mem_append_left _ (List.mem_append_left _ (List.mem_append_left _ (List.mem_append_left _ (List.mem_append_left _ (List.mem_append_left _ (List.mem_append_left _ (List.mem_append_left _ (List.mem_append_left _ (List.mem_append_left _ (List.mem_append_right _ (List.mem_append_right _ (List.mem_append_right _ (List.mem_append_right _ (List.mem_append_right _ (List.mem_append_right _ (List.mem_append_right _ (List.mem_append_right _ (List.mem_append_right _ (List.mem_append_right _ (List.mem_append_right _ (List.mem_append_right _ (List.mem_append_right _ (List.mem_append_left _ h))))))))))))))))))))))))
theorem in_r15 : ∀ w ∈ wsL_law_r15, w ∈ wsL_law := fun _ h => List.mem_append_left _ (List.mem_append_left _ (List.mem_append_left _ (List.mem_append_left _ (List.mem_append_left _ (List.mem_append_left _ (List.mem_append_left _ (List.mem_append_left _ (List.mem_append_left _ (List.mem_append_left _ (List.mem_append_left _ (List.mem_append_right _ (List.mem_append_right _ (List.mem_append_right _ (List.mem_append_right _ (List.mem_append_right _ (List.mem_append_right _ (List.mem_append_right _ (List.mem_append_right _ (List.mem_append_right _ (List.mem_append_right _ (List.mem_append_right _ (List.mem_append_right _ (List.mem_append_right _ (List.mem_append_right _ (List.mem_append_left _ h)))))))))))))))))))))))))
theorem in_r16 : ∀ w ∈ wsL_law_r16, w ∈ wsL_law := fun _ h => List.mem_append_left _ (List.mem_append_left _ (List.mem_append_left _ (List.mem_append_left _ (List.mem_append_left _ (List.mem_append_left _ (List.mem_append_left _ (List.mem_append_left _ (List.mem_append_left _ (List.mem_append_left _ (List.mem_append_left _ (List.mem_append_right _ (List.mem_append_right _ (List.mem_append_right _ (List.mem_append_right _ (List.mem_append_right _ (List.mem_append_right _ (List.mem_append_right _ (List.mem_append_right _ (List.mem_append_right _ (List.mem_append_right _ (List.mem_append_right _ (List.mem_append_right _ (List.mem_append_right _ (List.mem_append_right _ (List.mem_append_right _ (List.mem_append_left _ h))))))))))))))))))))))))))
theorem in_r17 : ∀ w ∈ wsL_law_r17, w ∈ wsL_law := fun _ h => List.mem_append_left _ (List.mem_append_left _ (List.mem_append_left _ (List.mem_append_left _ (List.mem_append_left _ (List.mem_append_left _ (List.mem_append_left _ (List.mem_append_left _ (List.mem_append_left _ (List.mem_append_left _ (List.mem_append_left _ (List.mem_append_right _ (List.mem_append_right _ (List.mem_append_right _ (List.mem_append_right _ (List.mem_append_right _ (List.mem_append_right _ (List.mem_append_right _ (List.mem_append_right _ (List.mem_append_right _ (List.mem_append_right _ (List.mem_append_right _ (List.mem_append_right _ (List.mem_append_right _ (List.mem_append_right _ (List.mem_append_right _ (List.mem_append_right _ (List.mem_append_left _ h)))))))))))))))))))))))))))
theorem in_r18 : ∀ w ∈ wsL_law_r18, w ∈ wsL_law := fun _ h => List.mem_append_left _ (List.mem_append_left _ (List.mem_append_left _ (List.mem_append_left _ (List.mem_append_left _ (List.mem_append_left _ (List.mem_append_left _ (List.mem_append_left _ (List.mem_append_left _ (List.mem_append_left _ (List.mem_append_left _ (List.mem_append_right _ (List.mem_append_right _ (List.mem_append_right _ (List.mem_append_right _ (List.mem_append_right _ (List.mem_append_right _ (List.mem_append_right _ (List.mem_append_right _ (List.mem_append_right _ (List.mem_append_right _ (List.mem_append_right _ (List.mem_append_right _ (List.mem_append_right _ (List.mem_append_right _ (List.mem_append_right _ (List.mem_append_right _ (List.mem_append_right _ (List.mem_append_left _ h))))))))))))))))))))))))))))
theorem in_r19 : ∀ w ∈ wsL_law_r19, w ∈ wsL_law := fun _ h => List.mem_append_left _ (List.mem_append_left _ (List.mem_append_left _ (List.mem_append_left _ (List.mem_append_left _ (List.mem_append_left _ (List.mem_append_left _ (List.mem_append_left _ (List.mem_append_left _ (List.mem_append_left _ (List.mem_append_left _ (List.mem_append_right _ (List.mem_append_right _ (List.mem_append_right _ (List.mem_append_right _ (List.mem_append_right _ (List.mem_append_right _ (List.mem_append_right _ (List.mem_append_right _ (List.mem_append_right _ (List.mem_append_right _ (List.mem_append_right _ (List.mem_append_right _ (List.mem_append_right _ (List.mem_append_right _ (List.mem_append_right _ (List.mem_append_right _ (List.mem_append_right _ (List.mem_append_right _ (List.mem_append_left _ h)))))))))))))))))))))))))))))
theorem in_r20 : ∀ w ∈ wsL_law_r20, w ∈ wsL_law := fun _ h => List.mem_append_left _ (List.mem_append_left _ (List.mem_append_left _ (List.mem_append_left _ (List.mem_append_left _ (List.mem_append_left _ (List.mem_append_left _ (List.mem_append_left _ (List.mem_append_left _ (List.mem_append_left _ (List.mem_append_left _ (List.mem_append_right _ (List.mem_append_right _ (List.mem_append_right _ (List.mem_append_right _ (List.mem_append_right _ (List.mem_append_right _ (List.mem_append_right _ (List.mem_append_right _ (List.mem_append_right _ (List.mem_append_right _ (List.mem_append_right _ (List.mem_append_right _ (List.mem_append_right _ (List.mem_append_right _ (List.mem_append_right _ (List.mem_append_right _ (List.mem_append_right _ (List.mem_append_right _ (List.mem_append_right _ (List.mem_append_left _ h))))))))))))))))))))))))))))))
theorem in_r21 : ∀ w ∈ wsL_law_r21, w ∈ wsL_law := fun _ h => List.mem_append_left _ (List.mem_append_left _ (List.mem_append_left _ (List.mem_append_left _ (List.mem_append_left _ (List.mem_append_left _ (List.mem_append_left _ (List.mem_append_left _ (List.mem_append_left _ (List.mem_append_left _ (List.mem_append_left _ (List.mem_append_right _ (List.mem_append_right _ (List.mem_append_right _ (List.mem_append_right _ (List.mem_append_right _ (List.mem_append_right _ (List.mem_append_right _ (List.mem_append_right _ (List.mem_append_right _ (List.mem_append_right _ (List.mem_append_right _ (List.mem_append_right _ (List.mem_append_right _ (List.mem_append_right _ (List.mem_append_right _ (List.mem_append_right _ (List.mem_append_right _ (List.mem_append_right _ (List.mem_append_right _ (List.mem_append_right _ (List.mem_append_left _ h)))))))))))))))))))))))))))))))
theorem in_r22 : ∀ w ∈ wsL_law_r22, w ∈ wsL_law := fun _ h => List.mem_append_left _ (List.mem_append_left _ (List.mem_append_left _ (List.mem_append_left _ (List.mem_append_left _ (List.mem_append_left _ (List.mem_append_left _ (List.mem_append_left _ (List.mem_append_left _ (List.mem_append_left _ (List.mem_append_left _ (List.mem_append_right _ (List.mem_append_right _ (List.mem_append_right _ (List.mem_append_right _ (List.mem_append_right _ (List.mem_append_right _ (List.mem_append_right _ (List.mem_append_right _ (List.mem_append_right _ (List.mem_append_right _ (List.mem_append_right _ (List.mem_append_right _ (List.mem_append_right _ (List.mem_append_right _ (List.mem_append_right _ (List.mem_append_right _ (List.mem_append_right _ (List.mem_append_right _ (List.mem_append_right _ (List.mem_append_right _ (List.mem_append_right _ (List.mem_append_left _ h))))))))))))))))))))))))))))))))
theorem in_r23 : ∀ w ∈ wsL_law_r23, w ∈ wsL_law := fun _ h => List.mem_append_left _ (List.mem_append_left _ (List.mem_append_left _ (List.mem_append_left _ (List.mem_append_left _ (List.mem_append_left _ (List.mem_append_left _ (List.mem_append_left _ (List.mem_append_left _ (List.mem_append_left _ (List.mem_append_left _ (List.mem_append_right _ (List.mem_append_right _ (List.mem_append_right _ (List.mem_append_right _ (List.mem_append_right _ (List.mem_append_right _ (List.mem_append_right _ (List.mem_append_right _ (List.mem_append_right _ (List.mem_append_right _ (List.mem_append_right _ (List.mem_append_right _ (List.mem_append_right _ (List.mem_append_right _ (List.mem_append_right _ (List.mem_append_right _ (List.mem_append_right _ (List.mem_append_right _ (List.mem_append_right _ (List.mem_append_right _ (List.mem_append_right _ (List.mem_append_right _ (List.mem_append_left _ h)))))))))))))))))))))))))))))))))
theorem in_r24 : ∀ w ∈ wsL_law_r24, w ∈ wsL_law := fun _ h => List.mem_append_left _ (List.mem_append_left _ (List.mem_append_left _ (List.mem_append_left _ (List.mem_append_left _ (List.mem_append_left _ (List.mem_append_left _ (List.mem_append_left _ (List.mem_append_left _ (List.mem_append_left _ (List.mem_append_left _ (List.mem_append_right _ (List.mem_append_right _ (List.mem_append_right _ (List.mem_append_right _ (List.mem_append_right _ (List.mem_append_right _ (List.mem_append_right _ (List.mem_append_right _ (List.mem_append_right _ (List.mem_append_right _ (List.mem_append_right _ (List.mem_append_right _ (List.mem_append_right _ (List.mem_append_right _ (List.mem_append_right _ (List.mem_append_right _ (List.mem_append_right _ (List.mem_append_right _ (List.mem_append_right _ (List.mem_append_right _ (List.mem_append_right _ (List.mem_append_right _ (List.mem_append_right _ (List.mem_append_left _ h))))))))))))))))))))))))))))))))))
theorem in_r25 : ∀ w ∈ wsL_law_r25, w ∈ wsL_law := fun _ h => List.mem_append_left _ (List.mem_append_left _ (List.mem_append_left _ (List.mem_append_left _ (List.mem_append_left _ (List.mem_append_left _ (List.mem_append_left _ (List.mem_append_left _ (List.mem_append_left _ (List.mem_append_left _ (List.mem_append_left _ (List.mem_append_right _ (List.mem_append_right _ (List.mem_append_right _ (List.mem_append_right _ (List.mem_append_right _ (List.mem_append_right _ (List.mem_append_right _ (List.mem_append_right _ (List.mem_append_right _ (List.mem_append_right _ (List.mem_append_right _ (List.mem_append_right _ (List.mem_append_right _ (List.mem_append_right _ (List.mem_append_right _ (List.mem_append_right _ (List.mem_append_right _ (List.mem_append_right _ (List.mem_append_right _ (List.mem_append_right _ (List.mem_append_right _ (List.mem_append_right _ (List.mem_append_right _ (List.mem_append_right _ (List.mem_append_left _ h)))))))))))))))))))))))))))))))))))
theorem in_r26 : ∀ w ∈ wsL_law_r26, w ∈ wsL_law := fun _ h => List.mem_append_left _ (List.mem_append_left _ (List.mem_append_left _ (List.mem_append_left _ (List.mem_append_left _ (List.mem_append_left _ (List.mem_append_left _ (List.mem_append_left _ (List.mem_append_left _ (List.mem_append_left _ (List.mem_append_left _ (List.mem_append_right _ (List.mem_append_right _ (List.mem_append_right _ (List.mem_append_right _ (List.mem_append_right _ (List.mem_append_right _ (List.mem_append_right _ (List.mem_append_right _ (List.mem_append_right _ (List.mem_append_right _ (List.mem_append_right _ (List.mem_append_right _ (List.mem_append_right _ (List.mem_append_right _ (List.mem_append_right _ (List.mem_append_right _ (List.mem_append_right _ (List.mem_append_right _ (List.mem_append_right _ (List.mem_append_right _ (List.mem_append_right _ (List.mem_append_right _ (List.mem_append_right _ (List.mem_append_right _ (List.mem_append_right _ (List.mem_append_left _ h))))))))))))))))))))))))))))))))))))
theorem in_r27 : ∀ w ∈ wsL_law_r27, w ∈ wsL_law := fun _ h => List.mem_append_left _ (List.mem_append_left _ (List.mem_append_left _ (List.mem_append_left _ (List.mem_append_left _ (List.mem_append_left _ (List.mem_append_left _ (List.mem_append_left _ (List.mem_append_left _ (List.mem_append_left _ (List.mem_append_left _ (List.mem_append_right _ (List.mem_append_right _ (List.mem_append_right _ (List.mem_append_right _ (List.mem_append_right _ (List.mem_append_right _ (List.mem_append_right _ (List.mem_append_right _ (List.mem_append_right _ (List.mem_append_right _ (List.mem_append_right _ (List.mem_append_right _ (List.mem_append_right _ (List.mem_append_right _ (List.mem_append_right _ (List.mem_append_right _ (List.mem_append_right _ (List.mem_append_right _ (List.mem_append_right _ (List.mem_append_right _ (List.mem_append_right _ (List.mem_append_right _ (List.mem_append_right _ (List.mem_append_right _ (List.mem_append_right _ (List.mem_append_right _ (List.mem_append_left _ h)))))))))))))))))))))))))))))))))))))
theorem in_r28 : ∀ w ∈ wsL_law_r28, w ∈ wsL_law := fun _ h => List.mem_append_left _ (List.mem_append_left _ (List.mem_append_left _ (List.mem_append_left _ (List.mem_append_left _ (List.mem_append_left _ (List.mem_append_left _ (List.mem_append_left _ (List.mem_append_left _ (List.mem_append_left _ (List.mem_append_left _ (List.mem_append_right _ (List.mem_append_right _ (List.mem_append_right _ (List.mem_append_right _ (List.mem_append_right _ (List.mem_append_right _ (List.mem_append_right _ (List.mem_append_right _ (List.mem_append_right _ (List.mem_append_right _ (List.mem_append_right _ (List.mem_append_right _ (List.mem_append_right _ (List.mem_append_right _ (List.mem_append_right _ (List.mem_append_right _ (List.mem_append_right _ (List.mem_append_right _ (List.mem_append_right _ (List.mem_append_right _ (List.mem_append_right _ (List.mem_append_right _ (List.mem_append_right _ (List.mem_append_right _ (List.mem_append_right _ (List.mem_append_right _ (List.mem_append_right _ (List.mem_append_left _ h))))))))))))))))))))))))))))))))))))))
theorem in_r29 : ∀ w ∈ wsL_law_r29, w ∈ wsL_law := fun _ h => List.mem_append_left _ (List.mem_append_left _ (List.mem_append_left _ (List.mem_append_left _ (List.mem_append_left _ (List.mem_append_left _ (List.mem_append_left _ (List.mem_append_left _ (List.mem_append_left _ (List.mem_append_left _ (List.mem_append_left _ (List.mem_append_right _ (List.mem_append_right _ (List.mem_append_right _ (List.mem_append_right _ (List.mem_append_right _ (List.mem_append_right _ (List.mem_append_right _ (List.mem_append_right _ (List.mem_append_right _ (List.mem_append_right _ (List.mem_append_right _ (List.mem_append_right _ (List.mem_append_right _ (List.mem_append_right _ (List.mem_append_right _ (List.mem_append_right _ (List.mem_append_right _ (List.mem_append_right _ (List.mem_append_right _ (List.mem_append_right _ (List.mem_append_right _ (List.mem_append_right _ (List.mem_append_right _ (List.mem_append_right _ (List.mem_append_right _ (List.mem_append_right _ (List.mem_append_right _ (List.mem_append_right _ (List.mem_append_left _ h)))))))))))))))))))))))))))))))))))))))
theorem in_r30 : ∀ w ∈ wsL_law_r30, w ∈ wsL_law := fun _ h => List.mem_append_left _ (List.mem_append_left _ (List.mem_append_left _ (List.mem_append_left _ (List.mem_append_left _ (List.mem_append_left _ (List.mem_append_left _ (List.mem_append_left _ (List.mem_append_left _ (List.mem_append_left _ (List.mem_append_left _ (List.mem_append_right _ (List.mem_append_right _ (List.mem_append_right _ (List.mem_append_right _ (List.mem_append_right _ (List.mem_append_right _ (List.mem_append_right _ (List.mem_append_right _ (List.mem_append_right _ (List.mem_append_right _ (List.mem_append_right _ (List.mem_append_right _ (List.mem_append_right _ (List.mem_append_right _ (List.mem_append_right _ (List.mem_append_right _ (List.mem_append_right _ (List.mem_append_right _ (List.mem_append_right _ (List.mem_append_right _ (List.mem_append_right _ (List.mem_append_right _ (List.mem_append_right _ (List.mem_append_right _ (List.mem_append_right _ (List.mem_append_right _ (List.mem_append_right _ (List.mem_append_right _ (List.mem_append_right _ (List.mem_append_left _ h))))))))))))))))))))))))))))))))))))))))
theorem in_r31 : ∀ w ∈ wsL_law_r31, w ∈ wsL_law := fun _ h => List.mem_append_left _ (List.mem_append_left _ (List.mem_append_left _ (List.mem_append_left _ (List.mem_append_left _ (List.mem_append_left _ (List.mem_append_left _ (List.mem_append_left _ (List.mem_append_left _ (List.mem_append_left _ (List.mem_append_left _ (List.mem_append_right _ (List.mem_append_right _ (List.mem_append_right _ (List.mem_append_right _ (List.mem_append_right _ (List.mem_append_right _ (List.mem_append_right _ (List.mem_append_right _ (List.mem_append_right _ (List.mem_append_right _ (List.mem_append_right _ (List.mem_append_right _ (List.mem_append_right _ (List.mem_append_right _ (List.mem_append_right _ (List.mem_append_right _ (List.mem_append_right _ (List.mem_append_right _ (List.mem_append_right _ (List.mem_append_right _ (List.mem_append_right _ (List.mem_append_right _ (List.mem_append_right _ (List.mem_append_right _ (List.mem_append_right _ (List.mem_append_right _ (List.mem_append_right _ (List.mem_append_right _ (List.mem_append_right _ (List.mem_append_right _ (List.mem_append_left _ h)))))))))))))))))))))))))))))))))))))))))
theorem in_r32 : ∀ w ∈ wsL_law_r32, w ∈ wsL_law := fun _ h => List.mem_append_left _ (List.mem_append_left _ (List.mem_append_left _ (List.mem_append_left _ (List.mem_append_left _ (List.mem_append_left _ (List.mem_append_left _ (List.mem_append_left _ (List.mem_append_left _ (List.mem_append_left _ (List.mem_append_left _ (List.mem_append_right _ (List.mem_append_right _ (List.mem_append_right _ (List.mem_append_right _ (List.mem_append_right _ (List.mem_append_right _ (List.mem_append_right _ (List.mem_append_right _ (List.mem_append_right _ (List.mem_append_right _ (List.mem_append_right _ (List.mem_append_right _ (List.mem_append_right _ (List.mem_append_right _ (List.mem_append_right _ (List.mem_append_right _ (List.mem_append_right _ (List.mem_append_right _ (List.mem_append_right _ (List.mem_append_right _ (List.mem_append_right _ (List.mem_append_right _ (List.mem_append_right _ (List.mem_append_right _ (List.mem_append_right _ (List.mem_append_right _ (List.mem_append_right _ (List.mem_append_right _ (List.mem_append_right _ (List.mem_append_right _ (List.mem_append_right _ (List.mem_append_left _ h))))))))))))))))))))))))))))))))))))))))))
theorem in_r33 : ∀ w ∈ wsL_law_r33, w ∈ wsL_law := fun _ h => List.mem_append_left _ (List.mem_append_left _ (List.mem_append_left _ (List.mem_append_left _ (List.mem_append_left _ (List.mem_append_left _ (List.mem_append_left _ (List.mem_append_left _ (List.mem_append_left _ (List.mem_append_left _ (List.mem_append_left _ (List.mem_append_right _ (List.mem_append_right _ (List.mem_append_right _ (List.mem_append_right _ (List.mem_append_right _ (List.mem_append_right _ (List.mem_append_right _ (List.mem_append_right _ (List.mem_append_right _ (List.mem_append_right _ (List.mem_append_right _ (List.mem_append_right _ (List.mem_append_right _ (List.mem_append_right _ (List.mem_append_right _ (List.mem_append_right _ (List.mem_append_right _ (List.mem_append_right _ (List.mem_append_right _ (List.mem_append_right _ (List.mem_append_right _ (List.mem_append_right _ (List.mem_append_right _ (List.mem_append_right _ (List.mem_append_right _ (List.mem_append_right _ (List.mem_append_right _ (List.mem_append_right _ (List.mem_append_right _ (List.mem_append_right _ (List.mem_append_right _ (List.mem_append_right _ (List.mem_append_left _ h)))))))))))))))))))))))))))))))))))))))))))
theorem in_r34 : ∀ w ∈ wsL_law_r34, w ∈ wsL_law := fun _ h => List.mem_append_left _ (List.mem_append_left _ (List.mem_append_left _ (List.mem_append_left _ (List.mem_append_left _ (List.mem_append_left _ (List.mem_append_left _ (List.mem_append_left _ (List.mem_append_left _ (List.mem_append_left _ (List.mem_append_left _ (List.mem_append_right _ (List.mem_append_right _ (List.mem_append_right _ (List.mem_append_right _ (List.mem_append_right _ (List.mem_append_right _ (List.mem_append_right _ (List.mem_append_right _ (List.mem_append_right _ (List.mem_append_right _ (List.mem_append_right _ (List.mem_append_right _ (List.mem_append_right _ (List.mem_append_right _ (List.mem_append_right _ (List.mem_append_right _ (List.mem_append_right _ (List.mem_append_right _ (List.mem_append_right _ (List.mem_append_right _ (List.mem_append_right _ (List.mem_append_right _ (List.mem_append_right _ (List.mem_append_right _ (List.mem_append_right _ (List.mem_append_right _ (List.mem_append_right _ (List.mem_append_right _ (List.mem_append_right _ (List.mem_append_right _ (List.mem_append_right _ (List.mem_append_right _ (List.mem_append_right _ (List.mem_append_left _ h))))))))))))))))))))))))))))))))))))))))))))
theorem in_r35 : ∀ w ∈ wsL_law_r35, w ∈ wsL_law := fun _ h => List.mem_append_left _ (List.mem_append_left _ (List.mem_append_left _ (List.mem_append_left _ (List.mem_append_left _ (List.mem_append_left _ (List.mem_append_left _ (List.mem_append_left _ (List.mem_append_left _ (List.mem_append_left _ (List.mem_append_left _ (List.mem_append_right _ (List.mem_append_right _ (List.mem_append_right _ (List.mem_append_right _ (List.mem_append_right _ (List.mem_append_right _ (List.mem_append_right _ (List.mem_append_right _ (List.mem_append_right _ (List.mem_append_right _ (List.mem_append_right _ (List.mem_append_right _ (List.mem_append_right _ (List.mem_append_right _ (List.mem_append_right _ (List.mem_append_right _ (List.mem_append_right _ (List.mem_append_right _ (List.mem_append_right _ (List.mem_append_right _ (List.mem_append_right _ (List.mem_append_right _ (List.mem_append_right _ (List.mem_append_right _ (List.mem_append_right _ (List.mem_append_right _ (List.mem_append_right _ (List.mem_append_right _ (List.mem_append_right _ (List.mem_append_right _ (List.mem_append_right _ (List.mem_append_right _ (List.mem_append_right _ (List.mem_append_right _ (List.mem_append_left _ h)))))))))))))))))))))))))))))))))))))))))))))
theorem in_r36 : ∀ w ∈ wsL_law_r36, w ∈ wsL_law := fun _ h => List.mem_append_left _ (List.mem_append_left _ (List.mem_append_left _ (List.mem_append_left _ (List.mem_append_left _ (List.mem_append_left _ (List.mem_append_left _ (List.mem_append_left _ (List.mem_append_left _ (List.mem_append_left _ (List.mem_append_left _ (List.mem_append_right _ (List.mem_append_right _ (List.mem_append_right _ (List.mem_append_right _ (List.mem_append_right _ (List.mem_append_right _ (List.mem_append_right _ (List.mem_append_right _ (List.mem_append_right _ (List.mem_append_right _ (List.mem_append_right _ (List.mem_append_right _ (List.mem_append_right _ (List.mem_append_right _ (List.mem_append_right _ (List.mem_append_right _ (List.mem_append_right _ (List.mem_append_right _ (List.mem_append_right _ (List.mem_append_right _ (List.mem_append_right _ (List.mem_append_right _ (List.mem_append_right _ (List.mem_append_right _ (List.mem_append_right _ (List.mem_append_right _ (List.mem_append_right _ (List.mem_append_right _ (List.mem_append_right _ (List.mem_append_right _ (List.mem_append_right _ (List.mem_append_right _ (List.mem_append_right _ (List.mem_append_right _ (List.mem_append_right _ (List.mem_append_left _ h))))))))))))))))))))))))))))))))))))))))))))))
theorem in_r37 : ∀ w ∈ wsL_law_r37, w ∈ wsL_law := fun _ h => List.mem_append_left _ (List.mem_append_left _ (List.mem_append_left _ (List.mem_append_left _ (List.mem_append_left _ (List.mem_append_left _ (List.mem_append_left _ (List.mem_append_left _ (List.mem_append_left _ (List.mem_append_left _ (List.mem_append_left _ (List.mem_append_right _ (List.mem_append_right _ (List.mem_append_right _ (List.mem_append_right _ (List.mem_append_right _ (List.mem_append_right _ (List.mem_append_right _ (List.mem_append_right _ (List.mem_append_right _ (List.mem_append_right _ (List.mem_append_right _ (List.mem_append_right _ (List.mem_append_right _ (List.mem_append_right _ (List.mem_append_right _ (List.mem_append_right _ (List.mem_append_right _ (List.mem_append_right _ (List.mem_append_right _ (List.mem_append_right _ (List.mem_append_right _ (List.mem_append_right _ (List.mem_append_right _ (List.mem_append_right _ (List.mem_append_right _ (List.mem_append_right _ (List.mem_append_right _ (List.mem_append_right _ (List.mem_append_right _ (List.mem_append_right _ (List.mem_append_right _ (List.mem_append_right _ (List.mem_append_right _ (List.mem_append_right _ (List.mem_append_right _ (List.mem_append_right _ (List.mem_append_left _ h)))))))))))))))))))))))))))))))))))))))))))))))
theorem in_r38 : ∀ w ∈ wsL_law_r38, w ∈ wsL_law := fun _ h => List.mem_append_left _ (List.mem_append_left _ (List.mem_append_left _ (List.mem_append_left _ (List.mem_append_left _ (List.mem_append_left _ (List.mem_append_left _ (List.mem_append_left _ (List.mem_append_left _ (List.mem_append_left _ (List.mem_append_left _ (List.mem_append_right _ (List.mem_append_right _ (List.mem_append_right _ (List.mem_append_right _ (List.mem_append_right _ (List.mem_append_right _ (List.mem_append_right _ (List.mem_append_right _ (List.mem_append_right _ (List.mem_append_right _ (List.mem_append_right _ (List.mem_append_right _ (List.mem_append_right _ (List.mem_append_right _ (List.mem_append_right _ (List.mem_append_right _ (List.mem_append_right _ (List.mem_append_right _ (List.mem_append_right _ (List.mem_append_right _ (List.mem_append_right _ (List.mem_append_right _ (List.mem_append_right _ (List.mem_append_right _ (List.mem_append_right _ (List.mem_append_right _ (List.mem_append_right _ (List.mem_append_right _ (List.mem_append_right _ (List.mem_append_right _ (List.mem_append_right _ (List.mem_append_right _ (List.mem_append_right _ (List.mem_append_right _ (List.mem_append_right _ (List.mem_append_right _ (List.mem_append_right _ (List.mem_append_left _ h))))))))))))))))))))))))))))))))))))))))))))))))
theorem in_r39 : ∀ w ∈ wsL_law_r39, w ∈ wsL_law := fun _ h => List.mem_append_left _ (List.mem_append_left _ (List.mem_append_left _ (List.mem_append_left _ (List.mem_append_left _ (List.mem_append_left _ (List.mem_append_left _ (List.mem_append_left _ (List.mem_append_left _ (List.mem_append_left _ (List.mem_append_left _ (List.mem_append_right _ (List.mem_append_right _ (List.mem_append_right _ (List.mem_append_right _ (List.mem_append_right _ (List.mem_append_right _ (List.mem_append_right _ (List.mem_append_right _ (List.mem_append_right _ (List.mem_append_right _ (List.mem_append_right _ (List.mem_append_right _ (List.mem_append_right _ (List.mem_append_right _ (List.mem_append_right _ (List.mem_append_right _ (List.mem_append_right _ (List.mem_append_right _ (List.mem_append_right _ (List.mem_append_right _ (List.mem_append_right _ (List.mem_append_right _ (List.mem_append_right _ (List.mem_append_right _ (List.mem_append_right _ (List.mem_append_right _ (List.mem_append_right _ (List.mem_append_right _ (List.mem_append_right _ (List.mem_append_right _ (List.mem_append_right _ (List.mem_append_right _ (List.mem_append_right _ (List.mem_append_right _ (List.mem_append_right _ (List.mem_append_right _ (List.mem_append_right _ (List.mem_append_right _ (List.mem_append_left _ h)))))))))))))))))))))))))))))))))))))))))))))))))
theorem in_r40 : ∀ w ∈ wsL_law_r40, w ∈ wsL_law := fun _ h => List.mem_append_left _ (List.mem_append_left _ (List.mem_append_left _ (List.mem_append_left _ (List.mem_append_left _ (List.mem_append_left _ (List.mem_append_left _ (List.mem_append_left _ (List.mem_append_left _ (List.mem_append_left _ (List.mem_append_left _ (List.mem_append_right _ (List.mem_append_right _ (List.mem_append_right _ (List.mem_append_right _ (List.mem_append_right _ (List.mem_append_right _ (List.mem_append_right _ (List.mem_append_right _ (List.mem_append_right _ (List.mem_append_right _ (List.mem_append_right _ (List.mem_append_right _ (List.mem_append_right _ (List.mem_append_right _ (List.mem_append_right _ (List.mem_append_right _ (List.mem_append_right _ (List.mem_append_right _ (List.mem_append_right _ (List.mem_append_right _ (List.mem_append_right _ (List.mem_append_right _ (List.mem_append_right _ (List.mem_append_right _ (List.mem_append_right _ (List.mem_append_right _ (List.mem_append_right _ (List.mem_append_right _ (List.mem_append_right _ (List.mem_append_right _ (List.mem_append_right _ (List.mem_append_right _ (List.mem_append_right _ (List.mem_append_right _ (List.mem_append_right _ (List.mem_append_right _ (List.mem_append_right _ (List.mem_append_right _ (List.mem_append_right _ (List.mem_append_left _ h))))))))))))))))))))))))))))))))))))))))))))))))))
theorem in_r41 : ∀ w ∈ wsL_law_r41, w ∈ wsL_law := fun _ h => List.mem_append_left _ (List.mem_append_left _ (List.mem_append_left _ (List.mem_append_left _ (List.mem_append_left _ (List.mem_append_left _ (List.mem_append_left _ (List.mem_append_left _ (List.mem_append_left _ (List.mem_append_left _ (List.mem_append_left _ (List.mem_append_right _ (List.mem_append_right _ (List.mem_append_right _ (List.mem_append_right _ (List.mem_append_right _ (List.mem_append_right _ (List.mem_append_right _ (List.mem_append_right _ (List.mem_append_right _ (List.mem_append_right _ (List.mem_append_right _ (List.mem_append_right _ (List.mem_append_right _ (List.mem_append_right _ (List.mem_append_right _ (List.mem_append_right _ (List.mem_append_right _ (List.mem_append_right _ (List.mem_append_right _ (List.mem_append_right _ (List.mem_append_right _ (List.mem_append_right _ (List.mem_append_right _ (List.mem_append_right _ (List.mem_append_right _ (List.mem_append_right _ (List.mem_append_right _ (List.mem_append_right _ (List.mem_append_right _ (List.mem_append_right _ (List.mem_append_right _ (List.mem_append_right _ (List.mem_append_right _ (List.mem_append_right _ (List.mem_append_right _ (List.mem_append_right _ (List.mem_append_right _ (List.mem_append_right _ (List.mem_append_right _ (List.mem_append_right _ (h)))))))))))))))))))))))))))))))))))))))))))))))))))
theorem lk_L_7 : (Cond.classLink RL 7 RX8) ∈ wsL_law := in_r1 _ (List.mem_of_getElem? (i := 0) rfl)
theorem ln_RX8_11 : (Cond.instantiable RX8 11) ∈ wsL_law := in_r1 _ (List.mem_of_getElem? (i := 1) rfl)
theorem lz_RX8 : (Cond.initialized RX8) ∈ wsL_law := in_r1 _ (List.mem_of_getElem? (i := 2) rfl)
theorem lk_L_10 : (Cond.classLink RL 10 RX9) ∈ wsL_law := in_r1 _ (List.mem_of_getElem? (i := 3) rfl)
theorem ln_RX9_62 : (Cond.instantiable RX9 62) ∈ wsL_law := in_r1 _ (List.mem_of_getElem? (i := 4) rfl)
theorem lz_RX9 : (Cond.initialized RX9) ∈ wsL_law := in_r1 _ (List.mem_of_getElem? (i := 5) rfl)
theorem ll_L_18 : (Cond.constantLong RL 18 (4294967295)) ∈ wsL_law := in_r1 _ (List.mem_of_getElem? (i := 6) rfl)
theorem lm_L_9 : (Cond.methodLink RL 9 yX8_init) ∈ wsL_law := in_r1 _ (List.mem_of_getElem? (i := 7) rfl)
theorem li_yX8_init : (Cond.instanceMethod yX8_init) ∈ wsL_law := in_r1 _ (List.mem_of_getElem? (i := 8) rfl)
theorem lc_yX8_init : (Cond.code yX8_init cX8_init 1 none) ∈ wsL_law := in_r1 _ (List.mem_of_getElem? (i := 9) rfl)
theorem lm_X8_1 : (Cond.methodLink RX8 1 objectInit) ∈ wsL_law := in_r1 _ (List.mem_of_getElem? (i := 10) rfl)
theorem li_objectInit : (Cond.instanceMethod objectInit) ∈ wsL_law := in_r1 _ (List.mem_of_getElem? (i := 11) rfl)
theorem lc_objectInit : (Cond.code objectInit ⟨#[0xb1]⟩ 1 none) ∈ wsL_law := in_r1 _ (List.mem_of_getElem? (i := 12) rfl)
theorem lk_X8_7 : (Cond.classLink RX8 7 RX2) ∈ wsL_law := in_r1 _ (List.mem_of_getElem? (i := 13) rfl)
theorem ln_RX2_2 : (Cond.instantiable RX2 2) ∈ wsL_law := in_r1 _ (List.mem_of_getElem? (i := 14) rfl)
theorem lz_RX2 : (Cond.initialized RX2) ∈ wsL_law := in_r1 _ (List.mem_of_getElem? (i := 15) rfl)
theorem lf_X8_10 : (Cond.fieldLink RX8 10 (TX8 0).1 (TX8 0).2.1 (TX8 0).2.2.1) ∈ wsL_law := in_r1 _ (List.mem_of_getElem? (i := 16) rfl)
theorem lk_X8_16 : (Cond.classLink RX8 16 RX7) ∈ wsL_law := in_r1 _ (List.mem_of_getElem? (i := 17) rfl)
theorem ln_RX7_1 : (Cond.instantiable RX7 1) ∈ wsL_law := in_r1 _ (List.mem_of_getElem? (i := 18) rfl)
theorem lz_RX7 : (Cond.initialized RX7) ∈ wsL_law := in_r1 _ (List.mem_of_getElem? (i := 19) rfl)
theorem lf_X8_19 : (Cond.fieldLink RX8 19 (TX8 1).1 (TX8 1).2.1 (TX8 1).2.2.1) ∈ wsL_law := in_r1 _ (List.mem_of_getElem? (i := 20) rfl)
theorem lk_X8_23 : (Cond.classLink RX8 23 RX1) ∈ wsL_law := in_r1 _ (List.mem_of_getElem? (i := 21) rfl)
theorem lf_X8_25 : (Cond.fieldLink RX8 25 (TX8 2).1 (TX8 2).2.1 (TX8 2).2.2.1) ∈ wsL_law := in_r1 _ (List.mem_of_getElem? (i := 22) rfl)
theorem lk_X8_29 : (Cond.classLink RX8 29 RX5) ∈ wsL_law := in_r1 _ (List.mem_of_getElem? (i := 23) rfl)
theorem lf_X8_31 : (Cond.fieldLink RX8 31 (TX8 4).1 (TX8 4).2.1 (TX8 4).2.2.1) ∈ wsL_law := in_r2 _ (List.mem_of_getElem? (i := 0) rfl)
theorem lk_X8_35 : (Cond.classLink RX8 35 RX4) ∈ wsL_law := in_r2 _ (List.mem_of_getElem? (i := 1) rfl)
theorem lf_X8_37 : (Cond.fieldLink RX8 37 (TX8 6).1 (TX8 6).2.1 (TX8 6).2.2.1) ∈ wsL_law := in_r2 _ (List.mem_of_getElem? (i := 2) rfl)
theorem lf_X8_41 : (Cond.fieldLink RX8 41 (TX8 8).1 (TX8 8).2.1 (TX8 8).2.2.1) ∈ wsL_law := in_r2 _ (List.mem_of_getElem? (i := 3) rfl)
theorem lk_X8_44 : (Cond.classLink RX8 44 RX6) ∈ wsL_law := in_r2 _ (List.mem_of_getElem? (i := 4) rfl)
theorem ln_RX6_14 : (Cond.instantiable RX6 14) ∈ wsL_law := in_r2 _ (List.mem_of_getElem? (i := 5) rfl)
theorem lz_RX6 : (Cond.initialized RX6) ∈ wsL_law := in_r2 _ (List.mem_of_getElem? (i := 6) rfl)
theorem lf_X8_49 : (Cond.fieldLink RX8 49 (TX8 9).1 (TX8 9).2.1 (TX8 9).2.2.1) ∈ wsL_law := in_r2 _ (List.mem_of_getElem? (i := 7) rfl)
theorem lf_X8_53 : (Cond.fieldLink RX8 53 (TX8 10).1 (TX8 10).2.1 (TX8 10).2.2.1) ∈ wsL_law := in_r2 _ (List.mem_of_getElem? (i := 8) rfl)
theorem lm_X8_9 : (Cond.methodLink RX8 9 yX2_init) ∈ wsL_law := in_r2 _ (List.mem_of_getElem? (i := 9) rfl)
theorem li_yX2_init : (Cond.instanceMethod yX2_init) ∈ wsL_law := in_r2 _ (List.mem_of_getElem? (i := 10) rfl)
theorem lc_yX2_init : (Cond.code yX2_init cX2_init 1 none) ∈ wsL_law := in_r2 _ (List.mem_of_getElem? (i := 11) rfl)
theorem lm_X2_1 : (Cond.methodLink RX2 1 objectInit) ∈ wsL_law := in_r2 _ (List.mem_of_getElem? (i := 12) rfl)
theorem ld_X2_7 : (Cond.constantDouble RX2 7 (9218868437227405311)) ∈ wsL_law := in_r2 _ (List.mem_of_getElem? (i := 13) rfl)
theorem lf_X2_9 : (Cond.fieldLink RX2 9 (TX2 0).1 (TX2 0).2.1 (TX2 0).2.2.1) ∈ wsL_law := in_r2 _ (List.mem_of_getElem? (i := 14) rfl)
theorem lm_X8_18 : (Cond.methodLink RX8 18 yX7_init) ∈ wsL_law := in_r2 _ (List.mem_of_getElem? (i := 15) rfl)
theorem li_yX7_init : (Cond.instanceMethod yX7_init) ∈ wsL_law := in_r2 _ (List.mem_of_getElem? (i := 16) rfl)
theorem lc_yX7_init : (Cond.code yX7_init cX7_init 4 none) ∈ wsL_law := in_r2 _ (List.mem_of_getElem? (i := 17) rfl)
theorem lm_X7_3 : (Cond.methodLink RX7 3 objectInit) ∈ wsL_law := in_r2 _ (List.mem_of_getElem? (i := 18) rfl)
theorem la_double : (Cond.arrayClass .double) ∈ wsL_law := in_r2 _ (List.mem_of_getElem? (i := 19) rfl)
theorem lf_X7_9 : (Cond.fieldLink RX7 9 (TX7 0).1 (TX7 0).2.1 (TX7 0).2.2.1) ∈ wsL_law := in_r2 _ (List.mem_of_getElem? (i := 20) rfl)
theorem ld_X7_15 : (Cond.constantDouble RX7 15 (4611686018427387904)) ∈ wsL_law := in_r2 _ (List.mem_of_getElem? (i := 21) rfl)
theorem lm_X8_46 : (Cond.methodLink RX8 46 yX6_init) ∈ wsL_law := in_r2 _ (List.mem_of_getElem? (i := 22) rfl)
theorem li_yX6_init : (Cond.instanceMethod yX6_init) ∈ wsL_law := in_r2 _ (List.mem_of_getElem? (i := 23) rfl)
theorem lc_yX6_init : (Cond.code yX6_init cX6_init 3 none) ∈ wsL_law := in_r3 _ (List.mem_of_getElem? (i := 0) rfl)
theorem lm_X6_3 : (Cond.methodLink RX6 3 objectInit) ∈ wsL_law := in_r3 _ (List.mem_of_getElem? (i := 1) rfl)
theorem lf_X6_9 : (Cond.fieldLink RX6 9 (TX6 0).1 (TX6 0).2.1 (TX6 0).2.2.1) ∈ wsL_law := in_r3 _ (List.mem_of_getElem? (i := 2) rfl)
theorem lk_X6_15 : (Cond.classLink RX6 15 RX3) ∈ wsL_law := in_r3 _ (List.mem_of_getElem? (i := 3) rfl)
theorem ln_RX3_2 : (Cond.instantiable RX3 2) ∈ wsL_law := in_r3 _ (List.mem_of_getElem? (i := 4) rfl)
theorem lz_RX3 : (Cond.initialized RX3) ∈ wsL_law := in_r3 _ (List.mem_of_getElem? (i := 5) rfl)
theorem lf_X6_20 : (Cond.fieldLink RX6 20 (TX6 6).1 (TX6 6).2.1 (TX6 6).2.2.1) ∈ wsL_law := in_r3 _ (List.mem_of_getElem? (i := 6) rfl)
theorem lf_X6_24 : (Cond.fieldLink RX6 24 (TX6 7).1 (TX6 7).2.1 (TX6 7).2.2.1) ∈ wsL_law := in_r3 _ (List.mem_of_getElem? (i := 7) rfl)
theorem lf_X6_27 : (Cond.fieldLink RX6 27 (TX6 8).1 (TX6 8).2.1 (TX6 8).2.2.1) ∈ wsL_law := in_r3 _ (List.mem_of_getElem? (i := 8) rfl)
theorem lf_X6_30 : (Cond.fieldLink RX6 30 (TX6 9).1 (TX6 9).2.1 (TX6 9).2.2.1) ∈ wsL_law := in_r3 _ (List.mem_of_getElem? (i := 9) rfl)
theorem lf_X6_34 : (Cond.fieldLink RX6 34 (TX6 10).1 (TX6 10).2.1 (TX6 10).2.2.1) ∈ wsL_law := in_r3 _ (List.mem_of_getElem? (i := 10) rfl)
theorem lf_X6_37 : (Cond.fieldLink RX6 37 (TX6 11).1 (TX6 11).2.1 (TX6 11).2.2.1) ∈ wsL_law := in_r3 _ (List.mem_of_getElem? (i := 11) rfl)
theorem lm_X6_17 : (Cond.methodLink RX6 17 yX3_init) ∈ wsL_law := in_r3 _ (List.mem_of_getElem? (i := 12) rfl)
theorem li_yX3_init : (Cond.instanceMethod yX3_init) ∈ wsL_law := in_r3 _ (List.mem_of_getElem? (i := 13) rfl)
theorem lc_yX3_init : (Cond.code yX3_init cX3_init 2 none) ∈ wsL_law := in_r3 _ (List.mem_of_getElem? (i := 14) rfl)
theorem lm_X3_1 : (Cond.methodLink RX3 1 objectInit) ∈ wsL_law := in_r3 _ (List.mem_of_getElem? (i := 15) rfl)
theorem lf_X3_7 : (Cond.fieldLink RX3 7 (TX3 0).1 (TX3 0).2.1 (TX3 0).2.2.1) ∈ wsL_law := in_r3 _ (List.mem_of_getElem? (i := 16) rfl)
theorem la_boolean : (Cond.arrayClass .boolean) ∈ wsL_law := in_r3 _ (List.mem_of_getElem? (i := 17) rfl)
theorem lf_X3_13 : (Cond.fieldLink RX3 13 (TX3 1).1 (TX3 1).2.1 (TX3 1).2.2.1) ∈ wsL_law := in_r3 _ (List.mem_of_getElem? (i := 18) rfl)
theorem lm_L_12 : (Cond.methodLink RL 12 yX9_init) ∈ wsL_law := in_r3 _ (List.mem_of_getElem? (i := 19) rfl)
theorem li_yX9_init : (Cond.instanceMethod yX9_init) ∈ wsL_law := in_r3 _ (List.mem_of_getElem? (i := 20) rfl)
theorem lc_yX9_init : (Cond.code yX9_init cX9_init 2 none) ∈ wsL_law := in_r3 _ (List.mem_of_getElem? (i := 21) rfl)
theorem lm_X9_3 : (Cond.methodLink RX9 3 objectInit) ∈ wsL_law := in_r3 _ (List.mem_of_getElem? (i := 22) rfl)
theorem la_int : (Cond.arrayClass .int) ∈ wsL_law := in_r3 _ (List.mem_of_getElem? (i := 23) rfl)
theorem lf_X9_9 : (Cond.fieldLink RX9 9 (TX9 0).1 (TX9 0).2.1 (TX9 0).2.2.1) ∈ wsL_law := in_r4 _ (List.mem_of_getElem? (i := 0) rfl)
theorem lf_X9_15 : (Cond.fieldLink RX9 15 (TX9 1).1 (TX9 1).2.1 (TX9 1).2.2.1) ∈ wsL_law := in_r4 _ (List.mem_of_getElem? (i := 1) rfl)
theorem lf_X9_18 : (Cond.fieldLink RX9 18 (TX9 2).1 (TX9 2).2.1 (TX9 2).2.2.1) ∈ wsL_law := in_r4 _ (List.mem_of_getElem? (i := 2) rfl)
theorem lf_X9_21 : (Cond.fieldLink RX9 21 (TX9 3).1 (TX9 3).2.1 (TX9 3).2.2.1) ∈ wsL_law := in_r4 _ (List.mem_of_getElem? (i := 3) rfl)
theorem lf_X9_24 : (Cond.fieldLink RX9 24 (TX9 4).1 (TX9 4).2.1 (TX9 4).2.2.1) ∈ wsL_law := in_r4 _ (List.mem_of_getElem? (i := 4) rfl)
theorem lf_X9_27 : (Cond.fieldLink RX9 27 (TX9 5).1 (TX9 5).2.1 (TX9 5).2.2.1) ∈ wsL_law := in_r4 _ (List.mem_of_getElem? (i := 5) rfl)
theorem lf_X9_30 : (Cond.fieldLink RX9 30 (TX9 6).1 (TX9 6).2.1 (TX9 6).2.2.1) ∈ wsL_law := in_r4 _ (List.mem_of_getElem? (i := 6) rfl)
theorem lf_X9_33 : (Cond.fieldLink RX9 33 (TX9 7).1 (TX9 7).2.1 (TX9 7).2.2.1) ∈ wsL_law := in_r4 _ (List.mem_of_getElem? (i := 7) rfl)
theorem lf_X9_36 : (Cond.fieldLink RX9 36 (TX9 8).1 (TX9 8).2.1 (TX9 8).2.2.1) ∈ wsL_law := in_r4 _ (List.mem_of_getElem? (i := 8) rfl)
theorem lf_X9_40 : (Cond.fieldLink RX9 40 (TX9 10).1 (TX9 10).2.1 (TX9 10).2.2.1) ∈ wsL_law := in_r4 _ (List.mem_of_getElem? (i := 9) rfl)
theorem lf_X9_43 : (Cond.fieldLink RX9 43 (TX9 11).1 (TX9 11).2.1 (TX9 11).2.2.1) ∈ wsL_law := in_r4 _ (List.mem_of_getElem? (i := 10) rfl)
theorem lf_X9_46 : (Cond.fieldLink RX9 46 (TX9 12).1 (TX9 12).2.1 (TX9 12).2.2.1) ∈ wsL_law := in_r4 _ (List.mem_of_getElem? (i := 11) rfl)
theorem lf_X9_49 : (Cond.fieldLink RX9 49 (TX9 13).1 (TX9 13).2.1 (TX9 13).2.2.1) ∈ wsL_law := in_r4 _ (List.mem_of_getElem? (i := 12) rfl)
theorem lf_X9_52 : (Cond.fieldLink RX9 52 (TX9 15).1 (TX9 15).2.1 (TX9 15).2.2.1) ∈ wsL_law := in_r4 _ (List.mem_of_getElem? (i := 13) rfl)
theorem lf_X9_55 : (Cond.fieldLink RX9 55 (TX9 16).1 (TX9 16).2.1 (TX9 16).2.2.1) ∈ wsL_law := in_r4 _ (List.mem_of_getElem? (i := 14) rfl)
theorem lf_X9_58 : (Cond.fieldLink RX9 58 (TX9 17).1 (TX9 17).2.1 (TX9 17).2.2.1) ∈ wsL_law := in_r4 _ (List.mem_of_getElem? (i := 15) rfl)
theorem lf_X9_61 : (Cond.fieldLink RX9 61 (TX9 18).1 (TX9 18).2.1 (TX9 18).2.2.1) ∈ wsL_law := in_r4 _ (List.mem_of_getElem? (i := 16) rfl)
theorem lf_X9_64 : (Cond.fieldLink RX9 64 (TX9 19).1 (TX9 19).2.1 (TX9 19).2.2.1) ∈ wsL_law := in_r4 _ (List.mem_of_getElem? (i := 17) rfl)
theorem lf_X9_67 : (Cond.fieldLink RX9 67 (TX9 20).1 (TX9 20).2.1 (TX9 20).2.2.1) ∈ wsL_law := in_r4 _ (List.mem_of_getElem? (i := 18) rfl)
theorem lf_X9_70 : (Cond.fieldLink RX9 70 (TX9 21).1 (TX9 21).2.1 (TX9 21).2.2.1) ∈ wsL_law := in_r4 _ (List.mem_of_getElem? (i := 19) rfl)
theorem lf_X9_73 : (Cond.fieldLink RX9 73 (TX9 22).1 (TX9 22).2.1 (TX9 22).2.2.1) ∈ wsL_law := in_r4 _ (List.mem_of_getElem? (i := 20) rfl)
theorem lf_X9_77 : (Cond.fieldLink RX9 77 (TX9 23).1 (TX9 23).2.1 (TX9 23).2.2.1) ∈ wsL_law := in_r4 _ (List.mem_of_getElem? (i := 21) rfl)
theorem lf_X9_80 : (Cond.fieldLink RX9 80 (TX9 24).1 (TX9 24).2.1 (TX9 24).2.2.1) ∈ wsL_law := in_r4 _ (List.mem_of_getElem? (i := 22) rfl)
theorem lf_X9_83 : (Cond.fieldLink RX9 83 (TX9 25).1 (TX9 25).2.1 (TX9 25).2.2.1) ∈ wsL_law := in_r4 _ (List.mem_of_getElem? (i := 23) rfl)
theorem lf_X9_86 : (Cond.fieldLink RX9 86 (TX9 26).1 (TX9 26).2.1 (TX9 26).2.2.1) ∈ wsL_law := in_r5 _ (List.mem_of_getElem? (i := 0) rfl)
theorem lf_X9_89 : (Cond.fieldLink RX9 89 (TX9 27).1 (TX9 27).2.1 (TX9 27).2.2.1) ∈ wsL_law := in_r5 _ (List.mem_of_getElem? (i := 1) rfl)
theorem lf_X9_92 : (Cond.fieldLink RX9 92 (TX9 28).1 (TX9 28).2.1 (TX9 28).2.2.1) ∈ wsL_law := in_r5 _ (List.mem_of_getElem? (i := 2) rfl)
theorem lf_X9_95 : (Cond.fieldLink RX9 95 (TX9 29).1 (TX9 29).2.1 (TX9 29).2.2.1) ∈ wsL_law := in_r5 _ (List.mem_of_getElem? (i := 3) rfl)
theorem lf_X9_98 : (Cond.fieldLink RX9 98 (TX9 30).1 (TX9 30).2.1 (TX9 30).2.2.1) ∈ wsL_law := in_r5 _ (List.mem_of_getElem? (i := 4) rfl)
theorem lf_X9_101 : (Cond.fieldLink RX9 101 (TX9 31).1 (TX9 31).2.1 (TX9 31).2.2.1) ∈ wsL_law := in_r5 _ (List.mem_of_getElem? (i := 5) rfl)
theorem lf_X9_104 : (Cond.fieldLink RX9 104 (TX9 32).1 (TX9 32).2.1 (TX9 32).2.2.1) ∈ wsL_law := in_r5 _ (List.mem_of_getElem? (i := 6) rfl)
theorem lf_X9_107 : (Cond.fieldLink RX9 107 (TX9 33).1 (TX9 33).2.1 (TX9 33).2.2.1) ∈ wsL_law := in_r5 _ (List.mem_of_getElem? (i := 7) rfl)
theorem lf_X9_110 : (Cond.fieldLink RX9 110 (TX9 34).1 (TX9 34).2.1 (TX9 34).2.2.1) ∈ wsL_law := in_r5 _ (List.mem_of_getElem? (i := 8) rfl)
theorem lf_X9_113 : (Cond.fieldLink RX9 113 (TX9 35).1 (TX9 35).2.1 (TX9 35).2.2.1) ∈ wsL_law := in_r5 _ (List.mem_of_getElem? (i := 9) rfl)
theorem lf_X9_116 : (Cond.fieldLink RX9 116 (TX9 36).1 (TX9 36).2.1 (TX9 36).2.2.1) ∈ wsL_law := in_r5 _ (List.mem_of_getElem? (i := 10) rfl)
theorem lf_X9_119 : (Cond.fieldLink RX9 119 (TX9 37).1 (TX9 37).2.1 (TX9 37).2.2.1) ∈ wsL_law := in_r5 _ (List.mem_of_getElem? (i := 11) rfl)
theorem lf_X9_122 : (Cond.fieldLink RX9 122 (TX9 38).1 (TX9 38).2.1 (TX9 38).2.2.1) ∈ wsL_law := in_r5 _ (List.mem_of_getElem? (i := 12) rfl)
theorem lf_X9_125 : (Cond.fieldLink RX9 125 (TX9 39).1 (TX9 39).2.1 (TX9 39).2.2.1) ∈ wsL_law := in_r5 _ (List.mem_of_getElem? (i := 13) rfl)
theorem lf_X9_128 : (Cond.fieldLink RX9 128 (TX9 40).1 (TX9 40).2.1 (TX9 40).2.2.1) ∈ wsL_law := in_r5 _ (List.mem_of_getElem? (i := 14) rfl)
theorem lf_X9_131 : (Cond.fieldLink RX9 131 (TX9 41).1 (TX9 41).2.1 (TX9 41).2.2.1) ∈ wsL_law := in_r5 _ (List.mem_of_getElem? (i := 15) rfl)
theorem lf_X9_134 : (Cond.fieldLink RX9 134 (TX9 42).1 (TX9 42).2.1 (TX9 42).2.2.1) ∈ wsL_law := in_r5 _ (List.mem_of_getElem? (i := 16) rfl)
theorem lf_X9_137 : (Cond.fieldLink RX9 137 (TX9 43).1 (TX9 43).2.1 (TX9 43).2.2.1) ∈ wsL_law := in_r5 _ (List.mem_of_getElem? (i := 17) rfl)
theorem lf_X9_140 : (Cond.fieldLink RX9 140 (TX9 44).1 (TX9 44).2.1 (TX9 44).2.2.1) ∈ wsL_law := in_r5 _ (List.mem_of_getElem? (i := 18) rfl)
theorem lf_X9_143 : (Cond.fieldLink RX9 143 (TX9 46).1 (TX9 46).2.1 (TX9 46).2.2.1) ∈ wsL_law := in_r5 _ (List.mem_of_getElem? (i := 19) rfl)
theorem lf_X9_146 : (Cond.fieldLink RX9 146 (TX9 47).1 (TX9 47).2.1 (TX9 47).2.2.1) ∈ wsL_law := in_r5 _ (List.mem_of_getElem? (i := 20) rfl)
theorem lf_X9_149 : (Cond.fieldLink RX9 149 (TX9 48).1 (TX9 48).2.1 (TX9 48).2.2.1) ∈ wsL_law := in_r5 _ (List.mem_of_getElem? (i := 21) rfl)
theorem lf_X9_152 : (Cond.fieldLink RX9 152 (TX9 49).1 (TX9 49).2.1 (TX9 49).2.2.1) ∈ wsL_law := in_r5 _ (List.mem_of_getElem? (i := 22) rfl)
theorem lf_X9_155 : (Cond.fieldLink RX9 155 (TX9 50).1 (TX9 50).2.1 (TX9 50).2.2.1) ∈ wsL_law := in_r5 _ (List.mem_of_getElem? (i := 23) rfl)
theorem lf_X9_158 : (Cond.fieldLink RX9 158 (TX9 51).1 (TX9 51).2.1 (TX9 51).2.2.1) ∈ wsL_law := in_r6 _ (List.mem_of_getElem? (i := 0) rfl)
theorem lf_X9_161 : (Cond.fieldLink RX9 161 (TX9 52).1 (TX9 52).2.1 (TX9 52).2.2.1) ∈ wsL_law := in_r6 _ (List.mem_of_getElem? (i := 1) rfl)
theorem lf_X9_164 : (Cond.fieldLink RX9 164 (TX9 53).1 (TX9 53).2.1 (TX9 53).2.2.1) ∈ wsL_law := in_r6 _ (List.mem_of_getElem? (i := 2) rfl)
theorem lf_X9_167 : (Cond.fieldLink RX9 167 (TX9 54).1 (TX9 54).2.1 (TX9 54).2.2.1) ∈ wsL_law := in_r6 _ (List.mem_of_getElem? (i := 3) rfl)
theorem lf_X9_170 : (Cond.fieldLink RX9 170 (TX9 55).1 (TX9 55).2.1 (TX9 55).2.2.1) ∈ wsL_law := in_r6 _ (List.mem_of_getElem? (i := 4) rfl)
theorem lf_X9_173 : (Cond.fieldLink RX9 173 (TX9 56).1 (TX9 56).2.1 (TX9 56).2.2.1) ∈ wsL_law := in_r6 _ (List.mem_of_getElem? (i := 5) rfl)
theorem lf_X9_176 : (Cond.fieldLink RX9 176 (TX9 57).1 (TX9 57).2.1 (TX9 57).2.2.1) ∈ wsL_law := in_r6 _ (List.mem_of_getElem? (i := 6) rfl)
theorem lf_X9_179 : (Cond.fieldLink RX9 179 (TX9 58).1 (TX9 58).2.1 (TX9 58).2.2.1) ∈ wsL_law := in_r6 _ (List.mem_of_getElem? (i := 7) rfl)
theorem lf_X9_182 : (Cond.fieldLink RX9 182 (TX9 59).1 (TX9 59).2.1 (TX9 59).2.2.1) ∈ wsL_law := in_r6 _ (List.mem_of_getElem? (i := 8) rfl)
theorem lm_L_13 : (Cond.methodLink RL 13 yX8_law) ∈ wsL_law := in_r6 _ (List.mem_of_getElem? (i := 9) rfl)
theorem li_yX8_law : (Cond.instanceMethod yX8_law) ∈ wsL_law := in_r6 _ (List.mem_of_getElem? (i := 10) rfl)
theorem ls_yX8_law : (Cond.selects RX8 yX8_law yX8_law) ∈ wsL_law := in_r6 _ (List.mem_of_getElem? (i := 11) rfl)
theorem lc_yX8_law : (Cond.code yX8_law cX8_law 3 (some .int)) ∈ wsL_law := in_r6 _ (List.mem_of_getElem? (i := 12) rfl)
theorem lf_X8_56 : (Cond.fieldLink RX8 56 (TX8 3).1 (TX8 3).2.1 (TX8 3).2.2.1) ∈ wsL_law := in_r6 _ (List.mem_of_getElem? (i := 13) rfl)
theorem ln_RX1_14 : (Cond.instantiable RX1 14) ∈ wsL_law := in_r6 _ (List.mem_of_getElem? (i := 14) rfl)
theorem lz_RX1 : (Cond.initialized RX1) ∈ wsL_law := in_r6 _ (List.mem_of_getElem? (i := 15) rfl)
theorem lm_X8_60 : (Cond.methodLink RX8 60 yX1_init) ∈ wsL_law := in_r6 _ (List.mem_of_getElem? (i := 16) rfl)
theorem li_yX1_init : (Cond.instanceMethod yX1_init) ∈ wsL_law := in_r6 _ (List.mem_of_getElem? (i := 17) rfl)
theorem lc_yX1_init : (Cond.code yX1_init cX1_init 7 none) ∈ wsL_law := in_r6 _ (List.mem_of_getElem? (i := 18) rfl)
theorem lm_X1_3 : (Cond.methodLink RX1 3 objectInit) ∈ wsL_law := in_r6 _ (List.mem_of_getElem? (i := 19) rfl)
theorem lf_X1_9 : (Cond.fieldLink RX1 9 (TX1 0).1 (TX1 0).2.1 (TX1 0).2.2.1) ∈ wsL_law := in_r6 _ (List.mem_of_getElem? (i := 20) rfl)
theorem lf_X1_15 : (Cond.fieldLink RX1 15 (TX1 1).1 (TX1 1).2.1 (TX1 1).2.2.1) ∈ wsL_law := in_r6 _ (List.mem_of_getElem? (i := 21) rfl)
theorem lf_X1_18 : (Cond.fieldLink RX1 18 (TX1 2).1 (TX1 2).2.1 (TX1 2).2.2.1) ∈ wsL_law := in_r6 _ (List.mem_of_getElem? (i := 22) rfl)
theorem lf_X1_21 : (Cond.fieldLink RX1 21 (TX1 3).1 (TX1 3).2.1 (TX1 3).2.2.1) ∈ wsL_law := in_r6 _ (List.mem_of_getElem? (i := 23) rfl)
theorem lf_X1_25 : (Cond.fieldLink RX1 25 (TX1 4).1 (TX1 4).2.1 (TX1 4).2.2.1) ∈ wsL_law := in_r7 _ (List.mem_of_getElem? (i := 0) rfl)
theorem lf_X1_29 : (Cond.fieldLink RX1 29 (TX1 5).1 (TX1 5).2.1 (TX1 5).2.2.1) ∈ wsL_law := in_r7 _ (List.mem_of_getElem? (i := 1) rfl)
theorem lf_X1_33 : (Cond.fieldLink RX1 33 (TX1 6).1 (TX1 6).2.1 (TX1 6).2.2.1) ∈ wsL_law := in_r7 _ (List.mem_of_getElem? (i := 2) rfl)
theorem lf_X1_36 : (Cond.fieldLink RX1 36 (TX1 7).1 (TX1 7).2.1 (TX1 7).2.2.1) ∈ wsL_law := in_r7 _ (List.mem_of_getElem? (i := 3) rfl)
theorem lf_X1_39 : (Cond.fieldLink RX1 39 (TX1 8).1 (TX1 8).2.1 (TX1 8).2.2.1) ∈ wsL_law := in_r7 _ (List.mem_of_getElem? (i := 4) rfl)
theorem lf_X1_42 : (Cond.fieldLink RX1 42 (TX1 9).1 (TX1 9).2.1 (TX1 9).2.2.1) ∈ wsL_law := in_r7 _ (List.mem_of_getElem? (i := 5) rfl)
theorem lk_X1_46 : (Cond.classLink RX1 46 RX3) ∈ wsL_law := in_r7 _ (List.mem_of_getElem? (i := 6) rfl)
theorem lf_X1_51 : (Cond.fieldLink RX1 51 (TX1 13).1 (TX1 13).2.1 (TX1 13).2.2.1) ∈ wsL_law := in_r7 _ (List.mem_of_getElem? (i := 7) rfl)
theorem lf_X1_55 : (Cond.fieldLink RX1 55 (TX1 11).1 (TX1 11).2.1 (TX1 11).2.2.1) ∈ wsL_law := in_r7 _ (List.mem_of_getElem? (i := 8) rfl)
theorem lm_X1_48 : (Cond.methodLink RX1 48 yX3_init) ∈ wsL_law := in_r7 _ (List.mem_of_getElem? (i := 9) rfl)
theorem lm_L_17 : (Cond.methodLink RL 17 yX9_law) ∈ wsL_law := in_r7 _ (List.mem_of_getElem? (i := 10) rfl)
theorem li_yX9_law : (Cond.instanceMethod yX9_law) ∈ wsL_law := in_r7 _ (List.mem_of_getElem? (i := 11) rfl)
theorem ls_yX9_law : (Cond.selects RX9 yX9_law yX9_law) ∈ wsL_law := in_r7 _ (List.mem_of_getElem? (i := 12) rfl)
theorem lc_yX9_law : (Cond.code yX9_law cX9_law 3 (some .int)) ∈ wsL_law := in_r7 _ (List.mem_of_getElem? (i := 13) rfl)
theorem lf_X9_347 : (Cond.fieldLink RX9 347 (TX9 9).1 (TX9 9).2.1 (TX9 9).2.2.1) ∈ wsL_law := in_r7 _ (List.mem_of_getElem? (i := 14) rfl)
theorem lm_X9_343 : (Cond.methodLink RX9 343 yX9_in) ∈ wsL_law := in_r7 _ (List.mem_of_getElem? (i := 15) rfl)
theorem lt_yX9_in : (Cond.static yX9_in) ∈ wsL_law := in_r7 _ (List.mem_of_getElem? (i := 16) rfl)
theorem lc_yX9_in : (Cond.code yX9_in cX9_in 3 (some .boolean)) ∈ wsL_law := in_r7 _ (List.mem_of_getElem? (i := 17) rfl)
theorem lm_L_20 : (Cond.methodLink RL 20 yX8_constant) ∈ wsL_law := in_r7 _ (List.mem_of_getElem? (i := 18) rfl)
theorem li_yX8_constant : (Cond.instanceMethod yX8_constant) ∈ wsL_law := in_r7 _ (List.mem_of_getElem? (i := 19) rfl)
theorem ls_yX8_constant : (Cond.selects RX8 yX8_constant yX8_constant) ∈ wsL_law := in_r7 _ (List.mem_of_getElem? (i := 20) rfl)
theorem lc_yX8_constant : (Cond.code yX8_constant cX8_constant 6 (some .int)) ∈ wsL_law := in_r7 _ (List.mem_of_getElem? (i := 21) rfl)
theorem lm_X8_63 : (Cond.methodLink RX8 63 yX8_lawAt) ∈ wsL_law := in_r7 _ (List.mem_of_getElem? (i := 22) rfl)
theorem li_yX8_lawAt : (Cond.instanceMethod yX8_lawAt) ∈ wsL_law := in_r7 _ (List.mem_of_getElem? (i := 23) rfl)
theorem ls_yX8_lawAt : (Cond.selects RX8 yX8_lawAt yX8_lawAt) ∈ wsL_law := in_r8 _ (List.mem_of_getElem? (i := 0) rfl)
theorem lc_yX8_lawAt : (Cond.code yX8_lawAt cX8_lawAt 2 (some (.object "MotionStepper$Law"))) ∈ wsL_law := in_r8 _ (List.mem_of_getElem? (i := 1) rfl)
theorem lm_X8_67 : (Cond.methodLink RX8 67 yX8_isK) ∈ wsL_law := in_r8 _ (List.mem_of_getElem? (i := 2) rfl)
theorem lt_yX8_isK : (Cond.static yX8_isK) ∈ wsL_law := in_r8 _ (List.mem_of_getElem? (i := 3) rfl)
theorem lc_yX8_isK : (Cond.code yX8_isK cX8_isK 1 (some .boolean)) ∈ wsL_law := in_r8 _ (List.mem_of_getElem? (i := 4) rfl)
theorem lm_X8_71 : (Cond.methodLink RX8 71 yX8_quotient) ∈ wsL_law := in_r8 _ (List.mem_of_getElem? (i := 5) rfl)
theorem lt_yX8_quotient : (Cond.static yX8_quotient) ∈ wsL_law := in_r8 _ (List.mem_of_getElem? (i := 6) rfl)
theorem lc_yX8_quotient : (Cond.code yX8_quotient cX8_quotient 3 (some .double)) ∈ wsL_law := in_r8 _ (List.mem_of_getElem? (i := 7) rfl)
theorem lm_X8_75 : (Cond.methodLink RX8 75 yX1_add) ∈ wsL_law := in_r8 _ (List.mem_of_getElem? (i := 8) rfl)
theorem li_yX1_add : (Cond.instanceMethod yX1_add) ∈ wsL_law := in_r8 _ (List.mem_of_getElem? (i := 9) rfl)
theorem ls_yX1_add : (Cond.selects RX1 yX1_add yX1_add) ∈ wsL_law := in_r8 _ (List.mem_of_getElem? (i := 10) rfl)
theorem lc_yX1_add : (Cond.code yX1_add cX1_add 7 (some .int)) ∈ wsL_law := in_r8 _ (List.mem_of_getElem? (i := 11) rfl)
theorem lf_X1_58 : (Cond.fieldLink RX1 58 (TX1 10).1 (TX1 10).2.1 (TX1 10).2.2.1) ∈ wsL_law := in_r8 _ (List.mem_of_getElem? (i := 12) rfl)
theorem lm_L_24 : (Cond.methodLink RL 24 yX9_constant) ∈ wsL_law := in_r8 _ (List.mem_of_getElem? (i := 13) rfl)
theorem li_yX9_constant : (Cond.instanceMethod yX9_constant) ∈ wsL_law := in_r8 _ (List.mem_of_getElem? (i := 14) rfl)
theorem ls_yX9_constant : (Cond.selects RX9 yX9_constant yX9_constant) ∈ wsL_law := in_r8 _ (List.mem_of_getElem? (i := 15) rfl)
theorem lc_yX9_constant : (Cond.code yX9_constant cX9_constant 6 (some .int)) ∈ wsL_law := in_r8 _ (List.mem_of_getElem? (i := 16) rfl)
theorem lm_X9_350 : (Cond.methodLink RX9 350 yX9_comesNode) ∈ wsL_law := in_r8 _ (List.mem_of_getElem? (i := 17) rfl)
theorem li_yX9_comesNode : (Cond.instanceMethod yX9_comesNode) ∈ wsL_law := in_r8 _ (List.mem_of_getElem? (i := 18) rfl)
theorem ls_yX9_comesNode : (Cond.selects RX9 yX9_comesNode yX9_comesNode) ∈ wsL_law := in_r8 _ (List.mem_of_getElem? (i := 19) rfl)
theorem lc_yX9_comesNode : (Cond.code yX9_comesNode cX9_comesNode 7 (some .int)) ∈ wsL_law := in_r8 _ (List.mem_of_getElem? (i := 20) rfl)
theorem lm_X9_354 : (Cond.methodLink RX9 354 yX9_number) ∈ wsL_law := in_r8 _ (List.mem_of_getElem? (i := 21) rfl)
theorem lt_yX9_number : (Cond.static yX9_number) ∈ wsL_law := in_r8 _ (List.mem_of_getElem? (i := 22) rfl)
theorem lc_yX9_number : (Cond.code yX9_number cX9_number 3 (some .double)) ∈ wsL_law := in_r8 _ (List.mem_of_getElem? (i := 23) rfl)
theorem lm_L_25 : (Cond.methodLink RL 25 yX8_node) ∈ wsL_law := in_r9 _ (List.mem_of_getElem? (i := 0) rfl)
theorem li_yX8_node : (Cond.instanceMethod yX8_node) ∈ wsL_law := in_r9 _ (List.mem_of_getElem? (i := 1) rfl)
theorem ls_yX8_node : (Cond.selects RX8 yX8_node yX8_node) ∈ wsL_law := in_r9 _ (List.mem_of_getElem? (i := 2) rfl)
theorem lc_yX8_node : (Cond.code yX8_node cX8_node 7 (some .int)) ∈ wsL_law := in_r9 _ (List.mem_of_getElem? (i := 3) rfl)
theorem lm_X8_79 : (Cond.methodLink RX8 79 yX8_fits) ∈ wsL_law := in_r9 _ (List.mem_of_getElem? (i := 4) rfl)
theorem li_yX8_fits : (Cond.instanceMethod yX8_fits) ∈ wsL_law := in_r9 _ (List.mem_of_getElem? (i := 5) rfl)
theorem ls_yX8_fits : (Cond.selects RX8 yX8_fits yX8_fits) ∈ wsL_law := in_r9 _ (List.mem_of_getElem? (i := 6) rfl)
theorem lc_yX8_fits : (Cond.code yX8_fits cX8_fits 6 (some .boolean)) ∈ wsL_law := in_r9 _ (List.mem_of_getElem? (i := 7) rfl)
theorem lf_X8_100 : (Cond.fieldLink RX8 100 (TX8 5).1 (TX8 5).2.1 (TX8 5).2.2.1) ∈ wsL_law := in_r9 _ (List.mem_of_getElem? (i := 8) rfl)
theorem lm_X8_83 : (Cond.methodLink RX8 83 yX1_hasVariable) ∈ wsL_law := in_r9 _ (List.mem_of_getElem? (i := 9) rfl)
theorem li_yX1_hasVariable : (Cond.instanceMethod yX1_hasVariable) ∈ wsL_law := in_r9 _ (List.mem_of_getElem? (i := 10) rfl)
theorem ls_yX1_hasVariable : (Cond.selects RX1 yX1_hasVariable yX1_hasVariable) ∈ wsL_law := in_r9 _ (List.mem_of_getElem? (i := 11) rfl)
theorem lc_yX1_hasVariable : (Cond.code yX1_hasVariable cX1_hasVariable 2 (some .boolean)) ∈ wsL_law := in_r9 _ (List.mem_of_getElem? (i := 12) rfl)
theorem lm_X8_86 : (Cond.methodLink RX8 86 yX1_hasNode) ∈ wsL_law := in_r9 _ (List.mem_of_getElem? (i := 13) rfl)
theorem li_yX1_hasNode : (Cond.instanceMethod yX1_hasNode) ∈ wsL_law := in_r9 _ (List.mem_of_getElem? (i := 14) rfl)
theorem ls_yX1_hasNode : (Cond.selects RX1 yX1_hasNode yX1_hasNode) ∈ wsL_law := in_r9 _ (List.mem_of_getElem? (i := 15) rfl)
theorem lc_yX1_hasNode : (Cond.code yX1_hasNode cX1_hasNode 2 (some .boolean)) ∈ wsL_law := in_r9 _ (List.mem_of_getElem? (i := 16) rfl)
theorem lm_L_29 : (Cond.methodLink RL 29 yX9_node) ∈ wsL_law := in_r9 _ (List.mem_of_getElem? (i := 17) rfl)
theorem li_yX9_node : (Cond.instanceMethod yX9_node) ∈ wsL_law := in_r9 _ (List.mem_of_getElem? (i := 18) rfl)
theorem ls_yX9_node : (Cond.selects RX9 yX9_node yX9_node) ∈ wsL_law := in_r9 _ (List.mem_of_getElem? (i := 19) rfl)
theorem lc_yX9_node : (Cond.code yX9_node cX9_node 8 (some .int)) ∈ wsL_law := in_r9 _ (List.mem_of_getElem? (i := 20) rfl)
theorem lf_X9_358 : (Cond.fieldLink RX9 358 (TX9 14).1 (TX9 14).2.1 (TX9 14).2.2.1) ∈ wsL_law := in_r9 _ (List.mem_of_getElem? (i := 21) rfl)
theorem lm_L_30 : (Cond.methodLink RL 30 yX8_side) ∈ wsL_law := in_r9 _ (List.mem_of_getElem? (i := 22) rfl)
theorem li_yX8_side : (Cond.instanceMethod yX8_side) ∈ wsL_law := in_r9 _ (List.mem_of_getElem? (i := 23) rfl)
theorem ls_yX8_side : (Cond.selects RX8 yX8_side yX8_side) ∈ wsL_law := in_r10 _ (List.mem_of_getElem? (i := 0) rfl)
theorem lc_yX8_side : (Cond.code yX8_side cX8_side 7 (some .int)) ∈ wsL_law := in_r10 _ (List.mem_of_getElem? (i := 1) rfl)
theorem lf_X8_89 : (Cond.fieldLink RX8 89 (TX8 7).1 (TX8 7).2.1 (TX8 7).2.2.1) ∈ wsL_law := in_r10 _ (List.mem_of_getElem? (i := 2) rfl)
theorem lf_X8_92 : (Cond.fieldLink RX8 92 (TX4 0).1 (TX4 0).2.1 (TX4 0).2.2.1) ∈ wsL_law := in_r10 _ (List.mem_of_getElem? (i := 3) rfl)
theorem lm_X8_96 : (Cond.methodLink RX8 96 yX1_putSide) ∈ wsL_law := in_r10 _ (List.mem_of_getElem? (i := 4) rfl)
theorem li_yX1_putSide : (Cond.instanceMethod yX1_putSide) ∈ wsL_law := in_r10 _ (List.mem_of_getElem? (i := 5) rfl)
theorem ls_yX1_putSide : (Cond.selects RX1 yX1_putSide yX1_putSide) ∈ wsL_law := in_r10 _ (List.mem_of_getElem? (i := 6) rfl)
theorem lc_yX1_putSide : (Cond.code yX1_putSide cX1_putSide 4 none) ∈ wsL_law := in_r10 _ (List.mem_of_getElem? (i := 7) rfl)
theorem lf_X1_61 : (Cond.fieldLink RX1 61 (TX1 12).1 (TX1 12).2.1 (TX1 12).2.2.1) ∈ wsL_law := in_r10 _ (List.mem_of_getElem? (i := 8) rfl)
theorem lm_X1_64 : (Cond.methodLink RX1 64 Lib.Math.max.name) ∈ wsL_law := in_r10 _ (List.mem_of_getElem? (i := 9) rfl)
theorem lt_Lib_Math_max_name : (Cond.static Lib.Math.max.name) ∈ wsL_law := in_r10 _ (List.mem_of_getElem? (i := 10) rfl)
theorem lz_java_lang_Math : (Cond.initialized "java/lang/Math") ∈ wsL_law := in_r10 _ (List.mem_of_getElem? (i := 11) rfl)
theorem lc_Lib_Math_max_name : (Cond.code Lib.Math.max.name Lib.Math.max.code 2 (some .int)) ∈ wsL_law := in_r10 _ (List.mem_of_getElem? (i := 12) rfl)
theorem lm_L_34 : (Cond.methodLink RL 34 yX9_side) ∈ wsL_law := in_r10 _ (List.mem_of_getElem? (i := 13) rfl)
theorem li_yX9_side : (Cond.instanceMethod yX9_side) ∈ wsL_law := in_r10 _ (List.mem_of_getElem? (i := 14) rfl)
theorem ls_yX9_side : (Cond.selects RX9 yX9_side yX9_side) ∈ wsL_law := in_r10 _ (List.mem_of_getElem? (i := 15) rfl)
theorem lc_yX9_side : (Cond.code yX9_side cX9_side 5 (some .int)) ∈ wsL_law := in_r10 _ (List.mem_of_getElem? (i := 16) rfl)
theorem lf_X9_361 : (Cond.fieldLink RX9 361 (TX9 45).1 (TX9 45).2.1 (TX9 45).2.2.1) ∈ wsL_law := in_r10 _ (List.mem_of_getElem? (i := 17) rfl)
theorem lm_L_35 : (Cond.methodLink RL 35 yX8_signal) ∈ wsL_law := in_r10 _ (List.mem_of_getElem? (i := 18) rfl)
theorem li_yX8_signal : (Cond.instanceMethod yX8_signal) ∈ wsL_law := in_r10 _ (List.mem_of_getElem? (i := 19) rfl)
theorem ls_yX8_signal : (Cond.selects RX8 yX8_signal yX8_signal) ∈ wsL_law := in_r10 _ (List.mem_of_getElem? (i := 20) rfl)
theorem lc_yX8_signal : (Cond.code yX8_signal cX8_signal 2 (some .int)) ∈ wsL_law := in_r10 _ (List.mem_of_getElem? (i := 21) rfl)
theorem ln_RX5_4 : (Cond.instantiable RX5 4) ∈ wsL_law := in_r10 _ (List.mem_of_getElem? (i := 22) rfl)
theorem lz_RX5 : (Cond.initialized RX5) ∈ wsL_law := in_r10 _ (List.mem_of_getElem? (i := 23) rfl)
theorem lm_X8_103 : (Cond.methodLink RX8 103 yX5_init) ∈ wsL_law := in_r11 _ (List.mem_of_getElem? (i := 0) rfl)
theorem li_yX5_init : (Cond.instanceMethod yX5_init) ∈ wsL_law := in_r11 _ (List.mem_of_getElem? (i := 1) rfl)
theorem lc_yX5_init : (Cond.code yX5_init cX5_init 2 none) ∈ wsL_law := in_r11 _ (List.mem_of_getElem? (i := 2) rfl)
theorem lm_X5_3 : (Cond.methodLink RX5 3 objectInit) ∈ wsL_law := in_r11 _ (List.mem_of_getElem? (i := 3) rfl)
theorem lf_X5_9 : (Cond.fieldLink RX5 9 (TX5 0).1 (TX5 0).2.1 (TX5 0).2.2.1) ∈ wsL_law := in_r11 _ (List.mem_of_getElem? (i := 4) rfl)
theorem lf_X5_15 : (Cond.fieldLink RX5 15 (TX5 1).1 (TX5 1).2.1 (TX5 1).2.2.1) ∈ wsL_law := in_r11 _ (List.mem_of_getElem? (i := 5) rfl)
theorem lf_X5_19 : (Cond.fieldLink RX5 19 (TX5 2).1 (TX5 2).2.1 (TX5 2).2.2.1) ∈ wsL_law := in_r11 _ (List.mem_of_getElem? (i := 6) rfl)
theorem lm_L_39 : (Cond.methodLink RL 39 yX9_signal) ∈ wsL_law := in_r11 _ (List.mem_of_getElem? (i := 7) rfl)
theorem li_yX9_signal : (Cond.instanceMethod yX9_signal) ∈ wsL_law := in_r11 _ (List.mem_of_getElem? (i := 8) rfl)
theorem ls_yX9_signal : (Cond.selects RX9 yX9_signal yX9_signal) ∈ wsL_law := in_r11 _ (List.mem_of_getElem? (i := 9) rfl)
theorem lc_yX9_signal : (Cond.code yX9_signal cX9_signal 2 (some .int)) ∈ wsL_law := in_r11 _ (List.mem_of_getElem? (i := 10) rfl)
theorem lm_L_40 : (Cond.methodLink RL 40 yX8_point) ∈ wsL_law := in_r11 _ (List.mem_of_getElem? (i := 11) rfl)
theorem li_yX8_point : (Cond.instanceMethod yX8_point) ∈ wsL_law := in_r11 _ (List.mem_of_getElem? (i := 12) rfl)
theorem ls_yX8_point : (Cond.selects RX8 yX8_point yX8_point) ∈ wsL_law := in_r11 _ (List.mem_of_getElem? (i := 13) rfl)
theorem lc_yX8_point : (Cond.code yX8_point cX8_point 8 (some .int)) ∈ wsL_law := in_r11 _ (List.mem_of_getElem? (i := 14) rfl)
theorem lm_X8_106 : (Cond.methodLink RX8 106 yX5_add) ∈ wsL_law := in_r11 _ (List.mem_of_getElem? (i := 15) rfl)
theorem li_yX5_add : (Cond.instanceMethod yX5_add) ∈ wsL_law := in_r11 _ (List.mem_of_getElem? (i := 16) rfl)
theorem ls_yX5_add : (Cond.selects RX5 yX5_add yX5_add) ∈ wsL_law := in_r11 _ (List.mem_of_getElem? (i := 17) rfl)
theorem lc_yX5_add : (Cond.code yX5_add cX5_add 5 (some .int)) ∈ wsL_law := in_r11 _ (List.mem_of_getElem? (i := 18) rfl)
theorem lf_X5_22 : (Cond.fieldLink RX5 22 (TX5 3).1 (TX5 3).2.1 (TX5 3).2.2.1) ∈ wsL_law := in_r11 _ (List.mem_of_getElem? (i := 19) rfl)
theorem lm_L_44 : (Cond.methodLink RL 44 yX9_point) ∈ wsL_law := in_r11 _ (List.mem_of_getElem? (i := 20) rfl)
theorem li_yX9_point : (Cond.instanceMethod yX9_point) ∈ wsL_law := in_r11 _ (List.mem_of_getElem? (i := 21) rfl)
theorem ls_yX9_point : (Cond.selects RX9 yX9_point yX9_point) ∈ wsL_law := in_r11 _ (List.mem_of_getElem? (i := 22) rfl)
theorem lc_yX9_point : (Cond.code yX9_point cX9_point 10 (some .int)) ∈ wsL_law := in_r11 _ (List.mem_of_getElem? (i := 23) rfl)
theorem lm_L_45 : (Cond.methodLink RL 45 yX8_many) ∈ wsL_law := in_r12 _ (List.mem_of_getElem? (i := 0) rfl)
theorem li_yX8_many : (Cond.instanceMethod yX8_many) ∈ wsL_law := in_r12 _ (List.mem_of_getElem? (i := 1) rfl)
theorem ls_yX8_many : (Cond.selects RX8 yX8_many yX8_many) ∈ wsL_law := in_r12 _ (List.mem_of_getElem? (i := 2) rfl)
theorem lc_yX8_many : (Cond.code yX8_many cX8_many 3 (some .int)) ∈ wsL_law := in_r12 _ (List.mem_of_getElem? (i := 3) rfl)
theorem lf_X8_109 : (Cond.fieldLink RX8 109 (TX1 10).1 (TX1 10).2.1 (TX1 10).2.2.1) ∈ wsL_law := in_r12 _ (List.mem_of_getElem? (i := 4) rfl)
theorem lm_L_48 : (Cond.methodLink RL 48 yX9_many) ∈ wsL_law := in_r12 _ (List.mem_of_getElem? (i := 5) rfl)
theorem li_yX9_many : (Cond.instanceMethod yX9_many) ∈ wsL_law := in_r12 _ (List.mem_of_getElem? (i := 6) rfl)
theorem ls_yX9_many : (Cond.selects RX9 yX9_many yX9_many) ∈ wsL_law := in_r12 _ (List.mem_of_getElem? (i := 7) rfl)
theorem lc_yX9_many : (Cond.code yX9_many cX9_many 2 (some .int)) ∈ wsL_law := in_r12 _ (List.mem_of_getElem? (i := 8) rfl)
theorem lm_L_49 : (Cond.methodLink RL 49 yX8_run) ∈ wsL_law := in_r12 _ (List.mem_of_getElem? (i := 9) rfl)
theorem li_yX8_run : (Cond.instanceMethod yX8_run) ∈ wsL_law := in_r12 _ (List.mem_of_getElem? (i := 10) rfl)
theorem ls_yX8_run : (Cond.selects RX8 yX8_run yX8_run) ∈ wsL_law := in_r12 _ (List.mem_of_getElem? (i := 11) rfl)
theorem lc_yX8_run : (Cond.code yX8_run cX8_run 6 (some .int)) ∈ wsL_law := in_r12 _ (List.mem_of_getElem? (i := 12) rfl)
theorem ln_RX4_12 : (Cond.instantiable RX4 12) ∈ wsL_law := in_r12 _ (List.mem_of_getElem? (i := 13) rfl)
theorem lz_RX4 : (Cond.initialized RX4) ∈ wsL_law := in_r12 _ (List.mem_of_getElem? (i := 14) rfl)
theorem lm_X8_112 : (Cond.methodLink RX8 112 yX1_isReady) ∈ wsL_law := in_r12 _ (List.mem_of_getElem? (i := 15) rfl)
theorem li_yX1_isReady : (Cond.instanceMethod yX1_isReady) ∈ wsL_law := in_r12 _ (List.mem_of_getElem? (i := 16) rfl)
theorem ls_yX1_isReady : (Cond.selects RX1 yX1_isReady yX1_isReady) ∈ wsL_law := in_r12 _ (List.mem_of_getElem? (i := 17) rfl)
theorem lc_yX1_isReady : (Cond.code yX1_isReady cX1_isReady 2 (some .boolean)) ∈ wsL_law := in_r12 _ (List.mem_of_getElem? (i := 18) rfl)
theorem lm_X8_116 : (Cond.methodLink RX8 116 yX4_init) ∈ wsL_law := in_r12 _ (List.mem_of_getElem? (i := 19) rfl)
theorem li_yX4_init : (Cond.instanceMethod yX4_init) ∈ wsL_law := in_r12 _ (List.mem_of_getElem? (i := 20) rfl)
theorem lc_yX4_init : (Cond.code yX4_init cX4_init 5 none) ∈ wsL_law := in_r12 _ (List.mem_of_getElem? (i := 21) rfl)
theorem lm_X4_3 : (Cond.methodLink RX4 3 objectInit) ∈ wsL_law := in_r12 _ (List.mem_of_getElem? (i := 22) rfl)
theorem lf_X4_9 : (Cond.fieldLink RX4 9 (TX4 0).1 (TX4 0).2.1 (TX4 0).2.2.1) ∈ wsL_law := in_r12 _ (List.mem_of_getElem? (i := 23) rfl)
theorem lf_X4_15 : (Cond.fieldLink RX4 15 (TX4 1).1 (TX4 1).2.1 (TX4 1).2.2.1) ∈ wsL_law := in_r13 _ (List.mem_of_getElem? (i := 0) rfl)
theorem lk_X4_19 : (Cond.classLink RX4 19 RX3) ∈ wsL_law := in_r13 _ (List.mem_of_getElem? (i := 1) rfl)
theorem lf_X4_24 : (Cond.fieldLink RX4 24 (TX4 2).1 (TX4 2).2.1 (TX4 2).2.2.1) ∈ wsL_law := in_r13 _ (List.mem_of_getElem? (i := 2) rfl)
theorem lf_X4_28 : (Cond.fieldLink RX4 28 (TX4 3).1 (TX4 3).2.1 (TX4 3).2.2.1) ∈ wsL_law := in_r13 _ (List.mem_of_getElem? (i := 3) rfl)
theorem ld_X4_32 : (Cond.constantDouble RX4 32 (4593671619917905920)) ∈ wsL_law := in_r13 _ (List.mem_of_getElem? (i := 4) rfl)
theorem lf_X4_34 : (Cond.fieldLink RX4 34 (TX4 4).1 (TX4 4).2.1 (TX4 4).2.2.1) ∈ wsL_law := in_r13 _ (List.mem_of_getElem? (i := 5) rfl)
theorem ld_X4_37 : (Cond.constantDouble RX4 37 (4517110426252607488)) ∈ wsL_law := in_r13 _ (List.mem_of_getElem? (i := 6) rfl)
theorem lf_X4_39 : (Cond.fieldLink RX4 39 (TX4 5).1 (TX4 5).2.1 (TX4 5).2.2.1) ∈ wsL_law := in_r13 _ (List.mem_of_getElem? (i := 7) rfl)
theorem lf_X4_42 : (Cond.fieldLink RX4 42 (TX4 6).1 (TX4 6).2.1 (TX4 6).2.2.1) ∈ wsL_law := in_r13 _ (List.mem_of_getElem? (i := 8) rfl)
theorem lk_X4_45 : (Cond.classLink RX4 45 RX0) ∈ wsL_law := in_r13 _ (List.mem_of_getElem? (i := 9) rfl)
theorem ln_RX0_9 : (Cond.instantiable RX0 9) ∈ wsL_law := in_r13 _ (List.mem_of_getElem? (i := 10) rfl)
theorem lz_RX0 : (Cond.initialized RX0) ∈ wsL_law := in_r13 _ (List.mem_of_getElem? (i := 11) rfl)
theorem lf_X4_48 : (Cond.fieldLink RX4 48 (TX4 10).1 (TX4 10).2.1 (TX4 10).2.2.1) ∈ wsL_law := in_r13 _ (List.mem_of_getElem? (i := 12) rfl)
theorem lk_X4_52 : (Cond.classLink RX4 52 RX6) ∈ wsL_law := in_r13 _ (List.mem_of_getElem? (i := 13) rfl)
theorem lf_X4_57 : (Cond.fieldLink RX4 57 (TX4 11).1 (TX4 11).2.1 (TX4 11).2.2.1) ∈ wsL_law := in_r13 _ (List.mem_of_getElem? (i := 14) rfl)
theorem lm_X4_21 : (Cond.methodLink RX4 21 yX3_init) ∈ wsL_law := in_r13 _ (List.mem_of_getElem? (i := 15) rfl)
theorem lm_X4_47 : (Cond.methodLink RX4 47 yX0_init) ∈ wsL_law := in_r13 _ (List.mem_of_getElem? (i := 16) rfl)
theorem li_yX0_init : (Cond.instanceMethod yX0_init) ∈ wsL_law := in_r13 _ (List.mem_of_getElem? (i := 17) rfl)
theorem lc_yX0_init : (Cond.code yX0_init cX0_init 1 none) ∈ wsL_law := in_r13 _ (List.mem_of_getElem? (i := 18) rfl)
theorem lm_X0_3 : (Cond.methodLink RX0 3 objectInit) ∈ wsL_law := in_r13 _ (List.mem_of_getElem? (i := 19) rfl)
theorem lf_X0_9 : (Cond.fieldLink RX0 9 (TX0 1).1 (TX0 1).2.1 (TX0 1).2.2.1) ∈ wsL_law := in_r13 _ (List.mem_of_getElem? (i := 20) rfl)
theorem lf_X0_15 : (Cond.fieldLink RX0 15 (TX0 2).1 (TX0 2).2.1 (TX0 2).2.2.1) ∈ wsL_law := in_r13 _ (List.mem_of_getElem? (i := 21) rfl)
theorem lf_X0_18 : (Cond.fieldLink RX0 18 (TX0 3).1 (TX0 3).2.1 (TX0 3).2.2.1) ∈ wsL_law := in_r13 _ (List.mem_of_getElem? (i := 22) rfl)
theorem lf_X0_21 : (Cond.fieldLink RX0 21 (TX0 4).1 (TX0 4).2.1 (TX0 4).2.2.1) ∈ wsL_law := in_r13 _ (List.mem_of_getElem? (i := 23) rfl)
theorem lf_X0_24 : (Cond.fieldLink RX0 24 (TX0 5).1 (TX0 5).2.1 (TX0 5).2.2.1) ∈ wsL_law := in_r14 _ (List.mem_of_getElem? (i := 0) rfl)
theorem lf_X0_28 : (Cond.fieldLink RX0 28 (TX0 7).1 (TX0 7).2.1 (TX0 7).2.2.1) ∈ wsL_law := in_r14 _ (List.mem_of_getElem? (i := 1) rfl)
theorem lf_X0_31 : (Cond.fieldLink RX0 31 (TX0 8).1 (TX0 8).2.1 (TX0 8).2.2.1) ∈ wsL_law := in_r14 _ (List.mem_of_getElem? (i := 2) rfl)
theorem lm_X4_54 : (Cond.methodLink RX4 54 yX6_init) ∈ wsL_law := in_r14 _ (List.mem_of_getElem? (i := 3) rfl)
theorem lm_L_52 : (Cond.methodLink RL 52 yX9_run) ∈ wsL_law := in_r14 _ (List.mem_of_getElem? (i := 4) rfl)
theorem li_yX9_run : (Cond.instanceMethod yX9_run) ∈ wsL_law := in_r14 _ (List.mem_of_getElem? (i := 5) rfl)
theorem ls_yX9_run : (Cond.selects RX9 yX9_run yX9_run) ∈ wsL_law := in_r14 _ (List.mem_of_getElem? (i := 6) rfl)
theorem lc_yX9_run : (Cond.code yX9_run cX9_run 6 (some .int)) ∈ wsL_law := in_r14 _ (List.mem_of_getElem? (i := 7) rfl)
theorem ld_X9_324 : (Cond.constantDouble RX9 324 (4593671619917905920)) ∈ wsL_law := in_r14 _ (List.mem_of_getElem? (i := 8) rfl)
theorem ld_X9_364 : (Cond.constantDouble RX9 364 (4517110426252607488)) ∈ wsL_law := in_r14 _ (List.mem_of_getElem? (i := 9) rfl)
theorem lm_L_53 : (Cond.methodLink RL 53 yX8_set) ∈ wsL_law := in_r14 _ (List.mem_of_getElem? (i := 10) rfl)
theorem li_yX8_set : (Cond.instanceMethod yX8_set) ∈ wsL_law := in_r14 _ (List.mem_of_getElem? (i := 11) rfl)
theorem ls_yX8_set : (Cond.selects RX8 yX8_set yX8_set) ∈ wsL_law := in_r14 _ (List.mem_of_getElem? (i := 12) rfl)
theorem lc_yX8_set : (Cond.code yX8_set cX8_set 7 (some .int)) ∈ wsL_law := in_r14 _ (List.mem_of_getElem? (i := 13) rfl)
theorem lf_X8_123 : (Cond.fieldLink RX8 123 (TX4 7).1 (TX4 7).2.1 (TX4 7).2.2.1) ∈ wsL_law := in_r14 _ (List.mem_of_getElem? (i := 14) rfl)
theorem lf_X8_127 : (Cond.fieldLink RX8 127 (TX4 2).1 (TX4 2).2.1 (TX4 2).2.2.1) ∈ wsL_law := in_r14 _ (List.mem_of_getElem? (i := 15) rfl)
theorem lm_X8_119 : (Cond.methodLink RX8 119 yX8_runAt) ∈ wsL_law := in_r14 _ (List.mem_of_getElem? (i := 16) rfl)
theorem li_yX8_runAt : (Cond.instanceMethod yX8_runAt) ∈ wsL_law := in_r14 _ (List.mem_of_getElem? (i := 17) rfl)
theorem ls_yX8_runAt : (Cond.selects RX8 yX8_runAt yX8_runAt) ∈ wsL_law := in_r14 _ (List.mem_of_getElem? (i := 18) rfl)
theorem lc_yX8_runAt : (Cond.code yX8_runAt cX8_runAt 2 (some (.object "MotionStepper$Run"))) ∈ wsL_law := in_r14 _ (List.mem_of_getElem? (i := 19) rfl)
theorem lm_X8_131 : (Cond.methodLink RX8 131 yX1_isNarrow) ∈ wsL_law := in_r14 _ (List.mem_of_getElem? (i := 20) rfl)
theorem li_yX1_isNarrow : (Cond.instanceMethod yX1_isNarrow) ∈ wsL_law := in_r14 _ (List.mem_of_getElem? (i := 21) rfl)
theorem ls_yX1_isNarrow : (Cond.selects RX1 yX1_isNarrow yX1_isNarrow) ∈ wsL_law := in_r14 _ (List.mem_of_getElem? (i := 22) rfl)
theorem lc_yX1_isNarrow : (Cond.code yX1_isNarrow cX1_isNarrow 2 (some .boolean)) ∈ wsL_law := in_r14 _ (List.mem_of_getElem? (i := 23) rfl)
theorem lm_X8_134 : (Cond.methodLink RX8 134 yX3_put) ∈ wsL_law := in_r15 _ (List.mem_of_getElem? (i := 0) rfl)
theorem li_yX3_put : (Cond.instanceMethod yX3_put) ∈ wsL_law := in_r15 _ (List.mem_of_getElem? (i := 1) rfl)
theorem ls_yX3_put : (Cond.selects RX3 yX3_put yX3_put) ∈ wsL_law := in_r15 _ (List.mem_of_getElem? (i := 2) rfl)
theorem lc_yX3_put : (Cond.code yX3_put cX3_put 6 none) ∈ wsL_law := in_r15 _ (List.mem_of_getElem? (i := 3) rfl)
theorem lm_L_57 : (Cond.methodLink RL 57 yX9_set) ∈ wsL_law := in_r15 _ (List.mem_of_getElem? (i := 4) rfl)
theorem li_yX9_set : (Cond.instanceMethod yX9_set) ∈ wsL_law := in_r15 _ (List.mem_of_getElem? (i := 5) rfl)
theorem ls_yX9_set : (Cond.selects RX9 yX9_set yX9_set) ∈ wsL_law := in_r15 _ (List.mem_of_getElem? (i := 6) rfl)
theorem lc_yX9_set : (Cond.code yX9_set cX9_set 6 (some .int)) ∈ wsL_law := in_r15 _ (List.mem_of_getElem? (i := 7) rfl)
theorem lm_X9_366 : (Cond.methodLink RX9 366 yX9_isRun) ∈ wsL_law := in_r15 _ (List.mem_of_getElem? (i := 8) rfl)
theorem li_yX9_isRun : (Cond.instanceMethod yX9_isRun) ∈ wsL_law := in_r15 _ (List.mem_of_getElem? (i := 9) rfl)
theorem ls_yX9_isRun : (Cond.selects RX9 yX9_isRun yX9_isRun) ∈ wsL_law := in_r15 _ (List.mem_of_getElem? (i := 10) rfl)
theorem lc_yX9_isRun : (Cond.code yX9_isRun cX9_isRun 2 (some .boolean)) ∈ wsL_law := in_r15 _ (List.mem_of_getElem? (i := 11) rfl)
theorem lm_X9_281 : (Cond.methodLink RX9 281 yX9_put) ∈ wsL_law := in_r15 _ (List.mem_of_getElem? (i := 12) rfl)
theorem li_yX9_put : (Cond.instanceMethod yX9_put) ∈ wsL_law := in_r15 _ (List.mem_of_getElem? (i := 13) rfl)
theorem ls_yX9_put : (Cond.selects RX9 yX9_put yX9_put) ∈ wsL_law := in_r15 _ (List.mem_of_getElem? (i := 14) rfl)
theorem lc_yX9_put : (Cond.code yX9_put cX9_put 5 (some .double)) ∈ wsL_law := in_r15 _ (List.mem_of_getElem? (i := 15) rfl)
theorem lm_X9_189 : (Cond.methodLink RX9 189 yX9_isNumber) ∈ wsL_law := in_r15 _ (List.mem_of_getElem? (i := 16) rfl)
theorem lt_yX9_isNumber : (Cond.static yX9_isNumber) ∈ wsL_law := in_r15 _ (List.mem_of_getElem? (i := 17) rfl)
theorem lc_yX9_isNumber : (Cond.code yX9_isNumber cX9_isNumber 2 (some .boolean)) ∈ wsL_law := in_r15 _ (List.mem_of_getElem? (i := 18) rfl)
theorem lm_L_58 : (Cond.methodLink RL 58 yX8_method) ∈ wsL_law := in_r15 _ (List.mem_of_getElem? (i := 19) rfl)
theorem li_yX8_method : (Cond.instanceMethod yX8_method) ∈ wsL_law := in_r15 _ (List.mem_of_getElem? (i := 20) rfl)
theorem ls_yX8_method : (Cond.selects RX8 yX8_method yX8_method) ∈ wsL_law := in_r15 _ (List.mem_of_getElem? (i := 21) rfl)
theorem lc_yX8_method : (Cond.code yX8_method cX8_method 4 (some .int)) ∈ wsL_law := in_r15 _ (List.mem_of_getElem? (i := 22) rfl)
theorem lf_X8_140 : (Cond.fieldLink RX8 140 (TX1 1).1 (TX1 1).2.1 (TX1 1).2.2.1) ∈ wsL_law := in_r15 _ (List.mem_of_getElem? (i := 23) rfl)
theorem lf_X8_143 : (Cond.fieldLink RX8 143 (TX4 3).1 (TX4 3).2.1 (TX4 3).2.2.1) ∈ wsL_law := in_r16 _ (List.mem_of_getElem? (i := 0) rfl)
theorem lm_L_61 : (Cond.methodLink RL 61 yX9_method) ∈ wsL_law := in_r16 _ (List.mem_of_getElem? (i := 1) rfl)
theorem li_yX9_method : (Cond.instanceMethod yX9_method) ∈ wsL_law := in_r16 _ (List.mem_of_getElem? (i := 2) rfl)
theorem ls_yX9_method : (Cond.selects RX9 yX9_method yX9_method) ∈ wsL_law := in_r16 _ (List.mem_of_getElem? (i := 3) rfl)
theorem lc_yX9_method : (Cond.code yX9_method cX9_method 3 (some .int)) ∈ wsL_law := in_r16 _ (List.mem_of_getElem? (i := 4) rfl)
theorem lm_L_62 : (Cond.methodLink RL 62 yX8_length) ∈ wsL_law := in_r16 _ (List.mem_of_getElem? (i := 5) rfl)
theorem li_yX8_length : (Cond.instanceMethod yX8_length) ∈ wsL_law := in_r16 _ (List.mem_of_getElem? (i := 6) rfl)
theorem ls_yX8_length : (Cond.selects RX8 yX8_length yX8_length) ∈ wsL_law := in_r16 _ (List.mem_of_getElem? (i := 7) rfl)
theorem lc_yX8_length : (Cond.code yX8_length cX8_length 10 (some .int)) ∈ wsL_law := in_r16 _ (List.mem_of_getElem? (i := 8) rfl)
theorem ld_X8_150 : (Cond.constantDouble RX8 150 (4652218415073722368)) ∈ wsL_law := in_r16 _ (List.mem_of_getElem? (i := 9) rfl)
theorem lf_X8_156 : (Cond.fieldLink RX8 156 (TX4 4).1 (TX4 4).2.1 (TX4 4).2.2.1) ∈ wsL_law := in_r16 _ (List.mem_of_getElem? (i := 10) rfl)
theorem lm_X8_146 : (Cond.methodLink RX8 146 yX8_size) ∈ wsL_law := in_r16 _ (List.mem_of_getElem? (i := 11) rfl)
theorem lt_yX8_size : (Cond.static yX8_size) ∈ wsL_law := in_r16 _ (List.mem_of_getElem? (i := 12) rfl)
theorem lc_yX8_size : (Cond.code yX8_size cX8_size 2 (some .double)) ∈ wsL_law := in_r16 _ (List.mem_of_getElem? (i := 13) rfl)
theorem lm_X8_152 : (Cond.methodLink RX8 152 yX8_isTooSmall) ∈ wsL_law := in_r16 _ (List.mem_of_getElem? (i := 14) rfl)
theorem lt_yX8_isTooSmall : (Cond.static yX8_isTooSmall) ∈ wsL_law := in_r16 _ (List.mem_of_getElem? (i := 15) rfl)
theorem lc_yX8_isTooSmall : (Cond.code yX8_isTooSmall cX8_isTooSmall 2 (some .boolean)) ∈ wsL_law := in_r16 _ (List.mem_of_getElem? (i := 16) rfl)
theorem ld_X8_286 : (Cond.constantDouble RX8 286 (4472074429978902528)) ∈ wsL_law := in_r16 _ (List.mem_of_getElem? (i := 17) rfl)
theorem lm_L_65 : (Cond.methodLink RL 65 yX9_length) ∈ wsL_law := in_r16 _ (List.mem_of_getElem? (i := 18) rfl)
theorem li_yX9_length : (Cond.instanceMethod yX9_length) ∈ wsL_law := in_r16 _ (List.mem_of_getElem? (i := 19) rfl)
theorem ls_yX9_length : (Cond.selects RX9 yX9_length yX9_length) ∈ wsL_law := in_r16 _ (List.mem_of_getElem? (i := 20) rfl)
theorem lc_yX9_length : (Cond.code yX9_length cX9_length 7 (some .int)) ∈ wsL_law := in_r16 _ (List.mem_of_getElem? (i := 21) rfl)
theorem ld_X9_309 : (Cond.constantDouble RX9 309 (4472074429978902528)) ∈ wsL_law := in_r16 _ (List.mem_of_getElem? (i := 22) rfl)
theorem ld_X9_326 : (Cond.constantDouble RX9 326 (4652218415073722368)) ∈ wsL_law := in_r16 _ (List.mem_of_getElem? (i := 23) rfl)
theorem lm_X9_221 : (Cond.methodLink RX9 221 yX9_size) ∈ wsL_law := in_r17 _ (List.mem_of_getElem? (i := 0) rfl)
theorem lt_yX9_size : (Cond.static yX9_size) ∈ wsL_law := in_r17 _ (List.mem_of_getElem? (i := 1) rfl)
theorem lc_yX9_size : (Cond.code yX9_size cX9_size 2 (some .double)) ∈ wsL_law := in_r17 _ (List.mem_of_getElem? (i := 2) rfl)
theorem lm_L_66 : (Cond.methodLink RL 66 yX8_tolerance) ∈ wsL_law := in_r17 _ (List.mem_of_getElem? (i := 3) rfl)
theorem li_yX8_tolerance : (Cond.instanceMethod yX8_tolerance) ∈ wsL_law := in_r17 _ (List.mem_of_getElem? (i := 4) rfl)
theorem ls_yX8_tolerance : (Cond.selects RX8 yX8_tolerance yX8_tolerance) ∈ wsL_law := in_r17 _ (List.mem_of_getElem? (i := 5) rfl)
theorem lc_yX8_tolerance : (Cond.code yX8_tolerance cX8_tolerance 8 (some .int)) ∈ wsL_law := in_r17 _ (List.mem_of_getElem? (i := 6) rfl)
theorem lf_X8_160 : (Cond.fieldLink RX8 160 (TX4 5).1 (TX4 5).2.1 (TX4 5).2.2.1) ∈ wsL_law := in_r17 _ (List.mem_of_getElem? (i := 7) rfl)
theorem lf_X8_163 : (Cond.fieldLink RX8 163 (TX4 6).1 (TX4 6).2.1 (TX4 6).2.2.1) ∈ wsL_law := in_r17 _ (List.mem_of_getElem? (i := 8) rfl)
theorem lm_L_69 : (Cond.methodLink RL 69 yX9_tolerance) ∈ wsL_law := in_r17 _ (List.mem_of_getElem? (i := 9) rfl)
theorem li_yX9_tolerance : (Cond.instanceMethod yX9_tolerance) ∈ wsL_law := in_r17 _ (List.mem_of_getElem? (i := 10) rfl)
theorem ls_yX9_tolerance : (Cond.selects RX9 yX9_tolerance yX9_tolerance) ∈ wsL_law := in_r17 _ (List.mem_of_getElem? (i := 11) rfl)
theorem lc_yX9_tolerance : (Cond.code yX9_tolerance cX9_tolerance 7 (some .int)) ∈ wsL_law := in_r17 _ (List.mem_of_getElem? (i := 12) rfl)
theorem lm_L_70 : (Cond.methodLink RL 70 yX8_event) ∈ wsL_law := in_r17 _ (List.mem_of_getElem? (i := 13) rfl)
theorem li_yX8_event : (Cond.instanceMethod yX8_event) ∈ wsL_law := in_r17 _ (List.mem_of_getElem? (i := 14) rfl)
theorem ls_yX8_event : (Cond.selects RX8 yX8_event yX8_event) ∈ wsL_law := in_r17 _ (List.mem_of_getElem? (i := 15) rfl)
theorem lc_yX8_event : (Cond.code yX8_event cX8_event 7 (some .int)) ∈ wsL_law := in_r17 _ (List.mem_of_getElem? (i := 16) rfl)
theorem lf_X8_166 : (Cond.fieldLink RX8 166 (TX4 10).1 (TX4 10).2.1 (TX4 10).2.2.1) ∈ wsL_law := in_r17 _ (List.mem_of_getElem? (i := 17) rfl)
theorem lm_X8_170 : (Cond.methodLink RX8 170 yX0_add) ∈ wsL_law := in_r17 _ (List.mem_of_getElem? (i := 18) rfl)
theorem li_yX0_add : (Cond.instanceMethod yX0_add) ∈ wsL_law := in_r17 _ (List.mem_of_getElem? (i := 19) rfl)
theorem ls_yX0_add : (Cond.selects RX0 yX0_add yX0_add) ∈ wsL_law := in_r17 _ (List.mem_of_getElem? (i := 20) rfl)
theorem lc_yX0_add : (Cond.code yX0_add cX0_add 5 (some .int)) ∈ wsL_law := in_r17 _ (List.mem_of_getElem? (i := 21) rfl)
theorem lf_X0_34 : (Cond.fieldLink RX0 34 (TX0 0).1 (TX0 0).2.1 (TX0 0).2.2.1) ∈ wsL_law := in_r17 _ (List.mem_of_getElem? (i := 22) rfl)
theorem lm_L_73 : (Cond.methodLink RL 73 yX9_event) ∈ wsL_law := in_r17 _ (List.mem_of_getElem? (i := 23) rfl)
theorem li_yX9_event : (Cond.instanceMethod yX9_event) ∈ wsL_law := in_r18 _ (List.mem_of_getElem? (i := 0) rfl)
theorem ls_yX9_event : (Cond.selects RX9 yX9_event yX9_event) ∈ wsL_law := in_r18 _ (List.mem_of_getElem? (i := 1) rfl)
theorem lc_yX9_event : (Cond.code yX9_event cX9_event 7 (some .int)) ∈ wsL_law := in_r18 _ (List.mem_of_getElem? (i := 2) rfl)
theorem lm_L_74 : (Cond.methodLink RL 74 yX8_step) ∈ wsL_law := in_r18 _ (List.mem_of_getElem? (i := 3) rfl)
theorem li_yX8_step : (Cond.instanceMethod yX8_step) ∈ wsL_law := in_r18 _ (List.mem_of_getElem? (i := 4) rfl)
theorem ls_yX8_step : (Cond.selects RX8 yX8_step yX8_step) ∈ wsL_law := in_r18 _ (List.mem_of_getElem? (i := 5) rfl)
theorem lc_yX8_step : (Cond.code yX8_step cX8_step 3 (some .int)) ∈ wsL_law := in_r18 _ (List.mem_of_getElem? (i := 6) rfl)
theorem lm_X8_175 : (Cond.methodLink RX8 175 yX8_advance) ∈ wsL_law := in_r18 _ (List.mem_of_getElem? (i := 7) rfl)
theorem li_yX8_advance : (Cond.instanceMethod yX8_advance) ∈ wsL_law := in_r18 _ (List.mem_of_getElem? (i := 8) rfl)
theorem ls_yX8_advance : (Cond.selects RX8 yX8_advance yX8_advance) ∈ wsL_law := in_r18 _ (List.mem_of_getElem? (i := 9) rfl)
theorem lc_yX8_advance : (Cond.code yX8_advance cX8_advance 10 (some .int)) ∈ wsL_law := in_r18 _ (List.mem_of_getElem? (i := 10) rfl)
theorem lf_X8_179 : (Cond.fieldLink RX8 179 (TX4 1).1 (TX4 1).2.1 (TX4 1).2.2.1) ∈ wsL_law := in_r18 _ (List.mem_of_getElem? (i := 11) rfl)
theorem lf_X8_203 : (Cond.fieldLink RX8 203 (TX6 12).1 (TX6 12).2.1 (TX6 12).2.2.1) ∈ wsL_law := in_r18 _ (List.mem_of_getElem? (i := 12) rfl)
theorem ld_X8_299 : (Cond.constantDouble RX8 299 (4620693217682128896)) ∈ wsL_law := in_r18 _ (List.mem_of_getElem? (i := 13) rfl)
theorem ld_X8_263 : (Cond.constantDouble RX8 263 (4611686018427387904)) ∈ wsL_law := in_r18 _ (List.mem_of_getElem? (i := 14) rfl)
theorem ld_X8_301 : (Cond.constantDouble RX8 301 (4616189618054758400)) ∈ wsL_law := in_r18 _ (List.mem_of_getElem? (i := 15) rfl)
theorem lm_X8_265 : (Cond.methodLink RX8 265 yX6_make) ∈ wsL_law := in_r18 _ (List.mem_of_getElem? (i := 16) rfl)
theorem li_yX6_make : (Cond.instanceMethod yX6_make) ∈ wsL_law := in_r18 _ (List.mem_of_getElem? (i := 17) rfl)
theorem ls_yX6_make : (Cond.selects RX6 yX6_make yX6_make) ∈ wsL_law := in_r18 _ (List.mem_of_getElem? (i := 18) rfl)
theorem lc_yX6_make : (Cond.code yX6_make cX6_make 9 (some .boolean)) ∈ wsL_law := in_r18 _ (List.mem_of_getElem? (i := 19) rfl)
theorem lf_X6_40 : (Cond.fieldLink RX6 40 (TX6 1).1 (TX6 1).2.1 (TX6 1).2.2.1) ∈ wsL_law := in_r18 _ (List.mem_of_getElem? (i := 20) rfl)
theorem lf_X6_44 : (Cond.fieldLink RX6 44 (TX6 2).1 (TX6 2).2.1 (TX6 2).2.2.1) ∈ wsL_law := in_r18 _ (List.mem_of_getElem? (i := 21) rfl)
theorem lf_X6_48 : (Cond.fieldLink RX6 48 (TX6 3).1 (TX6 3).2.1 (TX6 3).2.2.1) ∈ wsL_law := in_r18 _ (List.mem_of_getElem? (i := 22) rfl)
theorem lf_X6_52 : (Cond.fieldLink RX6 52 (TX6 4).1 (TX6 4).2.1 (TX6 4).2.2.1) ∈ wsL_law := in_r18 _ (List.mem_of_getElem? (i := 23) rfl)
theorem lf_X6_55 : (Cond.fieldLink RX6 55 (TX6 5).1 (TX6 5).2.1 (TX6 5).2.2.1) ∈ wsL_law := in_r19 _ (List.mem_of_getElem? (i := 0) rfl)
theorem lf_X6_62 : (Cond.fieldLink RX6 62 (TX6 12).1 (TX6 12).2.1 (TX6 12).2.2.1) ∈ wsL_law := in_r19 _ (List.mem_of_getElem? (i := 1) rfl)
theorem lf_X6_65 : (Cond.fieldLink RX6 65 (TX6 13).1 (TX6 13).2.1 (TX6 13).2.2.1) ∈ wsL_law := in_r19 _ (List.mem_of_getElem? (i := 2) rfl)
theorem lf_X6_95 : (Cond.fieldLink RX6 95 (TX1 1).1 (TX1 1).2.1 (TX1 1).2.2.1) ∈ wsL_law := in_r19 _ (List.mem_of_getElem? (i := 3) rfl)
theorem lf_X6_104 : (Cond.fieldLink RX6 104 (TX2 0).1 (TX2 0).2.1 (TX2 0).2.2.1) ∈ wsL_law := in_r19 _ (List.mem_of_getElem? (i := 4) rfl)
theorem lm_X6_58 : (Cond.methodLink RX6 58 yX3_copy) ∈ wsL_law := in_r19 _ (List.mem_of_getElem? (i := 5) rfl)
theorem li_yX3_copy : (Cond.instanceMethod yX3_copy) ∈ wsL_law := in_r19 _ (List.mem_of_getElem? (i := 6) rfl)
theorem ls_yX3_copy : (Cond.selects RX3 yX3_copy yX3_copy) ∈ wsL_law := in_r19 _ (List.mem_of_getElem? (i := 7) rfl)
theorem lc_yX3_copy : (Cond.code yX3_copy cX3_copy 3 none) ∈ wsL_law := in_r19 _ (List.mem_of_getElem? (i := 8) rfl)
theorem lm_X6_68 : (Cond.methodLink RX6 68 yX6_slope) ∈ wsL_law := in_r19 _ (List.mem_of_getElem? (i := 9) rfl)
theorem li_yX6_slope : (Cond.instanceMethod yX6_slope) ∈ wsL_law := in_r19 _ (List.mem_of_getElem? (i := 10) rfl)
theorem ls_yX6_slope : (Cond.selects RX6 yX6_slope yX6_slope) ∈ wsL_law := in_r19 _ (List.mem_of_getElem? (i := 11) rfl)
theorem lc_yX6_slope : (Cond.code yX6_slope cX6_slope 5 (some .boolean)) ∈ wsL_law := in_r19 _ (List.mem_of_getElem? (i := 12) rfl)
theorem lf_X6_109 : (Cond.fieldLink RX6 109 (TX1 12).1 (TX1 12).2.1 (TX1 12).2.2.1) ∈ wsL_law := in_r19 _ (List.mem_of_getElem? (i := 13) rfl)
theorem lm_X6_112 : (Cond.methodLink RX6 112 yX1_reckonNodes) ∈ wsL_law := in_r19 _ (List.mem_of_getElem? (i := 14) rfl)
theorem li_yX1_reckonNodes : (Cond.instanceMethod yX1_reckonNodes) ∈ wsL_law := in_r19 _ (List.mem_of_getElem? (i := 15) rfl)
theorem ls_yX1_reckonNodes : (Cond.selects RX1 yX1_reckonNodes yX1_reckonNodes) ∈ wsL_law := in_r19 _ (List.mem_of_getElem? (i := 16) rfl)
theorem lc_yX1_reckonNodes : (Cond.code yX1_reckonNodes cX1_reckonNodes 8 none) ∈ wsL_law := in_r19 _ (List.mem_of_getElem? (i := 17) rfl)
theorem lf_X1_79 : (Cond.fieldLink RX1 79 (TX2 1).1 (TX2 1).2.1 (TX2 1).2.2.1) ∈ wsL_law := in_r19 _ (List.mem_of_getElem? (i := 18) rfl)
theorem lm_X1_70 : (Cond.methodLink RX1 70 yX2_begin) ∈ wsL_law := in_r19 _ (List.mem_of_getElem? (i := 19) rfl)
theorem li_yX2_begin : (Cond.instanceMethod yX2_begin) ∈ wsL_law := in_r19 _ (List.mem_of_getElem? (i := 20) rfl)
theorem ls_yX2_begin : (Cond.selects RX2 yX2_begin yX2_begin) ∈ wsL_law := in_r19 _ (List.mem_of_getElem? (i := 21) rfl)
theorem lc_yX2_begin : (Cond.code yX2_begin cX2_begin 1 none) ∈ wsL_law := in_r19 _ (List.mem_of_getElem? (i := 22) rfl)
theorem lf_X2_15 : (Cond.fieldLink RX2 15 (TX2 1).1 (TX2 1).2.1 (TX2 1).2.2.1) ∈ wsL_law := in_r19 _ (List.mem_of_getElem? (i := 23) rfl)
theorem lm_X1_75 : (Cond.methodLink RX1 75 yX1_reckoned) ∈ wsL_law := in_r20 _ (List.mem_of_getElem? (i := 0) rfl)
theorem li_yX1_reckoned : (Cond.instanceMethod yX1_reckoned) ∈ wsL_law := in_r20 _ (List.mem_of_getElem? (i := 1) rfl)
theorem ls_yX1_reckoned : (Cond.selects RX1 yX1_reckoned yX1_reckoned) ∈ wsL_law := in_r20 _ (List.mem_of_getElem? (i := 2) rfl)
theorem lc_yX1_reckoned : (Cond.code yX1_reckoned cX1_reckoned 8 (some .double)) ∈ wsL_law := in_r20 _ (List.mem_of_getElem? (i := 3) rfl)
theorem lf_X1_127 : (Cond.fieldLink RX1 127 (TX5 3).1 (TX5 3).2.1 (TX5 3).2.2.1) ∈ wsL_law := in_r20 _ (List.mem_of_getElem? (i := 4) rfl)
theorem lm_X1_92 : (Cond.methodLink RX1 92 yX2_read) ∈ wsL_law := in_r20 _ (List.mem_of_getElem? (i := 5) rfl)
theorem li_yX2_read : (Cond.instanceMethod yX2_read) ∈ wsL_law := in_r20 _ (List.mem_of_getElem? (i := 6) rfl)
theorem ls_yX2_read : (Cond.selects RX2 yX2_read yX2_read) ∈ wsL_law := in_r20 _ (List.mem_of_getElem? (i := 7) rfl)
theorem lc_yX2_read : (Cond.code yX2_read cX2_read 3 (some .double)) ∈ wsL_law := in_r20 _ (List.mem_of_getElem? (i := 8) rfl)
theorem lf_X2_19 : (Cond.fieldLink RX2 19 (TX3 1).1 (TX3 1).2.1 (TX3 1).2.2.1) ∈ wsL_law := in_r20 _ (List.mem_of_getElem? (i := 9) rfl)
theorem lf_X2_24 : (Cond.fieldLink RX2 24 (TX3 0).1 (TX3 0).2.1 (TX3 0).2.2.1) ∈ wsL_law := in_r20 _ (List.mem_of_getElem? (i := 10) rfl)
theorem lm_X1_96 : (Cond.methodLink RX1 96 yX2_sum) ∈ wsL_law := in_r20 _ (List.mem_of_getElem? (i := 11) rfl)
theorem li_yX2_sum : (Cond.instanceMethod yX2_sum) ∈ wsL_law := in_r20 _ (List.mem_of_getElem? (i := 12) rfl)
theorem ls_yX2_sum : (Cond.selects RX2 yX2_sum yX2_sum) ∈ wsL_law := in_r20 _ (List.mem_of_getElem? (i := 13) rfl)
theorem lc_yX2_sum : (Cond.code yX2_sum cX2_sum 5 (some .double)) ∈ wsL_law := in_r20 _ (List.mem_of_getElem? (i := 14) rfl)
theorem lm_X1_100 : (Cond.methodLink RX1 100 yX2_difference) ∈ wsL_law := in_r20 _ (List.mem_of_getElem? (i := 15) rfl)
theorem li_yX2_difference : (Cond.instanceMethod yX2_difference) ∈ wsL_law := in_r20 _ (List.mem_of_getElem? (i := 16) rfl)
theorem ls_yX2_difference : (Cond.selects RX2 yX2_difference yX2_difference) ∈ wsL_law := in_r20 _ (List.mem_of_getElem? (i := 17) rfl)
theorem lc_yX2_difference : (Cond.code yX2_difference cX2_difference 5 (some .double)) ∈ wsL_law := in_r20 _ (List.mem_of_getElem? (i := 18) rfl)
theorem lm_X1_103 : (Cond.methodLink RX1 103 yX2_product) ∈ wsL_law := in_r20 _ (List.mem_of_getElem? (i := 19) rfl)
theorem li_yX2_product : (Cond.instanceMethod yX2_product) ∈ wsL_law := in_r20 _ (List.mem_of_getElem? (i := 20) rfl)
theorem ls_yX2_product : (Cond.selects RX2 yX2_product yX2_product) ∈ wsL_law := in_r20 _ (List.mem_of_getElem? (i := 21) rfl)
theorem lc_yX2_product : (Cond.code yX2_product cX2_product 5 (some .double)) ∈ wsL_law := in_r20 _ (List.mem_of_getElem? (i := 22) rfl)
theorem lm_X1_106 : (Cond.methodLink RX1 106 yX2_quotient) ∈ wsL_law := in_r20 _ (List.mem_of_getElem? (i := 23) rfl)
theorem li_yX2_quotient : (Cond.instanceMethod yX2_quotient) ∈ wsL_law := in_r21 _ (List.mem_of_getElem? (i := 0) rfl)
theorem ls_yX2_quotient : (Cond.selects RX2 yX2_quotient yX2_quotient) ∈ wsL_law := in_r21 _ (List.mem_of_getElem? (i := 1) rfl)
theorem lc_yX2_quotient : (Cond.code yX2_quotient cX2_quotient 6 (some .double)) ∈ wsL_law := in_r21 _ (List.mem_of_getElem? (i := 2) rfl)
theorem lm_X1_113 : (Cond.methodLink RX1 113 yX2_lesser) ∈ wsL_law := in_r21 _ (List.mem_of_getElem? (i := 3) rfl)
theorem li_yX2_lesser : (Cond.instanceMethod yX2_lesser) ∈ wsL_law := in_r21 _ (List.mem_of_getElem? (i := 4) rfl)
theorem ls_yX2_lesser : (Cond.selects RX2 yX2_lesser yX2_lesser) ∈ wsL_law := in_r21 _ (List.mem_of_getElem? (i := 5) rfl)
theorem lc_yX2_lesser : (Cond.code yX2_lesser cX2_lesser 5 (some .double)) ∈ wsL_law := in_r21 _ (List.mem_of_getElem? (i := 6) rfl)
theorem lm_X1_116 : (Cond.methodLink RX1 116 yX2_greater) ∈ wsL_law := in_r21 _ (List.mem_of_getElem? (i := 7) rfl)
theorem li_yX2_greater : (Cond.instanceMethod yX2_greater) ∈ wsL_law := in_r21 _ (List.mem_of_getElem? (i := 8) rfl)
theorem ls_yX2_greater : (Cond.selects RX2 yX2_greater yX2_greater) ∈ wsL_law := in_r21 _ (List.mem_of_getElem? (i := 9) rfl)
theorem lc_yX2_greater : (Cond.code yX2_greater cX2_greater 5 (some .double)) ∈ wsL_law := in_r21 _ (List.mem_of_getElem? (i := 10) rfl)
theorem lm_X1_119 : (Cond.methodLink RX1 119 yX1_signOf) ∈ wsL_law := in_r21 _ (List.mem_of_getElem? (i := 11) rfl)
theorem li_yX1_signOf : (Cond.instanceMethod yX1_signOf) ∈ wsL_law := in_r21 _ (List.mem_of_getElem? (i := 12) rfl)
theorem ls_yX1_signOf : (Cond.selects RX1 yX1_signOf yX1_signOf) ∈ wsL_law := in_r21 _ (List.mem_of_getElem? (i := 13) rfl)
theorem lc_yX1_signOf : (Cond.code yX1_signOf cX1_signOf 4 (some .int)) ∈ wsL_law := in_r21 _ (List.mem_of_getElem? (i := 14) rfl)
theorem lf_X1_89 : (Cond.fieldLink RX1 89 (TX3 1).1 (TX3 1).2.1 (TX3 1).2.2.1) ∈ wsL_law := in_r21 _ (List.mem_of_getElem? (i := 15) rfl)
theorem lf_X1_87 : (Cond.fieldLink RX1 87 (TX3 0).1 (TX3 0).2.1 (TX3 0).2.2.1) ∈ wsL_law := in_r21 _ (List.mem_of_getElem? (i := 16) rfl)
theorem lm_X1_123 : (Cond.methodLink RX1 123 yX2_power) ∈ wsL_law := in_r21 _ (List.mem_of_getElem? (i := 17) rfl)
theorem li_yX2_power : (Cond.instanceMethod yX2_power) ∈ wsL_law := in_r21 _ (List.mem_of_getElem? (i := 18) rfl)
theorem ls_yX2_power : (Cond.selects RX2 yX2_power yX2_power) ∈ wsL_law := in_r21 _ (List.mem_of_getElem? (i := 19) rfl)
theorem lc_yX2_power : (Cond.code yX2_power cX2_power 7 (some .double)) ∈ wsL_law := in_r21 _ (List.mem_of_getElem? (i := 20) rfl)
theorem lm_X1_132 : (Cond.methodLink RX1 132 yX5_heightAt) ∈ wsL_law := in_r21 _ (List.mem_of_getElem? (i := 21) rfl)
theorem li_yX5_heightAt : (Cond.instanceMethod yX5_heightAt) ∈ wsL_law := in_r21 _ (List.mem_of_getElem? (i := 22) rfl)
theorem ls_yX5_heightAt : (Cond.selects RX5 yX5_heightAt yX5_heightAt) ∈ wsL_law := in_r21 _ (List.mem_of_getElem? (i := 23) rfl)
theorem lc_yX5_heightAt : (Cond.code yX5_heightAt cX5_heightAt 6 (some .double)) ∈ wsL_law := in_r22 _ (List.mem_of_getElem? (i := 0) rfl)
theorem lm_X1_83 : (Cond.methodLink RX1 83 yX3_put) ∈ wsL_law := in_r22 _ (List.mem_of_getElem? (i := 1) rfl)
theorem lm_X6_116 : (Cond.methodLink RX6 116 yX1_readSides) ∈ wsL_law := in_r22 _ (List.mem_of_getElem? (i := 2) rfl)
theorem li_yX1_readSides : (Cond.instanceMethod yX1_readSides) ∈ wsL_law := in_r22 _ (List.mem_of_getElem? (i := 3) rfl)
theorem ls_yX1_readSides : (Cond.selects RX1 yX1_readSides yX1_readSides) ∈ wsL_law := in_r22 _ (List.mem_of_getElem? (i := 4) rfl)
theorem lc_yX1_readSides : (Cond.code yX1_readSides cX1_readSides 4 none) ∈ wsL_law := in_r22 _ (List.mem_of_getElem? (i := 5) rfl)
theorem lm_X6_100 : (Cond.methodLink RX6 100 yX3_isFinite) ∈ wsL_law := in_r22 _ (List.mem_of_getElem? (i := 6) rfl)
theorem li_yX3_isFinite : (Cond.instanceMethod yX3_isFinite) ∈ wsL_law := in_r22 _ (List.mem_of_getElem? (i := 7) rfl)
theorem ls_yX3_isFinite : (Cond.selects RX3 yX3_isFinite yX3_isFinite) ∈ wsL_law := in_r22 _ (List.mem_of_getElem? (i := 8) rfl)
theorem lc_yX3_isFinite : (Cond.code yX3_isFinite cX3_isFinite 3 (some .boolean)) ∈ wsL_law := in_r22 _ (List.mem_of_getElem? (i := 9) rfl)
theorem ld_X3_17 : (Cond.constantDouble RX3 17 (9218868437227405311)) ∈ wsL_law := in_r22 _ (List.mem_of_getElem? (i := 10) rfl)
theorem ld_X3_19 : (Cond.constantDouble RX3 19 (18442240474082181119)) ∈ wsL_law := in_r22 _ (List.mem_of_getElem? (i := 11) rfl)
theorem lm_X6_72 : (Cond.methodLink RX6 72 yX6_move) ∈ wsL_law := in_r22 _ (List.mem_of_getElem? (i := 12) rfl)
theorem li_yX6_move : (Cond.instanceMethod yX6_move) ∈ wsL_law := in_r22 _ (List.mem_of_getElem? (i := 13) rfl)
theorem ls_yX6_move : (Cond.selects RX6 yX6_move yX6_move) ∈ wsL_law := in_r22 _ (List.mem_of_getElem? (i := 14) rfl)
theorem lc_yX6_move : (Cond.code yX6_move cX6_move 6 none) ∈ wsL_law := in_r22 _ (List.mem_of_getElem? (i := 15) rfl)
theorem lf_X6_144 : (Cond.fieldLink RX6 144 (TX3 0).1 (TX3 0).2.1 (TX3 0).2.2.1) ∈ wsL_law := in_r22 _ (List.mem_of_getElem? (i := 16) rfl)
theorem lm_X6_141 : (Cond.methodLink RX6 141 yX2_begin) ∈ wsL_law := in_r22 _ (List.mem_of_getElem? (i := 17) rfl)
theorem lm_X6_148 : (Cond.methodLink RX6 148 yX6_arrive) ∈ wsL_law := in_r22 _ (List.mem_of_getElem? (i := 18) rfl)
theorem li_yX6_arrive : (Cond.instanceMethod yX6_arrive) ∈ wsL_law := in_r22 _ (List.mem_of_getElem? (i := 19) rfl)
theorem ls_yX6_arrive : (Cond.selects RX6 yX6_arrive yX6_arrive) ∈ wsL_law := in_r22 _ (List.mem_of_getElem? (i := 20) rfl)
theorem lc_yX6_arrive : (Cond.code yX6_arrive cX6_arrive 12 none) ∈ wsL_law := in_r22 _ (List.mem_of_getElem? (i := 21) rfl)
theorem lf_X6_130 : (Cond.fieldLink RX6 130 (TX2 1).1 (TX2 1).2.1 (TX2 1).2.2.1) ∈ wsL_law := in_r22 _ (List.mem_of_getElem? (i := 22) rfl)
theorem lm_X6_119 : (Cond.methodLink RX6 119 yX2_product) ∈ wsL_law := in_r22 _ (List.mem_of_getElem? (i := 23) rfl)
theorem lm_X6_123 : (Cond.methodLink RX6 123 yX2_read) ∈ wsL_law := in_r23 _ (List.mem_of_getElem? (i := 0) rfl)
theorem lm_X6_127 : (Cond.methodLink RX6 127 yX2_sum) ∈ wsL_law := in_r23 _ (List.mem_of_getElem? (i := 1) rfl)
theorem lm_X6_134 : (Cond.methodLink RX6 134 yX1_isNarrow) ∈ wsL_law := in_r23 _ (List.mem_of_getElem? (i := 2) rfl)
theorem lm_X6_137 : (Cond.methodLink RX6 137 yX3_put) ∈ wsL_law := in_r23 _ (List.mem_of_getElem? (i := 3) rfl)
theorem lm_X6_76 : (Cond.methodLink RX6 76 yX6_middle) ∈ wsL_law := in_r23 _ (List.mem_of_getElem? (i := 4) rfl)
theorem li_yX6_middle : (Cond.instanceMethod yX6_middle) ∈ wsL_law := in_r23 _ (List.mem_of_getElem? (i := 5) rfl)
theorem ls_yX6_middle : (Cond.selects RX6 yX6_middle yX6_middle) ∈ wsL_law := in_r23 _ (List.mem_of_getElem? (i := 6) rfl)
theorem lc_yX6_middle : (Cond.code yX6_middle cX6_middle 3 (some .boolean)) ∈ wsL_law := in_r23 _ (List.mem_of_getElem? (i := 7) rfl)
theorem ld_X6_152 : (Cond.constantDouble RX6 152 (4611686018427387904)) ∈ wsL_law := in_r23 _ (List.mem_of_getElem? (i := 8) rfl)
theorem lm_X6_80 : (Cond.methodLink RX6 80 yX6_third) ∈ wsL_law := in_r23 _ (List.mem_of_getElem? (i := 9) rfl)
theorem li_yX6_third : (Cond.instanceMethod yX6_third) ∈ wsL_law := in_r23 _ (List.mem_of_getElem? (i := 10) rfl)
theorem ls_yX6_third : (Cond.selects RX6 yX6_third yX6_third) ∈ wsL_law := in_r23 _ (List.mem_of_getElem? (i := 11) rfl)
theorem lc_yX6_third : (Cond.code yX6_third cX6_third 6 (some .boolean)) ∈ wsL_law := in_r23 _ (List.mem_of_getElem? (i := 12) rfl)
theorem ld_X6_157 : (Cond.constantDouble RX6 157 (4616189618054758400)) ∈ wsL_law := in_r23 _ (List.mem_of_getElem? (i := 13) rfl)
theorem ld_X6_159 : (Cond.constantDouble RX6 159 (4618441417868443648)) ∈ wsL_law := in_r23 _ (List.mem_of_getElem? (i := 14) rfl)
theorem lm_X6_154 : (Cond.methodLink RX6 154 yX2_difference) ∈ wsL_law := in_r23 _ (List.mem_of_getElem? (i := 15) rfl)
theorem lm_X6_83 : (Cond.methodLink RX6 83 yX6_fourth) ∈ wsL_law := in_r23 _ (List.mem_of_getElem? (i := 16) rfl)
theorem li_yX6_fourth : (Cond.instanceMethod yX6_fourth) ∈ wsL_law := in_r23 _ (List.mem_of_getElem? (i := 17) rfl)
theorem ls_yX6_fourth : (Cond.selects RX6 yX6_fourth yX6_fourth) ∈ wsL_law := in_r23 _ (List.mem_of_getElem? (i := 18) rfl)
theorem lc_yX6_fourth : (Cond.code yX6_fourth cX6_fourth 6 (some .boolean)) ∈ wsL_law := in_r23 _ (List.mem_of_getElem? (i := 19) rfl)
theorem lm_X6_86 : (Cond.methodLink RX6 86 yX6_pair) ∈ wsL_law := in_r23 _ (List.mem_of_getElem? (i := 20) rfl)
theorem li_yX6_pair : (Cond.instanceMethod yX6_pair) ∈ wsL_law := in_r23 _ (List.mem_of_getElem? (i := 21) rfl)
theorem ls_yX6_pair : (Cond.selects RX6 yX6_pair yX6_pair) ∈ wsL_law := in_r23 _ (List.mem_of_getElem? (i := 22) rfl)
theorem lc_yX6_pair : (Cond.code yX6_pair cX6_pair 10 (some .boolean)) ∈ wsL_law := in_r23 _ (List.mem_of_getElem? (i := 23) rfl)
theorem ld_X6_161 : (Cond.constantDouble RX6 161 (4613937818241073152)) ∈ wsL_law := in_r24 _ (List.mem_of_getElem? (i := 0) rfl)
theorem ld_X6_163 : (Cond.constantDouble RX6 163 (4621256167635550208)) ∈ wsL_law := in_r24 _ (List.mem_of_getElem? (i := 1) rfl)
theorem ld_X6_165 : (Cond.constantDouble RX6 165 (4620693217682128896)) ∈ wsL_law := in_r24 _ (List.mem_of_getElem? (i := 2) rfl)
theorem ld_X6_167 : (Cond.constantDouble RX6 167 (4617315517961601024)) ∈ wsL_law := in_r24 _ (List.mem_of_getElem? (i := 3) rfl)
theorem ld_X6_169 : (Cond.constantDouble RX6 169 (4634766966517661696)) ∈ wsL_law := in_r24 _ (List.mem_of_getElem? (i := 4) rfl)
theorem lm_X6_89 : (Cond.methodLink RX6 89 yX6_backward) ∈ wsL_law := in_r24 _ (List.mem_of_getElem? (i := 5) rfl)
theorem li_yX6_backward : (Cond.instanceMethod yX6_backward) ∈ wsL_law := in_r24 _ (List.mem_of_getElem? (i := 6) rfl)
theorem ls_yX6_backward : (Cond.selects RX6 yX6_backward yX6_backward) ∈ wsL_law := in_r24 _ (List.mem_of_getElem? (i := 7) rfl)
theorem lc_yX6_backward : (Cond.code yX6_backward cX6_backward 2 (some .boolean)) ∈ wsL_law := in_r24 _ (List.mem_of_getElem? (i := 8) rfl)
theorem lm_X6_171 : (Cond.methodLink RX6 171 yX6_unlikeCount) ∈ wsL_law := in_r24 _ (List.mem_of_getElem? (i := 9) rfl)
theorem li_yX6_unlikeCount : (Cond.instanceMethod yX6_unlikeCount) ∈ wsL_law := in_r24 _ (List.mem_of_getElem? (i := 10) rfl)
theorem ls_yX6_unlikeCount : (Cond.selects RX6 yX6_unlikeCount yX6_unlikeCount) ∈ wsL_law := in_r24 _ (List.mem_of_getElem? (i := 11) rfl)
theorem lc_yX6_unlikeCount : (Cond.code yX6_unlikeCount cX6_unlikeCount 3 (some .int)) ∈ wsL_law := in_r24 _ (List.mem_of_getElem? (i := 12) rfl)
theorem lf_X6_175 : (Cond.fieldLink RX6 175 (TX3 1).1 (TX3 1).2.1 (TX3 1).2.2.1) ∈ wsL_law := in_r24 _ (List.mem_of_getElem? (i := 13) rfl)
theorem lm_X6_92 : (Cond.methodLink RX6 92 yX6_leap) ∈ wsL_law := in_r24 _ (List.mem_of_getElem? (i := 14) rfl)
theorem li_yX6_leap : (Cond.instanceMethod yX6_leap) ∈ wsL_law := in_r24 _ (List.mem_of_getElem? (i := 15) rfl)
theorem ls_yX6_leap : (Cond.selects RX6 yX6_leap yX6_leap) ∈ wsL_law := in_r24 _ (List.mem_of_getElem? (i := 16) rfl)
theorem lc_yX6_leap : (Cond.code yX6_leap cX6_leap 5 (some .boolean)) ∈ wsL_law := in_r24 _ (List.mem_of_getElem? (i := 17) rfl)
theorem lm_X8_288 : (Cond.methodLink RX8 288 yX6_judge) ∈ wsL_law := in_r24 _ (List.mem_of_getElem? (i := 18) rfl)
theorem li_yX6_judge : (Cond.instanceMethod yX6_judge) ∈ wsL_law := in_r24 _ (List.mem_of_getElem? (i := 19) rfl)
theorem ls_yX6_judge : (Cond.selects RX6 yX6_judge yX6_judge) ∈ wsL_law := in_r24 _ (List.mem_of_getElem? (i := 20) rfl)
theorem lc_yX6_judge : (Cond.code yX6_judge cX6_judge 14 none) ∈ wsL_law := in_r24 _ (List.mem_of_getElem? (i := 21) rfl)
theorem lm_X8_292 : (Cond.methodLink RX8 292 yX8_finish) ∈ wsL_law := in_r24 _ (List.mem_of_getElem? (i := 22) rfl)
theorem li_yX8_finish : (Cond.instanceMethod yX8_finish) ∈ wsL_law := in_r24 _ (List.mem_of_getElem? (i := 23) rfl)
theorem ls_yX8_finish : (Cond.selects RX8 yX8_finish yX8_finish) ∈ wsL_law := in_r25 _ (List.mem_of_getElem? (i := 0) rfl)
theorem lc_yX8_finish : (Cond.code yX8_finish cX8_finish 6 none) ∈ wsL_law := in_r25 _ (List.mem_of_getElem? (i := 1) rfl)
theorem lf_X8_206 : (Cond.fieldLink RX8 206 (TX6 4).1 (TX6 4).2.1 (TX6 4).2.2.1) ∈ wsL_law := in_r25 _ (List.mem_of_getElem? (i := 2) rfl)
theorem lm_X8_303 : (Cond.methodLink RX8 303 yX4_take) ∈ wsL_law := in_r25 _ (List.mem_of_getElem? (i := 3) rfl)
theorem li_yX4_take : (Cond.instanceMethod yX4_take) ∈ wsL_law := in_r25 _ (List.mem_of_getElem? (i := 4) rfl)
theorem ls_yX4_take : (Cond.selects RX4 yX4_take yX4_take) ∈ wsL_law := in_r25 _ (List.mem_of_getElem? (i := 5) rfl)
theorem lc_yX4_take : (Cond.code yX4_take cX4_take 3 none) ∈ wsL_law := in_r25 _ (List.mem_of_getElem? (i := 6) rfl)
theorem lf_X4_84 : (Cond.fieldLink RX4 84 (TX6 8).1 (TX6 8).2.1 (TX6 8).2.2.1) ∈ wsL_law := in_r25 _ (List.mem_of_getElem? (i := 7) rfl)
theorem lf_X4_87 : (Cond.fieldLink RX4 87 (TX6 5).1 (TX6 5).2.1 (TX6 5).2.2.1) ∈ wsL_law := in_r25 _ (List.mem_of_getElem? (i := 8) rfl)
theorem lf_X4_69 : (Cond.fieldLink RX4 69 (TX4 8).1 (TX4 8).2.1 (TX4 8).2.2.1) ∈ wsL_law := in_r25 _ (List.mem_of_getElem? (i := 9) rfl)
theorem lf_X4_72 : (Cond.fieldLink RX4 72 (TX4 9).1 (TX4 9).2.1 (TX4 9).2.2.1) ∈ wsL_law := in_r25 _ (List.mem_of_getElem? (i := 10) rfl)
theorem lm_X4_78 : (Cond.methodLink RX4 78 yX6_copy) ∈ wsL_law := in_r25 _ (List.mem_of_getElem? (i := 11) rfl)
theorem li_yX6_copy : (Cond.instanceMethod yX6_copy) ∈ wsL_law := in_r25 _ (List.mem_of_getElem? (i := 12) rfl)
theorem ls_yX6_copy : (Cond.selects RX6 yX6_copy yX6_copy) ∈ wsL_law := in_r25 _ (List.mem_of_getElem? (i := 13) rfl)
theorem lc_yX6_copy : (Cond.code yX6_copy cX6_copy 3 none) ∈ wsL_law := in_r25 _ (List.mem_of_getElem? (i := 14) rfl)
theorem lm_X4_81 : (Cond.methodLink RX4 81 yX6_reckonEnd) ∈ wsL_law := in_r25 _ (List.mem_of_getElem? (i := 15) rfl)
theorem li_yX6_reckonEnd : (Cond.instanceMethod yX6_reckonEnd) ∈ wsL_law := in_r25 _ (List.mem_of_getElem? (i := 16) rfl)
theorem ls_yX6_reckonEnd : (Cond.selects RX6 yX6_reckonEnd yX6_reckonEnd) ∈ wsL_law := in_r25 _ (List.mem_of_getElem? (i := 17) rfl)
theorem lc_yX6_reckonEnd : (Cond.code yX6_reckonEnd cX6_reckonEnd 1 none) ∈ wsL_law := in_r25 _ (List.mem_of_getElem? (i := 18) rfl)
theorem lm_X4_61 : (Cond.methodLink RX4 61 yX3_copy) ∈ wsL_law := in_r25 _ (List.mem_of_getElem? (i := 19) rfl)
theorem lm_X8_307 : (Cond.methodLink RX8 307 yX8_grown) ∈ wsL_law := in_r25 _ (List.mem_of_getElem? (i := 20) rfl)
theorem lt_yX8_grown : (Cond.static yX8_grown) ∈ wsL_law := in_r25 _ (List.mem_of_getElem? (i := 21) rfl)
theorem lc_yX8_grown : (Cond.code yX8_grown cX8_grown 6 (some .double)) ∈ wsL_law := in_r25 _ (List.mem_of_getElem? (i := 22) rfl)
theorem ld_X8_311 : (Cond.constantDouble RX8 311 (4580160821035794432)) ∈ wsL_law := in_r25 _ (List.mem_of_getElem? (i := 23) rfl)
theorem ld_X8_313 : (Cond.constantDouble RX8 313 (4593671619917905920)) ∈ wsL_law := in_r26 _ (List.mem_of_getElem? (i := 0) rfl)
theorem ld_X8_315 : (Cond.constantDouble RX8 315 (13875590451928498176)) ∈ wsL_law := in_r26 _ (List.mem_of_getElem? (i := 1) rfl)
theorem lm_X8_296 : (Cond.methodLink RX8 296 yX4_lookAtEvents) ∈ wsL_law := in_r26 _ (List.mem_of_getElem? (i := 2) rfl)
theorem li_yX4_lookAtEvents : (Cond.instanceMethod yX4_lookAtEvents) ∈ wsL_law := in_r26 _ (List.mem_of_getElem? (i := 3) rfl)
theorem ls_yX4_lookAtEvents : (Cond.selects RX4 yX4_lookAtEvents yX4_lookAtEvents) ∈ wsL_law := in_r26 _ (List.mem_of_getElem? (i := 4) rfl)
theorem lc_yX4_lookAtEvents : (Cond.code yX4_lookAtEvents cX4_lookAtEvents 5 none) ∈ wsL_law := in_r26 _ (List.mem_of_getElem? (i := 5) rfl)
theorem lf_X4_90 : (Cond.fieldLink RX4 90 (TX0 0).1 (TX0 0).2.1 (TX0 0).2.2.1) ∈ wsL_law := in_r26 _ (List.mem_of_getElem? (i := 6) rfl)
theorem lf_X4_93 : (Cond.fieldLink RX4 93 (TX0 5).1 (TX0 5).2.1 (TX0 5).2.2.1) ∈ wsL_law := in_r26 _ (List.mem_of_getElem? (i := 7) rfl)
theorem lf_X4_113 : (Cond.fieldLink RX4 113 (TX0 3).1 (TX0 3).2.1 (TX0 3).2.2.1) ∈ wsL_law := in_r26 _ (List.mem_of_getElem? (i := 8) rfl)
theorem lm_X4_97 : (Cond.methodLink RX4 97 yX4_highOf) ∈ wsL_law := in_r26 _ (List.mem_of_getElem? (i := 9) rfl)
theorem li_yX4_highOf : (Cond.instanceMethod yX4_highOf) ∈ wsL_law := in_r26 _ (List.mem_of_getElem? (i := 10) rfl)
theorem ls_yX4_highOf : (Cond.selects RX4 yX4_highOf yX4_highOf) ∈ wsL_law := in_r26 _ (List.mem_of_getElem? (i := 11) rfl)
theorem lc_yX4_highOf : (Cond.code yX4_highOf cX4_highOf 5 (some .double)) ∈ wsL_law := in_r26 _ (List.mem_of_getElem? (i := 12) rfl)
theorem lf_X4_120 : (Cond.fieldLink RX4 120 (TX0 1).1 (TX0 1).2.1 (TX0 1).2.2.1) ∈ wsL_law := in_r26 _ (List.mem_of_getElem? (i := 13) rfl)
theorem lf_X4_123 : (Cond.fieldLink RX4 123 (TX6 3).1 (TX6 3).2.1 (TX6 3).2.2.1) ∈ wsL_law := in_r26 _ (List.mem_of_getElem? (i := 14) rfl)
theorem lf_X4_126 : (Cond.fieldLink RX4 126 (TX6 6).1 (TX6 6).2.1 (TX6 6).2.2.1) ∈ wsL_law := in_r26 _ (List.mem_of_getElem? (i := 15) rfl)
theorem ld_X4_143 : (Cond.constantDouble RX4 143 (4611686018427387904)) ∈ wsL_law := in_r26 _ (List.mem_of_getElem? (i := 16) rfl)
theorem lm_X4_129 : (Cond.methodLink RX4 129 yX1_reckonNodes) ∈ wsL_law := in_r26 _ (List.mem_of_getElem? (i := 17) rfl)
theorem lm_X4_135 : (Cond.methodLink RX4 135 yX1_signOf) ∈ wsL_law := in_r26 _ (List.mem_of_getElem? (i := 18) rfl)
theorem lm_X4_139 : (Cond.methodLink RX4 139 yX0_turn) ∈ wsL_law := in_r26 _ (List.mem_of_getElem? (i := 19) rfl)
theorem li_yX0_turn : (Cond.instanceMethod yX0_turn) ∈ wsL_law := in_r26 _ (List.mem_of_getElem? (i := 20) rfl)
theorem ls_yX0_turn : (Cond.selects RX0 yX0_turn yX0_turn) ∈ wsL_law := in_r26 _ (List.mem_of_getElem? (i := 21) rfl)
theorem lc_yX0_turn : (Cond.code yX0_turn cX0_turn 4 (some .int)) ∈ wsL_law := in_r26 _ (List.mem_of_getElem? (i := 22) rfl)
theorem lm_X4_145 : (Cond.methodLink RX4 145 yX4_search) ∈ wsL_law := in_r26 _ (List.mem_of_getElem? (i := 23) rfl)
theorem li_yX4_search : (Cond.instanceMethod yX4_search) ∈ wsL_law := in_r27 _ (List.mem_of_getElem? (i := 0) rfl)
theorem ls_yX4_search : (Cond.selects RX4 yX4_search yX4_search) ∈ wsL_law := in_r27 _ (List.mem_of_getElem? (i := 1) rfl)
theorem lc_yX4_search : (Cond.code yX4_search cX4_search 11 (some .double)) ∈ wsL_law := in_r27 _ (List.mem_of_getElem? (i := 2) rfl)
theorem lf_X4_153 : (Cond.fieldLink RX4 153 (TX6 7).1 (TX6 7).2.1 (TX6 7).2.2.1) ∈ wsL_law := in_r27 _ (List.mem_of_getElem? (i := 3) rfl)
theorem lm_X4_149 : (Cond.methodLink RX4 149 yX6_blendAll) ∈ wsL_law := in_r27 _ (List.mem_of_getElem? (i := 4) rfl)
theorem li_yX6_blendAll : (Cond.instanceMethod yX6_blendAll) ∈ wsL_law := in_r27 _ (List.mem_of_getElem? (i := 5) rfl)
theorem ls_yX6_blendAll : (Cond.selects RX6 yX6_blendAll yX6_blendAll) ∈ wsL_law := in_r27 _ (List.mem_of_getElem? (i := 6) rfl)
theorem lc_yX6_blendAll : (Cond.code yX6_blendAll cX6_blendAll 4 none) ∈ wsL_law := in_r27 _ (List.mem_of_getElem? (i := 7) rfl)
theorem lm_X6_186 : (Cond.methodLink RX6 186 yX6_blend) ∈ wsL_law := in_r27 _ (List.mem_of_getElem? (i := 8) rfl)
theorem li_yX6_blend : (Cond.instanceMethod yX6_blend) ∈ wsL_law := in_r27 _ (List.mem_of_getElem? (i := 9) rfl)
theorem ls_yX6_blend : (Cond.selects RX6 yX6_blend yX6_blend) ∈ wsL_law := in_r27 _ (List.mem_of_getElem? (i := 10) rfl)
theorem lc_yX6_blend : (Cond.code yX6_blend cX6_blend 12 none) ∈ wsL_law := in_r27 _ (List.mem_of_getElem? (i := 11) rfl)
theorem lm_X6_182 : (Cond.methodLink RX6 182 yX3_copyOne) ∈ wsL_law := in_r27 _ (List.mem_of_getElem? (i := 12) rfl)
theorem li_yX3_copyOne : (Cond.instanceMethod yX3_copyOne) ∈ wsL_law := in_r27 _ (List.mem_of_getElem? (i := 13) rfl)
theorem ls_yX3_copyOne : (Cond.selects RX3 yX3_copyOne yX3_copyOne) ∈ wsL_law := in_r27 _ (List.mem_of_getElem? (i := 14) rfl)
theorem lc_yX3_copyOne : (Cond.code yX3_copyOne cX3_copyOne 3 none) ∈ wsL_law := in_r27 _ (List.mem_of_getElem? (i := 15) rfl)
theorem lm_X4_105 : (Cond.methodLink RX4 105 yX6_timeAt) ∈ wsL_law := in_r27 _ (List.mem_of_getElem? (i := 16) rfl)
theorem li_yX6_timeAt : (Cond.instanceMethod yX6_timeAt) ∈ wsL_law := in_r27 _ (List.mem_of_getElem? (i := 17) rfl)
theorem ls_yX6_timeAt : (Cond.selects RX6 yX6_timeAt yX6_timeAt) ∈ wsL_law := in_r27 _ (List.mem_of_getElem? (i := 18) rfl)
theorem lc_yX6_timeAt : (Cond.code yX6_timeAt cX6_timeAt 3 (some .double)) ∈ wsL_law := in_r27 _ (List.mem_of_getElem? (i := 19) rfl)
theorem lm_X4_101 : (Cond.methodLink RX4 101 yX0_earliest) ∈ wsL_law := in_r27 _ (List.mem_of_getElem? (i := 20) rfl)
theorem li_yX0_earliest : (Cond.instanceMethod yX0_earliest) ∈ wsL_law := in_r27 _ (List.mem_of_getElem? (i := 21) rfl)
theorem ls_yX0_earliest : (Cond.selects RX0 yX0_earliest yX0_earliest) ∈ wsL_law := in_r27 _ (List.mem_of_getElem? (i := 22) rfl)
theorem lc_yX0_earliest : (Cond.code yX0_earliest cX0_earliest 5 (some .int)) ∈ wsL_law := in_r27 _ (List.mem_of_getElem? (i := 23) rfl)
theorem ld_X0_47 : (Cond.constantDouble RX0 47 (4611686018427387904)) ∈ wsL_law := in_r28 _ (List.mem_of_getElem? (i := 0) rfl)
theorem lm_X4_109 : (Cond.methodLink RX4 109 yX0_fire) ∈ wsL_law := in_r28 _ (List.mem_of_getElem? (i := 1) rfl)
theorem li_yX0_fire : (Cond.instanceMethod yX0_fire) ∈ wsL_law := in_r28 _ (List.mem_of_getElem? (i := 2) rfl)
theorem ls_yX0_fire : (Cond.selects RX0 yX0_fire yX0_fire) ∈ wsL_law := in_r28 _ (List.mem_of_getElem? (i := 3) rfl)
theorem lc_yX0_fire : (Cond.code yX0_fire cX0_fire 4 none) ∈ wsL_law := in_r28 _ (List.mem_of_getElem? (i := 4) rfl)
theorem lf_X0_44 : (Cond.fieldLink RX0 44 (TX0 6).1 (TX0 6).2.1 (TX0 6).2.2.1) ∈ wsL_law := in_r28 _ (List.mem_of_getElem? (i := 5) rfl)
theorem lm_X4_117 : (Cond.methodLink RX4 117 yX4_act) ∈ wsL_law := in_r28 _ (List.mem_of_getElem? (i := 6) rfl)
theorem li_yX4_act : (Cond.instanceMethod yX4_act) ∈ wsL_law := in_r28 _ (List.mem_of_getElem? (i := 7) rfl)
theorem ls_yX4_act : (Cond.selects RX4 yX4_act yX4_act) ∈ wsL_law := in_r28 _ (List.mem_of_getElem? (i := 8) rfl)
theorem lc_yX4_act : (Cond.code yX4_act cX4_act 5 none) ∈ wsL_law := in_r28 _ (List.mem_of_getElem? (i := 9) rfl)
theorem lf_X4_65 : (Cond.fieldLink RX4 65 (TX4 7).1 (TX4 7).2.1 (TX4 7).2.2.1) ∈ wsL_law := in_r28 _ (List.mem_of_getElem? (i := 10) rfl)
theorem lf_X4_156 : (Cond.fieldLink RX4 156 (TX0 4).1 (TX0 4).2.1 (TX0 4).2.2.1) ∈ wsL_law := in_r28 _ (List.mem_of_getElem? (i := 11) rfl)
theorem lf_X4_163 : (Cond.fieldLink RX4 163 (TX3 0).1 (TX3 0).2.1 (TX3 0).2.2.1) ∈ wsL_law := in_r28 _ (List.mem_of_getElem? (i := 12) rfl)
theorem lm_X4_159 : (Cond.methodLink RX4 159 yX1_hasVariable) ∈ wsL_law := in_r28 _ (List.mem_of_getElem? (i := 13) rfl)
theorem lm_L_77 : (Cond.methodLink RL 77 yX9_step) ∈ wsL_law := in_r28 _ (List.mem_of_getElem? (i := 14) rfl)
theorem li_yX9_step : (Cond.instanceMethod yX9_step) ∈ wsL_law := in_r28 _ (List.mem_of_getElem? (i := 15) rfl)
theorem ls_yX9_step : (Cond.selects RX9 yX9_step yX9_step) ∈ wsL_law := in_r28 _ (List.mem_of_getElem? (i := 16) rfl)
theorem lc_yX9_step : (Cond.code yX9_step cX9_step 2 (some .int)) ∈ wsL_law := in_r28 _ (List.mem_of_getElem? (i := 17) rfl)
theorem lm_X9_370 : (Cond.methodLink RX9 370 yX9_goes) ∈ wsL_law := in_r28 _ (List.mem_of_getElem? (i := 18) rfl)
theorem li_yX9_goes : (Cond.instanceMethod yX9_goes) ∈ wsL_law := in_r28 _ (List.mem_of_getElem? (i := 19) rfl)
theorem ls_yX9_goes : (Cond.selects RX9 yX9_goes yX9_goes) ∈ wsL_law := in_r28 _ (List.mem_of_getElem? (i := 20) rfl)
theorem lc_yX9_goes : (Cond.code yX9_goes cX9_goes 17 (some .int)) ∈ wsL_law := in_r28 _ (List.mem_of_getElem? (i := 21) rfl)
theorem ld_X9_297 : (Cond.constantDouble RX9 297 (4620693217682128896)) ∈ wsL_law := in_r28 _ (List.mem_of_getElem? (i := 22) rfl)
theorem ld_X9_285 : (Cond.constantDouble RX9 285 (4611686018427387904)) ∈ wsL_law := in_r28 _ (List.mem_of_getElem? (i := 23) rfl)
theorem ld_X9_289 : (Cond.constantDouble RX9 289 (4616189618054758400)) ∈ wsL_law := in_r29 _ (List.mem_of_getElem? (i := 0) rfl)
theorem lm_X9_301 : (Cond.methodLink RX9 301 yX9_made) ∈ wsL_law := in_r29 _ (List.mem_of_getElem? (i := 1) rfl)
theorem li_yX9_made : (Cond.instanceMethod yX9_made) ∈ wsL_law := in_r29 _ (List.mem_of_getElem? (i := 2) rfl)
theorem ls_yX9_made : (Cond.selects RX9 yX9_made yX9_made) ∈ wsL_law := in_r29 _ (List.mem_of_getElem? (i := 3) rfl)
theorem lc_yX9_made : (Cond.code yX9_made cX9_made 9 (some .boolean)) ∈ wsL_law := in_r29 _ (List.mem_of_getElem? (i := 4) rfl)
theorem lf_X9_246 : (Cond.fieldLink RX9 246 (TX9 60).1 (TX9 60).2.1 (TX9 60).2.2.1) ∈ wsL_law := in_r29 _ (List.mem_of_getElem? (i := 5) rfl)
theorem lf_X9_250 : (Cond.fieldLink RX9 250 (TX9 61).1 (TX9 61).2.1 (TX9 61).2.2.1) ∈ wsL_law := in_r29 _ (List.mem_of_getElem? (i := 6) rfl)
theorem lm_X9_254 : (Cond.methodLink RX9 254 yX9_rates) ∈ wsL_law := in_r29 _ (List.mem_of_getElem? (i := 7) rfl)
theorem li_yX9_rates : (Cond.instanceMethod yX9_rates) ∈ wsL_law := in_r29 _ (List.mem_of_getElem? (i := 8) rfl)
theorem ls_yX9_rates : (Cond.selects RX9 yX9_rates yX9_rates) ∈ wsL_law := in_r29 _ (List.mem_of_getElem? (i := 9) rfl)
theorem lc_yX9_rates : (Cond.code yX9_rates cX9_rates 7 none) ∈ wsL_law := in_r29 _ (List.mem_of_getElem? (i := 10) rfl)
theorem lm_X9_242 : (Cond.methodLink RX9 242 yX9_all) ∈ wsL_law := in_r29 _ (List.mem_of_getElem? (i := 11) rfl)
theorem li_yX9_all : (Cond.instanceMethod yX9_all) ∈ wsL_law := in_r29 _ (List.mem_of_getElem? (i := 12) rfl)
theorem ls_yX9_all : (Cond.selects RX9 yX9_all yX9_all) ∈ wsL_law := in_r29 _ (List.mem_of_getElem? (i := 13) rfl)
theorem lc_yX9_all : (Cond.code yX9_all cX9_all 6 none) ∈ wsL_law := in_r29 _ (List.mem_of_getElem? (i := 14) rfl)
theorem lm_X9_238 : (Cond.methodLink RX9 238 yX9_worth) ∈ wsL_law := in_r29 _ (List.mem_of_getElem? (i := 15) rfl)
theorem li_yX9_worth : (Cond.instanceMethod yX9_worth) ∈ wsL_law := in_r29 _ (List.mem_of_getElem? (i := 16) rfl)
theorem ls_yX9_worth : (Cond.selects RX9 yX9_worth yX9_worth) ∈ wsL_law := in_r29 _ (List.mem_of_getElem? (i := 17) rfl)
theorem lc_yX9_worth : (Cond.code yX9_worth cX9_worth 9 (some .double)) ∈ wsL_law := in_r29 _ (List.mem_of_getElem? (i := 18) rfl)
theorem lm_X9_214 : (Cond.methodLink RX9 214 yX9_plus) ∈ wsL_law := in_r29 _ (List.mem_of_getElem? (i := 19) rfl)
theorem lt_yX9_plus : (Cond.static yX9_plus) ∈ wsL_law := in_r29 _ (List.mem_of_getElem? (i := 20) rfl)
theorem lc_yX9_plus : (Cond.code yX9_plus cX9_plus 5 (some .double)) ∈ wsL_law := in_r29 _ (List.mem_of_getElem? (i := 21) rfl)
theorem ld_X9_196 : (Cond.constantDouble RX9 196 (9221120237041090560)) ∈ wsL_law := in_r29 _ (List.mem_of_getElem? (i := 22) rfl)
theorem lm_X9_193 : (Cond.methodLink RX9 193 yX9_isFinite) ∈ wsL_law := in_r29 _ (List.mem_of_getElem? (i := 23) rfl)
theorem lt_yX9_isFinite : (Cond.static yX9_isFinite) ∈ wsL_law := in_r30 _ (List.mem_of_getElem? (i := 0) rfl)
theorem lc_yX9_isFinite : (Cond.code yX9_isFinite cX9_isFinite 2 (some .boolean)) ∈ wsL_law := in_r30 _ (List.mem_of_getElem? (i := 1) rfl)
theorem ld_X9_185 : (Cond.constantDouble RX9 185 (18442240474082181119)) ∈ wsL_law := in_r30 _ (List.mem_of_getElem? (i := 2) rfl)
theorem ld_X9_187 : (Cond.constantDouble RX9 187 (9218868437227405311)) ∈ wsL_law := in_r30 _ (List.mem_of_getElem? (i := 3) rfl)
theorem lm_X9_204 : (Cond.methodLink RX9 204 yX9_less) ∈ wsL_law := in_r30 _ (List.mem_of_getElem? (i := 4) rfl)
theorem lt_yX9_less : (Cond.static yX9_less) ∈ wsL_law := in_r30 _ (List.mem_of_getElem? (i := 5) rfl)
theorem lc_yX9_less : (Cond.code yX9_less cX9_less 5 (some .double)) ∈ wsL_law := in_r30 _ (List.mem_of_getElem? (i := 6) rfl)
theorem lm_X9_211 : (Cond.methodLink RX9 211 yX9_times) ∈ wsL_law := in_r30 _ (List.mem_of_getElem? (i := 7) rfl)
theorem lt_yX9_times : (Cond.static yX9_times) ∈ wsL_law := in_r30 _ (List.mem_of_getElem? (i := 8) rfl)
theorem lc_yX9_times : (Cond.code yX9_times cX9_times 5 (some .double)) ∈ wsL_law := in_r30 _ (List.mem_of_getElem? (i := 9) rfl)
theorem lm_X9_208 : (Cond.methodLink RX9 208 yX9_by) ∈ wsL_law := in_r30 _ (List.mem_of_getElem? (i := 10) rfl)
theorem lt_yX9_by : (Cond.static yX9_by) ∈ wsL_law := in_r30 _ (List.mem_of_getElem? (i := 11) rfl)
theorem lc_yX9_by : (Cond.code yX9_by cX9_by 5 (some .double)) ∈ wsL_law := in_r30 _ (List.mem_of_getElem? (i := 12) rfl)
theorem lm_X9_217 : (Cond.methodLink RX9 217 yX9_turned) ∈ wsL_law := in_r30 _ (List.mem_of_getElem? (i := 13) rfl)
theorem lt_yX9_turned : (Cond.static yX9_turned) ∈ wsL_law := in_r30 _ (List.mem_of_getElem? (i := 14) rfl)
theorem lc_yX9_turned : (Cond.code yX9_turned cX9_turned 2 (some .double)) ∈ wsL_law := in_r30 _ (List.mem_of_getElem? (i := 15) rfl)
theorem lm_X9_224 : (Cond.methodLink RX9 224 yX9_least) ∈ wsL_law := in_r30 _ (List.mem_of_getElem? (i := 16) rfl)
theorem lt_yX9_least : (Cond.static yX9_least) ∈ wsL_law := in_r30 _ (List.mem_of_getElem? (i := 17) rfl)
theorem lc_yX9_least : (Cond.code yX9_least cX9_least 4 (some .double)) ∈ wsL_law := in_r30 _ (List.mem_of_getElem? (i := 18) rfl)
theorem lm_X9_227 : (Cond.methodLink RX9 227 yX9_greatest) ∈ wsL_law := in_r30 _ (List.mem_of_getElem? (i := 19) rfl)
theorem lt_yX9_greatest : (Cond.static yX9_greatest) ∈ wsL_law := in_r30 _ (List.mem_of_getElem? (i := 20) rfl)
theorem lc_yX9_greatest : (Cond.code yX9_greatest cX9_greatest 4 (some .double)) ∈ wsL_law := in_r30 _ (List.mem_of_getElem? (i := 21) rfl)
theorem lm_X9_230 : (Cond.methodLink RX9 230 yX9_power) ∈ wsL_law := in_r30 _ (List.mem_of_getElem? (i := 22) rfl)
theorem lt_yX9_power : (Cond.static yX9_power) ∈ wsL_law := in_r30 _ (List.mem_of_getElem? (i := 23) rfl)
theorem lc_yX9_power : (Cond.code yX9_power cX9_power 6 (some .double)) ∈ wsL_law := in_r31 _ (List.mem_of_getElem? (i := 0) rfl)
theorem lm_X9_234 : (Cond.methodLink RX9 234 yX9_signalAt) ∈ wsL_law := in_r31 _ (List.mem_of_getElem? (i := 1) rfl)
theorem li_yX9_signalAt : (Cond.instanceMethod yX9_signalAt) ∈ wsL_law := in_r31 _ (List.mem_of_getElem? (i := 2) rfl)
theorem ls_yX9_signalAt : (Cond.selects RX9 yX9_signalAt yX9_signalAt) ∈ wsL_law := in_r31 _ (List.mem_of_getElem? (i := 3) rfl)
theorem lc_yX9_signalAt : (Cond.code yX9_signalAt cX9_signalAt 7 (some .double)) ∈ wsL_law := in_r31 _ (List.mem_of_getElem? (i := 4) rfl)
theorem lm_X9_258 : (Cond.methodLink RX9 258 yX9_plain) ∈ wsL_law := in_r31 _ (List.mem_of_getElem? (i := 5) rfl)
theorem li_yX9_plain : (Cond.instanceMethod yX9_plain) ∈ wsL_law := in_r31 _ (List.mem_of_getElem? (i := 6) rfl)
theorem ls_yX9_plain : (Cond.selects RX9 yX9_plain yX9_plain) ∈ wsL_law := in_r31 _ (List.mem_of_getElem? (i := 7) rfl)
theorem lc_yX9_plain : (Cond.code yX9_plain cX9_plain 6 none) ∈ wsL_law := in_r31 _ (List.mem_of_getElem? (i := 8) rfl)
theorem lm_X9_262 : (Cond.methodLink RX9 262 yX9_byMiddle) ∈ wsL_law := in_r31 _ (List.mem_of_getElem? (i := 9) rfl)
theorem li_yX9_byMiddle : (Cond.instanceMethod yX9_byMiddle) ∈ wsL_law := in_r31 _ (List.mem_of_getElem? (i := 10) rfl)
theorem ls_yX9_byMiddle : (Cond.selects RX9 yX9_byMiddle yX9_byMiddle) ∈ wsL_law := in_r31 _ (List.mem_of_getElem? (i := 11) rfl)
theorem lc_yX9_byMiddle : (Cond.code yX9_byMiddle cX9_byMiddle 10 none) ∈ wsL_law := in_r31 _ (List.mem_of_getElem? (i := 12) rfl)
theorem lm_X9_266 : (Cond.methodLink RX9 266 yX9_third) ∈ wsL_law := in_r31 _ (List.mem_of_getElem? (i := 13) rfl)
theorem li_yX9_third : (Cond.instanceMethod yX9_third) ∈ wsL_law := in_r31 _ (List.mem_of_getElem? (i := 14) rfl)
theorem ls_yX9_third : (Cond.selects RX9 yX9_third yX9_third) ∈ wsL_law := in_r31 _ (List.mem_of_getElem? (i := 15) rfl)
theorem lc_yX9_third : (Cond.code yX9_third cX9_third 10 none) ∈ wsL_law := in_r31 _ (List.mem_of_getElem? (i := 16) rfl)
theorem ld_X9_287 : (Cond.constantDouble RX9 287 (4618441417868443648)) ∈ wsL_law := in_r31 _ (List.mem_of_getElem? (i := 17) rfl)
theorem lm_X9_269 : (Cond.methodLink RX9 269 yX9_fourth) ∈ wsL_law := in_r31 _ (List.mem_of_getElem? (i := 18) rfl)
theorem li_yX9_fourth : (Cond.instanceMethod yX9_fourth) ∈ wsL_law := in_r31 _ (List.mem_of_getElem? (i := 19) rfl)
theorem ls_yX9_fourth : (Cond.selects RX9 yX9_fourth yX9_fourth) ∈ wsL_law := in_r31 _ (List.mem_of_getElem? (i := 20) rfl)
theorem lc_yX9_fourth : (Cond.code yX9_fourth cX9_fourth 10 none) ∈ wsL_law := in_r31 _ (List.mem_of_getElem? (i := 21) rfl)
theorem lm_X9_272 : (Cond.methodLink RX9 272 yX9_pair) ∈ wsL_law := in_r31 _ (List.mem_of_getElem? (i := 22) rfl)
theorem li_yX9_pair : (Cond.instanceMethod yX9_pair) ∈ wsL_law := in_r31 _ (List.mem_of_getElem? (i := 23) rfl)
theorem ls_yX9_pair : (Cond.selects RX9 yX9_pair yX9_pair) ∈ wsL_law := in_r32 _ (List.mem_of_getElem? (i := 0) rfl)
theorem lc_yX9_pair : (Cond.code yX9_pair cX9_pair 12 none) ∈ wsL_law := in_r32 _ (List.mem_of_getElem? (i := 1) rfl)
theorem ld_X9_291 : (Cond.constantDouble RX9 291 (4613937818241073152)) ∈ wsL_law := in_r32 _ (List.mem_of_getElem? (i := 2) rfl)
theorem ld_X9_293 : (Cond.constantDouble RX9 293 (4621256167635550208)) ∈ wsL_law := in_r32 _ (List.mem_of_getElem? (i := 3) rfl)
theorem ld_X9_295 : (Cond.constantDouble RX9 295 (4634766966517661696)) ∈ wsL_law := in_r32 _ (List.mem_of_getElem? (i := 4) rfl)
theorem ld_X9_299 : (Cond.constantDouble RX9 299 (4617315517961601024)) ∈ wsL_law := in_r32 _ (List.mem_of_getElem? (i := 5) rfl)
theorem lm_X9_275 : (Cond.methodLink RX9 275 yX9_backward) ∈ wsL_law := in_r32 _ (List.mem_of_getElem? (i := 6) rfl)
theorem li_yX9_backward : (Cond.instanceMethod yX9_backward) ∈ wsL_law := in_r32 _ (List.mem_of_getElem? (i := 7) rfl)
theorem ls_yX9_backward : (Cond.selects RX9 yX9_backward yX9_backward) ∈ wsL_law := in_r32 _ (List.mem_of_getElem? (i := 8) rfl)
theorem lc_yX9_backward : (Cond.code yX9_backward cX9_backward 9 none) ∈ wsL_law := in_r32 _ (List.mem_of_getElem? (i := 9) rfl)
theorem lm_X9_278 : (Cond.methodLink RX9 278 yX9_leap) ∈ wsL_law := in_r32 _ (List.mem_of_getElem? (i := 10) rfl)
theorem li_yX9_leap : (Cond.instanceMethod yX9_leap) ∈ wsL_law := in_r32 _ (List.mem_of_getElem? (i := 11) rfl)
theorem ls_yX9_leap : (Cond.selects RX9 yX9_leap yX9_leap) ∈ wsL_law := in_r32 _ (List.mem_of_getElem? (i := 12) rfl)
theorem lc_yX9_leap : (Cond.code yX9_leap cX9_leap 11 none) ∈ wsL_law := in_r32 _ (List.mem_of_getElem? (i := 13) rfl)
theorem lm_X9_305 : (Cond.methodLink RX9 305 yX9_greatestRatio) ∈ wsL_law := in_r32 _ (List.mem_of_getElem? (i := 14) rfl)
theorem li_yX9_greatestRatio : (Cond.instanceMethod yX9_greatestRatio) ∈ wsL_law := in_r32 _ (List.mem_of_getElem? (i := 15) rfl)
theorem ls_yX9_greatestRatio : (Cond.selects RX9 yX9_greatestRatio yX9_greatestRatio) ∈ wsL_law := in_r32 _ (List.mem_of_getElem? (i := 16) rfl)
theorem lc_yX9_greatestRatio : (Cond.code yX9_greatestRatio cX9_greatestRatio 12 (some .double)) ∈ wsL_law := in_r32 _ (List.mem_of_getElem? (i := 17) rfl)
theorem lm_X9_311 : (Cond.methodLink RX9 311 yX9_longer) ∈ wsL_law := in_r32 _ (List.mem_of_getElem? (i := 18) rfl)
theorem lt_yX9_longer : (Cond.static yX9_longer) ∈ wsL_law := in_r32 _ (List.mem_of_getElem? (i := 19) rfl)
theorem lc_yX9_longer : (Cond.code yX9_longer cX9_longer 6 (some .double)) ∈ wsL_law := in_r32 _ (List.mem_of_getElem? (i := 20) rfl)
theorem ld_X9_322 : (Cond.constantDouble RX9 322 (4580160821035794432)) ∈ wsL_law := in_r32 _ (List.mem_of_getElem? (i := 21) rfl)
theorem ld_X9_328 : (Cond.constantDouble RX9 328 (13875590451928498176)) ∈ wsL_law := in_r32 _ (List.mem_of_getElem? (i := 22) rfl)
theorem lm_X9_314 : (Cond.methodLink RX9 314 yX9_keepsStep) ∈ wsL_law := in_r32 _ (List.mem_of_getElem? (i := 23) rfl)
theorem li_yX9_keepsStep : (Cond.instanceMethod yX9_keepsStep) ∈ wsL_law := in_r33 _ (List.mem_of_getElem? (i := 0) rfl)
theorem ls_yX9_keepsStep : (Cond.selects RX9 yX9_keepsStep yX9_keepsStep) ∈ wsL_law := in_r33 _ (List.mem_of_getElem? (i := 1) rfl)
theorem lc_yX9_keepsStep : (Cond.code yX9_keepsStep cX9_keepsStep 8 none) ∈ wsL_law := in_r33 _ (List.mem_of_getElem? (i := 2) rfl)
theorem lm_X9_318 : (Cond.methodLink RX9 318 yX9_looksAtEvents) ∈ wsL_law := in_r33 _ (List.mem_of_getElem? (i := 3) rfl)
theorem li_yX9_looksAtEvents : (Cond.instanceMethod yX9_looksAtEvents) ∈ wsL_law := in_r33 _ (List.mem_of_getElem? (i := 4) rfl)
theorem ls_yX9_looksAtEvents : (Cond.selects RX9 yX9_looksAtEvents yX9_looksAtEvents) ∈ wsL_law := in_r33 _ (List.mem_of_getElem? (i := 5) rfl)
theorem lc_yX9_looksAtEvents : (Cond.code yX9_looksAtEvents cX9_looksAtEvents 5 none) ∈ wsL_law := in_r33 _ (List.mem_of_getElem? (i := 6) rfl)
theorem lm_X9_336 : (Cond.methodLink RX9 336 yX9_looksAt) ∈ wsL_law := in_r33 _ (List.mem_of_getElem? (i := 7) rfl)
theorem li_yX9_looksAt : (Cond.instanceMethod yX9_looksAt) ∈ wsL_law := in_r33 _ (List.mem_of_getElem? (i := 8) rfl)
theorem ls_yX9_looksAt : (Cond.selects RX9 yX9_looksAt yX9_looksAt) ∈ wsL_law := in_r33 _ (List.mem_of_getElem? (i := 9) rfl)
theorem lc_yX9_looksAt : (Cond.code yX9_looksAt cX9_looksAt 18 none) ∈ wsL_law := in_r33 _ (List.mem_of_getElem? (i := 10) rfl)
theorem lm_X9_333 : (Cond.methodLink RX9 333 yX9_valueAt) ∈ wsL_law := in_r33 _ (List.mem_of_getElem? (i := 11) rfl)
theorem li_yX9_valueAt : (Cond.instanceMethod yX9_valueAt) ∈ wsL_law := in_r33 _ (List.mem_of_getElem? (i := 12) rfl)
theorem ls_yX9_valueAt : (Cond.selects RX9 yX9_valueAt yX9_valueAt) ∈ wsL_law := in_r33 _ (List.mem_of_getElem? (i := 13) rfl)
theorem lc_yX9_valueAt : (Cond.code yX9_valueAt cX9_valueAt 7 (some .double)) ∈ wsL_law := in_r33 _ (List.mem_of_getElem? (i := 14) rfl)
theorem lm_X9_330 : (Cond.methodLink RX9 330 yX9_cubic) ∈ wsL_law := in_r33 _ (List.mem_of_getElem? (i := 15) rfl)
theorem li_yX9_cubic : (Cond.instanceMethod yX9_cubic) ∈ wsL_law := in_r33 _ (List.mem_of_getElem? (i := 16) rfl)
theorem ls_yX9_cubic : (Cond.selects RX9 yX9_cubic yX9_cubic) ∈ wsL_law := in_r33 _ (List.mem_of_getElem? (i := 17) rfl)
theorem lc_yX9_cubic : (Cond.code yX9_cubic cX9_cubic 14 (some .double)) ∈ wsL_law := in_r33 _ (List.mem_of_getElem? (i := 18) rfl)
theorem lm_X9_340 : (Cond.methodLink RX9 340 yX9_fires) ∈ wsL_law := in_r33 _ (List.mem_of_getElem? (i := 19) rfl)
theorem li_yX9_fires : (Cond.instanceMethod yX9_fires) ∈ wsL_law := in_r33 _ (List.mem_of_getElem? (i := 20) rfl)
theorem ls_yX9_fires : (Cond.selects RX9 yX9_fires yX9_fires) ∈ wsL_law := in_r33 _ (List.mem_of_getElem? (i := 21) rfl)
theorem lc_yX9_fires : (Cond.code yX9_fires cX9_fires 9 none) ∈ wsL_law := in_r33 _ (List.mem_of_getElem? (i := 22) rfl)
theorem lm_L_78 : (Cond.methodLink RL 78 yX8_to) ∈ wsL_law := in_r33 _ (List.mem_of_getElem? (i := 23) rfl)
theorem li_yX8_to : (Cond.instanceMethod yX8_to) ∈ wsL_law := in_r34 _ (List.mem_of_getElem? (i := 0) rfl)
theorem ls_yX8_to : (Cond.selects RX8 yX8_to yX8_to) ∈ wsL_law := in_r34 _ (List.mem_of_getElem? (i := 1) rfl)
theorem lc_yX8_to : (Cond.code yX8_to cX8_to 15 (some .int)) ∈ wsL_law := in_r34 _ (List.mem_of_getElem? (i := 2) rfl)
theorem lm_X8_182 : (Cond.methodLink RX8 182 yX8_store) ∈ wsL_law := in_r34 _ (List.mem_of_getElem? (i := 3) rfl)
theorem li_yX8_store : (Cond.instanceMethod yX8_store) ∈ wsL_law := in_r34 _ (List.mem_of_getElem? (i := 4) rfl)
theorem ls_yX8_store : (Cond.selects RX8 yX8_store yX8_store) ∈ wsL_law := in_r34 _ (List.mem_of_getElem? (i := 5) rfl)
theorem lc_yX8_store : (Cond.code yX8_store cX8_store 4 (some (.object "MotionStepper$Run"))) ∈ wsL_law := in_r34 _ (List.mem_of_getElem? (i := 6) rfl)
theorem lm_X8_186 : (Cond.methodLink RX8 186 yX4_copy) ∈ wsL_law := in_r34 _ (List.mem_of_getElem? (i := 7) rfl)
theorem li_yX4_copy : (Cond.instanceMethod yX4_copy) ∈ wsL_law := in_r34 _ (List.mem_of_getElem? (i := 8) rfl)
theorem ls_yX4_copy : (Cond.selects RX4 yX4_copy yX4_copy) ∈ wsL_law := in_r34 _ (List.mem_of_getElem? (i := 9) rfl)
theorem lc_yX4_copy : (Cond.code yX4_copy cX4_copy 2 none) ∈ wsL_law := in_r34 _ (List.mem_of_getElem? (i := 10) rfl)
theorem lm_X4_75 : (Cond.methodLink RX4 75 yX0_copy) ∈ wsL_law := in_r34 _ (List.mem_of_getElem? (i := 11) rfl)
theorem li_yX0_copy : (Cond.instanceMethod yX0_copy) ∈ wsL_law := in_r34 _ (List.mem_of_getElem? (i := 12) rfl)
theorem ls_yX0_copy : (Cond.selects RX0 yX0_copy yX0_copy) ∈ wsL_law := in_r34 _ (List.mem_of_getElem? (i := 13) rfl)
theorem lc_yX0_copy : (Cond.code yX0_copy cX0_copy 2 none) ∈ wsL_law := in_r34 _ (List.mem_of_getElem? (i := 14) rfl)
theorem lm_X0_38 : (Cond.methodLink RX0 38 arraycopyName) ∈ wsL_law := in_r34 _ (List.mem_of_getElem? (i := 15) rfl)
theorem lv_n_arraycopyName : (Cond.native arraycopyName) ∈ wsL_law := in_r34 _ (List.mem_of_getElem? (i := 16) rfl)
theorem lt_arraycopyName : (Cond.static arraycopyName) ∈ wsL_law := in_r34 _ (List.mem_of_getElem? (i := 17) rfl)
theorem lz_java_lang_System : (Cond.initialized "java/lang/System") ∈ wsL_law := in_r34 _ (List.mem_of_getElem? (i := 18) rfl)
theorem lm_L_82 : (Cond.methodLink RL 82 yX9_to) ∈ wsL_law := in_r34 _ (List.mem_of_getElem? (i := 19) rfl)
theorem li_yX9_to : (Cond.instanceMethod yX9_to) ∈ wsL_law := in_r34 _ (List.mem_of_getElem? (i := 20) rfl)
theorem ls_yX9_to : (Cond.selects RX9 yX9_to yX9_to) ∈ wsL_law := in_r34 _ (List.mem_of_getElem? (i := 21) rfl)
theorem lc_yX9_to : (Cond.code yX9_to cX9_to 13 (some .int)) ∈ wsL_law := in_r34 _ (List.mem_of_getElem? (i := 22) rfl)
theorem lm_X9_374 : (Cond.methodLink RX9 374 yX9_copies) ∈ wsL_law := in_r34 _ (List.mem_of_getElem? (i := 23) rfl)
theorem li_yX9_copies : (Cond.instanceMethod yX9_copies) ∈ wsL_law := in_r35 _ (List.mem_of_getElem? (i := 0) rfl)
theorem ls_yX9_copies : (Cond.selects RX9 yX9_copies yX9_copies) ∈ wsL_law := in_r35 _ (List.mem_of_getElem? (i := 1) rfl)
theorem lc_yX9_copies : (Cond.code yX9_copies cX9_copies 4 none) ∈ wsL_law := in_r35 _ (List.mem_of_getElem? (i := 2) rfl)
theorem lm_X9_380 : (Cond.methodLink RX9 380 yX9_copiesVariable) ∈ wsL_law := in_r35 _ (List.mem_of_getElem? (i := 3) rfl)
theorem li_yX9_copiesVariable : (Cond.instanceMethod yX9_copiesVariable) ∈ wsL_law := in_r35 _ (List.mem_of_getElem? (i := 4) rfl)
theorem ls_yX9_copiesVariable : (Cond.selects RX9 yX9_copiesVariable yX9_copiesVariable) ∈ wsL_law := in_r35 _ (List.mem_of_getElem? (i := 5) rfl)
theorem lc_yX9_copiesVariable : (Cond.code yX9_copiesVariable cX9_copiesVariable 4 none) ∈ wsL_law := in_r35 _ (List.mem_of_getElem? (i := 6) rfl)
theorem lm_L_83 : (Cond.methodLink RL 83 yX8_state) ∈ wsL_law := in_r35 _ (List.mem_of_getElem? (i := 7) rfl)
theorem li_yX8_state : (Cond.instanceMethod yX8_state) ∈ wsL_law := in_r35 _ (List.mem_of_getElem? (i := 8) rfl)
theorem ls_yX8_state : (Cond.selects RX8 yX8_state yX8_state) ∈ wsL_law := in_r35 _ (List.mem_of_getElem? (i := 9) rfl)
theorem lc_yX8_state : (Cond.code yX8_state cX8_state 4 (some .long)) ∈ wsL_law := in_r35 _ (List.mem_of_getElem? (i := 10) rfl)
theorem ll_X8_190 : (Cond.constantLong RX8 190 (9221120237041090560)) ∈ wsL_law := in_r35 _ (List.mem_of_getElem? (i := 11) rfl)
theorem lm_X8_192 : (Cond.methodLink RX8 192 yX7_told) ∈ wsL_law := in_r35 _ (List.mem_of_getElem? (i := 12) rfl)
theorem li_yX7_told : (Cond.instanceMethod yX7_told) ∈ wsL_law := in_r35 _ (List.mem_of_getElem? (i := 13) rfl)
theorem ls_yX7_told : (Cond.selects RX7 yX7_told yX7_told) ∈ wsL_law := in_r35 _ (List.mem_of_getElem? (i := 14) rfl)
theorem lc_yX7_told : (Cond.code yX7_told cX7_told 3 (some .long)) ∈ wsL_law := in_r35 _ (List.mem_of_getElem? (i := 15) rfl)
theorem lf_X7_17 : (Cond.fieldLink RX7 17 (TX3 1).1 (TX3 1).2.1 (TX3 1).2.2.1) ∈ wsL_law := in_r35 _ (List.mem_of_getElem? (i := 16) rfl)
theorem ll_X7_23 : (Cond.constantLong RX7 23 (9221120237041090560)) ∈ wsL_law := in_r35 _ (List.mem_of_getElem? (i := 17) rfl)
theorem lf_X7_25 : (Cond.fieldLink RX7 25 (TX3 0).1 (TX3 0).2.1 (TX3 0).2.2.1) ∈ wsL_law := in_r35 _ (List.mem_of_getElem? (i := 18) rfl)
theorem lm_X7_28 : (Cond.methodLink RX7 28 yX7_bits) ∈ wsL_law := in_r35 _ (List.mem_of_getElem? (i := 19) rfl)
theorem li_yX7_bits : (Cond.instanceMethod yX7_bits) ∈ wsL_law := in_r35 _ (List.mem_of_getElem? (i := 20) rfl)
theorem ls_yX7_bits : (Cond.selects RX7 yX7_bits yX7_bits) ∈ wsL_law := in_r35 _ (List.mem_of_getElem? (i := 21) rfl)
theorem lc_yX7_bits : (Cond.code yX7_bits cX7_bits 6 (some .long)) ∈ wsL_law := in_r35 _ (List.mem_of_getElem? (i := 22) rfl)
theorem ll_X7_32 : (Cond.constantLong RX7 32 (-9223372036854775808)) ∈ wsL_law := in_r35 _ (List.mem_of_getElem? (i := 23) rfl)
theorem lm_X7_34 : (Cond.methodLink RX7 34 yX7_bitsOfSize) ∈ wsL_law := in_r36 _ (List.mem_of_getElem? (i := 0) rfl)
theorem li_yX7_bitsOfSize : (Cond.instanceMethod yX7_bitsOfSize) ∈ wsL_law := in_r36 _ (List.mem_of_getElem? (i := 1) rfl)
theorem ls_yX7_bitsOfSize : (Cond.selects RX7 yX7_bitsOfSize yX7_bitsOfSize) ∈ wsL_law := in_r36 _ (List.mem_of_getElem? (i := 2) rfl)
theorem lc_yX7_bitsOfSize : (Cond.code yX7_bitsOfSize cX7_bitsOfSize 8 (some .long)) ∈ wsL_law := in_r36 _ (List.mem_of_getElem? (i := 3) rfl)
theorem ld_X7_37 : (Cond.constantDouble RX7 37 (9218868437227405311)) ∈ wsL_law := in_r36 _ (List.mem_of_getElem? (i := 4) rfl)
theorem ll_X7_39 : (Cond.constantLong RX7 39 (9218868437227405312)) ∈ wsL_law := in_r36 _ (List.mem_of_getElem? (i := 5) rfl)
theorem ld_X7_41 : (Cond.constantDouble RX7 41 (4503599627370496)) ∈ wsL_law := in_r36 _ (List.mem_of_getElem? (i := 6) rfl)
theorem ld_X7_43 : (Cond.constantDouble RX7 43 (4832362400168542208)) ∈ wsL_law := in_r36 _ (List.mem_of_getElem? (i := 7) rfl)
theorem ll_X7_45 : (Cond.constantLong RX7 45 (1023)) ∈ wsL_law := in_r36 _ (List.mem_of_getElem? (i := 8) rfl)
theorem ld_X7_47 : (Cond.constantDouble RX7 47 (4841369599423283200)) ∈ wsL_law := in_r36 _ (List.mem_of_getElem? (i := 9) rfl)
theorem ll_X7_49 : (Cond.constantLong RX7 49 (4503599627370496)) ∈ wsL_law := in_r36 _ (List.mem_of_getElem? (i := 10) rfl)
theorem lm_L_87 : (Cond.methodLink RL 87 yX9_state) ∈ wsL_law := in_r36 _ (List.mem_of_getElem? (i := 11) rfl)
theorem li_yX9_state : (Cond.instanceMethod yX9_state) ∈ wsL_law := in_r36 _ (List.mem_of_getElem? (i := 12) rfl)
theorem ls_yX9_state : (Cond.selects RX9 yX9_state yX9_state) ∈ wsL_law := in_r36 _ (List.mem_of_getElem? (i := 13) rfl)
theorem lc_yX9_state : (Cond.code yX9_state cX9_state 3 (some .long)) ∈ wsL_law := in_r36 _ (List.mem_of_getElem? (i := 14) rfl)
theorem ll_X9_198 : (Cond.constantLong RX9 198 (9221120237041090560)) ∈ wsL_law := in_r36 _ (List.mem_of_getElem? (i := 15) rfl)
theorem lm_X9_377 : (Cond.methodLink RX9 377 yX9_bits) ∈ wsL_law := in_r36 _ (List.mem_of_getElem? (i := 16) rfl)
theorem lt_yX9_bits : (Cond.static yX9_bits) ∈ wsL_law := in_r36 _ (List.mem_of_getElem? (i := 17) rfl)
theorem lc_yX9_bits : (Cond.code yX9_bits cX9_bits 2 (some .long)) ∈ wsL_law := in_r36 _ (List.mem_of_getElem? (i := 18) rfl)
theorem lm_X9_200 : (Cond.methodLink RX9 200 yJxe99ae_doubleToLongBits_ccdee) ∈ wsL_law := in_r36 _ (List.mem_of_getElem? (i := 19) rfl)
theorem lt_yJxe99ae_doubleToLongBits_ccdee : (Cond.static yJxe99ae_doubleToLongBits_ccdee) ∈ wsL_law := in_r36 _ (List.mem_of_getElem? (i := 20) rfl)
theorem lz_RJxe99ae : (Cond.initialized RJxe99ae) ∈ wsL_law := in_r36 _ (List.mem_of_getElem? (i := 21) rfl)
theorem lc_yJxe99ae_doubleToLongBits_ccdee : (Cond.code yJxe99ae_doubleToLongBits_ccdee cJxe99ae_doubleToLongBits_ccdee 2 (some .long)) ∈ wsL_law := in_r36 _ (List.mem_of_getElem? (i := 22) rfl)
theorem lm_Jxe99ae_134 : (Cond.methodLink RJxe99ae 134 ⟨"java/lang/Double", "doubleToRawLongBits", "(D)J"⟩) ∈ wsL_law := in_r36 _ (List.mem_of_getElem? (i := 23) rfl)
theorem lv_n_java_lang_Double_doubleToRawLongBits_D_J : (Cond.native ⟨"java/lang/Double", "doubleToRawLongBits", "(D)J"⟩) ∈ wsL_law := in_r37 _ (List.mem_of_getElem? (i := 0) rfl)
theorem lt_java_lang_Double_doubleToRawLongBits_D_J : (Cond.static ⟨"java/lang/Double", "doubleToRawLongBits", "(D)J"⟩) ∈ wsL_law := in_r37 _ (List.mem_of_getElem? (i := 1) rfl)
theorem lz_java_lang_Double : (Cond.initialized "java/lang/Double") ∈ wsL_law := in_r37 _ (List.mem_of_getElem? (i := 2) rfl)
theorem ll_Jxe99ae_137 : (Cond.constantLong RJxe99ae 137 (9221120237041090560)) ∈ wsL_law := in_r37 _ (List.mem_of_getElem? (i := 3) rfl)
theorem lm_Jxe99ae_122 : (Cond.methodLink RJxe99ae 122 yJxe99ae_isNaN_b9ae7) ∈ wsL_law := in_r37 _ (List.mem_of_getElem? (i := 4) rfl)
theorem lt_yJxe99ae_isNaN_b9ae7 : (Cond.static yJxe99ae_isNaN_b9ae7) ∈ wsL_law := in_r37 _ (List.mem_of_getElem? (i := 5) rfl)
theorem lc_yJxe99ae_isNaN_b9ae7 : (Cond.code yJxe99ae_isNaN_b9ae7 cJxe99ae_isNaN_b9ae7 2 (some .boolean)) ∈ wsL_law := in_r37 _ (List.mem_of_getElem? (i := 6) rfl)
theorem lm_L_88 : (Cond.methodLink RL 88 yX8_clock) ∈ wsL_law := in_r37 _ (List.mem_of_getElem? (i := 7) rfl)
theorem li_yX8_clock : (Cond.instanceMethod yX8_clock) ∈ wsL_law := in_r37 _ (List.mem_of_getElem? (i := 8) rfl)
theorem ls_yX8_clock : (Cond.selects RX8 yX8_clock yX8_clock) ∈ wsL_law := in_r37 _ (List.mem_of_getElem? (i := 9) rfl)
theorem lc_yX8_clock : (Cond.code yX8_clock cX8_clock 4 (some .long)) ∈ wsL_law := in_r37 _ (List.mem_of_getElem? (i := 10) rfl)
theorem lf_X8_200 : (Cond.fieldLink RX8 200 (TX4 11).1 (TX4 11).2.1 (TX4 11).2.2.1) ∈ wsL_law := in_r37 _ (List.mem_of_getElem? (i := 11) rfl)
theorem lm_X8_196 : (Cond.methodLink RX8 196 yX7_bits) ∈ wsL_law := in_r37 _ (List.mem_of_getElem? (i := 12) rfl)
theorem lm_L_91 : (Cond.methodLink RL 91 yX9_clock) ∈ wsL_law := in_r37 _ (List.mem_of_getElem? (i := 13) rfl)
theorem li_yX9_clock : (Cond.instanceMethod yX9_clock) ∈ wsL_law := in_r37 _ (List.mem_of_getElem? (i := 14) rfl)
theorem ls_yX9_clock : (Cond.selects RX9 yX9_clock yX9_clock) ∈ wsL_law := in_r37 _ (List.mem_of_getElem? (i := 15) rfl)
theorem lc_yX9_clock : (Cond.code yX9_clock cX9_clock 3 (some .long)) ∈ wsL_law := in_r37 _ (List.mem_of_getElem? (i := 16) rfl)
theorem lm_L_92 : (Cond.methodLink RL 92 yX8_count) ∈ wsL_law := in_r37 _ (List.mem_of_getElem? (i := 17) rfl)
theorem li_yX8_count : (Cond.instanceMethod yX8_count) ∈ wsL_law := in_r37 _ (List.mem_of_getElem? (i := 18) rfl)
theorem ls_yX8_count : (Cond.selects RX8 yX8_count yX8_count) ∈ wsL_law := in_r37 _ (List.mem_of_getElem? (i := 19) rfl)
theorem lc_yX8_count : (Cond.code yX8_count cX8_count 4 (some .int)) ∈ wsL_law := in_r37 _ (List.mem_of_getElem? (i := 20) rfl)
theorem lf_X8_209 : (Cond.fieldLink RX8 209 (TX1 0).1 (TX1 0).2.1 (TX1 0).2.2.1) ∈ wsL_law := in_r37 _ (List.mem_of_getElem? (i := 21) rfl)
theorem lf_X8_212 : (Cond.fieldLink RX8 212 (TX4 8).1 (TX4 8).2.1 (TX4 8).2.2.1) ∈ wsL_law := in_r37 _ (List.mem_of_getElem? (i := 22) rfl)
theorem lf_X8_215 : (Cond.fieldLink RX8 215 (TX4 9).1 (TX4 9).2.1 (TX4 9).2.2.1) ∈ wsL_law := in_r37 _ (List.mem_of_getElem? (i := 23) rfl)
theorem lf_X8_218 : (Cond.fieldLink RX8 218 (TX6 13).1 (TX6 13).2.1 (TX6 13).2.2.1) ∈ wsL_law := in_r38 _ (List.mem_of_getElem? (i := 0) rfl)
theorem lf_X8_221 : (Cond.fieldLink RX8 221 (TX0 0).1 (TX0 0).2.1 (TX0 0).2.2.1) ∈ wsL_law := in_r38 _ (List.mem_of_getElem? (i := 1) rfl)
theorem lf_X8_224 : (Cond.fieldLink RX8 224 (TX0 6).1 (TX0 6).2.1 (TX0 6).2.2.1) ∈ wsL_law := in_r38 _ (List.mem_of_getElem? (i := 2) rfl)
theorem lm_L_95 : (Cond.methodLink RL 95 yX9_count) ∈ wsL_law := in_r38 _ (List.mem_of_getElem? (i := 3) rfl)
theorem li_yX9_count : (Cond.instanceMethod yX9_count) ∈ wsL_law := in_r38 _ (List.mem_of_getElem? (i := 4) rfl)
theorem ls_yX9_count : (Cond.selects RX9 yX9_count yX9_count) ∈ wsL_law := in_r38 _ (List.mem_of_getElem? (i := 5) rfl)
theorem lc_yX9_count : (Cond.code yX9_count cX9_count 3 (some .int)) ∈ wsL_law := in_r38 _ (List.mem_of_getElem? (i := 6) rfl)
theorem lm_L_96 : (Cond.methodLink RL 96 yX8_stage) ∈ wsL_law := in_r38 _ (List.mem_of_getElem? (i := 7) rfl)
theorem li_yX8_stage : (Cond.instanceMethod yX8_stage) ∈ wsL_law := in_r38 _ (List.mem_of_getElem? (i := 8) rfl)
theorem ls_yX8_stage : (Cond.selects RX8 yX8_stage yX8_stage) ∈ wsL_law := in_r38 _ (List.mem_of_getElem? (i := 9) rfl)
theorem lc_yX8_stage : (Cond.code yX8_stage cX8_stage 6 (some .long)) ∈ wsL_law := in_r38 _ (List.mem_of_getElem? (i := 10) rfl)
theorem lf_X8_227 : (Cond.fieldLink RX8 227 (TX6 2).1 (TX6 2).2.1 (TX6 2).2.2.1) ∈ wsL_law := in_r38 _ (List.mem_of_getElem? (i := 11) rfl)
theorem lf_X8_228 : (Cond.fieldLink RX8 228 (TX6 10).1 (TX6 10).2.1 (TX6 10).2.2.1) ∈ wsL_law := in_r38 _ (List.mem_of_getElem? (i := 12) rfl)
theorem lf_X8_231 : (Cond.fieldLink RX8 231 "MotionStepper" "STAGES" "[I") ∈ wsL_law := in_r38 _ (List.mem_of_getElem? (i := 13) rfl)
theorem lf_X8_235 : (Cond.fieldLink RX8 235 (TX6 9).1 (TX6 9).2.1 (TX6 9).2.2.1) ∈ wsL_law := in_r38 _ (List.mem_of_getElem? (i := 14) rfl)
theorem lm_L_100 : (Cond.methodLink RL 100 yX9_stage) ∈ wsL_law := in_r38 _ (List.mem_of_getElem? (i := 15) rfl)
theorem li_yX9_stage : (Cond.instanceMethod yX9_stage) ∈ wsL_law := in_r38 _ (List.mem_of_getElem? (i := 16) rfl)
theorem ls_yX9_stage : (Cond.selects RX9 yX9_stage yX9_stage) ∈ wsL_law := in_r38 _ (List.mem_of_getElem? (i := 17) rfl)
theorem lc_yX9_stage : (Cond.code yX9_stage cX9_stage 7 (some .long)) ∈ wsL_law := in_r38 _ (List.mem_of_getElem? (i := 18) rfl)
theorem lm_L_101 : (Cond.methodLink RL 101 yX8_value) ∈ wsL_law := in_r38 _ (List.mem_of_getElem? (i := 19) rfl)
theorem li_yX8_value : (Cond.instanceMethod yX8_value) ∈ wsL_law := in_r38 _ (List.mem_of_getElem? (i := 20) rfl)
theorem ls_yX8_value : (Cond.selects RX8 yX8_value yX8_value) ∈ wsL_law := in_r38 _ (List.mem_of_getElem? (i := 21) rfl)
theorem lc_yX8_value : (Cond.code yX8_value cX8_value 4 (some .long)) ∈ wsL_law := in_r38 _ (List.mem_of_getElem? (i := 22) rfl)
theorem lf_X8_243 : (Cond.fieldLink RX8 243 (TX1 13).1 (TX1 13).2.1 (TX1 13).2.2.1) ∈ wsL_law := in_r38 _ (List.mem_of_getElem? (i := 23) rfl)
theorem lm_X8_239 : (Cond.methodLink RX8 239 yX1_reckonNodes) ∈ wsL_law := in_r39 _ (List.mem_of_getElem? (i := 0) rfl)
theorem lm_L_104 : (Cond.methodLink RL 104 yX9_value) ∈ wsL_law := in_r39 _ (List.mem_of_getElem? (i := 1) rfl)
theorem li_yX9_value : (Cond.instanceMethod yX9_value) ∈ wsL_law := in_r39 _ (List.mem_of_getElem? (i := 2) rfl)
theorem ls_yX9_value : (Cond.selects RX9 yX9_value yX9_value) ∈ wsL_law := in_r39 _ (List.mem_of_getElem? (i := 3) rfl)
theorem lc_yX9_value : (Cond.code yX9_value cX9_value 4 (some .long)) ∈ wsL_law := in_r39 _ (List.mem_of_getElem? (i := 4) rfl)
theorem lm_L_105 : (Cond.methodLink RL 105 yX8_between) ∈ wsL_law := in_r39 _ (List.mem_of_getElem? (i := 5) rfl)
theorem li_yX8_between : (Cond.instanceMethod yX8_between) ∈ wsL_law := in_r39 _ (List.mem_of_getElem? (i := 6) rfl)
theorem ls_yX8_between : (Cond.selects RX8 yX8_between yX8_between) ∈ wsL_law := in_r39 _ (List.mem_of_getElem? (i := 7) rfl)
theorem lc_yX8_between : (Cond.code yX8_between cX8_between 9 (some .long)) ∈ wsL_law := in_r39 _ (List.mem_of_getElem? (i := 8) rfl)
theorem lf_X8_250 : (Cond.fieldLink RX8 250 (TX6 7).1 (TX6 7).2.1 (TX6 7).2.2.1) ∈ wsL_law := in_r39 _ (List.mem_of_getElem? (i := 9) rfl)
theorem lm_X8_246 : (Cond.methodLink RX8 246 yX6_blend) ∈ wsL_law := in_r39 _ (List.mem_of_getElem? (i := 10) rfl)
theorem lm_L_109 : (Cond.methodLink RL 109 yX9_between) ∈ wsL_law := in_r39 _ (List.mem_of_getElem? (i := 11) rfl)
theorem li_yX9_between : (Cond.instanceMethod yX9_between) ∈ wsL_law := in_r39 _ (List.mem_of_getElem? (i := 12) rfl)
theorem ls_yX9_between : (Cond.selects RX9 yX9_between yX9_between) ∈ wsL_law := in_r39 _ (List.mem_of_getElem? (i := 13) rfl)
theorem lc_yX9_between : (Cond.code yX9_between cX9_between 8 (some .long)) ∈ wsL_law := in_r39 _ (List.mem_of_getElem? (i := 14) rfl)
theorem lm_L_110 : (Cond.methodLink RL 110 yX8_fired) ∈ wsL_law := in_r39 _ (List.mem_of_getElem? (i := 15) rfl)
theorem li_yX8_fired : (Cond.instanceMethod yX8_fired) ∈ wsL_law := in_r39 _ (List.mem_of_getElem? (i := 16) rfl)
theorem ls_yX8_fired : (Cond.selects RX8 yX8_fired yX8_fired) ∈ wsL_law := in_r39 _ (List.mem_of_getElem? (i := 17) rfl)
theorem lc_yX8_fired : (Cond.code yX8_fired cX8_fired 5 (some .long)) ∈ wsL_law := in_r39 _ (List.mem_of_getElem? (i := 18) rfl)
theorem lf_X8_256 : (Cond.fieldLink RX8 256 (TX0 7).1 (TX0 7).2.1 (TX0 7).2.2.1) ∈ wsL_law := in_r39 _ (List.mem_of_getElem? (i := 19) rfl)
theorem lf_X8_259 : (Cond.fieldLink RX8 259 (TX0 8).1 (TX0 8).2.1 (TX0 8).2.2.1) ∈ wsL_law := in_r39 _ (List.mem_of_getElem? (i := 20) rfl)
theorem lm_X8_253 : (Cond.methodLink RX8 253 yX0_hasFired) ∈ wsL_law := in_r39 _ (List.mem_of_getElem? (i := 21) rfl)
theorem li_yX0_hasFired : (Cond.instanceMethod yX0_hasFired) ∈ wsL_law := in_r39 _ (List.mem_of_getElem? (i := 22) rfl)
theorem ls_yX0_hasFired : (Cond.selects RX0 yX0_hasFired yX0_hasFired) ∈ wsL_law := in_r39 _ (List.mem_of_getElem? (i := 23) rfl)
theorem lc_yX0_hasFired : (Cond.code yX0_hasFired cX0_hasFired 2 (some .boolean)) ∈ wsL_law := in_r40 _ (List.mem_of_getElem? (i := 0) rfl)
theorem lm_L_113 : (Cond.methodLink RL 113 yX9_fired) ∈ wsL_law := in_r40 _ (List.mem_of_getElem? (i := 1) rfl)
theorem li_yX9_fired : (Cond.instanceMethod yX9_fired) ∈ wsL_law := in_r40 _ (List.mem_of_getElem? (i := 2) rfl)
theorem ls_yX9_fired : (Cond.selects RX9 yX9_fired yX9_fired) ∈ wsL_law := in_r40 _ (List.mem_of_getElem? (i := 3) rfl)
theorem lc_yX9_fired : (Cond.code yX9_fired cX9_fired 4 (some .long)) ∈ wsL_law := in_r40 _ (List.mem_of_getElem? (i := 4) rfl)
theorem lm_L_114 : (Cond.methodLink RL 114 yX8_halves) ∈ wsL_law := in_r40 _ (List.mem_of_getElem? (i := 5) rfl)
theorem li_yX8_halves : (Cond.instanceMethod yX8_halves) ∈ wsL_law := in_r40 _ (List.mem_of_getElem? (i := 6) rfl)
theorem ls_yX8_halves : (Cond.selects RX8 yX8_halves yX8_halves) ∈ wsL_law := in_r40 _ (List.mem_of_getElem? (i := 7) rfl)
theorem lc_yX8_halves : (Cond.code yX8_halves cX8_halves 9 (some .long)) ∈ wsL_law := in_r40 _ (List.mem_of_getElem? (i := 8) rfl)
theorem lf_X8_269 : (Cond.fieldLink RX8 269 (TX6 8).1 (TX6 8).2.1 (TX6 8).2.2.1) ∈ wsL_law := in_r40 _ (List.mem_of_getElem? (i := 9) rfl)
theorem lf_X8_272 : (Cond.fieldLink RX8 272 (TX3 0).1 (TX3 0).2.1 (TX3 0).2.2.1) ∈ wsL_law := in_r40 _ (List.mem_of_getElem? (i := 10) rfl)
theorem lf_X8_274 : (Cond.fieldLink RX8 274 (TX6 5).1 (TX6 5).2.1 (TX6 5).2.2.1) ∈ wsL_law := in_r40 _ (List.mem_of_getElem? (i := 11) rfl)
theorem lm_L_117 : (Cond.methodLink RL 117 yX9_halves) ∈ wsL_law := in_r40 _ (List.mem_of_getElem? (i := 12) rfl)
theorem li_yX9_halves : (Cond.instanceMethod yX9_halves) ∈ wsL_law := in_r40 _ (List.mem_of_getElem? (i := 13) rfl)
theorem ls_yX9_halves : (Cond.selects RX9 yX9_halves yX9_halves) ∈ wsL_law := in_r40 _ (List.mem_of_getElem? (i := 14) rfl)
theorem lc_yX9_halves : (Cond.code yX9_halves cX9_halves 8 (some .long)) ∈ wsL_law := in_r40 _ (List.mem_of_getElem? (i := 15) rfl)
theorem lm_L_118 : (Cond.methodLink RL 118 yX8_keep) ∈ wsL_law := in_r40 _ (List.mem_of_getElem? (i := 16) rfl)
theorem li_yX8_keep : (Cond.instanceMethod yX8_keep) ∈ wsL_law := in_r40 _ (List.mem_of_getElem? (i := 17) rfl)
theorem ls_yX8_keep : (Cond.selects RX8 yX8_keep yX8_keep) ∈ wsL_law := in_r40 _ (List.mem_of_getElem? (i := 18) rfl)
theorem lc_yX8_keep : (Cond.code yX8_keep cX8_keep 4 (some .int)) ∈ wsL_law := in_r40 _ (List.mem_of_getElem? (i := 19) rfl)
theorem lm_L_121 : (Cond.methodLink RL 121 yX9_keep) ∈ wsL_law := in_r40 _ (List.mem_of_getElem? (i := 20) rfl)
theorem li_yX9_keep : (Cond.instanceMethod yX9_keep) ∈ wsL_law := in_r40 _ (List.mem_of_getElem? (i := 21) rfl)
theorem ls_yX9_keep : (Cond.selects RX9 yX9_keep yX9_keep) ∈ wsL_law := in_r40 _ (List.mem_of_getElem? (i := 22) rfl)
theorem lc_yX9_keep : (Cond.code yX9_keep cX9_keep 3 (some .int)) ∈ wsL_law := in_r40 _ (List.mem_of_getElem? (i := 23) rfl)
theorem lm_L_122 : (Cond.methodLink RL 122 yX8_back) ∈ wsL_law := in_r41 _ (List.mem_of_getElem? (i := 0) rfl)
theorem li_yX8_back : (Cond.instanceMethod yX8_back) ∈ wsL_law := in_r41 _ (List.mem_of_getElem? (i := 1) rfl)
theorem ls_yX8_back : (Cond.selects RX8 yX8_back yX8_back) ∈ wsL_law := in_r41 _ (List.mem_of_getElem? (i := 2) rfl)
theorem lc_yX8_back : (Cond.code yX8_back cX8_back 5 (some .int)) ∈ wsL_law := in_r41 _ (List.mem_of_getElem? (i := 3) rfl)
theorem lm_L_125 : (Cond.methodLink RL 125 yX9_back) ∈ wsL_law := in_r41 _ (List.mem_of_getElem? (i := 4) rfl)
theorem li_yX9_back : (Cond.instanceMethod yX9_back) ∈ wsL_law := in_r41 _ (List.mem_of_getElem? (i := 5) rfl)
theorem ls_yX9_back : (Cond.selects RX9 yX9_back yX9_back) ∈ wsL_law := in_r41 _ (List.mem_of_getElem? (i := 6) rfl)
theorem lc_yX9_back : (Cond.code yX9_back cX9_back 3 (some .int)) ∈ wsL_law := in_r41 _ (List.mem_of_getElem? (i := 7) rfl)
theorem lm_L_126 : (Cond.methodLink RL 126 yX8_unlike) ∈ wsL_law := in_r41 _ (List.mem_of_getElem? (i := 8) rfl)
theorem li_yX8_unlike : (Cond.instanceMethod yX8_unlike) ∈ wsL_law := in_r41 _ (List.mem_of_getElem? (i := 9) rfl)
theorem ls_yX8_unlike : (Cond.selects RX8 yX8_unlike yX8_unlike) ∈ wsL_law := in_r41 _ (List.mem_of_getElem? (i := 10) rfl)
theorem lc_yX8_unlike : (Cond.code yX8_unlike cX8_unlike 8 (some .int)) ∈ wsL_law := in_r41 _ (List.mem_of_getElem? (i := 11) rfl)
theorem lm_X8_277 : (Cond.methodLink RX8 277 Lib.Math.min.name) ∈ wsL_law := in_r41 _ (List.mem_of_getElem? (i := 12) rfl)
theorem lt_Lib_Math_min_name : (Cond.static Lib.Math.min.name) ∈ wsL_law := in_r41 _ (List.mem_of_getElem? (i := 13) rfl)
theorem lc_Lib_Math_min_name : (Cond.code Lib.Math.min.name Lib.Math.min.code 2 (some .int)) ∈ wsL_law := in_r41 _ (List.mem_of_getElem? (i := 14) rfl)
theorem lm_X8_283 : (Cond.methodLink RX8 283 Lib.Math.max.name) ∈ wsL_law := in_r41 _ (List.mem_of_getElem? (i := 15) rfl)
theorem lm_L_129 : (Cond.methodLink RL 129 yX9_unlike) ∈ wsL_law := in_r41 _ (List.mem_of_getElem? (i := 16) rfl)
theorem li_yX9_unlike : (Cond.instanceMethod yX9_unlike) ∈ wsL_law := in_r41 _ (List.mem_of_getElem? (i := 17) rfl)
theorem ls_yX9_unlike : (Cond.selects RX9 yX9_unlike yX9_unlike) ∈ wsL_law := in_r41 _ (List.mem_of_getElem? (i := 18) rfl)
theorem lc_yX9_unlike : (Cond.code yX9_unlike cX9_unlike 8 (some .int)) ∈ wsL_law := in_r41 _ (List.mem_of_getElem? (i := 19) rfl)
