section
-- ===== PART A: goes FIRST, ahead of the names: the tables' words, and 'selects' of the private methods out of them =====
/-- a private method of a class that the tables say can be made, by its rows of tables_1 -/
def lw_okq (q : MethodName × Nat) : Prop := (q.1.cls ≠ "java/lang/invoke/MethodHandle" ∧ q.1.cls ≠ "java/lang/invoke/VarHandle") ∧ Cond.instantiable q.1.cls q.2 ∈ tables_1 ∧ Cond.privateMethod q.1 ∈ tables_1 ∧ Cond.instanceMethod q.1 ∈ tables_1
theorem lw_p0 : lw_okq (⟨"TypeForecast$Program", "link", "(I)V"⟩, 12) := ⟨⟨by decide +kernel, by decide +kernel⟩, List.mem_of_getElem? (i := 61) (by decide +kernel), List.mem_of_getElem? (i := 313) (by decide +kernel), List.mem_of_getElem? (i := 314) (by decide +kernel)⟩
theorem lw_p1 : lw_okq (⟨"TypeForecast$Forecast", "forget", "()V"⟩, 8) := ⟨⟨by decide +kernel, by decide +kernel⟩, List.mem_of_getElem? (i := 111) (by decide +kernel), List.mem_of_getElem? (i := 387) (by decide +kernel), List.mem_of_getElem? (i := 388) (by decide +kernel)⟩
theorem lw_p2 : lw_okq (⟨"TypeForecast$Forecast", "flow", "(LTypeForecast$State;I)V"⟩, 8) := ⟨⟨by decide +kernel, by decide +kernel⟩, List.mem_of_getElem? (i := 111) (by decide +kernel), List.mem_of_getElem? (i := 408) (by decide +kernel), List.mem_of_getElem? (i := 409) (by decide +kernel)⟩
theorem lw_p3 : lw_okq (⟨"TypeForecast$Forecast", "visitWithExpression", "(I)V"⟩, 8) := ⟨⟨by decide +kernel, by decide +kernel⟩, List.mem_of_getElem? (i := 111) (by decide +kernel), List.mem_of_getElem? (i := 429) (by decide +kernel), List.mem_of_getElem? (i := 430) (by decide +kernel)⟩
theorem lw_p4 : lw_okq (⟨"TypeForecast$Painter", "paint", "(ILTypeForecast$State;I)I"⟩, 2) := ⟨⟨by decide +kernel, by decide +kernel⟩, List.mem_of_getElem? (i := 179) (by decide +kernel), List.mem_of_getElem? (i := 433) (by decide +kernel), List.mem_of_getElem? (i := 434) (by decide +kernel)⟩
theorem lw_p5 : lw_okq (⟨"TypeForecast$Painter", "paintLeaf", "(ILTypeForecast$State;LTypeForecast$Picture;)I"⟩, 2) := ⟨⟨by decide +kernel, by decide +kernel⟩, List.mem_of_getElem? (i := 179) (by decide +kernel), List.mem_of_getElem? (i := 438) (by decide +kernel), List.mem_of_getElem? (i := 439) (by decide +kernel)⟩
theorem lw_p6 : lw_okq (⟨"TypeForecast$Range", "includeCorners", "(IIII)V"⟩, 2) := ⟨⟨by decide +kernel, by decide +kernel⟩, List.mem_of_getElem? (i := 131) (by decide +kernel), List.mem_of_getElem? (i := 524) (by decide +kernel), List.mem_of_getElem? (i := 525) (by decide +kernel)⟩
theorem lw_p7 : lw_okq (⟨"TypeForecast$Forecast", "flowErrors", "(II)V"⟩, 8) := ⟨⟨by decide +kernel, by decide +kernel⟩, List.mem_of_getElem? (i := 111) (by decide +kernel), List.mem_of_getElem? (i := 577) (by decide +kernel), List.mem_of_getElem? (i := 578) (by decide +kernel)⟩
theorem lw_p8 : lw_okq (⟨"TypeForecast$Forecast", "flowAssigned", "(ILTypeForecast$Picture;)V"⟩, 8) := ⟨⟨by decide +kernel, by decide +kernel⟩, List.mem_of_getElem? (i := 111) (by decide +kernel), List.mem_of_getElem? (i := 593) (by decide +kernel), List.mem_of_getElem? (i := 594) (by decide +kernel)⟩
theorem lw_p9 : lw_okq (⟨"TypeForecast$Forecast", "flowNarrowed", "(IZ)V"⟩, 8) := ⟨⟨by decide +kernel, by decide +kernel⟩, List.mem_of_getElem? (i := 111) (by decide +kernel), List.mem_of_getElem? (i := 606) (by decide +kernel), List.mem_of_getElem? (i := 607) (by decide +kernel)⟩
theorem lw_p10 : lw_okq (⟨"TypeForecast$Forecast", "visitPlain", "(I)V"⟩, 8) := ⟨⟨by decide +kernel, by decide +kernel⟩, List.mem_of_getElem? (i := 111) (by decide +kernel), List.mem_of_getElem? (i := 640) (by decide +kernel), List.mem_of_getElem? (i := 641) (by decide +kernel)⟩
theorem lw_p11 : lw_okq (⟨"TypeForecast$Forecast", "countAlarms", "()I"⟩, 8) := ⟨⟨by decide +kernel, by decide +kernel⟩, List.mem_of_getElem? (i := 111) (by decide +kernel), List.mem_of_getElem? (i := 644) (by decide +kernel), List.mem_of_getElem? (i := 645) (by decide +kernel)⟩
theorem lw_p12 : lw_okq (⟨"TypeForecast", "pictureBefore", "(II)LTypeForecast$Picture;"⟩, 4) := ⟨⟨by decide +kernel, by decide +kernel⟩, List.mem_of_getElem? (i := 14) (by decide +kernel), List.mem_of_getElem? (i := 664) (by decide +kernel), List.mem_of_getElem? (i := 665) (by decide +kernel)⟩
theorem lw_p13 : lw_okq (⟨"TypeForecast$Machine", "step", "(I)I"⟩, 8) := ⟨⟨by decide +kernel, by decide +kernel⟩, List.mem_of_getElem? (i := 221) (by decide +kernel), List.mem_of_getElem? (i := 698) (by decide +kernel), List.mem_of_getElem? (i := 699) (by decide +kernel)⟩
theorem lw_p14 : lw_okq (⟨"TypeForecast$Machine", "workOut", "(II)J"⟩, 8) := ⟨⟨by decide +kernel, by decide +kernel⟩, List.mem_of_getElem? (i := 221) (by decide +kernel), List.mem_of_getElem? (i := 703) (by decide +kernel), List.mem_of_getElem? (i := 704) (by decide +kernel)⟩
theorem lw_p15 : lw_okq (⟨"TypeForecast$Machine", "leafValue", "(I)J"⟩, 8) := ⟨⟨by decide +kernel, by decide +kernel⟩, List.mem_of_getElem? (i := 221) (by decide +kernel), List.mem_of_getElem? (i := 708) (by decide +kernel), List.mem_of_getElem? (i := 709) (by decide +kernel)⟩
def lw_privs_1 : List (MethodName × Nat) := [(⟨"TypeForecast$Program", "link", "(I)V"⟩, 12), (⟨"TypeForecast$Forecast", "forget", "()V"⟩, 8), (⟨"TypeForecast$Forecast", "flow", "(LTypeForecast$State;I)V"⟩, 8), (⟨"TypeForecast$Forecast", "visitWithExpression", "(I)V"⟩, 8), (⟨"TypeForecast$Painter", "paint", "(ILTypeForecast$State;I)I"⟩, 2), (⟨"TypeForecast$Painter", "paintLeaf", "(ILTypeForecast$State;LTypeForecast$Picture;)I"⟩, 2), (⟨"TypeForecast$Range", "includeCorners", "(IIII)V"⟩, 2), (⟨"TypeForecast$Forecast", "flowErrors", "(II)V"⟩, 8), (⟨"TypeForecast$Forecast", "flowAssigned", "(ILTypeForecast$Picture;)V"⟩, 8), (⟨"TypeForecast$Forecast", "flowNarrowed", "(IZ)V"⟩, 8), (⟨"TypeForecast$Forecast", "visitPlain", "(I)V"⟩, 8), (⟨"TypeForecast$Forecast", "countAlarms", "()I"⟩, 8), (⟨"TypeForecast", "pictureBefore", "(II)LTypeForecast$Picture;"⟩, 4), (⟨"TypeForecast$Machine", "step", "(I)I"⟩, 8), (⟨"TypeForecast$Machine", "workOut", "(II)J"⟩, 8), (⟨"TypeForecast$Machine", "leafValue", "(I)J"⟩, 8)]
theorem lw_r1 : ∀ q ∈ lw_privs_1, lw_okq q := List.forall_mem_cons.mpr ⟨lw_p0, List.forall_mem_cons.mpr ⟨lw_p1, List.forall_mem_cons.mpr ⟨lw_p2, List.forall_mem_cons.mpr ⟨lw_p3, List.forall_mem_cons.mpr ⟨lw_p4, List.forall_mem_cons.mpr ⟨lw_p5, List.forall_mem_cons.mpr ⟨lw_p6, List.forall_mem_cons.mpr ⟨lw_p7, List.forall_mem_cons.mpr ⟨lw_p8, List.forall_mem_cons.mpr ⟨lw_p9, List.forall_mem_cons.mpr ⟨lw_p10, List.forall_mem_cons.mpr ⟨lw_p11, List.forall_mem_cons.mpr ⟨lw_p12, List.forall_mem_cons.mpr ⟨lw_p13, List.forall_mem_cons.mpr ⟨lw_p14, List.forall_mem_cons.mpr ⟨lw_p15, fun _ h => absurd h List.not_mem_nil⟩⟩⟩⟩⟩⟩⟩⟩⟩⟩⟩⟩⟩⟩⟩⟩
theorem lw_p16 : lw_okq (⟨"TypeForecast$Machine", "nextInput", "()I"⟩, 8) := ⟨⟨by decide +kernel, by decide +kernel⟩, List.mem_of_getElem? (i := 221) (by decide +kernel), List.mem_of_getElem? (i := 716) (by decide +kernel), List.mem_of_getElem? (i := 717) (by decide +kernel)⟩
theorem lw_p17 : lw_okq (⟨"TypeForecast$Machine", "stepWith", "(IJ)I"⟩, 8) := ⟨⟨by decide +kernel, by decide +kernel⟩, List.mem_of_getElem? (i := 221) (by decide +kernel), List.mem_of_getElem? (i := 745) (by decide +kernel), List.mem_of_getElem? (i := 746) (by decide +kernel)⟩
theorem lw_p18 : lw_okq (⟨"TypeForecast$Machine", "fail", "(II)I"⟩, 8) := ⟨⟨by decide +kernel, by decide +kernel⟩, List.mem_of_getElem? (i := 221) (by decide +kernel), List.mem_of_getElem? (i := 749) (by decide +kernel), List.mem_of_getElem? (i := 750) (by decide +kernel)⟩
theorem lw_p19 : lw_okq (⟨"TypeForecast$Machine", "stop", "(II)I"⟩, 8) := ⟨⟨by decide +kernel, by decide +kernel⟩, List.mem_of_getElem? (i := 221) (by decide +kernel), List.mem_of_getElem? (i := 753) (by decide +kernel), List.mem_of_getElem? (i := 754) (by decide +kernel)⟩
theorem lw_p20 : lw_okq (⟨"TypeForecastModel", "isExpression", "(I)Z"⟩, 48) := ⟨⟨by decide +kernel, by decide +kernel⟩, List.mem_of_getElem? (i := 784) (by decide +kernel), List.mem_of_getElem? (i := 945) (by decide +kernel), List.mem_of_getElem? (i := 946) (by decide +kernel)⟩
theorem lw_p21 : lw_okq (⟨"TypeForecastModel", "add", "(III)I"⟩, 48) := ⟨⟨by decide +kernel, by decide +kernel⟩, List.mem_of_getElem? (i := 784) (by decide +kernel), List.mem_of_getElem? (i := 953) (by decide +kernel), List.mem_of_getElem? (i := 954) (by decide +kernel)⟩
theorem lw_p22 : lw_okq (⟨"TypeForecastModel", "forget", "()V"⟩, 48) := ⟨⟨by decide +kernel, by decide +kernel⟩, List.mem_of_getElem? (i := 784) (by decide +kernel), List.mem_of_getElem? (i := 993) (by decide +kernel), List.mem_of_getElem? (i := 994) (by decide +kernel)⟩
theorem lw_p23 : lw_okq (⟨"TypeForecastModel", "start", "()I"⟩, 48) := ⟨⟨by decide +kernel, by decide +kernel⟩, List.mem_of_getElem? (i := 784) (by decide +kernel), List.mem_of_getElem? (i := 997) (by decide +kernel), List.mem_of_getElem? (i := 998) (by decide +kernel)⟩
theorem lw_p24 : lw_okq (⟨"TypeForecastModel", "flow", "(I)V"⟩, 48) := ⟨⟨by decide +kernel, by decide +kernel⟩, List.mem_of_getElem? (i := 784) (by decide +kernel), List.mem_of_getElem? (i := 1001) (by decide +kernel), List.mem_of_getElem? (i := 1002) (by decide +kernel)⟩
theorem lw_p25 : lw_okq (⟨"TypeForecastModel", "joinBound", "(IIZZ)V"⟩, 48) := ⟨⟨by decide +kernel, by decide +kernel⟩, List.mem_of_getElem? (i := 784) (by decide +kernel), List.mem_of_getElem? (i := 1005) (by decide +kernel), List.mem_of_getElem? (i := 1006) (by decide +kernel)⟩
theorem lw_p26 : lw_okq (⟨"TypeForecastModel", "through", "(I)V"⟩, 48) := ⟨⟨by decide +kernel, by decide +kernel⟩, List.mem_of_getElem? (i := 784) (by decide +kernel), List.mem_of_getElem? (i := 1009) (by decide +kernel), List.mem_of_getElem? (i := 1010) (by decide +kernel)⟩
theorem lw_p27 : lw_okq (⟨"TypeForecastModel", "load", "(I)V"⟩, 48) := ⟨⟨by decide +kernel, by decide +kernel⟩, List.mem_of_getElem? (i := 784) (by decide +kernel), List.mem_of_getElem? (i := 1013) (by decide +kernel), List.mem_of_getElem? (i := 1014) (by decide +kernel)⟩
theorem lw_p28 : lw_okq (⟨"TypeForecastModel", "picture", "(I)V"⟩, 48) := ⟨⟨by decide +kernel, by decide +kernel⟩, List.mem_of_getElem? (i := 784) (by decide +kernel), List.mem_of_getElem? (i := 1017) (by decide +kernel), List.mem_of_getElem? (i := 1018) (by decide +kernel)⟩
theorem lw_p29 : lw_okq (⟨"TypeForecastModel", "pictureLeaf", "(I)V"⟩, 48) := ⟨⟨by decide +kernel, by decide +kernel⟩, List.mem_of_getElem? (i := 784) (by decide +kernel), List.mem_of_getElem? (i := 1021) (by decide +kernel), List.mem_of_getElem? (i := 1022) (by decide +kernel)⟩
theorem lw_p30 : lw_okq (⟨"TypeForecastModel", "fitNone", "()V"⟩, 48) := ⟨⟨by decide +kernel, by decide +kernel⟩, List.mem_of_getElem? (i := 784) (by decide +kernel), List.mem_of_getElem? (i := 1025) (by decide +kernel), List.mem_of_getElem? (i := 1026) (by decide +kernel)⟩
theorem lw_p31 : lw_okq (⟨"TypeForecastModel", "fitValue", "(IJ)V"⟩, 48) := ⟨⟨by decide +kernel, by decide +kernel⟩, List.mem_of_getElem? (i := 784) (by decide +kernel), List.mem_of_getElem? (i := 1029) (by decide +kernel), List.mem_of_getElem? (i := 1030) (by decide +kernel)⟩
def lw_privs_2 : List (MethodName × Nat) := [(⟨"TypeForecast$Machine", "nextInput", "()I"⟩, 8), (⟨"TypeForecast$Machine", "stepWith", "(IJ)I"⟩, 8), (⟨"TypeForecast$Machine", "fail", "(II)I"⟩, 8), (⟨"TypeForecast$Machine", "stop", "(II)I"⟩, 8), (⟨"TypeForecastModel", "isExpression", "(I)Z"⟩, 48), (⟨"TypeForecastModel", "add", "(III)I"⟩, 48), (⟨"TypeForecastModel", "forget", "()V"⟩, 48), (⟨"TypeForecastModel", "start", "()I"⟩, 48), (⟨"TypeForecastModel", "flow", "(I)V"⟩, 48), (⟨"TypeForecastModel", "joinBound", "(IIZZ)V"⟩, 48), (⟨"TypeForecastModel", "through", "(I)V"⟩, 48), (⟨"TypeForecastModel", "load", "(I)V"⟩, 48), (⟨"TypeForecastModel", "picture", "(I)V"⟩, 48), (⟨"TypeForecastModel", "pictureLeaf", "(I)V"⟩, 48), (⟨"TypeForecastModel", "fitNone", "()V"⟩, 48), (⟨"TypeForecastModel", "fitValue", "(IJ)V"⟩, 48)]
theorem lw_r2 : ∀ q ∈ lw_privs_2, lw_okq q := List.forall_mem_cons.mpr ⟨lw_p16, List.forall_mem_cons.mpr ⟨lw_p17, List.forall_mem_cons.mpr ⟨lw_p18, List.forall_mem_cons.mpr ⟨lw_p19, List.forall_mem_cons.mpr ⟨lw_p20, List.forall_mem_cons.mpr ⟨lw_p21, List.forall_mem_cons.mpr ⟨lw_p22, List.forall_mem_cons.mpr ⟨lw_p23, List.forall_mem_cons.mpr ⟨lw_p24, List.forall_mem_cons.mpr ⟨lw_p25, List.forall_mem_cons.mpr ⟨lw_p26, List.forall_mem_cons.mpr ⟨lw_p27, List.forall_mem_cons.mpr ⟨lw_p28, List.forall_mem_cons.mpr ⟨lw_p29, List.forall_mem_cons.mpr ⟨lw_p30, List.forall_mem_cons.mpr ⟨lw_p31, fun _ h => absurd h List.not_mem_nil⟩⟩⟩⟩⟩⟩⟩⟩⟩⟩⟩⟩⟩⟩⟩⟩
theorem lw_p32 : lw_okq (⟨"TypeForecastModel", "keepFit", "(I)V"⟩, 48) := ⟨⟨by decide +kernel, by decide +kernel⟩, List.mem_of_getElem? (i := 784) (by decide +kernel), List.mem_of_getElem? (i := 1043) (by decide +kernel), List.mem_of_getElem? (i := 1044) (by decide +kernel)⟩
theorem lw_p33 : lw_okq (⟨"TypeForecastModel", "pictureOperation", "(I)V"⟩, 48) := ⟨⟨by decide +kernel, by decide +kernel⟩, List.mem_of_getElem? (i := 784) (by decide +kernel), List.mem_of_getElem? (i := 1047) (by decide +kernel), List.mem_of_getElem? (i := 1048) (by decide +kernel)⟩
theorem lw_p34 : lw_okq (⟨"TypeForecastModel", "rightValues", "(I)V"⟩, 48) := ⟨⟨by decide +kernel, by decide +kernel⟩, List.mem_of_getElem? (i := 784) (by decide +kernel), List.mem_of_getElem? (i := 1051) (by decide +kernel), List.mem_of_getElem? (i := 1052) (by decide +kernel)⟩
theorem lw_p35 : lw_okq (⟨"TypeForecastModel", "leftValues", "(I)V"⟩, 48) := ⟨⟨by decide +kernel, by decide +kernel⟩, List.mem_of_getElem? (i := 784) (by decide +kernel), List.mem_of_getElem? (i := 1055) (by decide +kernel), List.mem_of_getElem? (i := 1056) (by decide +kernel)⟩
theorem lw_p36 : lw_okq (⟨"TypeForecastModel", "leftValue", "(II)V"⟩, 48) := ⟨⟨by decide +kernel, by decide +kernel⟩, List.mem_of_getElem? (i := 784) (by decide +kernel), List.mem_of_getElem? (i := 1062) (by decide +kernel), List.mem_of_getElem? (i := 1063) (by decide +kernel)⟩
theorem lw_p37 : lw_okq (⟨"TypeForecastModel", "work", "(IIJIJ)V"⟩, 48) := ⟨⟨by decide +kernel, by decide +kernel⟩, List.mem_of_getElem? (i := 784) (by decide +kernel), List.mem_of_getElem? (i := 1066) (by decide +kernel), List.mem_of_getElem? (i := 1067) (by decide +kernel)⟩
theorem lw_p38 : lw_okq (⟨"TypeForecastModel", "give", "(IJ)V"⟩, 48) := ⟨⟨by decide +kernel, by decide +kernel⟩, List.mem_of_getElem? (i := 784) (by decide +kernel), List.mem_of_getElem? (i := 1070) (by decide +kernel), List.mem_of_getElem? (i := 1071) (by decide +kernel)⟩
theorem lw_p39 : lw_okq (⟨"TypeForecastModel", "mayRaise", "(II)V"⟩, 48) := ⟨⟨by decide +kernel, by decide +kernel⟩, List.mem_of_getElem? (i := 784) (by decide +kernel), List.mem_of_getElem? (i := 1081) (by decide +kernel), List.mem_of_getElem? (i := 1082) (by decide +kernel)⟩
theorem lw_p40 : lw_okq (⟨"TypeForecastModel", "catcher", "(II)I"⟩, 48) := ⟨⟨by decide +kernel, by decide +kernel⟩, List.mem_of_getElem? (i := 784) (by decide +kernel), List.mem_of_getElem? (i := 1085) (by decide +kernel), List.mem_of_getElem? (i := 1086) (by decide +kernel)⟩
theorem lw_p41 : lw_okq (⟨"TypeForecastModel", "into", "(II)I"⟩, 48) := ⟨⟨by decide +kernel, by decide +kernel⟩, List.mem_of_getElem? (i := 784) (by decide +kernel), List.mem_of_getElem? (i := 1089) (by decide +kernel), List.mem_of_getElem? (i := 1090) (by decide +kernel)⟩
theorem lw_p42 : lw_okq (⟨"TypeForecastModel", "behind", "(I)I"⟩, 48) := ⟨⟨by decide +kernel, by decide +kernel⟩, List.mem_of_getElem? (i := 784) (by decide +kernel), List.mem_of_getElem? (i := 1093) (by decide +kernel), List.mem_of_getElem? (i := 1094) (by decide +kernel)⟩
theorem lw_p43 : lw_okq (⟨"TypeForecastModel", "loopAround", "(I)I"⟩, 48) := ⟨⟨by decide +kernel, by decide +kernel⟩, List.mem_of_getElem? (i := 784) (by decide +kernel), List.mem_of_getElem? (i := 1097) (by decide +kernel), List.mem_of_getElem? (i := 1098) (by decide +kernel)⟩
theorem lw_p44 : lw_okq (⟨"TypeForecastModel", "mayBe", "(IZ)Z"⟩, 48) := ⟨⟨by decide +kernel, by decide +kernel⟩, List.mem_of_getElem? (i := 784) (by decide +kernel), List.mem_of_getElem? (i := 1101) (by decide +kernel), List.mem_of_getElem? (i := 1102) (by decide +kernel)⟩
theorem lw_p45 : lw_okq (⟨"TypeForecastModel", "narrow", "(IZ)V"⟩, 48) := ⟨⟨by decide +kernel, by decide +kernel⟩, List.mem_of_getElem? (i := 784) (by decide +kernel), List.mem_of_getElem? (i := 1105) (by decide +kernel), List.mem_of_getElem? (i := 1106) (by decide +kernel)⟩
theorem lw_p46 : lw_okq (⟨"TypeForecastModel", "setHere", "(I)V"⟩, 48) := ⟨⟨by decide +kernel, by decide +kernel⟩, List.mem_of_getElem? (i := 784) (by decide +kernel), List.mem_of_getElem? (i := 1109) (by decide +kernel), List.mem_of_getElem? (i := 1110) (by decide +kernel)⟩
theorem lw_p47 : lw_okq (⟨"TypeForecastModel", "done", "(I)I"⟩, 48) := ⟨⟨by decide +kernel, by decide +kernel⟩, List.mem_of_getElem? (i := 784) (by decide +kernel), List.mem_of_getElem? (i := 1130) (by decide +kernel), List.mem_of_getElem? (i := 1131) (by decide +kernel)⟩
def lw_privs_3 : List (MethodName × Nat) := [(⟨"TypeForecastModel", "keepFit", "(I)V"⟩, 48), (⟨"TypeForecastModel", "pictureOperation", "(I)V"⟩, 48), (⟨"TypeForecastModel", "rightValues", "(I)V"⟩, 48), (⟨"TypeForecastModel", "leftValues", "(I)V"⟩, 48), (⟨"TypeForecastModel", "leftValue", "(II)V"⟩, 48), (⟨"TypeForecastModel", "work", "(IIJIJ)V"⟩, 48), (⟨"TypeForecastModel", "give", "(IJ)V"⟩, 48), (⟨"TypeForecastModel", "mayRaise", "(II)V"⟩, 48), (⟨"TypeForecastModel", "catcher", "(II)I"⟩, 48), (⟨"TypeForecastModel", "into", "(II)I"⟩, 48), (⟨"TypeForecastModel", "behind", "(I)I"⟩, 48), (⟨"TypeForecastModel", "loopAround", "(I)I"⟩, 48), (⟨"TypeForecastModel", "mayBe", "(IZ)Z"⟩, 48), (⟨"TypeForecastModel", "narrow", "(IZ)V"⟩, 48), (⟨"TypeForecastModel", "setHere", "(I)V"⟩, 48), (⟨"TypeForecastModel", "done", "(I)I"⟩, 48)]
theorem lw_r3 : ∀ q ∈ lw_privs_3, lw_okq q := List.forall_mem_cons.mpr ⟨lw_p32, List.forall_mem_cons.mpr ⟨lw_p33, List.forall_mem_cons.mpr ⟨lw_p34, List.forall_mem_cons.mpr ⟨lw_p35, List.forall_mem_cons.mpr ⟨lw_p36, List.forall_mem_cons.mpr ⟨lw_p37, List.forall_mem_cons.mpr ⟨lw_p38, List.forall_mem_cons.mpr ⟨lw_p39, List.forall_mem_cons.mpr ⟨lw_p40, List.forall_mem_cons.mpr ⟨lw_p41, List.forall_mem_cons.mpr ⟨lw_p42, List.forall_mem_cons.mpr ⟨lw_p43, List.forall_mem_cons.mpr ⟨lw_p44, List.forall_mem_cons.mpr ⟨lw_p45, List.forall_mem_cons.mpr ⟨lw_p46, List.forall_mem_cons.mpr ⟨lw_p47, fun _ h => absurd h List.not_mem_nil⟩⟩⟩⟩⟩⟩⟩⟩⟩⟩⟩⟩⟩⟩⟩⟩
theorem lw_p48 : lw_okq (⟨"TypeForecastModel", "value", "(I)V"⟩, 48) := ⟨⟨by decide +kernel, by decide +kernel⟩, List.mem_of_getElem? (i := 784) (by decide +kernel), List.mem_of_getElem? (i := 1134) (by decide +kernel), List.mem_of_getElem? (i := 1135) (by decide +kernel)⟩
theorem lw_p49 : lw_okq (⟨"TypeForecastModel", "order", "(I)V"⟩, 48) := ⟨⟨by decide +kernel, by decide +kernel⟩, List.mem_of_getElem? (i := 784) (by decide +kernel), List.mem_of_getElem? (i := 1138) (by decide +kernel), List.mem_of_getElem? (i := 1139) (by decide +kernel)⟩
theorem lw_p50 : lw_okq (⟨"TypeForecastModel", "leafValue", "(I)V"⟩, 48) := ⟨⟨by decide +kernel, by decide +kernel⟩, List.mem_of_getElem? (i := 784) (by decide +kernel), List.mem_of_getElem? (i := 1142) (by decide +kernel), List.mem_of_getElem? (i := 1143) (by decide +kernel)⟩
def lw_privs_4 : List (MethodName × Nat) := [(⟨"TypeForecastModel", "value", "(I)V"⟩, 48), (⟨"TypeForecastModel", "order", "(I)V"⟩, 48), (⟨"TypeForecastModel", "leafValue", "(I)V"⟩, 48)]
theorem lw_r4 : ∀ q ∈ lw_privs_4, lw_okq q := List.forall_mem_cons.mpr ⟨lw_p48, List.forall_mem_cons.mpr ⟨lw_p49, List.forall_mem_cons.mpr ⟨lw_p50, fun _ h => absurd h List.not_mem_nil⟩⟩⟩
def lw_privs : List (MethodName × Nat) := lw_privs_1 ++ (lw_privs_2 ++ (lw_privs_3 ++ (lw_privs_4)))
def lw_tbl : List Cond := k2_sels lw_privs ++ tables_1
theorem lw_privs_ok : ∀ q ∈ lw_privs, lw_okq q := by
  show ∀ q ∈ lw_privs_1 ++ (lw_privs_2 ++ (lw_privs_3 ++ (lw_privs_4))), lw_okq q
  exact List.forall_mem_append.mpr ⟨lw_r1, List.forall_mem_append.mpr ⟨lw_r2, List.forall_mem_append.mpr ⟨lw_r3, lw_r4⟩⟩⟩
end
section
/-! tables of the claim as data: classes (by number), fields, methods (by number), links of the constant pools. Written by wip/whole/gen1.py. -/
def a_own : List String := ["TypeForecast", "TypeForecast$Expressions", "TypeForecast$Program", "TypeForecast$Forecast", "TypeForecast$State", "TypeForecast$Picture", "TypeForecast$Range", "TypeForecast$Painter", "TypeForecast$Machine", "TypeForecastModel", "TypeForecastLaw", "java/lang/Math", "java/util/Arrays"]
def aC (o : Nat) : String := a_own.getD o ""
abbrev a_F : Type := String × String × String × Bool
def a_TL0 : List a_F := [("TypeForecast", "expressions", "LTypeForecast$Expressions;", true), ("TypeForecast", "program", "LTypeForecast$Program;", true), ("TypeForecast", "forecast", "LTypeForecast$Forecast;", true), ("TypeForecast", "machine", "LTypeForecast$Machine;", true)]
def a_TL1 : List a_F := [("TypeForecast$Expressions", "operation", "[I", true), ("TypeForecast$Expressions", "leafKind", "[I", true), ("TypeForecast$Expressions", "leafNumber", "[I", true), ("TypeForecast$Expressions", "left", "[I", true), ("TypeForecast$Expressions", "right", "[I", true), ("TypeForecast$Expressions", "weight", "[I", true), ("TypeForecast$Expressions", "count", "I", false)]
def a_TL2 : List a_F := [("TypeForecast$Program", "kind", "[I", true), ("TypeForecast$Program", "detail", "[I", true), ("TypeForecast$Program", "expression", "[I", true), ("TypeForecast$Program", "parent", "[I", true), ("TypeForecast$Program", "part", "[I", true), ("TypeForecast$Program", "next", "[I", true), ("TypeForecast$Program", "first", "[I", true), ("TypeForecast$Program", "count", "I", false), ("TypeForecast$Program", "openStatement", "[I", true), ("TypeForecast$Program", "openPart", "[I", true), ("TypeForecast$Program", "latest", "[I", true), ("TypeForecast$Program", "openCount", "I", false)]
def a_TL3 : List a_F := [("TypeForecast$Forecast", "program", "LTypeForecast$Program;", true), ("TypeForecast$Forecast", "painter", "LTypeForecast$Painter;", true), ("TypeForecast$Forecast", "before", "[LTypeForecast$State;", true), ("TypeForecast$Forecast", "passing", "LTypeForecast$State;", true), ("TypeForecast$Forecast", "waiting", "[Z", true), ("TypeForecast$Forecast", "alarms", "[Z", true), ("TypeForecast$Forecast", "alarmCount", "I", false), ("TypeForecast$Forecast", "statementsLooked", "I", false)]
def a_TL4 : List a_F := [("TypeForecast$State", "variables", "[LTypeForecast$Picture;", true)]
def a_TL5 : List a_F := [("TypeForecast$Picture", "numbers", "LTypeForecast$Range;", true), ("TypeForecast$Picture", "lengths", "LTypeForecast$Range;", true), ("TypeForecast$Picture", "none", "Z", false), ("TypeForecast$Picture", "unbound", "Z", false)]
def a_TL6 : List a_F := [("TypeForecast$Range", "low", "I", false), ("TypeForecast$Range", "high", "I", false)]
def a_TL7 : List a_F := [("TypeForecast$Painter", "expressions", "LTypeForecast$Expressions;", true), ("TypeForecast$Painter", "pictures", "[LTypeForecast$Picture;", true)]
def a_TL8 : List a_F := [("TypeForecast$Machine", "program", "LTypeForecast$Program;", true), ("TypeForecast$Machine", "expressions", "LTypeForecast$Expressions;", true), ("TypeForecast$Machine", "inputs", "[I", true), ("TypeForecast$Machine", "inputCount", "I", false), ("TypeForecast$Machine", "inputsUsed", "I", false), ("TypeForecast$Machine", "variables", "[J", true), ("TypeForecast$Machine", "answer", "I", false), ("TypeForecast$Machine", "place", "I", false)]
def a_TL9 : List a_F := [("TypeForecastModel", "expressions", "I", false), ("TypeForecastModel", "kind", "[I", true), ("TypeForecastModel", "left", "[I", true), ("TypeForecastModel", "right", "[I", true), ("TypeForecastModel", "weight", "[I", true), ("TypeForecastModel", "statements", "I", false), ("TypeForecastModel", "what", "[I", true), ("TypeForecastModel", "about", "[I", true), ("TypeForecastModel", "expr", "[I", true), ("TypeForecastModel", "parent", "[I", true), ("TypeForecastModel", "block", "[I", true), ("TypeForecastModel", "next", "[I", true), ("TypeForecastModel", "first", "[I", true), ("TypeForecastModel", "last", "[I", true), ("TypeForecastModel", "opened", "I", false), ("TypeForecastModel", "open", "[I", true), ("TypeForecastModel", "fed", "I", false), ("TypeForecastModel", "input", "[I", true), ("TypeForecastModel", "reached", "[Z", true), ("TypeForecastModel", "types", "[I", true), ("TypeForecastModel", "bounds", "[I", true), ("TypeForecastModel", "alarms", "[Z", true), ("TypeForecastModel", "changed", "Z", false), ("TypeForecastModel", "hereTypes", "[I", true), ("TypeForecastModel", "hereBounds", "[I", true), ("TypeForecastModel", "pictureTypes", "[I", true), ("TypeForecastModel", "pictureBounds", "[I", true), ("TypeForecastModel", "errors", "[I", true), ("TypeForecastModel", "wanted", "[Z", true), ("TypeForecastModel", "leftCount", "I", false), ("TypeForecastModel", "leftType", "[I", true), ("TypeForecastModel", "leftNumber", "[I", true), ("TypeForecastModel", "rightCount", "I", false), ("TypeForecastModel", "rightType", "[I", true), ("TypeForecastModel", "rightNumber", "[I", true), ("TypeForecastModel", "fitTypes", "I", false), ("TypeForecastModel", "fit", "[I", true), ("TypeForecastModel", "outType", "I", false), ("TypeForecastModel", "outNumber", "J", false), ("TypeForecastModel", "place", "I", false), ("TypeForecastModel", "heldType", "[I", true), ("TypeForecastModel", "held", "[J", true), ("TypeForecastModel", "taken", "I", false), ("TypeForecastModel", "tokens", "I", false), ("TypeForecastModel", "token", "[I", true), ("TypeForecastModel", "waiting", "[I", true), ("TypeForecastModel", "stackType", "[I", true), ("TypeForecastModel", "stack", "[J", true)]
def a_TL : List (List a_F) := [a_TL0, a_TL1, a_TL2, a_TL3, a_TL4, a_TL5, a_TL6, a_TL7, a_TL8, a_TL9]
def a_nf (ci : Nat) : Nat := (a_TL.getD ci []).length
def a_Tf (ci : Nat) : u_T := fun k => (a_TL.getD ci []).getD k ("", "", "", false)
def a_kdT : List (List Nat) := [[3, 3, 3, 3], [3, 3, 3, 3, 3, 3, 0], [3, 3, 3, 3, 3, 3, 3, 0, 3, 3, 3, 0], [3, 3, 3, 3, 3, 3, 0, 0], [3], [3, 3, 1, 1], [0, 0], [3, 3], [3, 3, 3, 0, 0, 3, 0, 0], [0, 3, 3, 3, 3, 0, 3, 3, 3, 3, 3, 3, 3, 3, 0, 3, 0, 3, 3, 3, 3, 3, 1, 3, 3, 3, 3, 3, 3, 0, 3, 3, 0, 3, 3, 0, 3, 0, 2, 0, 3, 3, 0, 0, 3, 3, 3, 3]]
def a_kd (ci k : Nat) : Nat := (a_kdT.getD ci []).getD k 9
def a_tyk (ci k : Nat) : FieldType := (parseFieldDescriptor (a_Tf ci k).2.2.1).getD .int
abbrev a_cl : List vw_C := (List.range 10).map (fun ci => (aC ci, a_Tf ci, a_nf ci))
abbrev a_MR : Type := MethodName × Unit × Nat × Option FieldType × Nat × Nat × Nat × List Nat
def a_mr0 : a_MR := (⟨"", "", ""⟩, (), 0, none, 99, 9, 0, [0, 0, 0, 0])
def a_MT0 : List a_MR := [(⟨"TypeForecast", "<init>", "()V"⟩, (), 1, (none : Option FieldType), 0, 2, 0, [68, 67, 0, 52]),
  (⟨"TypeForecast", "leaf", "(II)I"⟩, (), 3, (some FieldType.int), 0, 0, 2, [325, 323, 324, 52]),
  (⟨"TypeForecast", "apply", "(III)I"⟩, (), 4, (some FieldType.int), 0, 0, 3, [341, 339, 340, 52]),
  (⟨"TypeForecast", "assign", "(II)I"⟩, (), 3, (some FieldType.int), 0, 0, 2, [356, 354, 355, 52]),
  (⟨"TypeForecast", "raise", "(I)I"⟩, (), 2, (some FieldType.int), 0, 0, 1, [370, 368, 369, 52]),
  (⟨"TypeForecast", "leave", "(Z)I"⟩, (), 3, (some FieldType.int), 0, 0, 1, [377, 375, 376, 52]),
  (⟨"TypeForecast", "branch", "(I)I"⟩, (), 2, (some FieldType.int), 0, 0, 1, [385, 383, 384, 52]),
  (⟨"TypeForecast", "loop", "(I)I"⟩, (), 2, (some FieldType.int), 0, 0, 1, [394, 392, 393, 52]),
  (⟨"TypeForecast", "attempt", "(I)I"⟩, (), 2, (some FieldType.int), 0, 0, 1, [398, 396, 397, 52]),
  (⟨"TypeForecast", "otherwise", "()Z"⟩, (), 1, (some FieldType.boolean), 0, 0, 0, [402, 400, 401, 52]),
  (⟨"TypeForecast", "end", "()Z"⟩, (), 1, (some FieldType.boolean), 0, 0, 0, [410, 408, 409, 52]),
  (⟨"TypeForecast", "feed", "(I)Z"⟩, (), 2, (some FieldType.boolean), 0, 0, 1, [418, 416, 417, 52]),
  (⟨"TypeForecast", "look", "()I"⟩, (), 1, (some FieldType.int), 0, 0, 0, [428, 426, 427, 52]),
  (⟨"TypeForecast", "alarm", "(II)Z"⟩, (), 3, (some FieldType.boolean), 0, 0, 2, [701, 699, 700, 52]),
  (⟨"TypeForecast", "seen", "(II)I"⟩, (), 3, (some FieldType.int), 0, 0, 2, [713, 711, 712, 52]),
  (⟨"TypeForecast", "bound", "(III)I"⟩, (), 7, (some FieldType.int), 0, 0, 3, [729, 727, 728, 52])]
def a_MT1 : List a_MR := [(⟨"TypeForecast", "run", "(I)I"⟩, (), 2, (some FieldType.int), 0, 0, 1, [742, 740, 741, 52]),
  (⟨"TypeForecast", "place", "()I"⟩, (), 1, (some FieldType.int), 0, 0, 0, [813, 811, 812, 52]),
  (⟨"TypeForecast", "type", "(I)I"⟩, (), 2, (some FieldType.int), 0, 0, 1, [821, 819, 820, 52]),
  (⟨"TypeForecast", "number", "(I)I"⟩, (), 2, (some FieldType.int), 0, 0, 1, [829, 827, 828, 52]),
  (⟨"TypeForecast", "pictureBefore", "(II)LTypeForecast$Picture;"⟩, (), 3, (some (FieldType.object "TypeForecast$Picture")), 0, 0, 2, [717, 716, 12, 52]),
  (⟨"TypeForecast", "isVariable", "(I)Z"⟩, (), 1, (some FieldType.boolean), 0, 1, 1, [337, 336, 0, 52]),
  (⟨"TypeForecast", "isErrorKind", "(I)Z"⟩, (), 1, (some FieldType.boolean), 0, 1, 1, [373, 372, 0, 52]),
  (⟨"TypeForecast$Expressions", "<init>", "()V"⟩, (), 1, (none : Option FieldType), 1, 2, 0, [76, 75, 0, 53]),
  (⟨"TypeForecast$Expressions", "has", "(I)Z"⟩, (), 2, (some FieldType.boolean), 1, 0, 1, [349, 347, 348, 53]),
  (⟨"TypeForecast$Expressions", "addLeaf", "(II)I"⟩, (), 3, (some FieldType.int), 1, 0, 2, [329, 327, 328, 53]),
  (⟨"TypeForecast$Expressions", "isLeaf", "(II)Z"⟩, (), 2, (some FieldType.boolean), 1, 1, 2, [332, 331, 0, 53]),
  (⟨"TypeForecast$Expressions", "addOperation", "(III)I"⟩, (), 6, (some FieldType.int), 1, 0, 3, [345, 343, 344, 53]),
  (⟨"TypeForecast$Expressions", "hasOnePart", "(I)Z"⟩, (), 1, (some FieldType.boolean), 1, 1, 1, [352, 351, 0, 53]),
  (⟨"TypeForecast$Expressions", "narrowedVariable", "(I)I"⟩, (), 5, (some FieldType.int), 1, 0, 1, [667, 665, 666, 53]),
  (⟨"TypeForecast$Program", "<init>", "()V"⟩, (), 1, (none : Option FieldType), 2, 2, 0, [115, 114, 0, 54]),
  (⟨"TypeForecast$Program", "has", "(I)Z"⟩, (), 2, (some FieldType.boolean), 2, 0, 1, [705, 703, 704, 54])]
def a_MT2 : List a_MR := [(⟨"TypeForecast$Program", "isOpen", "()Z"⟩, (), 1, (some FieldType.boolean), 2, 0, 0, [432, 430, 431, 54]),
  (⟨"TypeForecast$Program", "worksOut", "(I)Z"⟩, (), 2, (some FieldType.boolean), 2, 0, 1, [478, 476, 477, 54]),
  (⟨"TypeForecast$Program", "add", "(III)I"⟩, (), 5, (some FieldType.int), 2, 0, 3, [362, 360, 361, 54]),
  (⟨"TypeForecast$Program", "link", "(I)V"⟩, (), 5, (none : Option FieldType), 2, 0, 1, [366, 365, 0, 54]),
  (⟨"TypeForecast$Program", "addOpen", "(III)I"⟩, (), 5, (some FieldType.int), 2, 0, 3, [389, 387, 388, 54]),
  (⟨"TypeForecast$Program", "openSecondBlock", "()Z"⟩, (), 1, (some FieldType.boolean), 2, 0, 0, [406, 404, 405, 54]),
  (⟨"TypeForecast$Program", "close", "()Z"⟩, (), 1, (some FieldType.boolean), 2, 0, 0, [414, 412, 413, 54]),
  (⟨"TypeForecast$Program", "innermostOpenLoop", "()I"⟩, (), 2, (some FieldType.int), 2, 0, 0, [381, 379, 380, 54]),
  (⟨"TypeForecast$Program", "start", "()I"⟩, (), 1, (some FieldType.int), 2, 0, 0, [457, 455, 456, 54]),
  (⟨"TypeForecast$Program", "entry", "(II)I"⟩, (), 4, (some FieldType.int), 2, 0, 2, [638, 636, 637, 54]),
  (⟨"TypeForecast$Program", "behind", "(I)I"⟩, (), 4, (some FieldType.int), 2, 0, 1, [642, 640, 641, 54]),
  (⟨"TypeForecast$Program", "catcher", "(II)I"⟩, (), 7, (some FieldType.int), 2, 0, 2, [634, 632, 633, 54]),
  (⟨"TypeForecast$Forecast", "<init>", "(LTypeForecast$Program;LTypeForecast$Expressions;)V"⟩, (), 4, (none : Option FieldType), 3, 2, 2, [165, 164, 0, 55]),
  (⟨"TypeForecast$Forecast", "stateAt", "(I)LTypeForecast$State;"⟩, (), 2, (some (FieldType.object "TypeForecast$State")), 3, 0, 1, [721, 719, 720, 55]),
  (⟨"TypeForecast$Forecast", "hasAlarm", "(II)Z"⟩, (), 3, (some FieldType.boolean), 3, 0, 2, [709, 707, 708, 55]),
  (⟨"TypeForecast$Forecast", "lookThrough", "()I"⟩, (), 4, (some FieldType.int), 3, 0, 0, [436, 434, 435, 55])]
def a_MT3 : List a_MR := [(⟨"TypeForecast$Forecast", "forget", "()V"⟩, (), 2, (none : Option FieldType), 3, 0, 0, [440, 439, 1, 55]),
  (⟨"TypeForecast$Forecast", "countAlarms", "()I"⟩, (), 3, (some FieldType.int), 3, 0, 0, [697, 696, 11, 55]),
  (⟨"TypeForecast$Forecast", "flow", "(LTypeForecast$State;I)V"⟩, (), 3, (none : Option FieldType), 3, 0, 2, [461, 460, 2, 55]),
  (⟨"TypeForecast$Forecast", "visitPlain", "(I)V"⟩, (), 2, (none : Option FieldType), 3, 0, 1, [693, 692, 10, 55]),
  (⟨"TypeForecast$Forecast", "visitWithExpression", "(I)V"⟩, (), 4, (none : Option FieldType), 3, 0, 1, [482, 481, 3, 55]),
  (⟨"TypeForecast$Forecast", "flowAssigned", "(ILTypeForecast$Picture;)V"⟩, (), 3, (none : Option FieldType), 3, 0, 2, [646, 645, 8, 55]),
  (⟨"TypeForecast$Forecast", "flowNarrowed", "(IZ)V"⟩, (), 3, (none : Option FieldType), 3, 0, 2, [659, 658, 9, 55]),
  (⟨"TypeForecast$Forecast", "flowErrors", "(II)V"⟩, (), 5, (none : Option FieldType), 3, 0, 2, [630, 629, 7, 55]),
  (⟨"TypeForecast$State", "<init>", "()V"⟩, (), 2, (none : Option FieldType), 4, 2, 0, [172, 171, 0, 56]),
  (⟨"TypeForecast$State", "clear", "()V"⟩, (), 2, (none : Option FieldType), 4, 0, 0, [444, 442, 443, 56]),
  (⟨"TypeForecast$State", "unbindAll", "()V"⟩, (), 2, (none : Option FieldType), 4, 0, 0, [453, 451, 452, 56]),
  (⟨"TypeForecast$State", "copyFrom", "(LTypeForecast$State;)V"⟩, (), 3, (none : Option FieldType), 4, 0, 1, [651, 649, 650, 56]),
  (⟨"TypeForecast$State", "join", "(LTypeForecast$State;)Z"⟩, (), 4, (some FieldType.boolean), 4, 0, 1, [465, 463, 464, 56]),
  (⟨"TypeForecast$Picture", "<init>", "()V"⟩, (), 1, (none : Option FieldType), 5, 2, 0, [179, 178, 0, 57]),
  (⟨"TypeForecast$Picture", "clear", "()V"⟩, (), 1, (none : Option FieldType), 5, 0, 0, [448, 446, 447, 57]),
  (⟨"TypeForecast$Picture", "copyFrom", "(LTypeForecast$Picture;)V"⟩, (), 2, (none : Option FieldType), 5, 0, 1, [499, 497, 498, 57])]
def a_MT4 : List a_MR := [(⟨"TypeForecast$Picture", "join", "(LTypeForecast$Picture;)Z"⟩, (), 3, (some FieldType.boolean), 5, 0, 1, [469, 467, 468, 57]),
  (⟨"TypeForecast$Picture", "types", "()I"⟩, (), 1, (some FieldType.int), 5, 0, 0, [725, 723, 724, 57]),
  (⟨"TypeForecast$Picture", "hasValue", "()Z"⟩, (), 1, (some FieldType.boolean), 5, 0, 0, [513, 511, 512, 57]),
  (⟨"TypeForecast$Picture", "hasOtherThanNumber", "()Z"⟩, (), 1, (some FieldType.boolean), 5, 0, 0, [562, 560, 561, 57]),
  (⟨"TypeForecast$Picture", "hasOtherThanText", "()Z"⟩, (), 1, (some FieldType.boolean), 5, 0, 0, [547, 545, 546, 57]),
  (⟨"TypeForecast$Picture", "hasTrue", "()Z"⟩, (), 1, (some FieldType.boolean), 5, 0, 0, [533, 531, 532, 57]),
  (⟨"TypeForecast$Picture", "hasFalse", "()Z"⟩, (), 1, (some FieldType.boolean), 5, 0, 0, [525, 523, 524, 57]),
  (⟨"TypeForecast$Picture", "hasOneValue", "()Z"⟩, (), 1, (some FieldType.boolean), 5, 0, 0, [621, 619, 620, 57]),
  (⟨"TypeForecast$Picture", "mayEqual", "(LTypeForecast$Picture;)Z"⟩, (), 2, (some FieldType.boolean), 5, 0, 1, [609, 607, 608, 57]),
  (⟨"TypeForecast$Picture", "mayDiffer", "(LTypeForecast$Picture;)Z"⟩, (), 2, (some FieldType.boolean), 5, 0, 1, [617, 615, 616, 57]),
  (⟨"TypeForecast$Picture", "includeTruth", "(ZZ)V"⟩, (), 3, (none : Option FieldType), 5, 0, 2, [541, 539, 540, 57]),
  (⟨"TypeForecast$Picture", "keepTruth", "(Z)V"⟩, (), 2, (none : Option FieldType), 5, 0, 1, [687, 685, 686, 57]),
  (⟨"TypeForecast$Picture", "keepLess", "(LTypeForecast$Picture;Z)V"⟩, (), 3, (none : Option FieldType), 5, 0, 2, [671, 669, 670, 57]),
  (⟨"TypeForecast$Picture", "keepEqual", "(LTypeForecast$Picture;Z)V"⟩, (), 3, (none : Option FieldType), 5, 0, 2, [679, 677, 678, 57]),
  (⟨"TypeForecast$Range", "<init>", "()V"⟩, (), 1, (none : Option FieldType), 6, 2, 0, [185, 184, 0, 58]),
  (⟨"TypeForecast$Range", "clear", "()V"⟩, (), 1, (none : Option FieldType), 6, 0, 0, [190, 188, 189, 58])]
def a_MT5 : List a_MR := [(⟨"TypeForecast$Range", "copyFrom", "(LTypeForecast$Range;)V"⟩, (), 2, (none : Option FieldType), 6, 0, 1, [503, 501, 502, 58]),
  (⟨"TypeForecast$Range", "include", "(II)V"⟩, (), 5, (none : Option FieldType), 6, 0, 2, [495, 493, 494, 58]),
  (⟨"TypeForecast$Range", "join", "(LTypeForecast$Range;)Z"⟩, (), 3, (some FieldType.boolean), 6, 0, 1, [473, 471, 472, 58]),
  (⟨"TypeForecast$Range", "includeAll", "()V"⟩, (), 1, (none : Option FieldType), 6, 0, 0, [507, 505, 506, 58]),
  (⟨"TypeForecast$Range", "isEmpty", "()Z"⟩, (), 1, (some FieldType.boolean), 6, 0, 0, [517, 515, 516, 58]),
  (⟨"TypeForecast$Range", "isSingle", "()Z"⟩, (), 1, (some FieldType.boolean), 6, 0, 0, [625, 623, 624, 58]),
  (⟨"TypeForecast$Range", "holds", "(I)Z"⟩, (), 2, (some FieldType.boolean), 6, 0, 1, [529, 527, 528, 58]),
  (⟨"TypeForecast$Range", "holdsOtherThan", "(I)Z"⟩, (), 2, (some FieldType.boolean), 6, 0, 1, [537, 535, 536, 58]),
  (⟨"TypeForecast$Range", "meets", "(LTypeForecast$Range;)Z"⟩, (), 2, (some FieldType.boolean), 6, 0, 1, [613, 611, 612, 58]),
  (⟨"TypeForecast$Range", "mayBeLess", "(LTypeForecast$Range;)Z"⟩, (), 2, (some FieldType.boolean), 6, 0, 1, [601, 599, 600, 58]),
  (⟨"TypeForecast$Range", "mayBeNotLess", "(LTypeForecast$Range;)Z"⟩, (), 2, (some FieldType.boolean), 6, 0, 1, [605, 603, 604, 58]),
  (⟨"TypeForecast$Range", "keep", "(II)V"⟩, (), 5, (none : Option FieldType), 6, 0, 2, [675, 673, 674, 58]),
  (⟨"TypeForecast$Range", "drop", "(I)V"⟩, (), 4, (none : Option FieldType), 6, 0, 1, [683, 681, 682, 58]),
  (⟨"TypeForecast$Range", "includeSums", "(LTypeForecast$Range;LTypeForecast$Range;)V"⟩, (), 3, (none : Option FieldType), 6, 0, 2, [554, 552, 553, 58]),
  (⟨"TypeForecast$Range", "includeDifferences", "(LTypeForecast$Range;LTypeForecast$Range;)V"⟩, (), 3, (none : Option FieldType), 6, 0, 2, [566, 564, 565, 58]),
  (⟨"TypeForecast$Range", "includeProducts", "(LTypeForecast$Range;LTypeForecast$Range;)V"⟩, (), 3, (none : Option FieldType), 6, 0, 2, [573, 571, 572, 58])]
def a_MT6 : List a_MR := [(⟨"TypeForecast$Range", "includeQuotients", "(LTypeForecast$Range;II)V"⟩, (), 4, (none : Option FieldType), 6, 0, 3, [588, 586, 587, 58]),
  (⟨"TypeForecast$Range", "includeCorners", "(IIII)V"⟩, (), 5, (none : Option FieldType), 6, 0, 4, [577, 576, 6, 58]),
  (⟨"TypeForecast$Range", "shownLow", "()I"⟩, (), 1, (some FieldType.int), 6, 0, 0, [734, 732, 733, 58]),
  (⟨"TypeForecast$Range", "shownHigh", "()I"⟩, (), 1, (some FieldType.int), 6, 0, 0, [738, 736, 737, 58]),
  (⟨"TypeForecast$Painter", "<init>", "(LTypeForecast$Expressions;)V"⟩, (), 3, (none : Option FieldType), 7, 2, 1, [233, 232, 0, 59]),
  (⟨"TypeForecast$Painter", "paint", "(ILTypeForecast$State;I)I"⟩, (), 9, (some FieldType.int), 7, 0, 3, [486, 485, 4, 59]),
  (⟨"TypeForecast$Painter", "paintLeaf", "(ILTypeForecast$State;LTypeForecast$Picture;)I"⟩, (), 5, (some FieldType.int), 7, 0, 3, [491, 490, 5, 59]),
  (⟨"TypeForecast$Painter", "paintSingle", "(ILTypeForecast$Picture;LTypeForecast$Picture;)I"⟩, (), 3, (some FieldType.int), 7, 1, 3, [521, 520, 0, 59]),
  (⟨"TypeForecast$Painter", "paintPair", "(ILTypeForecast$Picture;LTypeForecast$Picture;LTypeForecast$Picture;)I"⟩, (), 4, (some FieldType.int), 7, 1, 4, [550, 549, 0, 59]),
  (⟨"TypeForecast$Painter", "mixError", "(LTypeForecast$Picture;LTypeForecast$Picture;)I"⟩, (), 4, (some FieldType.int), 7, 1, 2, [558, 557, 0, 59]),
  (⟨"TypeForecast$Painter", "nonNumberError", "(LTypeForecast$Picture;LTypeForecast$Picture;)I"⟩, (), 2, (some FieldType.int), 7, 1, 2, [569, 568, 0, 59]),
  (⟨"TypeForecast$Painter", "zeroError", "(LTypeForecast$Picture;LTypeForecast$Picture;)I"⟩, (), 2, (some FieldType.int), 7, 1, 2, [595, 594, 0, 59]),
  (⟨"TypeForecast$Painter", "narrow", "(LTypeForecast$State;IZ)V"⟩, (), 6, (none : Option FieldType), 7, 0, 3, [663, 661, 662, 59]),
  (⟨"TypeForecast$Machine", "<init>", "(LTypeForecast$Program;LTypeForecast$Expressions;)V"⟩, (), 3, (none : Option FieldType), 8, 2, 2, [275, 274, 0, 60]),
  (⟨"TypeForecast$Machine", "addInput", "(I)Z"⟩, (), 2, (some FieldType.boolean), 8, 0, 1, [422, 420, 421, 60]),
  (⟨"TypeForecast$Machine", "lastPlace", "()I"⟩, (), 1, (some FieldType.int), 8, 0, 0, [817, 815, 816, 60])]
def a_MT7 : List a_MR := [(⟨"TypeForecast$Machine", "typeOf", "(I)I"⟩, (), 2, (some FieldType.int), 8, 0, 1, [825, 823, 824, 60]),
  (⟨"TypeForecast$Machine", "amountOf", "(I)I"⟩, (), 2, (some FieldType.int), 8, 0, 1, [833, 831, 832, 60]),
  (⟨"TypeForecast$Machine", "execute", "(I)I"⟩, (), 4, (some FieldType.int), 8, 0, 1, [746, 744, 745, 60]),
  (⟨"TypeForecast$Machine", "stop", "(II)I"⟩, (), 3, (some FieldType.int), 8, 0, 2, [806, 805, 19, 60]),
  (⟨"TypeForecast$Machine", "step", "(I)I"⟩, (), 2, (some FieldType.int), 8, 0, 1, [751, 750, 13, 60]),
  (⟨"TypeForecast$Machine", "stepWith", "(IJ)I"⟩, (), 4, (some FieldType.int), 8, 0, 2, [798, 797, 17, 60]),
  (⟨"TypeForecast$Machine", "fail", "(II)I"⟩, (), 4, (some FieldType.int), 8, 0, 2, [802, 801, 18, 60]),
  (⟨"TypeForecast$Machine", "workOut", "(II)J"⟩, (), 8, (some FieldType.long), 8, 0, 2, [756, 755, 14, 60]),
  (⟨"TypeForecast$Machine", "leafValue", "(I)J"⟩, (), 4, (some FieldType.long), 8, 0, 1, [761, 760, 15, 60]),
  (⟨"TypeForecast$Machine", "nextInput", "()I"⟩, (), 1, (some FieldType.int), 8, 0, 0, [769, 768, 16, 60]),
  (⟨"TypeForecast$Machine", "single", "(IJ)J"⟩, (), 3, (some FieldType.long), 8, 1, 2, [773, 772, 0, 60]),
  (⟨"TypeForecast$Machine", "pair", "(IJJ)J"⟩, (), 12, (some FieldType.long), 8, 1, 3, [785, 784, 0, 60]),
  (⟨"TypeForecast$Machine", "checked", "(IJ)J"⟩, (), 4, (some FieldType.long), 8, 1, 2, [788, 787, 0, 60]),
  (⟨"TypeForecast$Machine", "truth", "(Z)J"⟩, (), 1, (some FieldType.long), 8, 1, 1, [782, 781, 0, 60]),
  (⟨"TypeForecast$Machine", "isTrue", "(J)Z"⟩, (), 2, (some FieldType.boolean), 8, 1, 1, [776, 775, 0, 60]),
  (⟨"TypeForecast$Machine", "value", "(IJ)J"⟩, (), 3, (some FieldType.long), 8, 1, 2, [279, 278, 0, 60])]
def a_MT8 : List a_MR := [(⟨"TypeForecast$Machine", "typeIn", "(J)I"⟩, (), 2, (some FieldType.int), 8, 1, 1, [764, 763, 0, 60]),
  (⟨"TypeForecast$Machine", "amountIn", "(J)J"⟩, (), 2, (some FieldType.long), 8, 1, 1, [779, 778, 0, 60]),
  (⟨"TypeForecastModel", "<init>", "()V"⟩, (), 2, (none : Option FieldType), 9, 2, 0, [838, 837, 0, 62]),
  (⟨"TypeForecastModel", "forget", "()V"⟩, (), 2, (none : Option FieldType), 9, 0, 0, [1046, 1045, 22, 62]),
  (⟨"TypeForecastModel", "leaf", "(II)I"⟩, (), 6, (some FieldType.int), 9, 0, 2, [988, 986, 987, 62]),
  (⟨"TypeForecastModel", "isExpression", "(I)Z"⟩, (), 2, (some FieldType.boolean), 9, 0, 1, [998, 997, 20, 62]),
  (⟨"TypeForecastModel", "apply", "(III)I"⟩, (), 6, (some FieldType.int), 9, 0, 3, [994, 992, 993, 62]),
  (⟨"TypeForecastModel", "add", "(III)I"⟩, (), 6, (some FieldType.int), 9, 0, 3, [1006, 1005, 21, 62]),
  (⟨"TypeForecastModel", "assign", "(II)I"⟩, (), 3, (some FieldType.int), 9, 0, 2, [1002, 1000, 1001, 62]),
  (⟨"TypeForecastModel", "raise", "(I)I"⟩, (), 2, (some FieldType.int), 9, 0, 1, [1010, 1008, 1009, 62]),
  (⟨"TypeForecastModel", "leave", "(Z)I"⟩, (), 4, (some FieldType.int), 9, 0, 1, [1014, 1012, 1013, 62]),
  (⟨"TypeForecastModel", "branch", "(I)I"⟩, (), 2, (some FieldType.int), 9, 0, 1, [1018, 1016, 1017, 62]),
  (⟨"TypeForecastModel", "loop", "(I)I"⟩, (), 2, (some FieldType.int), 9, 0, 1, [1022, 1020, 1021, 62]),
  (⟨"TypeForecastModel", "attempt", "(I)I"⟩, (), 2, (some FieldType.int), 9, 0, 1, [1026, 1024, 1025, 62]),
  (⟨"TypeForecastModel", "otherwise", "()Z"⟩, (), 2, (some FieldType.boolean), 9, 0, 0, [1030, 1028, 1029, 62]),
  (⟨"TypeForecastModel", "end", "()Z"⟩, (), 2, (some FieldType.boolean), 9, 0, 0, [1034, 1032, 1033, 62])]
def a_MT9 : List a_MR := [(⟨"TypeForecastModel", "feed", "(I)Z"⟩, (), 2, (some FieldType.boolean), 9, 0, 1, [1038, 1036, 1037, 62]),
  (⟨"TypeForecastModel", "behind", "(I)I"⟩, (), 5, (some FieldType.int), 9, 0, 1, [1146, 1145, 42, 62]),
  (⟨"TypeForecastModel", "into", "(II)I"⟩, (), 4, (some FieldType.int), 9, 0, 2, [1142, 1141, 41, 62]),
  (⟨"TypeForecastModel", "loopAround", "(I)I"⟩, (), 3, (some FieldType.int), 9, 0, 1, [1150, 1149, 43, 62]),
  (⟨"TypeForecastModel", "catcher", "(II)I"⟩, (), 5, (some FieldType.int), 9, 0, 2, [1138, 1137, 40, 62]),
  (⟨"TypeForecastModel", "start", "()I"⟩, (), 1, (some FieldType.int), 9, 0, 0, [1050, 1049, 23, 62]),
  (⟨"TypeForecastModel", "isTrue", "(IJ)Z"⟩, (), 3, (some FieldType.boolean), 9, 1, 2, [1130, 1129, 0, 62]),
  (⟨"TypeForecastModel", "give", "(IJ)V"⟩, (), 4, (none : Option FieldType), 9, 0, 2, [1123, 1122, 38, 62]),
  (⟨"TypeForecastModel", "quotient", "(JJ)J"⟩, (), 6, (some FieldType.long), 9, 1, 2, [1127, 1126, 0, 62]),
  (⟨"TypeForecastModel", "work", "(IIJIJ)V"⟩, (), 10, (none : Option FieldType), 9, 0, 5, [1119, 1118, 37, 62]),
  (⟨"TypeForecastModel", "low", "(J)I"⟩, (), 2, (some FieldType.int), 9, 1, 1, [1085, 1084, 0, 62]),
  (⟨"TypeForecastModel", "high", "(J)I"⟩, (), 2, (some FieldType.int), 9, 1, 1, [1090, 1089, 0, 62]),
  (⟨"TypeForecastModel", "fitNone", "()V"⟩, (), 2, (none : Option FieldType), 9, 0, 0, [1078, 1077, 30, 62]),
  (⟨"TypeForecastModel", "fitValue", "(IJ)V"⟩, (), 6, (none : Option FieldType), 9, 0, 2, [1082, 1081, 31, 62]),
  (⟨"TypeForecastModel", "within", "(III)Z"⟩, (), 3, (some FieldType.boolean), 9, 1, 3, [1111, 1110, 0, 62]),
  (⟨"TypeForecastModel", "leftValue", "(II)V"⟩, (), 3, (none : Option FieldType), 9, 0, 2, [1115, 1114, 36, 62])]
def a_MT10 : List a_MR := [(⟨"TypeForecastModel", "leftValues", "(I)V"⟩, (), 11, (none : Option FieldType), 9, 0, 1, [1108, 1107, 35, 62]),
  (⟨"TypeForecastModel", "rightValues", "(I)V"⟩, (), 3, (none : Option FieldType), 9, 0, 1, [1104, 1103, 34, 62]),
  (⟨"TypeForecastModel", "keepFit", "(I)V"⟩, (), 3, (none : Option FieldType), 9, 0, 1, [1096, 1095, 32, 62]),
  (⟨"TypeForecastModel", "pictureLeaf", "(I)V"⟩, (), 4, (none : Option FieldType), 9, 0, 1, [1074, 1073, 29, 62]),
  (⟨"TypeForecastModel", "pictureOperation", "(I)V"⟩, (), 7, (none : Option FieldType), 9, 0, 1, [1100, 1099, 33, 62]),
  (⟨"TypeForecastModel", "picture", "(I)V"⟩, (), 3, (none : Option FieldType), 9, 0, 1, [1070, 1069, 28, 62]),
  (⟨"TypeForecastModel", "mayBe", "(IZ)Z"⟩, (), 5, (some FieldType.boolean), 9, 0, 2, [1154, 1153, 44, 62]),
  (⟨"TypeForecastModel", "narrow", "(IZ)V"⟩, (), 9, (none : Option FieldType), 9, 0, 2, [1158, 1157, 45, 62]),
  (⟨"TypeForecastModel", "setHere", "(I)V"⟩, (), 3, (none : Option FieldType), 9, 0, 1, [1162, 1161, 46, 62]),
  (⟨"TypeForecastModel", "load", "(I)V"⟩, (), 3, (none : Option FieldType), 9, 0, 1, [1066, 1065, 27, 62]),
  (⟨"TypeForecastModel", "joinBound", "(IIZZ)V"⟩, (), 7, (none : Option FieldType), 9, 0, 4, [1058, 1057, 25, 62]),
  (⟨"TypeForecastModel", "flow", "(I)V"⟩, (), 7, (none : Option FieldType), 9, 0, 1, [1054, 1053, 24, 62]),
  (⟨"TypeForecastModel", "mayRaise", "(II)V"⟩, (), 5, (none : Option FieldType), 9, 0, 2, [1134, 1133, 39, 62]),
  (⟨"TypeForecastModel", "through", "(I)V"⟩, (), 3, (none : Option FieldType), 9, 0, 1, [1062, 1061, 26, 62]),
  (⟨"TypeForecastModel", "look", "()I"⟩, (), 3, (some FieldType.int), 9, 0, 0, [1042, 1040, 1041, 62]),
  (⟨"TypeForecastModel", "alarm", "(II)Z"⟩, (), 3, (some FieldType.boolean), 9, 0, 2, [1166, 1164, 1165, 62])]
def a_MT11 : List a_MR := [(⟨"TypeForecastModel", "seen", "(II)I"⟩, (), 4, (some FieldType.int), 9, 0, 2, [1170, 1168, 1169, 62]),
  (⟨"TypeForecastModel", "bound", "(III)I"⟩, (), 5, (some FieldType.int), 9, 0, 3, [1174, 1172, 1173, 62]),
  (⟨"TypeForecastModel", "order", "(I)V"⟩, (), 5, (none : Option FieldType), 9, 0, 1, [1191, 1190, 49, 62]),
  (⟨"TypeForecastModel", "leafValue", "(I)V"⟩, (), 4, (none : Option FieldType), 9, 0, 1, [1195, 1194, 50, 62]),
  (⟨"TypeForecastModel", "value", "(I)V"⟩, (), 6, (none : Option FieldType), 9, 0, 1, [1187, 1186, 48, 62]),
  (⟨"TypeForecastModel", "done", "(I)I"⟩, (), 3, (some FieldType.int), 9, 0, 1, [1183, 1182, 47, 62]),
  (⟨"TypeForecastModel", "run", "(I)I"⟩, (), 5, (some FieldType.int), 9, 0, 1, [1179, 1177, 1178, 62]),
  (⟨"TypeForecastModel", "place", "()I"⟩, (), 1, (some FieldType.int), 9, 0, 0, [1202, 1200, 1201, 62]),
  (⟨"TypeForecastModel", "type", "(I)I"⟩, (), 2, (some FieldType.int), 9, 0, 1, [1206, 1204, 1205, 62]),
  (⟨"TypeForecastModel", "number", "(I)I"⟩, (), 2, (some FieldType.int), 9, 0, 1, [1210, 1208, 1209, 62]),
  (⟨"TypeForecastLaw", "law", "([I)Z"⟩, (), 4, (some FieldType.boolean), 10, 1, 1, [0, 0, 0, 51]),
  (⟨"java/lang/Math", "floorDiv", "(II)I"⟩, (), 3, (some FieldType.int), 11, 1, 2, [591, 590, 0, 63]),
  (⟨"java/lang/Math", "floorDiv", "(JJ)J"⟩, (), 6, (some FieldType.long), 11, 1, 2, [794, 793, 0, 63]),
  (⟨"java/lang/Math", "max", "(II)I"⟩, (), 2, (some FieldType.int), 11, 1, 2, [583, 582, 0, 63]),
  (⟨"java/lang/Math", "min", "(II)I"⟩, (), 2, (some FieldType.int), 11, 1, 2, [580, 579, 0, 63]),
  (⟨"java/util/Arrays", "fill", "([JJ)V"⟩, (), 5, (none : Option FieldType), 12, 1, 2, [282, 281, 0, 61])]
def a_MT : List a_MR := a_mr0 :: (a_MT0 ++ (a_MT1 ++ (a_MT2 ++ (a_MT3 ++ (a_MT4 ++ (a_MT5 ++ (a_MT6 ++ (a_MT7 ++ (a_MT8 ++ (a_MT9 ++ (a_MT10 ++ (a_MT11))))))))))))
def a_m (i : Nat) : a_MR := a_MT.getD i a_mr0
def m_y (i : Nat) : MethodName := (a_m i).1
def m_nl (i : Nat) : Nat := (a_m i).2.2.1
def m_rt (i : Nat) : Option FieldType := (a_m i).2.2.2.1
def m_o (i : Nat) : Nat := (a_m i).2.2.2.2.1
def m_k (i : Nat) : Nat := (a_m i).2.2.2.2.2.1
def m_np (i : Nat) : Nat := (a_m i).2.2.2.2.2.2.1
def m_h (i : Nat) : List Nat := (a_m i).2.2.2.2.2.2.2
/-- the code that the tables have of a method (the law: its own) -/
def m_cc (i : Nat) : ByteArray := if i = 187 then code else match lw_tbl[(m_h i).getD 0 0]? with
  | some (.code _ cc _ _) => cc
  | _ => ⟨#[]⟩
def a_at (i : Nat) (w : Jvm.Cond) : Bool := decide (lw_tbl[i]? = some w)
theorem a_at_in {i : Nat} {w : Jvm.Cond} (h : a_at i w = true) : w ∈ lw_tbl := List.mem_of_getElem? (of_decide_eq_true h)
def wG : List Jvm.Cond := lw_tbl.filter goodWord
def a_nest : Jvm.Cond → Bool
  | .fieldLinkNest .. => true
  | .methodLinkNest .. => true
  | _ => false
def wN : List Jvm.Cond := lw_tbl.filter a_nest
theorem wG_in {w : Jvm.Cond} (h : w ∈ lw_tbl) (g : goodWord w = true) : w ∈ wG := List.mem_filter.mpr ⟨h, g⟩
theorem wN_in {w : Jvm.Cond} (h : w ∈ lw_tbl) (g : a_nest w = true) : w ∈ wN := List.mem_filter.mpr ⟨h, g⟩
def a_FL : List (Nat × Nat × Nat × Nat × Nat) := [(0, 12, 0, 0, 309), (0, 19, 1, 0, 310), (0, 28, 2, 0, 311), (0, 35, 3, 0, 312), (0, 100, 320, 1, 204), (0, 104, 321, 1, 207), (0, 132, 256, 1, 225), (1, 9, 64, 0, 78), (1, 15, 65, 0, 81), (1, 18, 66, 0, 84), (1, 21, 67, 0, 87), (1, 24, 68, 0, 90), (1, 27, 69, 0, 93), (1, 30, 70, 0, 94), (2, 9, 128, 0, 117), (2, 15, 129, 0, 120), (2, 18, 130, 0, 123), (2, 21, 131, 0, 126), (2, 24, 132, 0, 127), (2, 27, 133, 0, 128), (2, 30, 134, 0, 129), (2, 33, 136, 0, 132), (2, 36, 137, 0, 133), (2, 39, 138, 0, 134), (2, 42, 135, 0, 130), (2, 46, 139, 0, 135), (3, 11, 194, 0, 248), (3, 18, 195, 0, 249), (3, 22, 196, 0, 250), (3, 26, 197, 0, 251), (3, 29, 199, 0, 253), (3, 33, 192, 0, 246), (3, 42, 193, 0, 247), (3, 46, 135, 1, 131), (3, 51, 198, 0, 252), (3, 90, 128, 1, 118), (3, 94, 129, 1, 121), (3, 109, 130, 1, 125), (3, 116, 449, 1, 239), (3, 144, 256, 1, 224), (4, 11, 256, 0, 222), (4, 21, 323, 1, 211), (5, 12, 320, 0, 202), (5, 18, 321, 0, 205), (5, 24, 322, 0, 208), (5, 28, 323, 0, 210), (5, 74, 385, 1, 196), (5, 78, 384, 1, 193), (6, 12, 384, 0, 191), (6, 16, 385, 0, 194), (7, 11, 449, 0, 238), (7, 17, 448, 0, 237), (7, 25, 64, 1, 79), (7, 35, 67, 1, 88), (7, 54, 68, 1, 91), (7, 61, 66, 1, 85), (7, 64, 65, 1, 82), (7, 67, 320, 1, 203), (7, 77, 321, 1, 206), (7, 80, 322, 1, 209), (7, 84, 256, 1, 223), (7, 93, 323, 1, 212), (7, 133, 384, 1, 192), (7, 137, 385, 1, 195), (8, 9, 514, 0, 285), (8, 15, 517, 0, 288), (8, 19, 519, 0, 290), (8, 23, 512, 0, 283), (8, 27, 513, 0, 284), (8, 41, 515, 0, 286), (8, 54, 516, 0, 287), (8, 67, 518, 0, 289), (8, 78, 130, 1, 124), (8, 89, 128, 1, 119), (8, 92, 129, 1, 122), (8, 113, 64, 1, 80), (8, 122, 67, 1, 89), (8, 131, 68, 1, 92), (8, 138, 66, 1, 86), (8, 141, 65, 1, 83), (9, 7, 577, 0, 841), (9, 13, 578, 0, 842), (9, 16, 579, 0, 843), (9, 19, 580, 0, 844), (9, 22, 582, 0, 846), (9, 25, 583, 0, 847), (9, 28, 584, 0, 848), (9, 31, 585, 0, 849), (9, 34, 586, 0, 850), (9, 37, 587, 0, 851), (9, 40, 588, 0, 852), (9, 43, 589, 0, 853), (9, 46, 591, 0, 855), (9, 49, 593, 0, 857), (9, 52, 594, 0, 858), (9, 56, 595, 0, 859), (9, 59, 596, 0, 860), (9, 62, 597, 0, 861), (9, 65, 599, 0, 863), (9, 68, 600, 0, 864), (9, 71, 601, 0, 865), (9, 74, 602, 0, 866), (9, 77, 603, 0, 867), (9, 80, 604, 0, 868), (9, 83, 606, 0, 870), (9, 86, 607, 0, 871), (9, 89, 609, 0, 873), (9, 92, 610, 0, 874), (9, 95, 612, 0, 876), (9, 98, 615, 0, 879), (9, 102, 616, 0, 880), (9, 105, 617, 0, 881), (9, 109, 620, 0, 884), (9, 112, 621, 0, 885), (9, 115, 622, 0, 886), (9, 118, 623, 0, 887), (9, 123, 576, 0, 840), (9, 130, 581, 0, 845), (9, 133, 590, 0, 854), (9, 140, 592, 0, 856), (9, 147, 613, 0, 877), (9, 150, 614, 0, 878), (9, 172, 611, 0, 875), (9, 182, 605, 0, 869), (9, 197, 608, 0, 872), (9, 229, 598, 0, 862), (9, 280, 619, 0, 883), (9, 285, 618, 0, 882)]
def a_ML : List (Nat × Nat × Nat × Nat × Nat) := [(0, 3, 0, 0, 69), (0, 11, 24, 1, 74), (0, 18, 31, 0, 113), (0, 25, 45, 0, 163), (0, 34, 110, 0, 273), (0, 39, 26, 0, 326), (0, 43, 28, 0, 342), (0, 47, 22, 0, 357), (0, 51, 25, 0, 358), (0, 54, 35, 0, 359), (0, 57, 23, 0, 371), (0, 60, 40, 0, 378), (0, 64, 37, 0, 386), (0, 67, 38, 0, 403), (0, 71, 39, 0, 411), (0, 74, 111, 0, 419), (0, 77, 33, 0, 429), (0, 80, 48, 0, 433), (0, 83, 32, 0, 702), (0, 84, 47, 0, 706), (0, 88, 21, 0, 714), (0, 92, 66, 0, 722), (0, 97, 15, 0, 730), (0, 107, 99, 0, 731), (0, 112, 100, 0, 735), (0, 115, 115, 0, 743), (0, 119, 112, 0, 814), (0, 122, 113, 0, 822), (0, 125, 114, 0, 830), (0, 128, 46, 0, 718), (1, 3, 0, 0, 77), (1, 34, 27, 0, 330), (1, 40, 22, 1, 335), (1, 44, 25, 0, 346), (1, 47, 29, 0, 350), (2, 3, 0, 0, 116), (2, 49, 36, 0, 363), (2, 53, 35, 0, 390), (2, 57, 43, 0, 639), (2, 61, 42, 0, 635), (3, 3, 0, 0, 166), (3, 17, 57, 0, 170), (3, 39, 101, 0, 231), (3, 54, 49, 0, 437), (3, 57, 59, 0, 450), (3, 60, 41, 0, 454), (3, 64, 51, 0, 458), (3, 69, 34, 0, 475), (3, 73, 53, 0, 479), (3, 77, 52, 0, 690), (3, 80, 50, 0, 694), (3, 83, 58, 0, 441), (3, 86, 61, 0, 462), (3, 97, 56, 0, 627), (3, 101, 43, 0, 654), (3, 105, 42, 0, 688), (3, 112, 102, 1, 483), (3, 120, 54, 0, 643), (3, 124, 70, 0, 655), (3, 130, 55, 0, 656), (3, 134, 71, 0, 689), (3, 137, 67, 0, 647), (3, 140, 60, 0, 648), (3, 147, 64, 0, 653), (3, 150, 109, 0, 660), (3, 154, 44, 0, 631), (4, 3, 0, 0, 173), (4, 17, 62, 1, 177), (4, 18, 63, 0, 445), (4, 25, 64, 0, 652), (4, 29, 65, 0, 466), (5, 3, 0, 0, 180), (5, 11, 79, 0, 183), (5, 21, 80, 0, 449), (5, 31, 81, 0, 500), (5, 35, 83, 0, 470), (5, 39, 85, 0, 514), (5, 43, 88, 0, 534), (5, 47, 87, 0, 526), (5, 50, 86, 0, 622), (5, 53, 89, 0, 610), (5, 56, 72, 0, 618), (5, 59, 73, 0, 626), (5, 63, 82, 0, 542), (5, 67, 93, 0, 680), (5, 71, 92, 0, 672), (6, 1, 0, 0, 186), (6, 7, 80, 0, 187), (6, 19, 82, 0, 508), (6, 23, 190, 0, 581), (6, 29, 191, 0, 578), (6, 32, 85, 0, 555), (6, 36, 98, 0, 574), (6, 40, 188, 0, 589), (7, 3, 0, 0, 234), (7, 21, 62, 1, 236), (7, 22, 63, 0, 487), (7, 31, 103, 0, 488), (7, 38, 102, 0, 509), (7, 42, 67, 0, 510), (7, 46, 29, 0, 518), (7, 50, 104, 0, 519), (7, 57, 105, 0, 548), (7, 71, 82, 0, 492), (7, 89, 64, 0, 496), (7, 96, 84, 0, 504), (7, 99, 71, 0, 522), (7, 102, 70, 0, 530), (7, 105, 75, 0, 538), (7, 109, 83, 0, 543), (7, 113, 69, 0, 544), (7, 116, 94, 0, 551), (7, 120, 106, 0, 556), (7, 124, 95, 0, 563), (7, 127, 107, 0, 567), (7, 130, 96, 0, 570), (7, 140, 191, 0, 584), (7, 146, 97, 0, 585), (7, 150, 190, 0, 592), (7, 153, 108, 0, 593), (7, 156, 90, 0, 598), (7, 159, 91, 0, 602), (7, 162, 73, 0, 606), (7, 166, 74, 0, 614), (7, 169, 68, 0, 559), (7, 172, 85, 0, 596), (7, 175, 87, 0, 597), (7, 178, 30, 0, 664), (7, 182, 77, 0, 668), (7, 186, 78, 0, 676), (7, 189, 76, 0, 684), (8, 3, 0, 0, 276), (8, 31, 128, 0, 277), (8, 35, 192, 0, 280), (8, 46, 129, 0, 762), (8, 50, 130, 0, 777), (8, 57, 41, 0, 747), (8, 63, 117, 0, 748), (8, 70, 116, 0, 803), (8, 74, 34, 0, 752), (8, 81, 120, 0, 753), (8, 85, 118, 0, 795), (8, 95, 119, 0, 799), (8, 98, 43, 0, 808), (8, 101, 42, 0, 809), (8, 104, 127, 0, 774), (8, 108, 44, 0, 807), (8, 118, 121, 0, 758), (8, 125, 29, 0, 770), (8, 128, 123, 0, 771), (8, 134, 124, 0, 783), (8, 146, 122, 0, 766), (8, 149, 126, 0, 780), (8, 153, 125, 0, 786), (8, 158, 189, 0, 792), (9, 1, 0, 0, 839), (9, 126, 134, 0, 995), (9, 136, 136, 0, 1003), (9, 143, 146, 0, 1143), (9, 154, 152, 0, 1120), (9, 160, 153, 0, 1125), (9, 164, 151, 0, 1128), (9, 175, 155, 0, 1083), (9, 179, 156, 0, 1088), (9, 185, 159, 0, 1109), (9, 189, 160, 0, 1112), (9, 193, 161, 0, 1105), (9, 200, 157, 0, 1075), (9, 203, 158, 0, 1079), (9, 210, 163, 0, 1093), (9, 213, 162, 0, 1101), (9, 216, 154, 0, 1116), (9, 220, 164, 0, 1071), (9, 223, 165, 0, 1097), (9, 226, 169, 0, 1159), (9, 233, 171, 0, 1055), (9, 237, 149, 0, 1135), (9, 241, 147, 0, 1139), (9, 244, 172, 0, 1051), (9, 247, 170, 0, 1063), (9, 250, 166, 0, 1067), (9, 253, 173, 0, 1131), (9, 256, 148, 0, 1147), (9, 259, 167, 0, 1151), (9, 263, 168, 0, 1155), (9, 267, 132, 0, 1043), (9, 270, 150, 0, 1047), (9, 274, 174, 0, 1059), (9, 277, 177, 0, 1175), (9, 288, 179, 0, 1188), (9, 291, 180, 0, 1192), (9, 298, 181, 0, 1184), (9, 301, 182, 0, 1180), (10, 9, 1, 0, 66), (10, 12, 131, 0, 836), (10, 13, 2, 0, 322), (10, 17, 133, 0, 985), (10, 18, 3, 0, 338), (10, 22, 135, 0, 991), (10, 23, 4, 0, 353), (10, 26, 137, 0, 999), (10, 27, 5, 0, 367), (10, 31, 138, 0, 1007), (10, 32, 6, 0, 374), (10, 36, 139, 0, 1011), (10, 37, 7, 0, 382), (10, 40, 140, 0, 1015), (10, 41, 8, 0, 391), (10, 44, 141, 0, 1019), (10, 45, 9, 0, 395), (10, 48, 142, 0, 1023), (10, 49, 10, 0, 399), (10, 53, 143, 0, 1027), (10, 54, 11, 0, 407), (10, 57, 144, 0, 1031), (10, 58, 12, 0, 415), (10, 62, 145, 0, 1035), (10, 63, 13, 0, 425), (10, 67, 175, 0, 1039), (10, 68, 14, 0, 698), (10, 72, 176, 0, 1163), (10, 73, 15, 0, 710), (10, 76, 177, 0, 1167), (10, 77, 16, 0, 726), (10, 80, 178, 0, 1171), (10, 81, 17, 0, 739), (10, 84, 183, 0, 1176), (10, 85, 18, 0, 810), (10, 88, 184, 0, 1199), (10, 89, 19, 0, 818), (10, 92, 185, 0, 1203), (10, 93, 20, 0, 826), (10, 96, 186, 0, 1207)]
def a_CL : List (Nat × Nat × Nat × Nat × Nat) := [(0, 9, 1, 0, 72), (0, 16, 2, 0, 111), (0, 23, 3, 0, 161), (0, 32, 8, 0, 271), (3, 9, 4, 0, 167), (3, 37, 7, 0, 229), (4, 9, 5, 0, 174), (5, 9, 6, 0, 181), (7, 9, 5, 0, 235), (10, 7, 0, 0, 64), (10, 10, 9, 0, 834)]
def a_KI : List (Nat × Nat × Int × Nat × Nat) := [(1, 38, (-1000000000), 0, 333), (1, 39, 1000000000, 0, 334), (3, 68, 1000000, 0, 474), (8, 44, (-1000000000), 0, 423), (8, 45, 1000000000, 0, 424), (9, 121, (-1000000000), 0, 989), (9, 122, 1000000000, 0, 990)]
def a_KL : List (Nat × Nat × Int × Nat × Nat) := [(8, 111, 9, 0, 757), (8, 144, 2, 0, 765), (8, 156, 3, 0, 791), (8, 164, (-1000000000), 0, 789), (8, 166, 1000000000, 0, 790), (9, 158, 3, 0, 1124), (9, 168, (-16), 0, 1086), (9, 170, 16, 0, 1087), (9, 206, (-289), 0, 1091), (9, 208, 289, 0, 1092), (9, 283, 2, 0, 1196), (9, 294, 1000000000, 0, 1197), (9, 296, (-1000000000), 0, 1198)]
def a_find {α : Type} (l : List (Nat × Nat × α × Nat × Nat)) (o i : Nat) : Option (α × Nat) := (l.find? (fun e => e.1 == o && e.2.1 == i)).map (fun e => (e.2.2.1, e.2.2.2.1))
theorem a_wI : a_at 110 (.arrayClass .int) = true := by decide +kernel
theorem a_wZ : a_at 245 (.arrayClass .boolean) = true := by decide +kernel
theorem a_wL : a_at 308 (.arrayClass .long) = true := by decide +kernel
theorem a_wS : a_at 168 (.arrayOver (.object "TypeForecast$State")) = true := by decide +kernel
theorem a_wP : a_at 175 (.arrayOver (.object "TypeForecast$Picture")) = true := by decide +kernel
theorem a_wOi : a_at 70 (.instanceMethod objectInit) = true := by decide +kernel
theorem a_wOc : a_at 71 (.code objectInit ⟨#[0xb1]⟩ 1 none) = true := by decide +kernel
def a_hu0 : List Nat := [313, 315, 317, 319]
def a_hu1 : List Nat := [95, 97, 99, 101, 103, 105, 107]
def a_hu2 : List Nat := [136, 138, 140, 142, 144, 146, 148, 150, 152, 154, 156, 158]
def a_hu3 : List Nat := [254, 256, 258, 260, 262, 264, 266, 268]
def a_hu4 : List Nat := [226]
def a_hu5 : List Nat := [213, 215, 217, 219]
def a_hu6 : List Nat := [197, 199]
def a_hu7 : List Nat := [240, 242]
def a_hu8 : List Nat := [291, 293, 295, 297, 299, 301, 303, 305]
def a_hu9 : List Nat := [888, 890, 892, 894, 896, 898, 900, 902, 904, 906, 908, 910, 912, 914, 916, 918, 920, 922, 924, 926, 928, 930, 932, 934, 936, 938, 940, 942, 944, 946, 948, 950, 952, 954, 956, 958, 960, 962, 964, 966, 968, 970, 972, 974, 976, 978, 980, 982]
def a_hu : List (List Nat) := [a_hu0, a_hu1, a_hu2, a_hu3, a_hu4, a_hu5, a_hu6, a_hu7, a_hu8, a_hu9]
def a_hi : List Nat := [65, 73, 112, 162, 169, 176, 182, 230, 272, 835]
def a_iiL : List Nat := [1, 24, 31, 45, 57, 62, 79, 101, 110, 131]
def a_okC (ci : Nat) : Bool := (List.range (a_nf ci)).all (fun k => a_at ((a_hu.getD ci []).getD k 0) (u_lay (aC ci) (a_Tf ci) k) && decide ((a_Tf ci k).1 = aC ci) && decide (parseFieldDescriptor (a_Tf ci k).2.2.1 = some (a_tyk ci k)) && (List.range (a_nf ci)).all (fun j => decide (k = j ∨ (a_Tf ci k).2.1 ≠ (a_Tf ci j).2.1)) && decide (a_kd ci k = match a_tyk ci k with | .int => 0 | .boolean => 1 | .long => 2 | .object _ => 3 | .array _ => 3 | _ => 9)) && a_at (a_hi.getD ci 0) (.instantiable (aC ci) (a_nf ci)) && a_at ((m_h ((a_iiL.getD ci 0))).getD 3 0) (.initialized (aC ci)) && decide (m_o ((a_iiL.getD ci 0)) = ci)
theorem a_okC0 : a_okC 0 = true := by decide +kernel
theorem a_okC1 : a_okC 1 = true := by decide +kernel
theorem a_okC2 : a_okC 2 = true := by decide +kernel
theorem a_okC3 : a_okC 3 = true := by decide +kernel
theorem a_okC4 : a_okC 4 = true := by decide +kernel
theorem a_okC5 : a_okC 5 = true := by decide +kernel
theorem a_okC6 : a_okC 6 = true := by decide +kernel
theorem a_okC7 : a_okC 7 = true := by decide +kernel
theorem a_okC8 : a_okC 8 = true := by decide +kernel
theorem a_okC9 : a_okC 9 = true := by decide +kernel
theorem a_okCs : ∀ ci, ci < 10 → a_okC ci = true := fun ci h => match ci, h with
  | 0, _ => a_okC0
  | 1, _ => a_okC1
  | 2, _ => a_okC2
  | 3, _ => a_okC3
  | 4, _ => a_okC4
  | 5, _ => a_okC5
  | 6, _ => a_okC6
  | 7, _ => a_okC7
  | 8, _ => a_okC8
  | 9, _ => a_okC9
  | _ + 10, h => absurd h (by omega)
def a_okM (i : Nat) : Bool := decide (m_o i < 13) && decide ((m_y i).cls = aC (m_o i)) && (match lw_tbl[(m_h i).getD 0 0]? with | some (.code y _ n r) => decide (y = m_y i) && decide (n = m_nl i) && decide (r = m_rt i) | _ => false) && (if m_k i = 1 then a_at ((m_h i).getD 1 0) (.static (m_y i)) else a_at ((m_h i).getD 1 0) (.instanceMethod (m_y i))) && (if m_k i = 0 then a_at ((m_h i).getD 2 0) (.selects (m_y i).cls (m_y i) (m_y i)) else true) && a_at ((m_h i).getD 3 0) (.initialized (m_y i).cls) && decide ((m_y i).cls ≠ "java/lang/invoke/MethodHandle") && decide ((m_y i).cls ≠ "java/lang/invoke/VarHandle") && decide ((parseMethodDescriptor (m_y i).desc).map (fun d => d.parameters.length) = some (m_np i)) && plainFor (m_y i) && decide (m_nl i ≤ 20) && (decide (m_k i ≠ 2) || (decide ((m_y i).name = "<init>") && decide (m_rt i = none)))
theorem a_okM_0 : ∀ i ∈ (List.range 13).filter (fun i => decide (1 ≤ i ∧ i ≠ 187)), a_okM i = true := by decide +kernel
theorem a_okM_1 : ∀ i ∈ (List.range 25).filter (fun i => decide (13 ≤ i ∧ i ≠ 187)), a_okM i = true := by decide +kernel
theorem a_okM_2 : ∀ i ∈ (List.range 37).filter (fun i => decide (25 ≤ i ∧ i ≠ 187)), a_okM i = true := by decide +kernel
theorem a_okM_3 : ∀ i ∈ (List.range 49).filter (fun i => decide (37 ≤ i ∧ i ≠ 187)), a_okM i = true := by decide +kernel
theorem a_okM_4 : ∀ i ∈ (List.range 61).filter (fun i => decide (49 ≤ i ∧ i ≠ 187)), a_okM i = true := by decide +kernel
theorem a_okM_5 : ∀ i ∈ (List.range 73).filter (fun i => decide (61 ≤ i ∧ i ≠ 187)), a_okM i = true := by decide +kernel
theorem a_okM_6 : ∀ i ∈ (List.range 85).filter (fun i => decide (73 ≤ i ∧ i ≠ 187)), a_okM i = true := by decide +kernel
theorem a_okM_7 : ∀ i ∈ (List.range 97).filter (fun i => decide (85 ≤ i ∧ i ≠ 187)), a_okM i = true := by decide +kernel
theorem a_okM_8 : ∀ i ∈ (List.range 109).filter (fun i => decide (97 ≤ i ∧ i ≠ 187)), a_okM i = true := by decide +kernel
theorem a_okM_9 : ∀ i ∈ (List.range 121).filter (fun i => decide (109 ≤ i ∧ i ≠ 187)), a_okM i = true := by decide +kernel
theorem a_okM_10 : ∀ i ∈ (List.range 133).filter (fun i => decide (121 ≤ i ∧ i ≠ 187)), a_okM i = true := by decide +kernel
theorem a_okM_11 : ∀ i ∈ (List.range 145).filter (fun i => decide (133 ≤ i ∧ i ≠ 187)), a_okM i = true := by decide +kernel
theorem a_okM_12 : ∀ i ∈ (List.range 157).filter (fun i => decide (145 ≤ i ∧ i ≠ 187)), a_okM i = true := by decide +kernel
theorem a_okM_13 : ∀ i ∈ (List.range 169).filter (fun i => decide (157 ≤ i ∧ i ≠ 187)), a_okM i = true := by decide +kernel
theorem a_okM_14 : ∀ i ∈ (List.range 181).filter (fun i => decide (169 ≤ i ∧ i ≠ 187)), a_okM i = true := by decide +kernel
theorem a_okM_15 : ∀ i ∈ (List.range 193).filter (fun i => decide (181 ≤ i ∧ i ≠ 187)), a_okM i = true := by decide +kernel
theorem a_okMs : ∀ i, 0 < i → i < 193 → i ≠ 187 → a_okM i = true := fun i h0 h1 h2 => if _h : i < 13 then a_okM_0 i (List.mem_filter.mpr ⟨List.mem_range.mpr (by omega), decide_eq_true ⟨by omega, h2⟩⟩) else if _h : i < 25 then a_okM_1 i (List.mem_filter.mpr ⟨List.mem_range.mpr (by omega), decide_eq_true ⟨by omega, h2⟩⟩) else if _h : i < 37 then a_okM_2 i (List.mem_filter.mpr ⟨List.mem_range.mpr (by omega), decide_eq_true ⟨by omega, h2⟩⟩) else if _h : i < 49 then a_okM_3 i (List.mem_filter.mpr ⟨List.mem_range.mpr (by omega), decide_eq_true ⟨by omega, h2⟩⟩) else if _h : i < 61 then a_okM_4 i (List.mem_filter.mpr ⟨List.mem_range.mpr (by omega), decide_eq_true ⟨by omega, h2⟩⟩) else if _h : i < 73 then a_okM_5 i (List.mem_filter.mpr ⟨List.mem_range.mpr (by omega), decide_eq_true ⟨by omega, h2⟩⟩) else if _h : i < 85 then a_okM_6 i (List.mem_filter.mpr ⟨List.mem_range.mpr (by omega), decide_eq_true ⟨by omega, h2⟩⟩) else if _h : i < 97 then a_okM_7 i (List.mem_filter.mpr ⟨List.mem_range.mpr (by omega), decide_eq_true ⟨by omega, h2⟩⟩) else if _h : i < 109 then a_okM_8 i (List.mem_filter.mpr ⟨List.mem_range.mpr (by omega), decide_eq_true ⟨by omega, h2⟩⟩) else if _h : i < 121 then a_okM_9 i (List.mem_filter.mpr ⟨List.mem_range.mpr (by omega), decide_eq_true ⟨by omega, h2⟩⟩) else if _h : i < 133 then a_okM_10 i (List.mem_filter.mpr ⟨List.mem_range.mpr (by omega), decide_eq_true ⟨by omega, h2⟩⟩) else if _h : i < 145 then a_okM_11 i (List.mem_filter.mpr ⟨List.mem_range.mpr (by omega), decide_eq_true ⟨by omega, h2⟩⟩) else if _h : i < 157 then a_okM_12 i (List.mem_filter.mpr ⟨List.mem_range.mpr (by omega), decide_eq_true ⟨by omega, h2⟩⟩) else if _h : i < 169 then a_okM_13 i (List.mem_filter.mpr ⟨List.mem_range.mpr (by omega), decide_eq_true ⟨by omega, h2⟩⟩) else if _h : i < 181 then a_okM_14 i (List.mem_filter.mpr ⟨List.mem_range.mpr (by omega), decide_eq_true ⟨by omega, h2⟩⟩) else a_okM_15 i (List.mem_filter.mpr ⟨List.mem_range.mpr (by omega), decide_eq_true ⟨by omega, h2⟩⟩)
theorem a_okFL : ∀ e ∈ a_FL, (decide (e.2.2.1 / 64 < 10) && decide (e.2.2.1 % 64 < a_nf (e.2.2.1 / 64)) && a_at e.2.2.2.2 (if e.2.2.2.1 = 1 then .fieldLinkNest (aC e.1) e.2.1 (aC (e.2.2.1 / 64)) (a_Tf (e.2.2.1 / 64) (e.2.2.1 % 64)).2.1 (a_Tf (e.2.2.1 / 64) (e.2.2.1 % 64)).2.2.1 "TypeForecast" else .fieldLink (aC e.1) e.2.1 (aC (e.2.2.1 / 64)) (a_Tf (e.2.2.1 / 64) (e.2.2.1 % 64)).2.1 (a_Tf (e.2.2.1 / 64) (e.2.2.1 % 64)).2.2.1)) = true := by decide +kernel
theorem a_okML : ∀ e ∈ a_ML, (decide (e.2.2.1 < 193) && decide (e.2.2.1 ≠ 187) && a_at e.2.2.2.2 (if e.2.2.1 = 0 then .methodLink (aC e.1) e.2.1 objectInit else if e.2.2.2.1 = 1 then .methodLinkNest (aC e.1) e.2.1 (m_y e.2.2.1) "TypeForecast" else .methodLink (aC e.1) e.2.1 (m_y e.2.2.1))) = true := by decide +kernel
theorem a_okCL : ∀ e ∈ a_CL, (decide (e.2.2.1 < 10) && a_at e.2.2.2.2 (.classLink (aC e.1) e.2.1 (aC e.2.2.1))) = true := by decide +kernel
theorem a_okKI : ∀ e ∈ a_KI, a_at e.2.2.2.2 (.constant (aC e.1) e.2.1 (Int32.ofInt e.2.2.1)) = true := by decide +kernel
theorem a_okKL : ∀ e ∈ a_KL, a_at e.2.2.2.2 (.constantLong (aC e.1) e.2.1 (Int64.ofInt e.2.2.1)) = true := by decide +kernel
end
section
/-! A small machine over the JVM's: cells by number (the k-th cell that the law makes lies at B + k), ints, longs and references in three tables, shapes that never change. Its judgement AW says of the JVM itself (by the kit's W) that it comes to its end with a given answer and given tables; each rule x_.. is an instruction. -/
abbrev aH : Type := (Nat × Nat) × (Nat → Nat × Nat) × (Nat → Nat → Int32) × (Nat → Nat → Int64) × (Nat → Nat → Option Nat)
def a_u2 {α : Type} (f : Nat → Nat → α) (a k : Nat) (x : α) : Nat → Nat → α := fun i => if i = a then fun j => if j = k then x else f a j else f i
def a_si (h : aH) (a k : Nat) (x : Int32) : aH := (h.1, h.2.1, a_u2 h.2.2.1 a k x, h.2.2.2)
def a_sl (h : aH) (a k : Nat) (x : Int64) : aH := (h.1, h.2.1, h.2.2.1, a_u2 h.2.2.2.1 a k x, h.2.2.2.2)
def a_sr (h : aH) (a k : Nat) (x : Option Nat) : aH := (h.1, h.2.1, h.2.2.1, h.2.2.2.1, a_u2 h.2.2.2.2 a k x)
def a_nw (h : aH) (t n w : Nat) : aH := ((h.1.1 + 1, h.1.2 + w), (fun i => if i = h.1.1 then (t, n) else h.2.1 i), h.2.2)
abbrev aG : Type := Nat × Nat × va_G × (Nat → ClassId)
def a_fv (B : Nat) (h : aH) (a ci k : Nat) : Value := if a_kd ci k = 2 then .long (h.2.2.2.1 a k) else if a_kd ci k = 3 then va_rf ((h.2.2.2.2 a k).map (fun x => B + x)) else .int (h.2.2.1 a k)
def a_fs (B : Nat) (h : aH) (a ci : Nat) : List Value := (List.range (a_nf ci)).map (fun k => a_fv B h a ci k)
def a_cell (g : aG) (h : aH) (a : Nat) : va_E :=
  if (h.2.1 a).1 = 16 then .inl (g.2.2.2 0, (h.2.1 a).2, .inl (h.2.2.1 a))
  else if (h.2.1 a).1 = 17 then .inl (g.2.2.2 1, (h.2.1 a).2, .inl (h.2.2.1 a))
  else if (h.2.1 a).1 = 18 then .inl (g.2.2.2 2, (h.2.1 a).2, .inr (.inl (h.2.2.2.1 a)))
  else if (h.2.1 a).1 = 19 then .inl (g.2.2.2 3, (h.2.1 a).2, .inr (.inr (.inr (.inr (fun k => (h.2.2.2.2 a k).map (fun x => g.1 + x))))))
  else if (h.2.1 a).1 = 20 then .inl (g.2.2.2 4, (h.2.1 a).2, .inr (.inr (.inr (.inr (fun k => (h.2.2.2.2 a k).map (fun x => g.1 + x))))))
  else .inr ((h.2.1 a).1, a_fs g.1 h a (h.2.1 a).1)
def a_ws (g : aG) (h : aH) : va_W := (List.range h.1.1).map (fun i => (g.1 + i, a_cell g h i))
def a_blank (h : aH) (a : Nat) : Prop := (h.2.1 a).1 = 31 ∧ ∀ k, h.2.2.1 a k = 0 ∧ h.2.2.2.1 a k = 0 ∧ h.2.2.2.2 a k = none
def a_Rep (g : aG) (h : aH) (H : Heap) : Prop := H.size = g.1 + h.1.1 ∧ va_P g.2.2.1 a_cl (a_ws g h) H ∧ ∀ a, h.1.1 ≤ a → a_blank h a
def a_tys (g : aG) : List (ClassId × FieldType) := [(g.2.2.2 0, .int), (g.2.2.2 1, .boolean), (g.2.2.2 2, .long), (g.2.2.2 3, .object "TypeForecast$State"), (g.2.2.2 4, .object "TypeForecast$Picture")]
def a_Kn (g : aG) (U : State) : Prop := va_K g.2.2.1 a_cl (a_tys g) U ∧ (∀ w ∈ wN, va_Nw w U) ∧ va_AO "TypeForecast$State" U ∧ va_AO "TypeForecast$Picture" U
def a_rel (B b : Nat) : Value → Value
  | .ref i => .ref (B + i)
  | .retAddr _ => .ref b
  | v => v
abbrev aX : Type := Nat × (Nat → Int32)
def a_Pre (g : aG) (X : aX) (h : aH) (U : State) : Prop := a_Rep g h U.heap ∧ a_Kn g U ∧ va_X g.2.1 X.1 X.2 U U.heap ∧ g.2.1 < g.1
-- locals
def a_ld : List (Option Value) → Nat → Option Value
  | [], _ => none
  | x :: _, 0 => x
  | _ :: l, k + 1 => a_ld l k
def a_two : Option Value → Bool
  | some (.long _) => true
  | some (.double _) => true
  | _ => false
def a_wr : List (Option Value) → Nat → Value → List (Option Value)
  | [], _, _ => []
  | _ :: l, 0, v => some v :: (match a_two (some v), l with
    | true, _ :: l' => none :: l'
    | _, l => l)
  | x :: l, 1, v => (match a_two x with
    | true => none
    | false => x) :: a_wr l 0 v
  | x :: l, k + 2, v => x :: a_wr l (k + 1) v
def a_L (B b : Nat) (ls : Array Slot) (nL : Nat) (lo : List (Option Value)) : Prop := lo.length = nL ∧ ls.size = nL ∧ lv_wf ls ∧ ∀ k v, a_ld lo k = some v → ls[k]? = some (.val (a_rel B b v))
-- code
def a_ln : Instr → Nat
  | .bipush _ => 2
  | .ldc _ => 2
  | .newarray _ => 2
  | .aload _ => 2
  | .iload _ => 2
  | .lload _ => 2
  | .astore _ => 2
  | .istore _ => 2
  | .lstore _ => 2
  | .sipush _ => 3
  | .ldc2_w _ => 3
  | .iinc _ _ => 3
  | .goto _ => 3
  | .ifCond _ _ => 3
  | .if_icmp _ _ => 3
  | .getfield _ => 3
  | .putfield _ => 3
  | .invokevirtual _ => 3
  | .invokespecial _ => 3
  | .invokestatic _ => 3
  | .new _ => 3
  | .anewarray _ => 3
  | _ => 1
def a_sw : Instr → Bool
  | .tableswitch .. => true
  | .lookupswitch .. => true
  | _ => false
abbrev aK : Type := Nat → Option Instr
def a_chk (i : Nat) (cf : aK) (n : Nat) : Bool := (List.range n).all (fun pc => match cf pc with
  | none => true
  | some ins => match decode (m_cc i) pc with
    | .ok (j, len) => decide (j = ins) && (a_sw ins || decide (len = a_ln ins))
    | _ => false)
def a_okm (i : Nat) (cf : aK) : Prop := ∀ pc ins, cf pc = some ins → ∃ n, decode (m_cc i) pc = .ok (ins, n) ∧ (a_sw ins = false → n = a_ln ins)
theorem a_okm_of {i : Nat} {cf : aK} (n : Nat) (h : a_chk i cf n = true) (hn : ∀ pc, n ≤ pc → cf pc = none) : a_okm i cf := by
  intro pc ins hc
  by_cases hp : n ≤ pc
  · rw [hn pc hp] at hc; cases hc
  · have h1 := List.all_eq_true.mp h pc (List.mem_range.mpr (Nat.lt_of_not_le hp))
    rw [hc] at h1
    dsimp only at h1
    cases hd : decode (m_cc i) pc with
    | error e => rw [hd] at h1; cases h1
    | ok q =>
      obtain ⟨j, len⟩ := q
      rw [hd] at h1
      simp only [Bool.and_eq_true, Bool.or_eq_true, decide_eq_true_eq] at h1
      obtain ⟨rfl, h2⟩ := h1
      exact ⟨len, rfl, fun hs => h2.resolve_left (by rw [hs]; decide)⟩
def a_fin (i pc : Nat) : Option Value → Prop
  | none => decode (m_cc i) pc = .ok (.return_, 1) ∧ m_rt i = none
  | some (.int v) => decode (m_cc i) pc = .ok (.ireturn, 1) ∧ (m_rt i = some .int ∨ (m_rt i = some .boolean ∧ (v = 0 ∨ v = 1)))
  | some (.long _) => decode (m_cc i) pc = .ok (.lreturn, 1) ∧ m_rt i = some .long
  | some (.ref _) => decode (m_cc i) pc = .ok (.areturn, 1) ∧ ∃ C, m_rt i = some (.object C)
  | _ => False
def a_Ctx (X : aX) (i : Nat) (cf : aK) (d : Nat) (g : aG) (p : Program) (R : Room) (s : State) (m : MethodId) (args : Array Value) (meth : Method) (c : Code) (h0 : aH) : Prop :=
  p.tables.exec = Jvm.exec ∧ c.code = m_cc i ∧ c.maxLocals = m_nl i ∧ meth.sig.returnType = m_rt i ∧ meth.locks = false ∧ (m_k i = 2 → meth.name = "<init>") ∧ s.vm.findClass (aC (m_o i)) = some m.cls ∧ (∀ w ∈ wG, w.before args s = true) ∧ a_Kn g s ∧ va_X g.2.1 X.1 X.2 s s.heap ∧ g.2.1 < g.1 ∧ s.heap.size = g.1 + h0.1.1 ∧ a_okm i cf ∧ d ≤ R.frames ∧ 64 * d ≤ R.locals
def AW (l : Launch) (X : aX) (i : Nat) (cf : aK) (d : Nat) (r : Option Value) (h' : aH) (pc : Nat) (lo : List (Option Value)) (st : List Value) (h : aH) : Prop :=
  ∀ (g : aG) (p : Program) (e : Env) (R : Room) (s : State) (m : MethodId) (args : Array Value) (below : List Frame) (meth : Method) (c : Code) (h0 : aH) (Qf : State → Prop), a_Ctx X i cf d g p R s m args meth c h0 → h'.1.1 - h0.1.1 ≤ R.cells → h'.1.2 - h0.1.2 ≤ R.slots →
    (∀ (pc2 : Nat) (ls2 : Array Slot) (H2 : Heap) (locs2 : List Loc), a_fin i pc2 r → a_Rep g h' H2 → va_S (fun q => g.1 ≤ q) s.heap H2 locs2 → W p l e R s m args below meth c H2 locs2 (h'.1.1 - h0.1.1) (h'.1.2 - h0.1.2) Qf (F0 m pc2 ls2 (r.toList.map (a_rel g.1 g.2.1)))) →
    ∀ (H : Heap) (locs : List Loc) (ls : Array Slot), h0.1.1 ≤ h.1.1 → h0.1.2 ≤ h.1.2 → a_Rep g h H → a_L g.1 g.2.1 ls (m_nl i) lo → va_S (fun q => g.1 ≤ q) s.heap H locs →
    W p l e R s m args below meth c H locs (h.1.1 - h0.1.1) (h.1.2 - h0.1.2) Qf (F0 m pc ls (st.map (a_rel g.1 g.2.1)))
-- pure steps: no cell is read or written
def a_ps (ins : Instr) (pc : Nat) (lo : List (Option Value)) (st : List Value) : Option (Nat × List (Option Value) × List Value) :=
  match ins with
  | .iconst n => some (pc + 1, lo, .int (Int32.ofInt n) :: st)
  | .bipush n => some (pc + 2, lo, .int (Int8.ofInt n).toInt32 :: st)
  | .sipush n => some (pc + 3, lo, .int (Int16.ofInt n).toInt32 :: st)
  | .lconst n => some (pc + 1, lo, .long (Int64.ofNat n.val) :: st)
  | .iload k => match a_ld lo k with
    | some (.int x) => some (pc + 2, lo, .int x :: st)
    | _ => none
  | .iload_n k => match a_ld lo k.val with
    | some (.int x) => some (pc + 1, lo, .int x :: st)
    | _ => none
  | .lload k => match a_ld lo k with
    | some (.long x) => some (pc + 2, lo, .long x :: st)
    | _ => none
  | .lload_n k => match a_ld lo k.val with
    | some (.long x) => some (pc + 1, lo, .long x :: st)
    | _ => none
  | .aload k => match a_ld lo k with
    | some (.ref x) => some (pc + 2, lo, .ref x :: st)
    | _ => none
  | .aload_n k => match a_ld lo k.val with
    | some (.ref x) => some (pc + 1, lo, .ref x :: st)
    | some (.retAddr x) => some (pc + 1, lo, .retAddr x :: st)
    | _ => none
  | .istore k => match st with
    | .int x :: st' => if k < lo.length then some (pc + 2, a_wr lo k (.int x), st') else none
    | _ => none
  | .istore_n k => match st with
    | .int x :: st' => if k.val < lo.length then some (pc + 1, a_wr lo k.val (.int x), st') else none
    | _ => none
  | .lstore k => match st with
    | .long x :: st' => if k + 1 < lo.length then some (pc + 2, a_wr lo k (.long x), st') else none
    | _ => none
  | .lstore_n k => match st with
    | .long x :: st' => if k.val + 1 < lo.length then some (pc + 1, a_wr lo k.val (.long x), st') else none
    | _ => none
  | .astore k => match st with
    | .ref x :: st' => if k < lo.length then some (pc + 2, a_wr lo k (.ref x), st') else none
    | _ => none
  | .astore_n k => match st with
    | .ref x :: st' => if k.val < lo.length then some (pc + 1, a_wr lo k.val (.ref x), st') else none
    | _ => none
  | .iinc k n => match a_ld lo k with
    | some (.int x) => if k < lo.length then some (pc + 3, a_wr lo k (.int (x + Int32.ofInt n)), st) else none
    | _ => none
  | .iadd => match st with
    | .int y :: .int x :: st' => some (pc + 1, lo, .int (x + y) :: st')
    | _ => none
  | .isub => match st with
    | .int y :: .int x :: st' => some (pc + 1, lo, .int (x - y) :: st')
    | _ => none
  | .imul => match st with
    | .int y :: .int x :: st' => some (pc + 1, lo, .int (x * y) :: st')
    | _ => none
  | .iand => match st with
    | .int y :: .int x :: st' => some (pc + 1, lo, .int (x &&& y) :: st')
    | _ => none
  | .ior => match st with
    | .int y :: .int x :: st' => some (pc + 1, lo, .int (x ||| y) :: st')
    | _ => none
  | .ixor => match st with
    | .int y :: .int x :: st' => some (pc + 1, lo, .int (x ^^^ y) :: st')
    | _ => none
  | .ishl => match st with
    | .int y :: .int x :: st' => some (pc + 1, lo, .int (x <<< (y &&& 31)) :: st')
    | _ => none
  | .ishr => match st with
    | .int y :: .int x :: st' => some (pc + 1, lo, .int (x >>> (y &&& 31)) :: st')
    | _ => none
  | .ladd => match st with
    | .long y :: .long x :: st' => some (pc + 1, lo, .long (x + y) :: st')
    | _ => none
  | .lsub => match st with
    | .long y :: .long x :: st' => some (pc + 1, lo, .long (x - y) :: st')
    | _ => none
  | .lmul => match st with
    | .long y :: .long x :: st' => some (pc + 1, lo, .long (x * y) :: st')
    | _ => none
  | .lor => match st with
    | .long y :: .long x :: st' => some (pc + 1, lo, .long (x ||| y) :: st')
    | _ => none
  | .lxor => match st with
    | .long y :: .long x :: st' => some (pc + 1, lo, .long (x ^^^ y) :: st')
    | _ => none
  | .lshl => match st with
    | .int y :: .long x :: st' => some (pc + 1, lo, .long (x <<< (y.toInt64 &&& 63)) :: st')
    | _ => none
  | .lshr => match st with
    | .int y :: .long x :: st' => some (pc + 1, lo, .long (x >>> (y.toInt64 &&& 63)) :: st')
    | _ => none
  | .lcmp => match st with
    | .long y :: .long x :: st' => some (pc + 1, lo, .int (lg_cmp x y) :: st')
    | _ => none
  | .i2l => match st with
    | .int x :: st' => some (pc + 1, lo, .long x.toInt64 :: st')
    | _ => none
  | .l2i => match st with
    | .long x :: st' => some (pc + 1, lo, .int x.toInt32 :: st')
    | _ => none
  | .dup => match st with
    | .int x :: st' => some (pc + 1, lo, .int x :: .int x :: st')
    | .ref x :: st' => some (pc + 1, lo, .ref x :: .ref x :: st')
    | _ => none
  | .dup_x1 => match st with
    | .int x :: .ref y :: st' => some (pc + 1, lo, .int x :: .ref y :: .int x :: st')
    | _ => none
  | .pop => match st with
    | .int _ :: st' => some (pc + 1, lo, st')
    | .ref _ :: st' => some (pc + 1, lo, st')
    | _ => none
  | .goto off => if 0 ≤ (pc : Int) + off then some (((pc : Int) + off).toNat, lo, st) else none
  | _ => none
end
section
theorem a_rel_cat (B b : Nat) (v : Value) : (a_rel B b v).category = v.category := by cases v <;> rfl
theorem a_two_cat (v : Value) : a_two (some v) = true ↔ v.category = 2 := by cases v <;> simp [a_two, Value.category]
theorem a_wr_len : ∀ (lo : List (Option Value)) (i : Nat) (v : Value), (a_wr lo i v).length = lo.length
  | [], i, v => by cases i <;> rfl
  | _ :: l, 0, v => by
    show (some v :: _).length = _
    cases h : a_two (some v) <;> cases l <;> rfl
  | x :: l, 1, v => by
    show (_ :: a_wr l 0 v).length = _
    rw [List.length_cons, a_wr_len l 0 v, List.length_cons]
  | x :: l, k + 2, v => by
    show (x :: a_wr l (k + 1) v).length = _
    rw [List.length_cons, a_wr_len l (k + 1) v, List.length_cons]
theorem a_wr_get : ∀ (lo : List (Option Value)) (i : Nat) (v : Value) (k : Nat) (w : Value), a_ld (a_wr lo i v) k = some w → (k = i ∧ w = v) ∨ (a_ld lo k = some w ∧ k ≠ i ∧ ¬ (k + 1 = i ∧ w.category = 2) ∧ (v.category = 2 → k ≠ i + 1))
  | [], i, v, k, w, h => by cases i <;> simp [a_wr, a_ld] at h
  | y :: l, 0, v, k, w, h => by
    cases k with
    | zero =>
      refine Or.inl ⟨rfl, ?_⟩
      have h : some v = some w := h
      exact (Option.some.inj h).symm
    | succ k =>
      refine Or.inr ?_
      cases hv : a_two (some v) with
      | false =>
        have hc : ¬ v.category = 2 := fun q => by rw [(a_two_cat v).mpr q] at hv; cases hv
        simp only [a_wr, hv, a_ld] at h
        exact ⟨by cases l <;> exact h, by omega, by omega, fun q => absurd q hc⟩
      | true =>
        cases l with
        | nil => simp [a_wr, hv, a_ld] at h
        | cons z l =>
          simp only [a_wr, hv, a_ld] at h
          cases k with
          | zero => cases h
          | succ k => exact ⟨h, by omega, by omega, fun _ => by omega⟩
  | y :: l, 1, v, k, w, h => by
    cases k with
    | zero =>
      refine Or.inr ?_
      cases hy : a_two y with
      | true => simp [a_wr, hy, a_ld] at h
      | false =>
        simp only [a_wr, hy, a_ld] at h
        refine ⟨h, by omega, fun q => ?_, fun _ => by omega⟩
        rw [h, (a_two_cat w).mpr q.2] at hy
        cases hy
    | succ k =>
      have h : a_ld (a_wr l 0 v) k = some w := h
      rcases a_wr_get l 0 v k w h with ⟨h1, h2⟩ | ⟨h1, h2, h3, h4⟩
      · exact Or.inl ⟨by omega, h2⟩
      · exact Or.inr ⟨h1, by omega, by omega, fun q => by have := h4 q; omega⟩
  | y :: l, i + 2, v, k, w, h => by
    cases k with
    | zero => exact Or.inr ⟨h, by omega, by omega, fun _ => by omega⟩
    | succ k =>
      have h : a_ld (a_wr l (i + 1) v) k = some w := h
      rcases a_wr_get l (i + 1) v k w h with ⟨h1, h2⟩ | ⟨h1, h2, h3, h4⟩
      · exact Or.inl ⟨by omega, h2⟩
      · exact Or.inr ⟨h1, by omega, fun q => h3 ⟨by omega, q.2⟩, fun q => by have := h4 q; omega⟩
theorem a_ld_lt : ∀ (lo : List (Option Value)) (k : Nat) (v : Value), a_ld lo k = some v → k < lo.length
  | [], k, v, h => by cases k <;> cases h
  | x :: l, 0, v, h => by simp
  | x :: l, k + 1, v, h => by
    have := a_ld_lt l k v h
    simp; omega
def a_clm (B b : Nat) (lo : List (Option Value)) : List (Nat × Value) := (List.range lo.length).filterMap (fun k => (a_ld lo k).map (fun v => (k, a_rel B b v)))
theorem a_clm_in {B b : Nat} {lo : List (Option Value)} {k : Nat} {v : Value} (h : a_ld lo k = some v) : (k, a_rel B b v) ∈ a_clm B b lo := List.mem_filterMap.mpr ⟨k, List.mem_range.mpr (a_ld_lt lo k v h), by rw [h]; rfl⟩
theorem a_L.has {B b : Nat} {ls : Array Slot} {nL : Nat} {lo : List (Option Value)} (h : a_L B b ls nL lo) : lv_has ls nL (a_clm B b lo) := by
  refine ⟨h.2.1, h.2.2.1, fun q hq => ?_⟩
  obtain ⟨k, -, hk⟩ := List.mem_filterMap.mp hq
  cases hv : a_ld lo k with
  | none => rw [hv] at hk; cases hk
  | some v =>
    rw [hv] at hk
    cases hk
    exact h.2.2.2 k v hv
theorem a_L.st1 {B b : Nat} {ls ls' : Array Slot} {nL : Nat} {lo : List (Option Value)} {i : Nat} {v : Value} (h : a_L B b ls nL lo) (h' : lv_has ls' nL ((i, a_rel B b v) :: (a_clm B b lo).filter (fun q => !(q.1 == i) && !(q.1 + 1 == i && q.2.category == 2)))) : a_L B b ls' nL (a_wr lo i v) := by
  refine ⟨(a_wr_len lo i v).trans h.1, h'.1, h'.2.1, fun k w hk => ?_⟩
  rcases a_wr_get lo i v k w hk with ⟨rfl, rfl⟩ | ⟨h1, h2, h3, -⟩
  · exact h'.2.2 _ List.mem_cons_self
  · refine h'.2.2 (k, a_rel B b w) (List.mem_cons_of_mem _ (List.mem_filter.mpr ⟨a_clm_in h1, ?_⟩))
    simp only [Bool.and_eq_true, Bool.not_eq_true', beq_eq_false_iff_ne, ne_eq, Bool.and_eq_false_iff, a_rel_cat]
    refine ⟨h2, ?_⟩
    by_cases hq : k + 1 = i
    · exact Or.inr (fun z => h3 ⟨hq, z⟩)
    · exact Or.inl hq
theorem a_L.st2 {B b : Nat} {ls ls' : Array Slot} {nL : Nat} {lo : List (Option Value)} {i : Nat} {v : Value} (hv : v.category = 2) (h : a_L B b ls nL lo) (h' : lv_has ls' nL ((i, a_rel B b v) :: (a_clm B b lo).filter (fun q => !(q.1 == i) && (!(q.1 == i + 1) && !(q.1 + 1 == i && q.2.category == 2))))) : a_L B b ls' nL (a_wr lo i v) := by
  refine ⟨(a_wr_len lo i v).trans h.1, h'.1, h'.2.1, fun k w hk => ?_⟩
  rcases a_wr_get lo i v k w hk with ⟨rfl, rfl⟩ | ⟨h1, h2, h3, h4⟩
  · exact h'.2.2 _ List.mem_cons_self
  · refine h'.2.2 (k, a_rel B b w) (List.mem_cons_of_mem _ (List.mem_filter.mpr ⟨a_clm_in h1, ?_⟩))
    simp only [Bool.and_eq_true, Bool.not_eq_true', beq_eq_false_iff_ne, ne_eq, Bool.and_eq_false_iff, a_rel_cat]
    refine ⟨h2, h4 hv, ?_⟩
    by_cases hq : k + 1 = i
    · exact Or.inr (fun z => h3 ⟨hq, z⟩)
    · exact Or.inl hq
section AR
variable {l : Launch} {X : aX} {i : Nat} {cf : aK} {d : Nat} {r : Option Value} {h' h : aH} {pc : Nat} {lo : List (Option Value)} {st : List Value}
theorem a_dec {pc : Nat} {ins : Instr} (ho : a_okm i cf) (hc : cf pc = some ins) (hs : a_sw ins = false) : decode (m_cc i) pc = .ok (ins, a_ln ins) := by
  obtain ⟨n, h1, h2⟩ := ho pc ins hc
  rw [h1, h2 hs]
/-- fewer known locals -/
theorem x_kill (ks : List Nat) (K : AW l X i cf d r h' pc (lo.zipIdx.map (fun q => if ks.contains q.2 then none else q.1)) st h) : AW l X i cf d r h' pc lo st h := by
  intro g p e R s m args below meth c h0 Qf C hr1 hr2 hfin H locs ls n1 n2 hR hL hS
  refine K g p e R s m args below meth c h0 Qf C hr1 hr2 hfin H locs ls n1 n2 hR ⟨by simpa using hL.1, hL.2.1, hL.2.2.1, fun k v hk => hL.2.2.2 k v ?_⟩ hS
  have key : ∀ (lo : List (Option Value)) (k j : Nat) (v : Value), a_ld ((lo.zipIdx j).map (fun q => if ks.contains q.2 then none else q.1)) k = some v → a_ld lo k = some v := by
    intro lo
    induction lo with
    | nil => intro k j v h; cases k <;> simp [a_ld] at h
    | cons x l ih =>
      intro k j v h
      simp only [List.zipIdx_cons, List.map_cons] at h
      cases k with
      | zero =>
        simp only [a_ld] at h ⊢
        by_cases hq : ks.contains j = true
        · rw [if_pos hq] at h; cases h
        · rw [if_neg hq] at h; exact h
      | succ k => exact ih k (j + 1) v h
  exact key lo k 0 v hk
set_option maxHeartbeats 4000000 in
theorem x_ps {ins : Instr} {q : Nat × List (Option Value) × List Value} (hc : cf pc = some ins) (hp : a_ps ins pc lo st = some q) (K : AW l X i cf d r h' q.1 q.2.1 q.2.2 h) : AW l X i cf d r h' pc lo st h := by
  intro g p e R s m args below meth c h0 Qf C hr1 hr2 hfin H locs ls n1 n2 hR hL hS
  have K : ∀ ls1, a_L g.1 g.2.1 ls1 (m_nl i) q.2.1 → W p l e R s m args below meth c H locs (h.1.1 - h0.1.1) (h.1.2 - h0.1.2) Qf (F0 m q.1 ls1 (q.2.2.map (a_rel g.1 g.2.1))) := fun ls1 hL1 => K g p e R s m args below meth c h0 Qf C hr1 hr2 hfin H locs ls1 n1 n2 hR hL1 hS
  obtain ⟨hx, hb, hml, -, -, -, -, -, -, -, -, -, hok, -, -⟩ := C
  have hdg := fun hs => a_dec hok hc hs
  have hlen := hL.1
  cases ins with
  | iconst n => cases hp; exact lv_iconst hx hb (hdg rfl) rfl (K ls hL)
  | bipush n => cases hp; exact lv_bipush hx hb (hdg rfl) rfl (K ls hL)
  | sipush n => cases hp; exact lv_sipush hx hb (hdg rfl) rfl (K ls hL)
  | lconst n => cases hp; exact lv_lconst hx hb (hdg rfl) rfl (K ls hL)
  | iload k =>
    simp only [a_ps] at hp
    split at hp
    · rename_i x hk; cases hp; exact lv_iload hx hb (hdg rfl) (hL.2.2.2 k _ hk) (K ls hL)
    · cases hp
  | iload_n k =>
    simp only [a_ps] at hp
    split at hp
    · rename_i x hk; cases hp; exact lv_iload_n hx hb (hdg rfl) rfl (hL.2.2.2 k.val _ hk) (K ls hL)
    · cases hp
  | lload k =>
    simp only [a_ps] at hp
    split at hp
    · rename_i x hk; cases hp; exact lv_lload hx hb (hdg rfl) (hL.2.2.2 k _ hk) (K ls hL)
    · cases hp
  | lload_n k =>
    simp only [a_ps] at hp
    split at hp
    · rename_i x hk; cases hp; exact lv_lload_n hx hb (hdg rfl) rfl (hL.2.2.2 k.val _ hk) (K ls hL)
    · cases hp
  | aload k =>
    simp only [a_ps] at hp
    split at hp
    · rename_i x hk; cases hp; exact lv_aload hx hb (hdg rfl) (hL.2.2.2 k _ hk) (K ls hL)
    · cases hp
  | aload_n k =>
    simp only [a_ps] at hp
    split at hp
    · rename_i x hk; cases hp; exact lv_aload_n hx hb (hdg rfl) rfl (hL.2.2.2 k.val _ hk) (K ls hL)
    · rename_i x hk; cases hp; exact lv_aload_n hx hb (hdg rfl) rfl (hL.2.2.2 k.val _ hk) (K ls hL)
    · cases hp
  | istore k =>
    simp only [a_ps] at hp
    split at hp
    · rename_i x st'
      by_cases hk : k < lo.length
      · rw [if_pos hk] at hp; cases hp
        exact lv_istore hx hb (hdg rfl) hL.has (by omega) rfl (fun ls' hl' => K ls' (hL.st1 (v := .int x) hl'))
      · rw [if_neg hk] at hp; cases hp
    · cases hp
  | istore_n k =>
    simp only [a_ps] at hp
    split at hp
    · rename_i x st'
      by_cases hk : k.val < lo.length
      · rw [if_pos hk] at hp; cases hp
        exact lv_istore_n hx hb (hdg rfl) rfl hL.has (by omega) rfl (fun ls' hl' => K ls' (hL.st1 (v := .int x) hl'))
      · rw [if_neg hk] at hp; cases hp
    · cases hp
  | lstore k =>
    simp only [a_ps] at hp
    split at hp
    · rename_i x st'
      by_cases hk : k + 1 < lo.length
      · rw [if_pos hk] at hp; cases hp
        exact lv_lstore hx hb (hdg rfl) hL.has (by omega) rfl (fun ls' hl' => K ls' (hL.st2 (v := .long x) rfl hl'))
      · rw [if_neg hk] at hp; cases hp
    · cases hp
  | lstore_n k =>
    simp only [a_ps] at hp
    split at hp
    · rename_i x st'
      by_cases hk : k.val + 1 < lo.length
      · rw [if_pos hk] at hp; cases hp
        exact lv_lstore_n hx hb (hdg rfl) rfl hL.has (by omega) rfl (fun ls' hl' => K ls' (hL.st2 (v := .long x) rfl hl'))
      · rw [if_neg hk] at hp; cases hp
    · cases hp
  | astore k =>
    simp only [a_ps] at hp
    split at hp
    · rename_i x st'
      by_cases hk : k < lo.length
      · rw [if_pos hk] at hp; cases hp
        exact lv_astore hx hb (hdg rfl) hL.has (by omega) rfl (fun ls' hl' => K ls' (hL.st1 (v := .ref x) hl'))
      · rw [if_neg hk] at hp; cases hp
    · cases hp
  | astore_n k =>
    simp only [a_ps] at hp
    split at hp
    · rename_i x st'
      by_cases hk : k.val < lo.length
      · rw [if_pos hk] at hp; cases hp
        exact lv_astore_n hx hb (hdg rfl) rfl hL.has (by omega) rfl (fun ls' hl' => K ls' (hL.st1 (v := .ref x) hl'))
      · rw [if_neg hk] at hp; cases hp
    · cases hp
  | iinc k n =>
    simp only [a_ps] at hp
    split at hp
    · rename_i x hk0
      by_cases hk : k < lo.length
      · rw [if_pos hk] at hp; cases hp
        obtain ⟨j, hj⟩ := List.getElem?_of_mem (a_clm_in (B := g.1) (b := g.2.1) hk0)
        exact lv_iinc hx hb (hdg rfl) hL.has hj rfl (by omega) rfl (fun ls' hl' => K ls' (hL.st1 (v := .int (x + Int32.ofInt n)) hl'))
      · rw [if_neg hk] at hp; cases hp
    · cases hp
  | iadd => simp only [a_ps] at hp; split at hp <;> cases hp; exact lv_iadd hx hb (hdg rfl) (K ls hL)
  | isub => simp only [a_ps] at hp; split at hp <;> cases hp; exact lv_isub hx hb (hdg rfl) (K ls hL)
  | imul => simp only [a_ps] at hp; split at hp <;> cases hp; exact lv_imul hx hb (hdg rfl) (K ls hL)
  | iand => simp only [a_ps] at hp; split at hp <;> cases hp; exact lv_iand hx hb (hdg rfl) (K ls hL)
  | ior => simp only [a_ps] at hp; split at hp <;> cases hp; exact lv_ior hx hb (hdg rfl) (K ls hL)
  | ixor => simp only [a_ps] at hp; split at hp <;> cases hp; exact lv_ixor hx hb (hdg rfl) (K ls hL)
  | ishl => simp only [a_ps] at hp; split at hp <;> cases hp; exact lv_ishl hx hb (hdg rfl) (K ls hL)
  | ishr => simp only [a_ps] at hp; split at hp <;> cases hp; exact lv_ishr hx hb (hdg rfl) (K ls hL)
  | ladd => simp only [a_ps] at hp; split at hp <;> cases hp; exact lv_ladd hx hb (hdg rfl) (K ls hL)
  | lsub => simp only [a_ps] at hp; split at hp <;> cases hp; exact lv_lsub hx hb (hdg rfl) (K ls hL)
  | lmul => simp only [a_ps] at hp; split at hp <;> cases hp; exact lv_lmul hx hb (hdg rfl) (K ls hL)
  | lor => simp only [a_ps] at hp; split at hp <;> cases hp; exact lv_lor hx hb (hdg rfl) (K ls hL)
  | lxor => simp only [a_ps] at hp; split at hp <;> cases hp; exact lv_lxor hx hb (hdg rfl) (K ls hL)
  | lshl => simp only [a_ps] at hp; split at hp <;> cases hp; exact lv_lshl hx hb (hdg rfl) rfl (K ls hL)
  | lshr => simp only [a_ps] at hp; split at hp <;> cases hp; exact lv_lshr hx hb (hdg rfl) rfl (K ls hL)
  | lcmp => simp only [a_ps] at hp; split at hp <;> cases hp; exact W.lcmp hx hb (hdg rfl) (K ls hL)
  | i2l => simp only [a_ps] at hp; split at hp <;> cases hp; exact lv_i2l hx hb (hdg rfl) rfl (K ls hL)
  | l2i => simp only [a_ps] at hp; split at hp <;> cases hp; exact lv_l2i hx hb (hdg rfl) rfl (K ls hL)
  | dup =>
    simp only [a_ps] at hp
    split at hp
    · cases hp; exact lv_dup hx hb (hdg rfl) rfl (K ls hL)
    · cases hp; exact lv_dup hx hb (hdg rfl) rfl (K ls hL)
    · cases hp
  | dup_x1 => simp only [a_ps] at hp; split at hp <;> cases hp; exact lv_dup_x1 hx hb (hdg rfl) rfl rfl (K ls hL)
  | pop =>
    simp only [a_ps] at hp
    split at hp
    · cases hp; exact lv_pop hx hb (hdg rfl) rfl (K ls hL)
    · cases hp; exact lv_pop hx hb (hdg rfl) rfl (K ls hL)
    · cases hp
  | goto off =>
    simp only [a_ps] at hp
    by_cases ht : 0 ≤ (pc : Int) + off
    · rw [if_pos ht] at hp; cases hp
      exact lv_goto hx hb (hdg rfl) (Int.toNat_of_nonneg ht).symm (K ls hL)
    · rw [if_neg ht] at hp; cases hp
  | _ => cases hp
end AR
end
section
def a_pr (cf : aK) : Nat → Nat → List (Option Value) → List Value → Option (Nat × List (Option Value) × List Value)
  | 0, pc, lo, st => some (pc, lo, st)
  | n + 1, pc, lo, st => match cf pc with
    | none => none
    | some ins => match a_ps ins pc lo st with
      | none => none
      | some q => a_pr cf n q.1 q.2.1 q.2.2
def a_cmp (k : ClassFile.Cond) (x y : Int32) : Prop := match k with
  | .eq => x = y
  | .ne => ¬ x = y
  | .lt => x < y
  | .ge => y ≤ x
  | .gt => y < x
  | .le => x ≤ y
def a_ncmp (k : ClassFile.Cond) (x y : Int32) : Prop := match k with
  | .eq => ¬ x = y
  | .ne => x = y
  | .lt => ¬ x < y
  | .ge => ¬ y ≤ x
  | .gt => ¬ y < x
  | .le => ¬ x ≤ y
theorem a_ws_at {g : aG} {h : aH} {a : Nat} (ha : a < h.1.1) : (a_ws g h)[a]? = some (g.1 + a, a_cell g h a) := by
  simp [a_ws, ha]
theorem a_Rep.lt {g : aG} {h : aH} {H : Heap} (hR : a_Rep g h H) {a : Nat} (hs : (h.2.1 a).1 ≠ 31) : a < h.1.1 := by
  by_cases q : h.1.1 ≤ a
  · exact absurd (hR.2.2 a q).1 hs
  · omega
theorem a_cell_o {g : aG} {h : aH} {a ci : Nat} (hs : (h.2.1 a).1 = ci) (hc : ci < 10) : a_cell g h a = .inr (ci, a_fs g.1 h a ci) := by
  subst hs
  unfold a_cell
  rw [if_neg (by omega), if_neg (by omega), if_neg (by omega), if_neg (by omega), if_neg (by omega)]
theorem a_cell_i {g : aG} {h : aH} {a n : Nat} (hs : h.2.1 a = (16, n)) : a_cell g h a = .inl (g.2.2.2 0, n, .inl (h.2.2.1 a)) := by
  unfold a_cell; rw [hs]; rfl
theorem a_cell_z {g : aG} {h : aH} {a n : Nat} (hs : h.2.1 a = (17, n)) : a_cell g h a = .inl (g.2.2.2 1, n, .inl (h.2.2.1 a)) := by
  unfold a_cell; rw [hs]; rfl
theorem a_cell_l {g : aG} {h : aH} {a n : Nat} (hs : h.2.1 a = (18, n)) : a_cell g h a = .inl (g.2.2.2 2, n, .inr (.inl (h.2.2.2.1 a))) := by
  unfold a_cell; rw [hs]; rfl
theorem a_cell_s {g : aG} {h : aH} {a n : Nat} (hs : h.2.1 a = (19, n)) : a_cell g h a = .inl (g.2.2.2 3, n, .inr (.inr (.inr (.inr (fun k => (h.2.2.2.2 a k).map (fun x => g.1 + x)))))) := by
  unfold a_cell; rw [hs]; rfl
theorem a_cell_p {g : aG} {h : aH} {a n : Nat} (hs : h.2.1 a = (20, n)) : a_cell g h a = .inl (g.2.2.2 4, n, .inr (.inr (.inr (.inr (fun k => (h.2.2.2.2 a k).map (fun x => g.1 + x)))))) := by
  unfold a_cell; rw [hs]; rfl
theorem a_ws_set {g : aG} {h h2 : aH} {a : Nat} (hn : h2.1.1 = h.1.1) (hs : ∀ j, j ≠ a → a_cell g h2 j = a_cell g h j) : a_ws g h2 = (a_ws g h).set a (g.1 + a, a_cell g h2 a) := by
  apply List.ext_getElem?
  intro j
  by_cases hj : j = a
  · subst hj
    by_cases hl : j < h.1.1
    · rw [a_ws_at (by omega), List.getElem?_set_self (by simpa [a_ws] using hl)]
    · rw [List.getElem?_eq_none (by simp [a_ws]; omega), List.getElem?_eq_none (by simp [a_ws]; omega)]
  · rw [List.getElem?_set_ne (fun q => hj q.symm)]
    by_cases hl : j < h.1.1
    · rw [a_ws_at (by omega), a_ws_at hl, hs j hj]
    · rw [List.getElem?_eq_none (by simp [a_ws]; omega), List.getElem?_eq_none (by simp [a_ws]; omega)]
theorem a_ws_push {g : aG} {h h2 : aH} (hn : h2.1.1 = h.1.1 + 1) (hs : ∀ j, j ≠ h.1.1 → a_cell g h2 j = a_cell g h j) : a_ws g h2 = a_ws g h ++ [(g.1 + h.1.1, a_cell g h2 h.1.1)] := by
  unfold a_ws
  rw [hn, List.range_succ, List.map_append]
  congr 1
  apply List.map_congr_left
  intro j hj
  rw [hs j (by have := List.mem_range.mp hj; omega)]
theorem a_ws_D {g : aG} {h : aH} : va_D (fun q => g.1 ≤ q) (a_ws g h) := by
  have key : ∀ (k : Nat) (q : Nat × va_E), (a_ws g h)[k]? = some q → q.1 = g.1 + k := by
    intro k q hk
    by_cases hl : k < h.1.1
    · rw [a_ws_at hl] at hk; cases hk; rfl
    · rw [List.getElem?_eq_none (by simp [a_ws]; omega)] at hk; cases hk
  refine ⟨fun i j p q hi hj hpq => ?_, fun k q hk => ?_⟩
  · have h1 := key i p hi
    have h2 := key j q hj
    omega
  · have h1 := key k q hk
    show g.1 ≤ q.1
    omega
theorem a_u2_ne {α : Type} {f : Nat → Nat → α} {a k j : Nat} {x : α} (hj : j ≠ a) : a_u2 f a k x j = f j := by unfold a_u2; rw [if_neg hj]
theorem a_u2_eq {α : Type} {f : Nat → Nat → α} {a k : Nat} {x : α} : a_u2 f a k x a = fun j => if j = k then x else f a j := by unfold a_u2; rw [if_pos rfl]
theorem a_cell_cong {g : aG} {h h2 : aH} {j : Nat} (h1 : h2.2.1 j = h.2.1 j) (e1 : h2.2.2.1 j = h.2.2.1 j) (e2 : h2.2.2.2.1 j = h.2.2.2.1 j) (e3 : h2.2.2.2.2 j = h.2.2.2.2 j) : a_cell g h2 j = a_cell g h j := by
  have hf : ∀ ci, a_fs g.1 h2 j ci = a_fs g.1 h j ci := by
    intro ci
    unfold a_fs a_fv
    rw [e1, e2, e3]
  unfold a_cell
  rw [h1, e1, e2, e3, hf]
theorem a_clA {ci : Nat} (h : ci < 10) : a_cl[ci]? = some (aC ci, a_Tf ci, a_nf ci) := by
  simp [a_cl, h]
theorem a_okc {ci : Nat} (h : ci < 10) : (∀ k, k < a_nf ci → u_lay (aC ci) (a_Tf ci) k ∈ lw_tbl ∧ (a_Tf ci k).1 = aC ci ∧ parseFieldDescriptor (a_Tf ci k).2.2.1 = some (a_tyk ci k) ∧ (∀ j, j < a_nf ci → k ≠ j → (a_Tf ci k).2.1 ≠ (a_Tf ci j).2.1) ∧ a_kd ci k = match a_tyk ci k with | .int => 0 | .boolean => 1 | .long => 2 | .object _ => 3 | .array _ => 3 | _ => 9) ∧ .instantiable (aC ci) (a_nf ci) ∈ lw_tbl ∧ .initialized (aC ci) ∈ lw_tbl := by
  have h1 := a_okCs ci h
  simp only [a_okC, Bool.and_eq_true, decide_eq_true_eq] at h1
  obtain ⟨⟨⟨h2, h3⟩, h4⟩, -⟩ := h1
  refine ⟨fun k hk => ?_, a_at_in h3, a_at_in h4⟩
  have h5 := List.all_eq_true.mp h2 k (List.mem_range.mpr hk)
  simp only [Bool.and_eq_true, decide_eq_true_eq] at h5
  obtain ⟨⟨⟨⟨q1, q2⟩, q3⟩, q4⟩, q5⟩ := h5
  refine ⟨a_at_in q1, q2, q3, fun j hj hne => ?_, q5⟩
  have h6 := List.all_eq_true.mp q4 j (List.mem_range.mpr hj)
  simp only [decide_eq_true_eq] at h6
  exact h6.resolve_left hne
theorem a_uws {ci : Nat} (h : ci < 10) : ∀ w ∈ u_ws (aC ci) (a_Tf ci) (a_nf ci), w ∈ wG := by
  intro w hw
  obtain ⟨k, hk, rfl⟩ := List.mem_map.mp hw
  refine wG_in ((a_okc h).1 k (List.mem_range.mp hk)).1 ?_
  unfold u_lay
  split <;> rfl
theorem a_ty {ci : Nat} (h : ci < 10) : ∀ k, k < a_nf ci → parseFieldDescriptor (a_Tf ci k).2.2.1 = some (a_tyk ci k) := fun k hk => ((a_okc h).1 k hk).2.2.1
theorem a_nm {ci : Nat} (h : ci < 10) : ∀ a, a < a_nf ci → ∀ b, b < a_nf ci → a ≠ b → (a_Tf ci a).2.1 ≠ (a_Tf ci b).2.1 := fun a ha b hb hne => ((a_okc h).1 a ha).2.2.2.1 b hb hne
theorem a_fs_at {B : Nat} {h : aH} {a ci k : Nat} (hk : k < a_nf ci) : (a_fs B h a ci)[k]? = some (a_fv B h a ci k) := by simp [a_fs, hk]
theorem a_find_in {α : Type} {l : List (Nat × Nat × α × Nat × Nat)} {o ix : Nat} {t : α} {ne : Nat} (h : a_find l o ix = some (t, ne)) : ∃ hint, (o, ix, t, ne, hint) ∈ l := by
  unfold a_find at h
  cases hf : l.find? (fun e => e.1 == o && e.2.1 == ix) with
  | none => rw [hf] at h; cases h
  | some e =>
    rw [hf] at h
    obtain ⟨o', ix', t', ne', hint⟩ := e
    have h1 := List.find?_some hf
    simp only [Bool.and_eq_true, beq_iff_eq] at h1
    obtain ⟨rfl, rfl⟩ := h1
    simp only [Option.map_some, Option.some.injEq, Prod.mk.injEq] at h
    obtain ⟨rfl, rfl⟩ := h
    exact ⟨hint, List.mem_of_find?_eq_some hf⟩
theorem a_flw {o ix c ne : Nat} (h : a_find a_FL o ix = some (c, ne)) : c / 64 < 10 ∧ c % 64 < a_nf (c / 64) ∧ ((ne ≠ 1 ∧ Jvm.Cond.fieldLink (aC o) ix (aC (c / 64)) (a_Tf (c / 64) (c % 64)).2.1 (a_Tf (c / 64) (c % 64)).2.2.1 ∈ wG) ∨ (ne = 1 ∧ Jvm.Cond.fieldLinkNest (aC o) ix (aC (c / 64)) (a_Tf (c / 64) (c % 64)).2.1 (a_Tf (c / 64) (c % 64)).2.2.1 "TypeForecast" ∈ wN)) := by
  obtain ⟨hint, he⟩ := a_find_in h
  have h1 := a_okFL _ he
  simp only [Bool.and_eq_true, decide_eq_true_eq] at h1
  obtain ⟨⟨h2, h3⟩, h4⟩ := h1
  refine ⟨h2, h3, ?_⟩
  by_cases hn : ne = 1
  · rw [if_pos hn] at h4
    exact Or.inr ⟨hn, wN_in (a_at_in h4) rfl⟩
  · rw [if_neg hn] at h4
    exact Or.inl ⟨hn, wG_in (a_at_in h4) rfl⟩
/-- a field's value, as the small machine has it -/
def a_gv (h : aH) (a ci k : Nat) : Value := if a_kd ci k = 2 then .long (h.2.2.2.1 a k) else if a_kd ci k = 3 then va_rf (h.2.2.2.2 a k) else .int (h.2.2.1 a k)
theorem a_gv_rel (B b : Nat) (h : aH) (a ci k : Nat) : a_rel B b (a_gv h a ci k) = a_fv B h a ci k := by
  unfold a_gv a_fv
  by_cases h2 : a_kd ci k = 2
  · rw [if_pos h2, if_pos h2]; rfl
  · rw [if_neg h2, if_neg h2]
    by_cases h3 : a_kd ci k = 3
    · rw [if_pos h3, if_pos h3]
      cases h.2.2.2.2 a k <;> rfl
    · rw [if_neg h3, if_neg h3]; rfl
section AR
variable {l : Launch} {X : aX} {i : Nat} {cf : aK} {d : Nat} {r : Option Value} {h' h : aH} {pc : Nat} {lo : List (Option Value)} {st : List Value}
theorem x_run (n : Nat) {pc' : Nat} {lo' : List (Option Value)} {st' : List Value} (hp : a_pr cf n pc lo st = some (pc', lo', st')) (K : AW l X i cf d r h' pc' lo' st' h) : AW l X i cf d r h' pc lo st h := by
  induction n generalizing pc lo st with
  | zero => cases hp; exact K
  | succ n ih =>
    simp only [a_pr] at hp
    split at hp
    · cases hp
    · rename_i ins hc
      split at hp
      · cases hp
      · rename_i q hq
        exact x_ps hc hq (ih hp)
theorem x_if {k : ClassFile.Cond} {off : Int} (t : Nat) {x : Int32} (hc : cf pc = some (.ifCond k off)) (ht : (pc : Int) + off = (t : Int)) (kt : a_cmp k x 0 → AW l X i cf d r h' t lo st h) (kf : a_ncmp k x 0 → AW l X i cf d r h' (pc + 3) lo st h) : AW l X i cf d r h' pc lo (.int x :: st) h := by
  intro g p e R s m args below meth c h0 Qf C hr1 hr2 hfin H locs ls n1 n2 hR hL hS
  have kt := fun q => kt q g p e R s m args below meth c h0 Qf C hr1 hr2 hfin H locs ls n1 n2 hR hL hS
  have kf := fun q => kf q g p e R s m args below meth c h0 Qf C hr1 hr2 hfin H locs ls n1 n2 hR hL hS
  obtain ⟨hx, hb, hml, -, -, -, -, -, -, -, -, -, hok, -, -⟩ := C
  have hdg := a_dec hok hc rfl
  cases k with
  | eq => exact lv_if_eq hx hb hdg ht kt kf
  | ne => exact lv_if_ne hx hb hdg ht kt kf
  | lt => exact lv_if_lt hx hb hdg ht kt kf
  | ge => exact lv_if_ge hx hb hdg ht kt kf
  | gt => exact lv_if_gt hx hb hdg ht kt kf
  | le => exact lv_if_le hx hb hdg ht kt kf
theorem x_ic {k : ClassFile.Cond} {off : Int} (t : Nat) {x y : Int32} (hc : cf pc = some (.if_icmp k off)) (ht : (pc : Int) + off = (t : Int)) (kt : a_cmp k x y → AW l X i cf d r h' t lo st h) (kf : a_ncmp k x y → AW l X i cf d r h' (pc + 3) lo st h) : AW l X i cf d r h' pc lo (.int y :: .int x :: st) h := by
  intro g p e R s m args below meth c h0 Qf C hr1 hr2 hfin H locs ls n1 n2 hR hL hS
  have kt := fun q => kt q g p e R s m args below meth c h0 Qf C hr1 hr2 hfin H locs ls n1 n2 hR hL hS
  have kf := fun q => kf q g p e R s m args below meth c h0 Qf C hr1 hr2 hfin H locs ls n1 n2 hR hL hS
  obtain ⟨hx, hb, hml, -, -, -, -, -, -, -, -, -, hok, -, -⟩ := C
  have hdg := a_dec hok hc rfl
  cases k with
  | eq => exact lv_icmp_eq hx hb hdg ht kt kf
  | ne => exact lv_icmp_ne hx hb hdg ht kt kf
  | lt => exact lv_icmp_lt hx hb hdg ht kt kf
  | ge => exact lv_icmp_ge hx hb hdg ht kt kf
  | gt => exact lv_icmp_gt hx hb hdg ht kt kf
  | le => exact lv_icmp_le hx hb hdg ht kt kf
theorem x_idiv {x y : Int32} (hc : cf pc = some .idiv) (hne : ¬ y = 0) (K : AW l X i cf d r h' (pc + 1) lo (.int (x / y) :: st) h) : AW l X i cf d r h' pc lo (.int y :: .int x :: st) h := by
  intro g p e R s m args below meth c h0 Qf C hr1 hr2 hfin H locs ls n1 n2 hR hL hS
  have K := K g p e R s m args below meth c h0 Qf C hr1 hr2 hfin H locs ls n1 n2 hR hL hS
  obtain ⟨hx, hb, hml, -, -, -, -, -, -, -, -, -, hok, -, -⟩ := C
  exact lv_idiv hx hb (a_dec hok hc rfl) hne K
theorem x_irem {x y : Int32} (hc : cf pc = some .irem) (hne : ¬ y = 0) (K : AW l X i cf d r h' (pc + 1) lo (.int (x - x / y * y) :: st) h) : AW l X i cf d r h' pc lo (.int y :: .int x :: st) h := by
  intro g p e R s m args below meth c h0 Qf C hr1 hr2 hfin H locs ls n1 n2 hR hL hS
  have K := K g p e R s m args below meth c h0 Qf C hr1 hr2 hfin H locs ls n1 n2 hR hL hS
  obtain ⟨hx, hb, hml, -, -, -, -, -, -, -, -, -, hok, -, -⟩ := C
  exact lv_irem hx hb (a_dec hok hc rfl) hne K
theorem x_ldiv {x y : Int64} (hc : cf pc = some .ldiv) (hne : ¬ y = 0) (K : AW l X i cf d r h' (pc + 1) lo (.long (x / y) :: st) h) : AW l X i cf d r h' pc lo (.long y :: .long x :: st) h := by
  intro g p e R s m args below meth c h0 Qf C hr1 hr2 hfin H locs ls n1 n2 hR hL hS
  have K := K g p e R s m args below meth c h0 Qf C hr1 hr2 hfin H locs ls n1 n2 hR hL hS
  obtain ⟨hx, hb, hml, -, -, -, -, -, -, -, -, -, hok, -, -⟩ := C
  exact lv_ldiv hx hb (a_dec hok hc rfl) hne K
theorem x_ldc {ix ne : Nat} {v : Int} (hc : cf pc = some (.ldc ix)) (hk : a_find a_KI (m_o i) ix = some (v, ne)) (K : AW l X i cf d r h' (pc + 2) lo (.int (Int32.ofInt v) :: st) h) : AW l X i cf d r h' pc lo st h := by
  intro g p e R s m args below meth c h0 Qf C hr1 hr2 hfin H locs ls n1 n2 hR hL hS
  have K := K g p e R s m args below meth c h0 Qf C hr1 hr2 hfin H locs ls n1 n2 hR hL hS
  obtain ⟨hx, hb, hml, -, -, -, hown, hts, -, -, -, -, hok, -, -⟩ := C
  obtain ⟨hint, he⟩ := a_find_in hk
  exact lv_ldc hx hb hown (hts _ (wG_in (a_at_in (a_okKI _ he)) rfl)) (a_dec hok hc rfl) K
theorem x_ldc2 {ix ne : Nat} {v : Int} (hc : cf pc = some (.ldc2_w ix)) (hk : a_find a_KL (m_o i) ix = some (v, ne)) (K : AW l X i cf d r h' (pc + 3) lo (.long (Int64.ofInt v) :: st) h) : AW l X i cf d r h' pc lo st h := by
  intro g p e R s m args below meth c h0 Qf C hr1 hr2 hfin H locs ls n1 n2 hR hL hS
  have K := K g p e R s m args below meth c h0 Qf C hr1 hr2 hfin H locs ls n1 n2 hR hL hS
  obtain ⟨hx, hb, hml, -, -, -, hown, hts, -, -, -, -, hok, -, -⟩ := C
  obtain ⟨hint, he⟩ := a_find_in hk
  exact lv_ldc2 hx hb hown (hts _ (wG_in (a_at_in (a_okKL _ he)) rfl)) (a_dec hok hc rfl) K
/-- where a tableswitch goes -/
theorem x_tsIn {df lw hg : Int} {offs : Array Int} {x : Int32} {off : Int} (t : Nat) (hc : cf pc = some (.tableswitch df lw hg offs)) (h1 : ¬ x.toInt < lw) (h2 : ¬ hg < x.toInt) (ho : offs[(x.toInt - lw).toNat]? = some off) (ht : (pc : Int) + off = (t : Int)) (K : AW l X i cf d r h' t lo st h) : AW l X i cf d r h' pc lo (.int x :: st) h := by
  intro g p e R s m args below meth c h0 Qf C hr1 hr2 hfin H locs ls n1 n2 hR hL hS
  have K := K g p e R s m args below meth c h0 Qf C hr1 hr2 hfin H locs ls n1 n2 hR hL hS
  obtain ⟨hx, hb, hml, -, -, -, -, -, -, -, -, -, hok, -, -⟩ := C
  obtain ⟨n, hdg, -⟩ := hok _ _ hc
  exact lv_tableIn hx hb hdg h1 h2 ho ht K
theorem x_tsOut {df lw hg : Int} {offs : Array Int} {x : Int32} (t : Nat) (hc : cf pc = some (.tableswitch df lw hg offs)) (h1 : x.toInt < lw ∨ hg < x.toInt) (ht : (pc : Int) + df = (t : Int)) (K : AW l X i cf d r h' t lo st h) : AW l X i cf d r h' pc lo (.int x :: st) h := by
  intro g p e R s m args below meth c h0 Qf C hr1 hr2 hfin H locs ls n1 n2 hR hL hS
  have K := K g p e R s m args below meth c h0 Qf C hr1 hr2 hfin H locs ls n1 n2 hR hL hS
  obtain ⟨hx, hb, hml, -, -, -, -, -, -, -, -, -, hok, -, -⟩ := C
  obtain ⟨n, hdg, -⟩ := hok _ _ hc
  exact lv_tableOut hx hb hdg h1 ht K
theorem x_ls {df : Int} {ps : Array (Int × Int)} {x : Int32} {off : Int} (t : Nat) (hc : cf pc = some (.lookupswitch df ps)) (hp : (ps.toList.zip (ps.toList.drop 1)).all (fun (a, next) => a.1 < next.1) = true) (ho : Op.lookupswitch.offset ps.toList df x.toInt = off) (ht : (pc : Int) + off = (t : Int)) (K : AW l X i cf d r h' t lo st h) : AW l X i cf d r h' pc lo (.int x :: st) h := by
  intro g p e R s m args below meth c h0 Qf C hr1 hr2 hfin H locs ls n1 n2 hR hL hS
  have K := K g p e R s m args below meth c h0 Qf C hr1 hr2 hfin H locs ls n1 n2 hR hL hS
  obtain ⟨hx, hb, hml, -, -, -, -, -, -, -, -, -, hok, -, -⟩ := C
  obtain ⟨n, hdg, -⟩ := hok _ _ hc
  exact lv_lookup hx hb hdg hp ho ht K
-- the ends
theorem x_ret (hc : cf pc = some .return_) (hr : m_rt i = none) : AW l X i cf d none h pc lo [] h := by
  intro g p e R s m args below meth c h0 Qf C hr1 hr2 hfin H locs ls n1 n2 hR hL hS
  exact hfin pc ls H locs ⟨a_dec C.2.2.2.2.2.2.2.2.2.2.2.2.1 hc rfl, hr⟩ hR hS
theorem x_iret {v : Int32} (hc : cf pc = some .ireturn) (hr : m_rt i = some .int) : AW l X i cf d (some (.int v)) h pc lo [.int v] h := by
  intro g p e R s m args below meth c h0 Qf C hr1 hr2 hfin H locs ls n1 n2 hR hL hS
  exact hfin pc ls H locs ⟨a_dec C.2.2.2.2.2.2.2.2.2.2.2.2.1 hc rfl, Or.inl hr⟩ hR hS
theorem x_zret {v : Int32} (hc : cf pc = some .ireturn) (hr : m_rt i = some .boolean) (hv : v = 0 ∨ v = 1) : AW l X i cf d (some (.int v)) h pc lo [.int v] h := by
  intro g p e R s m args below meth c h0 Qf C hr1 hr2 hfin H locs ls n1 n2 hR hL hS
  exact hfin pc ls H locs ⟨a_dec C.2.2.2.2.2.2.2.2.2.2.2.2.1 hc rfl, Or.inr ⟨hr, hv⟩⟩ hR hS
theorem x_lret {v : Int64} (hc : cf pc = some .lreturn) (hr : m_rt i = some .long) : AW l X i cf d (some (.long v)) h pc lo [.long v] h := by
  intro g p e R s m args below meth c h0 Qf C hr1 hr2 hfin H locs ls n1 n2 hR hL hS
  exact hfin pc ls H locs ⟨a_dec C.2.2.2.2.2.2.2.2.2.2.2.2.1 hc rfl, hr⟩ hR hS
theorem x_aret {v : Nat} {C : String} (hc : cf pc = some .areturn) (hr : m_rt i = some (.object C)) : AW l X i cf d (some (.ref v)) h pc lo [.ref v] h := by
  intro g p e R s m args below meth c h0 Qf C hr1 hr2 hfin H locs ls n1 n2 hR hL hS
  exact hfin pc ls H locs ⟨a_dec C.2.2.2.2.2.2.2.2.2.2.2.2.1 hc rfl, _, hr⟩ hR hS
-- reads
theorem x_gf {ix c ne a : Nat} {v : Value} (hc : cf pc = some (.getfield ix)) (hf : a_find a_FL (m_o i) ix = some (c, ne)) (hs : (h.2.1 a).1 = c / 64) (hv : a_gv h a (c / 64) (c % 64) = v) (K : AW l X i cf d r h' (pc + 3) lo (v :: st) h) : AW l X i cf d r h' pc lo (.ref a :: st) h := by
  intro g p e R s m args below meth cd h0 Qf C hr1 hr2 hfin H locs ls n1 n2 hR hL hS
  have K := K g p e R s m args below meth cd h0 Qf C hr1 hr2 hfin H locs ls n1 n2 hR hL hS
  obtain ⟨hx, hb, hml, -, -, -, hown, hts, hKn, -, -, -, hok, -, -⟩ := C
  obtain ⟨f1, f2, f3⟩ := a_flw hf
  have ha : a < h.1.1 := hR.lt (by omega)
  have he := a_ws_at (g := g) ha
  rw [a_cell_o hs f1] at he
  have hdg := a_dec hok hc rfl
  have hT := ((a_okc f1).1 _ f2).2.1
  have hv' := a_fs_at (B := g.1) (h := h) (a := a) f2
  rw [← a_gv_rel g.1 g.2.1, hv] at hv'
  rcases f3 with ⟨-, f3⟩ | ⟨-, f3⟩
  · exact va_get hx hb hts (a_uws f1) hown hKn.1 hR.2.1 a he (a_clA f1) (c % 64) f2 (hts _ f3) (fun x hx => by rw [hT] at hx; exact hx) hv' hdg K
  · exact va_getN hx hb hts (a_uws f1) hown hKn.1 hR.2.1 a he (a_clA f1) (c % 64) f2 (va_Nw.use rfl (hKn.2.1 _ f3)) (fun x hx => by rw [hT] at hx; exact hx) hv' hdg K
theorem x_ia {a n : Nat} {j : Int32} (hc : cf pc = some .iaload) (hs : h.2.1 a = (16, n)) (hj : vp_in j n) (K : AW l X i cf d r h' (pc + 1) lo (.int (h.2.2.1 a j.toNatClampNeg) :: st) h) : AW l X i cf d r h' pc lo (.int j :: .ref a :: st) h := by
  intro g p e R s m args below meth cd h0 Qf C hr1 hr2 hfin H locs ls n1 n2 hR hL hS
  have K := K g p e R s m args below meth cd h0 Qf C hr1 hr2 hfin H locs ls n1 n2 hR hL hS
  obtain ⟨hx, hb, hml, -, -, -, hown, hts, hKn, -, -, -, hok, -, -⟩ := C
  have he := a_ws_at (g := g) (hR.lt (a := a) (by simp [hs]))
  rw [a_cell_i hs] at he
  exact va_iald hx hb hKn.1 hR.2.1 a 0 he rfl hj (a_dec hok hc rfl) K
theorem x_za {a n : Nat} {j : Int32} (hc : cf pc = some .baload) (hs : h.2.1 a = (17, n)) (hj : vp_in j n) (K : AW l X i cf d r h' (pc + 1) lo (.int (h.2.2.1 a j.toNatClampNeg) :: st) h) : AW l X i cf d r h' pc lo (.int j :: .ref a :: st) h := by
  intro g p e R s m args below meth cd h0 Qf C hr1 hr2 hfin H locs ls n1 n2 hR hL hS
  have K := K g p e R s m args below meth cd h0 Qf C hr1 hr2 hfin H locs ls n1 n2 hR hL hS
  obtain ⟨hx, hb, hml, -, -, -, hown, hts, hKn, -, -, -, hok, -, -⟩ := C
  have he := a_ws_at (g := g) (hR.lt (a := a) (by simp [hs]))
  rw [a_cell_z hs] at he
  exact va_zald hx hb hKn.1 hR.2.1 a 1 he rfl hj (a_dec hok hc rfl) K
theorem x_la {a n : Nat} {j : Int32} (hc : cf pc = some .laload) (hs : h.2.1 a = (18, n)) (hj : vp_in j n) (K : AW l X i cf d r h' (pc + 1) lo (.long (h.2.2.2.1 a j.toNatClampNeg) :: st) h) : AW l X i cf d r h' pc lo (.int j :: .ref a :: st) h := by
  intro g p e R s m args below meth cd h0 Qf C hr1 hr2 hfin H locs ls n1 n2 hR hL hS
  have K := K g p e R s m args below meth cd h0 Qf C hr1 hr2 hfin H locs ls n1 n2 hR hL hS
  obtain ⟨hx, hb, hml, -, -, -, hown, hts, hKn, -, -, -, hok, -, -⟩ := C
  have he := a_ws_at (g := g) (hR.lt (a := a) (by simp [hs]))
  rw [a_cell_l hs] at he
  exact va_lald hx hb hKn.1 hR.2.1 a 2 he rfl hj (a_dec hok hc rfl) K
theorem x_aa {a n t v : Nat} {j : Int32} (hc : cf pc = some .aaload) (hs : h.2.1 a = (t, n)) (ht : t = 19 ∨ t = 20) (hj : vp_in j n) (hv : h.2.2.2.2 a j.toNatClampNeg = some v) (K : AW l X i cf d r h' (pc + 1) lo (.ref v :: st) h) : AW l X i cf d r h' pc lo (.int j :: .ref a :: st) h := by
  intro g p e R s m args below meth cd h0 Qf C hr1 hr2 hfin H locs ls n1 n2 hR hL hS
  have K := K g p e R s m args below meth cd h0 Qf C hr1 hr2 hfin H locs ls n1 n2 hR hL hS
  obtain ⟨hx, hb, hml, -, -, -, hown, hts, hKn, -, -, -, hok, -, -⟩ := C
  have hva : va_rf ((h.2.2.2.2 a j.toNatClampNeg).map (fun x => g.1 + x)) = .ref (g.1 + v) := by rw [hv]; rfl
  rcases ht with rfl | rfl
  · have he := a_ws_at (g := g) (hR.lt (a := a) (by simp [hs]))
    rw [a_cell_s hs] at he
    refine va_aldq hx hb hKn.1 hR.2.1 a 3 he rfl hj (a_dec hok hc rfl) ?_
    rw [hva]
    exact K
  · have he := a_ws_at (g := g) (hR.lt (a := a) (by simp [hs]))
    rw [a_cell_p hs] at he
    refine va_aldq hx hb hKn.1 hR.2.1 a 4 he rfl hj (a_dec hok hc rfl) ?_
    rw [hva]
    exact K
theorem x_ln {a n : Nat} {t : Nat} (hc : cf pc = some .arraylength) (hs : h.2.1 a = (t, n)) (ht : t = 16 ∨ t = 17 ∨ t = 18) (K : AW l X i cf d r h' (pc + 1) lo (.int (Int32.ofNat n) :: st) h) : AW l X i cf d r h' pc lo (.ref a :: st) h := by
  intro g p e R s m args below meth cd h0 Qf C hr1 hr2 hfin H locs ls n1 n2 hR hL hS
  have K := K g p e R s m args below meth cd h0 Qf C hr1 hr2 hfin H locs ls n1 n2 hR hL hS
  obtain ⟨hx, hb, hml, -, -, -, hown, hts, hKn, -, -, -, hok, -, -⟩ := C
  rcases ht with rfl | rfl | rfl
  · have he := a_ws_at (g := g) (hR.lt (a := a) (by simp [hs]))
    rw [a_cell_i hs] at he
    exact va_alen hx hb hKn.1 hR.2.1 a 0 he rfl rfl (a_dec hok hc rfl) K
  · have he := a_ws_at (g := g) (hR.lt (a := a) (by simp [hs]))
    rw [a_cell_z hs] at he
    exact va_alen hx hb hKn.1 hR.2.1 a 1 he rfl rfl (a_dec hok hc rfl) K
  · have he := a_ws_at (g := g) (hR.lt (a := a) (by simp [hs]))
    rw [a_cell_l hs] at he
    exact va_alen hx hb hKn.1 hR.2.1 a 2 he rfl rfl (a_dec hok hc rfl) K
theorem x_sa {z : Nat} {j : Int32} (hc : cf pc = some .iaload) (hj : vp_in j X.1) (K : AW l X i cf d r h' (pc + 1) lo (.int (X.2 j.toNatClampNeg) :: st) h) : AW l X i cf d r h' pc lo (.int j :: .retAddr z :: st) h := by
  intro g p e R s m args below meth cd h0 Qf C hr1 hr2 hfin H locs ls n1 n2 hR hL hS
  have K := K g p e R s m args below meth cd h0 Qf C hr1 hr2 hfin H locs ls n1 n2 hR hL hS
  obtain ⟨hx, hb, hml, -, -, -, hown, hts, hKn, hX, hbB, hBs, hok, -, -⟩ := C
  exact va_sld (A := fun q => g.1 ≤ q) hx hb hX (by omega) (by show ¬ g.1 ≤ g.2.1; omega) hS hj (a_dec hok hc rfl) K
theorem x_sn {z : Nat} (hc : cf pc = some .arraylength) (K : AW l X i cf d r h' (pc + 1) lo (.int (Int32.ofNat X.1) :: st) h) : AW l X i cf d r h' pc lo (.retAddr z :: st) h := by
  intro g p e R s m args below meth cd h0 Qf C hr1 hr2 hfin H locs ls n1 n2 hR hL hS
  have K := K g p e R s m args below meth cd h0 Qf C hr1 hr2 hfin H locs ls n1 n2 hR hL hS
  obtain ⟨hx, hb, hml, -, -, -, hown, hts, hKn, hX, hbB, hBs, hok, -, -⟩ := C
  exact va_slen (A := fun q => g.1 ≤ q) hx hb hX (by omega) (by show ¬ g.1 ≤ g.2.1; omega) hS (a_dec hok hc rfl) K
end AR
end
section
theorem a_Rep.set {g : aG} {h h2 : aH} {H H1 : Heap} {a : Nat} (hR : a_Rep g h H) (ha : a < h.1.1) (hn : h2.1 = h.1) (hs : ∀ j, j ≠ a → h2.2.1 j = h.2.1 j ∧ h2.2.2.1 j = h.2.2.1 j ∧ h2.2.2.2.1 j = h.2.2.2.1 j ∧ h2.2.2.2.2 j = h.2.2.2.2 j) (hz : H1.size = H.size) (hP : va_P g.2.2.1 a_cl ((a_ws g h).set a (g.1 + a, a_cell g h2 a)) H1) : a_Rep g h2 H1 := by
  refine ⟨by rw [hz, hn]; exact hR.1, ?_, fun q hq => ?_⟩
  · rw [a_ws_set (h := h) (a := a) (by rw [hn]) (fun j hj => a_cell_cong (hs j hj).1 (hs j hj).2.1 (hs j hj).2.2.1 (hs j hj).2.2.2)]
    exact hP
  · rw [hn] at hq
    obtain ⟨e1, e2, e3, e4⟩ := hs q (by omega)
    have := hR.2.2 q hq
    unfold a_blank at this ⊢
    rw [e1, e2, e3, e4]
    exact this
theorem a_fs_set {B : Nat} {h h2 : aH} {a ci k : Nat} (hk : k < a_nf ci) (hv : ∀ j, j < a_nf ci → j ≠ k → a_fv B h2 a ci j = a_fv B h a ci j) : (a_fs B h a ci).set k (a_fv B h2 a ci k) = a_fs B h2 a ci := by
  apply List.ext_getElem?
  intro j
  by_cases hj : j = k
  · subst hj
    rw [List.getElem?_set_self (by simpa [a_fs] using hk), a_fs_at hk]
  · rw [List.getElem?_set_ne (fun q => hj q.symm)]
    by_cases hl : j < a_nf ci
    · rw [a_fs_at hl, a_fs_at hl, hv j hl hj]
    · rw [List.getElem?_eq_none (by simp [a_fs]; omega), List.getElem?_eq_none (by simp [a_fs]; omega)]
theorem a_nfZ {x : Int32} (h : x = 0 ∨ x = 1) : narrow .boolean (.int x) = .int x ∧ fits .boolean (.int x) = true := by rcases h with rfl | rfl <;> decide +kernel
/-- a value that a field takes: its kind, and the table that it goes to -/
def a_pv (h : aH) (a ci k : Nat) (v : Value) : Option aH := match a_kd ci k, v with
  | 0, .int x => some (a_si h a k x)
  | 1, .int x => if x = 0 ∨ x = 1 then some (a_si h a k x) else none
  | 2, .long x => some (a_sl h a k x)
  | 3, .ref x => some (a_sr h a k (some x))
  | _, _ => none
theorem a_pv_spec {g : aG} {h h2 : aH} {a ci k : Nat} {v : Value} (hci : ci < 10) (hk : k < a_nf ci) (hs : (h.2.1 a).1 = ci) (hp : a_pv h a ci k v = some h2) : h2.1 = h.1 ∧ (∀ j, j ≠ a → h2.2.1 j = h.2.1 j ∧ h2.2.2.1 j = h.2.2.1 j ∧ h2.2.2.2.1 j = h.2.2.2.1 j ∧ h2.2.2.2.2 j = h.2.2.2.2 j) ∧ a_cell g h2 a = .inr (ci, (a_fs g.1 h a ci).set k (a_rel g.1 g.2.1 v)) ∧ narrow (a_tyk ci k) (a_rel g.1 g.2.1 v) = a_rel g.1 g.2.1 v ∧ fits (a_tyk ci k) (a_rel g.1 g.2.1 v) = true := by
  have hkd := ((a_okc hci).1 k hk).2.2.2.2
  have fin : ∀ h2 : aH, h2.2.1 = h.2.1 → (∀ j, j < a_nf ci → j ≠ k → a_fv g.1 h2 a ci j = a_fv g.1 h a ci j) → a_fv g.1 h2 a ci k = a_rel g.1 g.2.1 v → a_cell g h2 a = .inr (ci, (a_fs g.1 h a ci).set k (a_rel g.1 g.2.1 v)) := by
    intro h2 e1 e2 e3
    rw [a_cell_o (by rw [e1]; exact hs) hci, ← e3, a_fs_set hk e2]
  have own : ∀ (α : Type) (f : Nat → Nat → α) (x : α) (j : Nat), j ≠ k → a_u2 f a k x a j = f a j := by
    intro α f x j hj
    rw [a_u2_eq]
    exact if_neg hj
  unfold a_pv at hp
  split at hp
  · rename_i x h0
    cases hp
    refine ⟨rfl, fun j hj => ⟨rfl, a_u2_ne hj, rfl, rfl⟩, fin _ rfl (fun j _ hj => ?_) ?_, ?_⟩
    · unfold a_fv a_si; dsimp only; rw [own _ _ _ _ hj]
    · unfold a_fv a_si; dsimp only; rw [h0, a_u2_eq]; simp [a_rel]
    · rw [h0] at hkd
      cases ht : a_tyk ci k <;> rw [ht] at hkd <;> first | (exfalso; simp at hkd; done) | exact ⟨rfl, rfl⟩
  · rename_i x h0
    by_cases hx : x = 0 ∨ x = 1
    · rw [if_pos hx] at hp
      cases hp
      refine ⟨rfl, fun j hj => ⟨rfl, a_u2_ne hj, rfl, rfl⟩, fin _ rfl (fun j _ hj => ?_) ?_, ?_⟩
      · unfold a_fv a_si; dsimp only; rw [own _ _ _ _ hj]
      · unfold a_fv a_si; dsimp only; rw [h0, a_u2_eq]; simp [a_rel]
      · rw [h0] at hkd
        cases ht : a_tyk ci k <;> rw [ht] at hkd <;> first | (exfalso; simp at hkd; done) | exact a_nfZ hx
    · rw [if_neg hx] at hp; cases hp
  · rename_i x h0
    cases hp
    refine ⟨rfl, fun j hj => ⟨rfl, rfl, a_u2_ne hj, rfl⟩, fin _ rfl (fun j _ hj => ?_) ?_, ?_⟩
    · unfold a_fv a_sl; dsimp only; rw [own _ _ _ _ hj]
    · unfold a_fv a_sl; dsimp only; rw [h0, a_u2_eq]; simp [a_rel]
    · rw [h0] at hkd
      cases ht : a_tyk ci k <;> rw [ht] at hkd <;> first | (exfalso; simp at hkd; done) | exact ⟨rfl, rfl⟩
  · rename_i x h0
    cases hp
    refine ⟨rfl, fun j hj => ⟨rfl, rfl, rfl, a_u2_ne hj⟩, fin _ rfl (fun j _ hj => ?_) ?_, ?_⟩
    · unfold a_fv a_sr; dsimp only; rw [own _ _ _ _ hj]
    · unfold a_fv a_sr; dsimp only; rw [h0, a_u2_eq]; simp [a_rel, va_rf]
    · rw [h0] at hkd
      cases ht : a_tyk ci k <;> rw [ht] at hkd <;> first | (exfalso; simp at hkd; done) | exact ⟨rfl, rfl⟩
  · cases hp
theorem a_S.rf {A : Nat → Prop} {H0 H : Heap} {locs : List Loc} (h : va_S A H0 H locs) : va_S A H H locs := ⟨Nat.le_refl _, fun _ _ _ => rfl, h.2.2⟩
theorem a_S.tr {A : Nat → Prop} {H0 H H1 : Heap} {locs locs1 : List Loc} (h : va_S A H0 H locs) (h1 : va_S A H H1 locs1) : va_S A H0 H1 locs1 := ⟨Nat.le_trans h.1 h1.1, fun q a b => (h1.2.1 q (Nat.lt_of_lt_of_le a h.1) b).trans (h.2.1 q a b), h1.2.2⟩
theorem a_narZ {x : Int32} (h : x = 0 ∨ x = 1) : vp_nar .boolean x = x := by rcases h with rfl | rfl <;> decide +kernel
theorem a_upd_eq {f : Nat → Int32} {k : Nat} {x : Int32} : upd f k x = fun j => if j = k then x else f j := by
  funext j; simp [upd]
section AR
variable {l : Launch} {X : aX} {i : Nat} {cf : aK} {d : Nat} {r : Option Value} {h' h : aH} {pc : Nat} {lo : List (Option Value)} {st : List Value}
theorem a_W.bound {p : Program} {e : Env} {R : Room} {s : State} {m : MethodId} {args : Array Value} {below : List Frame} {meth : Method} {c : Code} {H : Heap} {locs : List Loc} {cells slots : Nat} {Q : State → Prop} {g : JFrame} (k : H.size ≤ s.heap.size + cells → W p l e R s m args below meth c H locs cells slots Q g) : W p l e R s m args below meth c H locs cells slots Q g := fun T hT X => k (by have h := X.same.2.2.1; rw [← hT]; exact h) T hT X
theorem x_pf {ix c ne a : Nat} {v : Value} {h2 : aH} (hc : cf pc = some (.putfield ix)) (hf : a_find a_FL (m_o i) ix = some (c, ne)) (hnf : (a_Tf (c / 64) (c % 64)).2.2.2 = false) (hs : (h.2.1 a).1 = c / 64) (hv : a_pv h a (c / 64) (c % 64) v = some h2) (K : AW l X i cf d r h' (pc + 3) lo st h2) : AW l X i cf d r h' pc lo (v :: .ref a :: st) h := by
  intro g p e R s m args below meth cd h0 Qf C hr1 hr2 hfin H locs ls n1 n2 hR hL hS
  have K := fun H1 locs1 n1 n2 hR1 => K g p e R s m args below meth cd h0 Qf C hr1 hr2 hfin H1 locs1 ls n1 n2 hR1 hL
  obtain ⟨hx, hb, hml, -, -, -, hown, hts, hKn, -, -, hBs, hok, -, -⟩ := C
  obtain ⟨f1, f2, f3⟩ := a_flw hf
  have ha : a < h.1.1 := hR.lt (by omega)
  have he := a_ws_at (g := g) ha
  rw [a_cell_o hs f1] at he
  have hdg := a_dec hok hc rfl
  have hT := ((a_okc f1).1 _ f2).2.1
  obtain ⟨g1, g2, g3, g4, g5⟩ := a_pv_spec (g := g) f1 f2 hs hv
  have hlen : c % 64 < (a_fs g.1 h a (c / 64)).length := by simpa [a_fs] using f2
  have fin : ∀ (H1 : Heap) (locs1 : List Loc), va_P g.2.2.1 a_cl ((a_ws g h).set a (g.1 + a, .inr (c / 64, (a_fs g.1 h a (c / 64)).set (c % 64) (a_rel g.1 g.2.1 v)))) H1 → va_S (fun q => g.1 ≤ q) H H1 locs1 → W p l e R s m args below meth cd H1 locs1 (h.1.1 - h0.1.1) (h.1.2 - h0.1.2) Qf (F0 m (pc + 3) ls (st.map (a_rel g.1 g.2.1))) := by
    intro H1 locs1 hP1 hS1
    refine a_W.bound fun hbd => ?_
    have hz : H1.size = H.size := by have := hS1.1; have := hR.1; omega
    have := K H1 locs1 (by rw [g1]; exact n1) (by rw [g1]; exact n2) (hR.set ha g1 g2 hz (by rw [g3]; exact hP1)) (a_S.tr hS hS1)
    rw [g1] at this
    exact this
  rcases f3 with ⟨-, f3⟩ | ⟨-, f3⟩
  · exact va_put hx hb hts (a_uws f1) (a_tyk (c / 64)) (a_ty f1) (a_nm f1) hown hKn.1 hR.2.1 a_ws_D (a_S.rf hS) a he (a_clA f1) (c % 64) f2 (hts _ f3) (fun x hx => by rw [hT] at hx; exact hx) hnf (a_ty f1 _ f2) g4 g5 hlen hdg (fun H1 locs1 hP1 _ hS1 => fin H1 locs1 hP1 hS1)
  · exact va_putN hx hb hts (a_uws f1) (a_tyk (c / 64)) (a_ty f1) (a_nm f1) hown hKn.1 hR.2.1 a_ws_D (a_S.rf hS) a he (a_clA f1) (c % 64) f2 (va_Nw.use rfl (hKn.2.1 _ f3)) (fun x hx => by rw [hT] at hx; exact hx) hnf (a_ty f1 _ f2) g4 g5 hlen hdg (fun H1 locs1 hP1 _ hS1 => fin H1 locs1 hP1 hS1)
/-- a final field, in its class's constructor -/
theorem x_pF {ix c a : Nat} {v : Value} {h2 : aH} (hc : cf pc = some (.putfield ix)) (hf : a_find a_FL (m_o i) ix = some (c, 0)) (hnf : (a_Tf (c / 64) (c % 64)).2.2.2 = true) (hk : m_k i = 2) (ho : c / 64 = m_o i) (hs : (h.2.1 a).1 = c / 64) (hv : a_pv h a (c / 64) (c % 64) v = some h2) (K : AW l X i cf d r h' (pc + 3) lo st h2) : AW l X i cf d r h' pc lo (v :: .ref a :: st) h := by
  intro g p e R s m args below meth cd h0 Qf C hr1 hr2 hfin H locs ls n1 n2 hR hL hS
  have K := fun H1 locs1 n1 n2 hR1 => K g p e R s m args below meth cd h0 Qf C hr1 hr2 hfin H1 locs1 ls n1 n2 hR1 hL
  obtain ⟨hx, hb, hml, -, -, hini, hown, hts, hKn, -, -, hBs, hok, -, -⟩ := C
  obtain ⟨f1, f2, f3⟩ := a_flw hf
  have ha : a < h.1.1 := hR.lt (by omega)
  have he := a_ws_at (g := g) ha
  rw [a_cell_o hs f1] at he
  have hdg := a_dec hok hc rfl
  have hT := ((a_okc f1).1 _ f2).2.1
  obtain ⟨g1, g2, g3, g4, g5⟩ := a_pv_spec (g := g) f1 f2 hs hv
  have hlen : c % 64 < (a_fs g.1 h a (c / 64)).length := by simpa [a_fs] using f2
  have f3 := (f3.resolve_right (fun q => absurd q.1 (by decide))).2
  refine va_putF hx hb hts (a_uws f1) (a_tyk (c / 64)) (a_ty f1) (a_nm f1) hown hKn.1 hR.2.1 a_ws_D (a_S.rf hS) a he (a_clA f1) (c % 64) f2 (hts _ f3) (fun x hx => by rw [hT] at hx; exact hx) hnf (hini hk) (by rw [hT, ho]) (a_ty f1 _ f2) g4 g5 hlen hdg (fun H1 locs1 hP1 _ hS1 => ?_)
  refine a_W.bound fun hbd => ?_
  have hz : H1.size = H.size := by have := hS1.1; have := hR.1; omega
  have := K H1 locs1 (by rw [g1]; exact n1) (by rw [g1]; exact n2) (hR.set ha g1 g2 hz (by rw [g3]; exact hP1)) (a_S.tr hS hS1)
  rw [g1] at this
  exact this
theorem x_is {a n : Nat} {j x : Int32} (hc : cf pc = some .iastore) (hs : h.2.1 a = (16, n)) (hj : vp_in j n) (K : AW l X i cf d r h' (pc + 1) lo st (a_si h a j.toNatClampNeg x)) : AW l X i cf d r h' pc lo (.int x :: .int j :: .ref a :: st) h := by
  intro g p e R s m args below meth cd h0 Qf C hr1 hr2 hfin H locs ls n1 n2 hR hL hS
  have K := fun H1 locs1 hR1 => K g p e R s m args below meth cd h0 Qf C hr1 hr2 hfin H1 locs1 ls n1 n2 hR1 hL
  obtain ⟨hx, hb, hml, -, -, -, hown, hts, hKn, -, -, hBs, hok, -, -⟩ := C
  have ha := hR.lt (a := a) (by simp [hs])
  have he := a_ws_at (g := g) ha
  rw [a_cell_i hs] at he
  refine va_iast hx hb hKn.1 hR.2.1 a_ws_D (a_S.rf hS) a 0 he rfl hj (a_dec hok hc rfl) (fun H1 locs1 hP1 _ hS1 => ?_)
  refine a_W.bound fun hbd => ?_
  have hz : H1.size = H.size := by have := hS1.1; have := hR.1; omega
  refine K H1 locs1 (hR.set ha rfl (fun q hq => ⟨rfl, a_u2_ne hq, rfl, rfl⟩) hz ?_) (a_S.tr hS hS1)
  rw [a_cell_i (h := a_si h a j.toNatClampNeg x) (a := a) (n := n) hs, show (a_si h a j.toNatClampNeg x).2.2.1 a = upd (h.2.2.1 a) j.toNatClampNeg x from (a_u2_eq).trans a_upd_eq.symm]
  exact hP1
theorem x_zs {a n : Nat} {j x : Int32} (hc : cf pc = some .bastore) (hs : h.2.1 a = (17, n)) (hj : vp_in j n) (hv : x = 0 ∨ x = 1) (K : AW l X i cf d r h' (pc + 1) lo st (a_si h a j.toNatClampNeg x)) : AW l X i cf d r h' pc lo (.int x :: .int j :: .ref a :: st) h := by
  intro g p e R s m args below meth cd h0 Qf C hr1 hr2 hfin H locs ls n1 n2 hR hL hS
  have K := fun H1 locs1 hR1 => K g p e R s m args below meth cd h0 Qf C hr1 hr2 hfin H1 locs1 ls n1 n2 hR1 hL
  obtain ⟨hx, hb, hml, -, -, -, hown, hts, hKn, -, -, hBs, hok, -, -⟩ := C
  have ha := hR.lt (a := a) (by simp [hs])
  have he := a_ws_at (g := g) ha
  rw [a_cell_z hs] at he
  refine va_zast hx hb hKn.1 hR.2.1 a_ws_D (a_S.rf hS) a 1 he rfl hj (a_dec hok hc rfl) (fun H1 locs1 hP1 _ hS1 => ?_)
  refine a_W.bound fun hbd => ?_
  have hz : H1.size = H.size := by have := hS1.1; have := hR.1; omega
  refine K H1 locs1 (hR.set ha rfl (fun q hq => ⟨rfl, a_u2_ne hq, rfl, rfl⟩) hz ?_) (a_S.tr hS hS1)
  rw [a_narZ hv] at hP1
  rw [a_cell_z (h := a_si h a j.toNatClampNeg x) (a := a) (n := n) hs, show (a_si h a j.toNatClampNeg x).2.2.1 a = upd (h.2.2.1 a) j.toNatClampNeg x from (a_u2_eq).trans a_upd_eq.symm]
  exact hP1
theorem x_lt {a n : Nat} {j : Int32} {x : Int64} (hc : cf pc = some .lastore) (hs : h.2.1 a = (18, n)) (hj : vp_in j n) (K : AW l X i cf d r h' (pc + 1) lo st (a_sl h a j.toNatClampNeg x)) : AW l X i cf d r h' pc lo (.long x :: .int j :: .ref a :: st) h := by
  intro g p e R s m args below meth cd h0 Qf C hr1 hr2 hfin H locs ls n1 n2 hR hL hS
  have K := fun H1 locs1 hR1 => K g p e R s m args below meth cd h0 Qf C hr1 hr2 hfin H1 locs1 ls n1 n2 hR1 hL
  obtain ⟨hx, hb, hml, -, -, -, hown, hts, hKn, -, -, hBs, hok, -, -⟩ := C
  have ha := hR.lt (a := a) (by simp [hs])
  have he := a_ws_at (g := g) ha
  rw [a_cell_l hs] at he
  refine va_last hx hb hKn.1 hR.2.1 a_ws_D (a_S.rf hS) a 2 he rfl hj (a_dec hok hc rfl) (fun H1 locs1 hP1 _ hS1 => ?_)
  refine a_W.bound fun hbd => ?_
  have hz : H1.size = H.size := by have := hS1.1; have := hR.1; omega
  refine K H1 locs1 (hR.set ha rfl (fun q hq => ⟨rfl, rfl, a_u2_ne hq, rfl⟩) hz ?_) (a_S.tr hS hS1)
  rw [a_cell_l (h := a_sl h a j.toNatClampNeg x) (a := a) (n := n) hs, show (a_sl h a j.toNatClampNeg x).2.2.2.1 a = vp_updL (h.2.2.2.1 a) j.toNatClampNeg x from a_u2_eq]
  exact hP1
theorem x_as {a n t v ci : Nat} {j : Int32} (hc : cf pc = some .aastore) (hs : h.2.1 a = (t, n)) (ht : (t = 19 ∧ ci = 4) ∨ (t = 20 ∧ ci = 5)) (hv : (h.2.1 v).1 = ci) (hj : vp_in j n) (K : AW l X i cf d r h' (pc + 1) lo st (a_sr h a j.toNatClampNeg (some v))) : AW l X i cf d r h' pc lo (.ref v :: .int j :: .ref a :: st) h := by
  intro g p e R s m args below meth cd h0 Qf C hr1 hr2 hfin H locs ls n1 n2 hR hL hS
  have K := fun H1 locs1 hR1 => K g p e R s m args below meth cd h0 Qf C hr1 hr2 hfin H1 locs1 ls n1 n2 hR1 hL
  obtain ⟨hx, hb, hml, -, -, -, hown, hts, hKn, -, -, hBs, hok, -, -⟩ := C
  have hci : ci < 10 := by omega
  have hva := hR.lt (a := v) (by omega)
  have hve := a_ws_at (g := g) hva
  rw [a_cell_o hv hci] at hve
  have hup : ∀ f : Nat → Option Nat, f = (fun k => (h.2.2.2.2 a k).map (fun x => g.1 + x)) → va_up f j.toNatClampNeg (some (g.1 + v)) = fun k => ((a_sr h a j.toNatClampNeg (some v)).2.2.2.2 a k).map (fun x => g.1 + x) := by
    intro f hf
    subst hf
    funext k
    show _ = (a_u2 h.2.2.2.2 a j.toNatClampNeg (some v) a k).map _
    rw [a_u2_eq]
    by_cases hk : k = j.toNatClampNeg <;> simp [va_up, hk]
  rcases ht with ⟨rfl, rfl⟩ | ⟨rfl, rfl⟩
  · have ha := hR.lt (a := a) (by simp [hs])
    have he := a_ws_at (g := g) ha
    rw [a_cell_s hs] at he
    refine va_astq hx hb hKn.1 hR.2.1 a_ws_D (a_S.rf hS) a 3 v 4 he rfl hve (a_clA (by decide)) hj (a_dec hok hc rfl) (fun H1 locs1 hP1 _ hS1 => ?_)
    refine a_W.bound fun hbd => ?_
    have hz : H1.size = H.size := by have := hS1.1; have := hR.1; omega
    refine K H1 locs1 (hR.set ha rfl (fun q hq => ⟨rfl, rfl, rfl, a_u2_ne hq⟩) hz ?_) (a_S.tr hS hS1)
    rw [hup _ rfl] at hP1
    rw [a_cell_s (h := a_sr h a j.toNatClampNeg (some v)) (a := a) (n := n) hs]
    exact hP1
  · have ha := hR.lt (a := a) (by simp [hs])
    have he := a_ws_at (g := g) ha
    rw [a_cell_p hs] at he
    refine va_astq hx hb hKn.1 hR.2.1 a_ws_D (a_S.rf hS) a 4 v 5 he rfl hve (a_clA (by decide)) hj (a_dec hok hc rfl) (fun H1 locs1 hP1 _ hS1 => ?_)
    refine a_W.bound fun hbd => ?_
    have hz : H1.size = H.size := by have := hS1.1; have := hR.1; omega
    refine K H1 locs1 (hR.set ha rfl (fun q hq => ⟨rfl, rfl, rfl, a_u2_ne hq⟩) hz ?_) (a_S.tr hS hS1)
    rw [hup _ rfl] at hP1
    rw [a_cell_p (h := a_sr h a j.toNatClampNeg (some v)) (a := a) (n := n) hs]
    exact hP1
end AR
end
section
theorem a_Rep.push {g : aG} {h : aH} {H H1 : Heap} {t n w : Nat} (hR : a_Rep g h H) (z1 : H1.size = H.size + 1) (o1 : ∀ q, q < H.size → H1[q]? = H[q]?) (hat : va_at g.2.2.1 a_cl (g.1 + h.1.1, a_cell g (a_nw h t n w) h.1.1) H1) : a_Rep g (a_nw h t n w) H1 := by
  have hsh : ∀ j, j ≠ h.1.1 → (a_nw h t n w).2.1 j = h.2.1 j := fun j hj => if_neg hj
  refine ⟨by rw [z1, hR.1]; rfl, ?_, fun a ha => ?_⟩
  · rw [a_ws_push (h := h) rfl (fun j hj => a_cell_cong (hsh j hj) rfl rfl rfl)]
    refine (hR.2.1.kept (fun k q hq => o1 q.1 (hR.2.1 k q hq).lt)).app (fun k q hq => ?_)
    have hz : k < 1 := (List.getElem?_eq_some_iff.mp hq).1
    rw [show k = 0 by omega] at hq
    cases hq
    exact hat
  · have ha : h.1.1 + 1 ≤ a := ha
    have := hR.2.2 a (by omega)
    unfold a_blank at this ⊢
    rw [hsh a (by omega)]
    exact this
theorem a_S.push {A : Nat → Prop} {H0 H H1 : Heap} {locs : List Loc} (h : va_S A H0 H locs) (z1 : H1.size = H.size + 1) (o1 : ∀ q, q < H.size → H1[q]? = H[q]?) : va_S A H0 H1 locs := ⟨Nat.le_trans h.1 (by omega), fun q a b => (o1 q (Nat.lt_of_lt_of_le a h.1)).trans (h.2.1 q a b), h.2.2⟩
theorem a_kd_le : ∀ ci, ci < 10 → ∀ k, k < a_nf ci → a_kd ci k ≤ 3 := by decide +kernel
theorem a_nw_sh {h : aH} {t n w : Nat} : (a_nw h t n w).2.1 h.1.1 = (t, n) := if_pos rfl
theorem a_clw {o ix ci ne : Nat} (h : a_find a_CL o ix = some (ci, ne)) : ci < 10 ∧ Jvm.Cond.classLink (aC o) ix (aC ci) ∈ wG := by
  obtain ⟨hint, he⟩ := a_find_in h
  have h1 := a_okCL _ he
  simp only [Bool.and_eq_true, decide_eq_true_eq] at h1
  exact ⟨h1.1, wG_in (a_at_in h1.2) rfl⟩
section AR
variable {l : Launch} {X : aX} {i : Nat} {cf : aK} {d : Nat} {r : Option Value} {h' h : aH} {pc : Nat} {lo : List (Option Value)} {st : List Value}
theorem x_new {ix ci ne : Nat} (hc : cf pc = some (.new ix)) (hl : a_find a_CL (m_o i) ix = some (ci, ne)) (hn : h.1.1 + 1 ≤ h'.1.1) (hw : h.1.2 + a_nf ci ≤ h'.1.2) (K : AW l X i cf d r h' (pc + 3) lo (.ref h.1.1 :: st) (a_nw h ci 0 (a_nf ci))) : AW l X i cf d r h' pc lo st h := by
  intro g p e R s m args below meth cd h0 Qf C hr1 hr2 hfin H locs ls n1 n2 hR hL hS
  have K := fun H1 n1 n2 hR1 => K g p e R s m args below meth cd h0 Qf C hr1 hr2 hfin H1 locs ls n1 n2 hR1 hL
  obtain ⟨hx, hb, hml, -, -, -, hown, hts, hKn, -, -, hBs, hok, -, -⟩ := C
  obtain ⟨hci, hcl⟩ := a_clw hl
  have hk := hKn.1.1 ci _ (a_clA hci)
  have hdg := a_dec hok hc rfl
  refine W.newcK hx hb hown (hts _ hcl) (hts _ (wG_in (a_okc hci).2.1 rfl)) (hts _ (wG_in (a_okc hci).2.2 rfl)) rfl hdg (by omega) (by omega) hk.2.1 rfl fun H1 kC hkC e1 z1 o1 => ?_
  have hR1 : a_Rep g (a_nw h ci 0 (a_nf ci)) H1 := by
    refine hR.push z1 o1 ?_
    rw [a_cell_o (h := a_nw h ci 0 (a_nf ci)) (by rw [a_nw_sh]) hci]
    rw [hR.1] at e1
    refine ⟨_, a_clA hci, (u_born (a_tyk ci) hts (a_uws hci) hk hkC e1 (a_ty hci)).to (fun j hj => ?_)⟩
    have hbl := hR.2.2 h.1.1 (Nat.le_refl _)
    have hkd := ((a_okc hci).1 j hj).2.2.2.2
    have hv : vp_V (a_fs g.1 (a_nw h ci 0 (a_nf ci)) h.1.1 ci) j = a_fv g.1 h h.1.1 ci j := by
      unfold vp_V
      rw [List.getD_eq_getElem?_getD, a_fs_at hj]
      rfl
    rw [hv]
    unfold a_fv
    obtain ⟨b1, b2, b3⟩ := hbl.2 j
    rw [b1, b2, b3]
    have hle := a_kd_le ci hci j hj
    cases ht : a_tyk ci j <;> rw [ht] at hkd <;> first | (exfalso; revert hle; rw [hkd]; decide) | (rw [hkd]; rfl)
  have K := K H1 (by show h0.1.1 ≤ h.1.1 + 1; omega) (by show h0.1.2 ≤ h.1.2 + _; omega) hR1 (a_S.push hS z1 o1)
  have q1 : (a_nw h ci 0 (a_nf ci)).1.1 - h0.1.1 = (h.1.1 - h0.1.1) + 1 := by show h.1.1 + 1 - _ = _; omega
  have q2 : (a_nw h ci 0 (a_nf ci)).1.2 - h0.1.2 = (h.1.2 - h0.1.2) + a_nf ci := by show h.1.2 + a_nf ci - _ = _; omega
  rw [q1, q2] at K
  rw [hR.1]
  exact K
theorem x_na {t : ArrayType} {tg : Nat} {n : Int32} {N : Nat} (hc : cf pc = some (.newarray t)) (ht : (t = .int ∧ tg = 16) ∨ (t = .boolean ∧ tg = 17) ∨ (t = .long ∧ tg = 18)) (hn0 : ¬ n < 0) (hN : n.toNatClampNeg = N) (hbt : N * 8 ≤ 536870912) (hn : h.1.1 + 1 ≤ h'.1.1) (hw : h.1.2 + N ≤ h'.1.2) (K : AW l X i cf d r h' (pc + 2) lo (.ref h.1.1 :: st) (a_nw h tg N N)) : AW l X i cf d r h' pc lo (.int n :: st) h := by
  intro g p e R s m args below meth cd h0 Qf C hr1 hr2 hfin H locs ls n1 n2 hR hL hS
  have K := fun H1 n1 n2 hR1 => K g p e R s m args below meth cd h0 Qf C hr1 hr2 hfin H1 locs ls n1 n2 hR1 hL
  obtain ⟨hx, hb, hml, -, -, -, hown, hts, hKn, -, -, hBs, hok, -, -⟩ := C
  have hdg := a_dec hok hc rfl
  have hbl := hR.2.2 h.1.1 (Nat.le_refl _)
  have q1 : (a_nw h tg N N).1.1 - h0.1.1 = (h.1.1 - h0.1.1) + 1 := by show h.1.1 + 1 - _ = _; omega
  have q2 : (a_nw h tg N N).1.2 - h0.1.2 = (h.1.2 - h0.1.2) + N := by show h.1.2 + N - _ = _; omega
  have fin : ∀ (H1 : Heap), H1.size = H.size + 1 → (∀ q, q < H.size → H1[q]? = H[q]?) → va_at g.2.2.1 a_cl (g.1 + h.1.1, a_cell g (a_nw h tg N N) h.1.1) H1 → W p l e R s m args below meth cd H1 locs ((h.1.1 - h0.1.1) + 1) ((h.1.2 - h0.1.2) + N) Qf (F0 m (pc + 2) ls (.ref H.size :: st.map (a_rel g.1 g.2.1))) := by
    intro H1 z1 o1 hat
    have K := K H1 (by show h0.1.1 ≤ h.1.1 + 1; omega) (by show h0.1.2 ≤ h.1.2 + _; omega) (hR.push z1 o1 hat) (a_S.push hS z1 o1)
    rw [q1, q2] at K
    rw [hR.1]
    exact K
  rcases ht with ⟨rfl, rfl⟩ | ⟨rfl, rfl⟩ | ⟨rfl, rfl⟩
  · refine va_newaK hx hb (hts _ (wG_in (a_at_in a_wI) rfl)) rfl hdg rfl hn0 hN (Nat.le_trans (Nat.mul_le_mul_left N (show (4 : Nat) ≤ 8 by decide)) hbt) (by omega) (by omega) rfl fun H1 cA e1 z1 o1 hAr hNm => fin H1 z1 o1 ?_
    have hcA : cA = g.2.2.2 0 := Option.some.inj (hNm.symm.trans (hKn.1.2 0 _ rfl).2)
    rw [a_cell_i a_nw_sh]
    show H1[g.1 + h.1.1]? = some (vp_cell _ _)
    rw [← hR.1, e1, hcA, vp_cell_i]
    congr 2
    funext k
    show defaultValue .int = .int (h.2.2.1 h.1.1 k)
    rw [(hbl.2 k).1]; rfl
  · refine va_newaK hx hb (hts _ (wG_in (a_at_in a_wZ) rfl)) rfl hdg rfl hn0 hN (Nat.le_trans (Nat.mul_le_mul_left N (show (1 : Nat) ≤ 8 by decide)) hbt) (by omega) (by omega) rfl fun H1 cA e1 z1 o1 hAr hNm => fin H1 z1 o1 ?_
    have hcA : cA = g.2.2.2 1 := Option.some.inj (hNm.symm.trans (hKn.1.2 1 _ rfl).2)
    rw [a_cell_z a_nw_sh]
    show H1[g.1 + h.1.1]? = some (vp_cell _ _)
    rw [← hR.1, e1, hcA, vp_cell_i]
    congr 2
    funext k
    show defaultValue .boolean = .int (h.2.2.1 h.1.1 k)
    rw [(hbl.2 k).1]; rfl
  · refine va_newaK hx hb (hts _ (wG_in (a_at_in a_wL) rfl)) rfl hdg rfl hn0 hN hbt (by omega) (by omega) rfl fun H1 cA e1 z1 o1 hAr hNm => fin H1 z1 o1 ?_
    have hcA : cA = g.2.2.2 2 := Option.some.inj (hNm.symm.trans (hKn.1.2 2 _ rfl).2)
    rw [a_cell_l a_nw_sh]
    show H1[g.1 + h.1.1]? = some (vp_cell _ _)
    rw [← hR.1, e1, hcA, vp_cell_l]
    congr 2
    funext k
    show defaultValue .long = .long (h.2.2.2.1 h.1.1 k)
    rw [(hbl.2 k).2.1]; rfl
theorem x_an {ix ci ne tg : Nat} {n : Int32} {N : Nat} (hc : cf pc = some (.anewarray ix)) (hl : a_find a_CL (m_o i) ix = some (ci, ne)) (ht : (ci = 4 ∧ tg = 19) ∨ (ci = 5 ∧ tg = 20)) (hn0 : ¬ n < 0) (hN : n.toNatClampNeg = N) (hbt : N * 4 ≤ 536870912) (hn : h.1.1 + 1 ≤ h'.1.1) (hw : h.1.2 + N ≤ h'.1.2) (K : AW l X i cf d r h' (pc + 3) lo (.ref h.1.1 :: st) (a_nw h tg N N)) : AW l X i cf d r h' pc lo (.int n :: st) h := by
  intro g p e R s m args below meth cd h0 Qf C hr1 hr2 hfin H locs ls n1 n2 hR hL hS
  have K := fun H1 n1 n2 hR1 => K g p e R s m args below meth cd h0 Qf C hr1 hr2 hfin H1 locs ls n1 n2 hR1 hL
  obtain ⟨hx, hb, hml, -, -, -, hown, hts, hKn, -, -, hBs, hok, -, -⟩ := C
  obtain ⟨hci, hcl⟩ := a_clw hl
  have hdg := a_dec hok hc rfl
  have hbl := hR.2.2 h.1.1 (Nat.le_refl _)
  subst hN
  have q1 : (a_nw h tg n.toNatClampNeg n.toNatClampNeg).1.1 - h0.1.1 = (h.1.1 - h0.1.1) + 1 := by show h.1.1 + 1 - _ = _; omega
  have q2 : (a_nw h tg n.toNatClampNeg n.toNatClampNeg).1.2 - h0.1.2 = (h.1.2 - h0.1.2) + n.toNatClampNeg := by show h.1.2 + _ - _ = _; omega
  have fin : ∀ (H1 : Heap), H1.size = H.size + 1 → (∀ q, q < H.size → H1[q]? = H[q]?) → va_at g.2.2.1 a_cl (g.1 + h.1.1, a_cell g (a_nw h tg n.toNatClampNeg n.toNatClampNeg) h.1.1) H1 → W p l e R s m args below meth cd H1 locs ((h.1.1 - h0.1.1) + 1) ((h.1.2 - h0.1.2) + n.toNatClampNeg) Qf (F0 m (pc + 3) ls (.ref H.size :: st.map (a_rel g.1 g.2.1))) := by
    intro H1 z1 o1 hat
    have K := K H1 (by show h0.1.1 ≤ h.1.1 + 1; omega) (by show h0.1.2 ≤ h.1.2 + _; omega) (hR.push z1 o1 hat) (a_S.push hS z1 o1)
    rw [q1, q2] at K
    rw [hR.1]
    exact K
  have push : ∀ c : Cell, (H.push c).size = H.size + 1 ∧ (∀ q : Nat, q < H.size → (H.push c)[q]? = H[q]?) ∧ (H.push c)[H.size]? = some c := fun c => ⟨Array.size_push _, fun q hq => by rw [Array.getElem?_push, if_neg (Nat.ne_of_lt hq)], Array.getElem?_push_size⟩
  rcases ht with ⟨rfl, rfl⟩ | ⟨rfl, rfl⟩
  · refine W.anew (C := "TypeForecast$State") hx hb hown (hts _ hcl) (va_AO.use hKn.2.2.1) rfl hdg rfl hn0 hbt (by omega) (by omega) fun cA kA comp f1 f2 f3 f4 => fin _ (push _).1 (push _).2.1 ?_
    obtain ⟨-, -, -, -, -, k5⟩ := (hKn.1.2 3 _ rfl).2
    have hcA : cA = g.2.2.2 3 := Option.some.inj (f1.symm.trans k5)
    rw [a_cell_s a_nw_sh]
    show (H.push _)[g.1 + h.1.1]? = some (vp_cell _ _)
    rw [← hR.1, (push _).2.2, hcA, vp_cell_q, arrV_new]
    congr 2
    funext k
    show Value.null = va_rf ((h.2.2.2.2 h.1.1 k).map _)
    rw [(hbl.2 k).2.2]; rfl
  · refine W.anew (C := "TypeForecast$Picture") hx hb hown (hts _ hcl) (va_AO.use hKn.2.2.2) rfl hdg rfl hn0 hbt (by omega) (by omega) fun cA kA comp f1 f2 f3 f4 => fin _ (push _).1 (push _).2.1 ?_
    obtain ⟨-, -, -, -, -, k5⟩ := (hKn.1.2 4 _ rfl).2
    have hcA : cA = g.2.2.2 4 := Option.some.inj (f1.symm.trans k5)
    rw [a_cell_p a_nw_sh]
    show (H.push _)[g.1 + h.1.1]? = some (vp_cell _ _)
    rw [← hR.1, (push _).2.2, hcA, vp_cell_q, arrV_new]
    congr 2
    funext k
    show Value.null = va_rf ((h.2.2.2.2 h.1.1 k).map _)
    rw [(hbl.2 k).2.2]; rfl
end AR
end
section
def a_Post (g : aG) (rv : Option Value) (h1 : aH) : Array Value → State → Outcome → State → Prop := fun _ st o t => o = .returned (rv.map (a_rel g.1 g.2.1)) ∧ a_Rep g h1 t.heap ∧ va_F (fun q => g.1 ≤ q) st t
def a_wsM (j : Nat) : List Jvm.Cond := .code (m_y j) (m_cc j) (m_nl j) (m_rt j) :: wG
def a_rm (d mc ms : Nat) : Room := { frames := d, cells := mc, slots := ms, locals := 64 * d }
/-- the method j, called with the values vs over the tables h, at most d frames deep: it answers rv, and leaves the tables h1 -/
def Call (l : Launch) (X : aX) (d j : Nat) (vs : List Value) (h : aH) (rv : Option Value) (h1 : aH) : Prop :=
  (h.1.1 ≤ h1.1.1 ∧ h.1.2 ≤ h1.1.2) ∧ ∀ g : aG, Met l (m_y j) (a_wsM j) (a_rm d (h1.1.1 - h.1.1) (h1.1.2 - h.1.2)) (va_Pc (vs.map (a_rel g.1 g.2.1)) (a_Pre g X h)) (a_Post g rv h1) (h1.1.1 - h.1.1) (h1.1.2 - h.1.2) (fun q => g.1 ≤ q)
theorem a_mok {j : Nat} (h0 : 0 < j) (h1 : j < 193) (h2 : j ≠ 187) : (m_y j).cls = aC (m_o j) ∧ Jvm.Cond.code (m_y j) (m_cc j) (m_nl j) (m_rt j) ∈ wG ∧ (if m_k j = 1 then Jvm.Cond.static (m_y j) ∈ wG else Jvm.Cond.instanceMethod (m_y j) ∈ wG) ∧ (m_k j = 0 → Jvm.Cond.selects (m_y j).cls (m_y j) (m_y j) ∈ wG) ∧ Jvm.Cond.initialized (m_y j).cls ∈ wG ∧ ((m_y j).cls ≠ "java/lang/invoke/MethodHandle" ∧ (m_y j).cls ≠ "java/lang/invoke/VarHandle" ∧ (parseMethodDescriptor (m_y j).desc).map (fun d => d.parameters.length) = some (m_np j)) ∧ plainFor (m_y j) = true ∧ m_nl j ≤ 20 ∧ (m_k j = 2 → (m_y j).name = "<init>" ∧ m_rt j = none) := by
  have h3 := a_okMs j h0 h1 h2
  simp only [a_okM, Bool.and_eq_true, decide_eq_true_eq, Bool.or_eq_true] at h3
  obtain ⟨⟨⟨⟨⟨⟨⟨⟨⟨⟨⟨q1, q2⟩, q3⟩, q4⟩, q5⟩, q6⟩, q7⟩, q8⟩, q9⟩, q10⟩, q11⟩, q12⟩ := h3
  refine ⟨q2, ?_, ?_, fun hk => ?_, wG_in (a_at_in q6) rfl, ⟨q7, q8, q9⟩, q10, q11, fun hk => ?_⟩
  · split at q3
    · rename_i y cc n rt hw
      simp only [Bool.and_eq_true, decide_eq_true_eq] at q3
      obtain ⟨⟨rfl, rfl⟩, rfl⟩ := q3
      have hcc : m_cc j = cc := by unfold m_cc; rw [if_neg h2, hw]
      rw [hcc]
      exact wG_in (List.mem_of_getElem? hw) rfl
    · cases q3
  · by_cases hk : m_k j = 1
    · rw [if_pos hk] at q4 ⊢; exact wG_in (a_at_in q4) rfl
    · rw [if_neg hk] at q4 ⊢; exact wG_in (a_at_in q4) rfl
  · rw [if_pos hk] at q5; exact wG_in (a_at_in q5) rfl
  · rcases q12 with q | q
    · exact absurd hk q
    · exact q
theorem a_good (j : Nat) (h : Jvm.Cond.code (m_y j) (m_cc j) (m_nl j) (m_rt j) ∈ wG) : GoodIn wG (a_wsM j) := by
  intro w hw
  have hg : ∀ w ∈ wG, w ∈ wG ∧ ((w.onTables && w.keeps) = true ∨ ∃ ty, w = .arrayClass ty) := fun w hw => ⟨hw, good_of_word (List.mem_filter.mp hw).2⟩
  rcases List.mem_cons.mp hw with rfl | hw
  · exact hg _ h
  · exact hg _ hw
theorem a_Kn.same {g : aG} {u U : State} (h : u.vm = U.vm) (hK : a_Kn g u) : a_Kn g U := by
  have ha : u.vm.Alike U.vm := by rw [h]; exact Vm.Alike.refl _
  refine ⟨va_K.moved ha hK.1, fun w hw => va_Nw.same ?_ h (hK.2.1 w hw), va_AO.moved ha hK.2.2.1, va_AO.moved ha hK.2.2.2⟩
  have hn := (List.mem_filter.mp hw).2
  cases w <;> first | rfl | (simp [a_nest] at hn)
theorem a_Kn.warm {g : aG} {s U : State} (hW : s.WarmedH U.vm) (hK : a_Kn g s) : a_Kn g U := by
  refine ⟨va_K.moved hW.alike hK.1, fun w hw => ?_, va_AO.moved hW.alike hK.2.2.1, va_AO.moved hW.alike hK.2.2.2⟩
  have hn := (List.mem_filter.mp hw).2
  have hz := hK.2.1 w hw
  cases w <;> first | exact va_Nw.warmF hW hz | exact va_Nw.warmM hW hz | (simp [a_nest] at hn)
theorem a_Pre.blind (g : aG) (X : aX) (h : aH) (vs : List Value) : FrameBlind (va_Pc vs (a_Pre g X h)) := by
  intro a U f mk hp
  obtain ⟨q0, q1, q2, q3, q4⟩ := hp
  exact ⟨q0, q1, a_Kn.same (u := U) (U := U.calling f mk a) rfl q2, va_X.moved (u := U) (U := U.calling f mk a) (Vm.Alike.refl U.vm) q3, q4⟩
theorem a_cats {B b : Nat} (st : List Value) : ((st.map (a_rel B b)).map fun v => v.category) = st.map fun v => v.category := by
  rw [List.map_map]
  apply List.map_congr_left
  intro v _
  exact a_rel_cat B b v
theorem a_mlw {o ix j ne : Nat} (h : a_find a_ML o ix = some (j, ne)) : j < 193 ∧ j ≠ 187 ∧ (j = 0 → Jvm.Cond.methodLink (aC o) ix objectInit ∈ wG) ∧ (j ≠ 0 → ((ne ≠ 1 ∧ Jvm.Cond.methodLink (aC o) ix (m_y j) ∈ wG) ∨ (ne = 1 ∧ Jvm.Cond.methodLinkNest (aC o) ix (m_y j) "TypeForecast" ∈ wN))) := by
  obtain ⟨hint, he⟩ := a_find_in h
  have h1 := a_okML _ he
  simp only [Bool.and_eq_true, decide_eq_true_eq] at h1
  obtain ⟨⟨h2, h3⟩, h4⟩ := h1
  refine ⟨h2, h3, fun hj => ?_, fun hj => ?_⟩
  · rw [if_pos hj] at h4; exact wG_in (a_at_in h4) rfl
  · rw [if_neg hj] at h4
    by_cases hn : ne = 1
    · rw [if_pos hn] at h4; exact Or.inr ⟨hn, wN_in (a_at_in h4) rfl⟩
    · rw [if_neg hn] at h4; exact Or.inl ⟨hn, wG_in (a_at_in h4) rfl⟩
section AR
variable {l : Launch} {X : aX} {i : Nat} {cf : aK} {d : Nat} {r : Option Value} {h' h : aH} {pc : Nat} {lo : List (Option Value)} {st : List Value}
theorem a_go {p : Program} {e : Env} {R : Room} {s : State} {m : MethodId} {args a : Array Value} {below : List Frame} {meth : Method} {c : Code} {H : Heap} {locs : List Loc} {cells slots mc ms pc : Nat} {Q : State → Prop} {ls : Array Slot} {st0 rest : List Value} {g : aG} {rv : Option Value} {h1 : aH}
    (hr : va_Run p l e R s m args below meth c H locs cells slots mc ms (F0 m pc ls st0) rest (a_Post g rv h1 a) (fun q => g.1 ≤ q)) (hS : va_S (fun q => g.1 ≤ q) s.heap H locs)
    (kk : ∀ (H1 : Heap) (locs1 : List Loc), a_Rep g h1 H1 → va_S (fun q => g.1 ≤ q) s.heap H1 locs1 → W p l e R s m args below meth c H1 locs1 (cells + mc) (slots + ms) Q (F0 m (pc + 3) ls ((rv.map (a_rel g.1 g.2.1)).toList ++ rest))) : W p l e R s m args below meth c H locs cells slots Q (F0 m pc ls st0) := by
  intro T hT X
  obtain ⟨v, st₀, t, T', L, q0, X', hL, e1, e2, ⟨hv, hRp, hz, hk⟩, st⟩ := hr T hT X
  cases hv
  rw [q0] at hz hk
  obtain ⟨t2, a1, b1⟩ := kk T'.heap (locs ++ L) (by rw [e1]; exact hRp)
    ⟨Nat.le_trans hS.1 (by rw [e1]; exact hz), fun q z1 z2 => by rw [e1, hk q (Nat.lt_of_lt_of_le z1 hS.1) z2]; exact hS.2.1 q z1 z2, fun q hq => by
      rcases List.mem_append.mp hq with z | z
      · exact hS.2.2 q z
      · exact hL q z⟩ T' rfl X'
  exact ⟨t2, st t2 a1, b1⟩
theorem x_oi {ix ne a : Nat} (hc : cf pc = some (.invokespecial ix)) (hl : a_find a_ML (m_o i) ix = some (0, ne)) (hcat : (st.map fun v => v.category).sum ≤ 8) (hd : 1 ≤ d) (K : AW l X i cf d r h' (pc + 3) lo st h) : AW l X i cf d r h' pc lo (.ref a :: st) h := by
  intro g p e R s m args below meth cd h0 Qf C hr1 hr2 hfin H locs ls n1 n2 hR hL hS
  have K := K g p e R s m args below meth cd h0 Qf C hr1 hr2 hfin H locs ls n1 n2 hR hL hS
  obtain ⟨hx, hb, hml, -, -, -, hown, hts, hKn, -, -, hBs, hok, hd1, hd2⟩ := C
  obtain ⟨-, -, hw, -⟩ := a_mlw hl
  have hst : (((st.map (a_rel g.1 g.2.1)).map fun v => v.category).sum) ≤ 8 := by rw [a_cats]; exact hcat
  have hrm : 2 * (F0 m pc ls ((Value.ref a :: st).map (a_rel g.1 g.2.1))).monitorRoom = 0 := rfl
  exact W.objInit hx hb hown (hts _ (hw rfl)) (hts _ (wG_in (a_at_in a_wOi) rfl)) (hts _ (wG_in (a_at_in a_wOc) rfl)) rfl (by rw [hml]; exact hL.2.1) rfl (a_dec hok hc rfl) (by omega) (by rw [hrm]; omega) K
/-- what a caller has of a call -/
theorem a_ready {g : aG} {s U : State} {H : Heap} {locs : List Loc} {h0 : aH} (hKn : a_Kn g s) (hX : va_X g.2.1 X.1 X.2 s s.heap) (hbB : g.2.1 < g.1) (hBs : s.heap.size = g.1 + h0.1.1) (hR : a_Rep g h H) (hS : va_S (fun q => g.1 ≤ q) s.heap H locs) (hU : U.heap = H) (hW : s.WarmedH U.vm) : a_Pre g X h U := by
  refine ⟨by rw [hU]; exact hR, hKn.warm hW, ?_, hbB⟩
  rw [hU]
  exact (hX.kept (hS.2.1 g.2.1 (by omega) (by show ¬ g.1 ≤ g.2.1; omega))).moved hW.alike
theorem x_cv {ix j ne a d' : Nat} {vs rest : List Value} {rv : Option Value} {h1 : aH} (hc : cf pc = some (.invokevirtual ix)) (hl : a_find a_ML (m_o i) ix = some (j, ne)) (hk : m_k j = 0) (hj : 0 < j) (hnp : vs.length = m_np j) (hsh : (h.2.1 a).1 = m_o j) (ho : m_o j < 10) (hst : st = vs.reverse ++ .ref a :: rest) (hcat : (rest.map fun v => v.category).sum ≤ 8) (hd : d' + 1 ≤ d) (CC : Call l X d' j (.ref a :: vs) h rv h1) (hm : h1.1.1 ≤ h'.1.1 ∧ h1.1.2 ≤ h'.1.2) (K : AW l X i cf d r h' (pc + 3) lo (rv.toList ++ rest) h1) : AW l X i cf d r h' pc lo st h := by
  intro g p e R s m args below meth cd h0 Qf C hr1 hr2 hfin H locs ls n1 n2 hR hL hS
  have K := fun H1 locs1 n1 n2 hR1 => K g p e R s m args below meth cd h0 Qf C hr1 hr2 hfin H1 locs1 ls n1 n2 hR1 hL
  obtain ⟨hx, hb, hml, -, -, -, hown, hts, hKn, hX, hbB, hBs, hok, hd1, hd2⟩ := C
  obtain ⟨⟨c1, c2⟩, CC⟩ := CC
  obtain ⟨l1, l2, -, l3⟩ := a_mlw hl
  obtain ⟨m1, m2, m3, m4, m5, m6, m7, m8, m9⟩ := a_mok hj l1 l2
  rw [if_neg (by omega)] at m3
  have ha : a < h.1.1 := hR.lt (by omega)
  have he := a_ws_at (g := g) ha
  rw [a_cell_o hsh ho] at he
  have hrv := va_recv hKn.1 hR.2.1 (a_clA ho) he
  have hrm : (a_rm d' (h1.1.1 - h.1.1) (h1.1.2 - h.1.2)).frames + 1 ≤ R.frames ∧ 8 + (m_nl j + 11) + (a_rm d' (h1.1.1 - h.1.1) (h1.1.2 - h.1.2)).locals ≤ R.locals := ⟨by show d' + 1 ≤ _; omega, by show 8 + (m_nl j + 11) + 64 * d' ≤ _; omega⟩
  have hpre : PreV s H (m_y j).cls (g.1 + a) (va_Pc ((Value.ref a :: vs).map (a_rel g.1 g.2.1)) (a_Pre g X h)) (vs.map (a_rel g.1 g.2.1)) := ⟨a_Pre.blind g X h _, by rw [m1]; exact hrv, fun U hU hW => ⟨rfl, a_ready hKn hX hbB hBs hR hS hU hW⟩⟩
  have hstk : (F0 m pc ls (st.map (a_rel g.1 g.2.1))).stack = (vs.map (a_rel g.1 g.2.1)).reverse ++ .ref (g.1 + a) :: rest.map (a_rel g.1 g.2.1) := by
    rw [hst]
    show List.map _ (vs.reverse ++ Value.ref a :: rest) = _
    simp [a_rel]
  have hroom : 2 * (F0 m pc ls (st.map (a_rel g.1 g.2.1))).monitorRoom + ((rest.map (a_rel g.1 g.2.1)).map fun v => v.category).sum ≤ 8 := by
    rw [a_cats]
    show 2 * 0 + _ ≤ 8
    omega
  have hfit : (h.1.1 - h0.1.1) + (h1.1.1 - h.1.1) ≤ R.cells ∧ (h.1.2 - h0.1.2) + (h1.1.2 - h.1.2) ≤ R.slots := ⟨by omega, by omega⟩
  have fin : va_Run p l e R s m args below meth cd H locs (h.1.1 - h0.1.1) (h.1.2 - h0.1.2) (h1.1.1 - h.1.1) (h1.1.2 - h.1.2) (F0 m pc ls (st.map (a_rel g.1 g.2.1))) (rest.map (a_rel g.1 g.2.1)) (a_Post g rv h1 (Value.ref (g.1 + a) :: vs.map (a_rel g.1 g.2.1)).toArray) (fun q => g.1 ≤ q) := by
    rcases l3 (by omega) with ⟨-, l4⟩ | ⟨-, l4⟩
    · exact va_runV ⟨hx, hb, hml, hown, hts⟩ (CC g) ⟨callB_of (m_np j) hts (a_good j m2) rfl rfl rfl (hts _ m5) (hts _ l4) m6 hrm, hts _ m3, hts _ (m4 hk)⟩ hpre rfl (by simpa using hnp) hL.2.1 hstk hroom (a_dec hok hc rfl) hfit
    · exact va_runVN ⟨hx, hb, hml, hown, hts⟩ (CC g) ⟨va_cnB (m_np j) hts (a_good j m2) rfl rfl rfl (hKn.2.1 _ l4) (hts _ m5) m6 hrm, hts _ m3, hts _ (m4 hk)⟩ hpre rfl (by simpa using hnp) hL.2.1 hstk hroom (a_dec hok hc rfl) hfit
  refine a_go fin hS fun H1 locs1 hR1 hS1 => ?_
  have K := K H1 locs1 (by omega) (by omega) hR1 hS1
  rw [show (h.1.1 - h0.1.1) + (h1.1.1 - h.1.1) = h1.1.1 - h0.1.1 by omega, show (h.1.2 - h0.1.2) + (h1.1.2 - h.1.2) = h1.1.2 - h0.1.2 by omega]
  have e : (rv.map (a_rel g.1 g.2.1)).toList ++ rest.map (a_rel g.1 g.2.1) = (rv.toList ++ rest).map (a_rel g.1 g.2.1) := by cases rv <;> simp
  rw [e]
  exact K
theorem x_cs {ix j ne d' : Nat} {vs rest : List Value} {rv : Option Value} {h1 : aH} (hc : cf pc = some (.invokestatic ix)) (hl : a_find a_ML (m_o i) ix = some (j, ne)) (hk : m_k j = 1) (hj : 0 < j) (hnp : vs.length = m_np j) (hst : st = vs.reverse ++ rest) (hcat : (rest.map fun v => v.category).sum ≤ 8) (hd : d' + 1 ≤ d) (CC : Call l X d' j vs h rv h1) (hm : h1.1.1 ≤ h'.1.1 ∧ h1.1.2 ≤ h'.1.2) (K : AW l X i cf d r h' (pc + 3) lo (rv.toList ++ rest) h1) : AW l X i cf d r h' pc lo st h := by
  intro g p e R s m args below meth cd h0 Qf C hr1 hr2 hfin H locs ls n1 n2 hR hL hS
  have K := fun H1 locs1 n1 n2 hR1 => K g p e R s m args below meth cd h0 Qf C hr1 hr2 hfin H1 locs1 ls n1 n2 hR1 hL
  obtain ⟨hx, hb, hml, -, -, -, hown, hts, hKn, hX, hbB, hBs, hok, hd1, hd2⟩ := C
  obtain ⟨⟨c1, c2⟩, CC⟩ := CC
  obtain ⟨l1, l2, -, l3⟩ := a_mlw hl
  obtain ⟨m1, m2, m3, m4, m5, m6, m7, m8, m9⟩ := a_mok hj l1 l2
  rw [if_pos hk] at m3
  have hrm : (a_rm d' (h1.1.1 - h.1.1) (h1.1.2 - h.1.2)).frames + 1 ≤ R.frames ∧ 8 + (m_nl j + 11) + (a_rm d' (h1.1.1 - h.1.1) (h1.1.2 - h.1.2)).locals ≤ R.locals := ⟨by show d' + 1 ≤ _; omega, by show 8 + (m_nl j + 11) + 64 * d' ≤ _; omega⟩
  have hpre : PreS s H (va_Pc (vs.map (a_rel g.1 g.2.1)) (a_Pre g X h)) (vs.map (a_rel g.1 g.2.1)) := ⟨a_Pre.blind g X h _, fun U hU hW => ⟨rfl, a_ready hKn hX hbB hBs hR hS hU hW⟩⟩
  have hstk : (F0 m pc ls (st.map (a_rel g.1 g.2.1))).stack = (vs.map (a_rel g.1 g.2.1)).reverse ++ rest.map (a_rel g.1 g.2.1) := by
    rw [hst]
    show List.map _ (vs.reverse ++ rest) = _
    simp
  have hroom : 2 * (F0 m pc ls (st.map (a_rel g.1 g.2.1))).monitorRoom + ((rest.map (a_rel g.1 g.2.1)).map fun v => v.category).sum ≤ 8 := by
    rw [a_cats]
    show 2 * 0 + _ ≤ 8
    omega
  have hfit : (h.1.1 - h0.1.1) + (h1.1.1 - h.1.1) ≤ R.cells ∧ (h.1.2 - h0.1.2) + (h1.1.2 - h.1.2) ≤ R.slots := ⟨by omega, by omega⟩
  have fin : va_Run p l e R s m args below meth cd H locs (h.1.1 - h0.1.1) (h.1.2 - h0.1.2) (h1.1.1 - h.1.1) (h1.1.2 - h.1.2) (F0 m pc ls (st.map (a_rel g.1 g.2.1))) (rest.map (a_rel g.1 g.2.1)) (a_Post g rv h1 (vs.map (a_rel g.1 g.2.1)).toArray) (fun q => g.1 ≤ q) := by
    rcases l3 (by omega) with ⟨-, l4⟩ | ⟨-, l4⟩
    · exact va_runS ⟨hx, hb, hml, hown, hts⟩ (CC g) ⟨callB_of (m_np j) hts (a_good j m2) rfl rfl rfl (hts _ m5) (hts _ l4) m6 hrm, hts _ m3⟩ hpre rfl (by simpa using hnp) hL.2.1 hstk hroom (a_dec hok hc rfl) hfit
    · exact va_runSN ⟨hx, hb, hml, hown, hts⟩ (CC g) ⟨va_cnB (m_np j) hts (a_good j m2) rfl rfl rfl (hKn.2.1 _ l4) (hts _ m5) m6 hrm, hts _ m3, trivial⟩ hpre rfl (by simpa using hnp) hL.2.1 hstk hroom (a_dec hok hc rfl) hfit
  refine a_go fin hS fun H1 locs1 hR1 hS1 => ?_
  have K := K H1 locs1 (by omega) (by omega) hR1 hS1
  rw [show (h.1.1 - h0.1.1) + (h1.1.1 - h.1.1) = h1.1.1 - h0.1.1 by omega, show (h.1.2 - h0.1.2) + (h1.1.2 - h.1.2) = h1.1.2 - h0.1.2 by omega]
  have e : (rv.map (a_rel g.1 g.2.1)).toList ++ rest.map (a_rel g.1 g.2.1) = (rv.toList ++ rest).map (a_rel g.1 g.2.1) := by cases rv <;> simp
  rw [e]
  exact K
theorem x_ci {ix j ne a d' : Nat} {vs rest : List Value} {h1 : aH} (hc : cf pc = some (.invokespecial ix)) (hl : a_find a_ML (m_o i) ix = some (j, ne)) (hk : m_k j = 2) (hj : 0 < j) (hnp : vs.length = m_np j) (hst : st = vs.reverse ++ .ref a :: rest) (hcat : (rest.map fun v => v.category).sum ≤ 8) (hd : d' + 1 ≤ d) (CC : Call l X d' j (.ref a :: vs) h none h1) (hm : h1.1.1 ≤ h'.1.1 ∧ h1.1.2 ≤ h'.1.2) (K : AW l X i cf d r h' (pc + 3) lo rest h1) : AW l X i cf d r h' pc lo st h := by
  intro g p e R s m args below meth cd h0 Qf C hr1 hr2 hfin H locs ls n1 n2 hR hL hS
  have K := fun H1 locs1 n1 n2 hR1 => K g p e R s m args below meth cd h0 Qf C hr1 hr2 hfin H1 locs1 ls n1 n2 hR1 hL
  obtain ⟨hx, hb, hml, -, -, -, hown, hts, hKn, hX, hbB, hBs, hok, hd1, hd2⟩ := C
  obtain ⟨⟨c1, c2⟩, CC⟩ := CC
  obtain ⟨l1, l2, -, l3⟩ := a_mlw hl
  obtain ⟨m1, m2, m3, m4, m5, m6, m7, m8, m9⟩ := a_mok hj l1 l2
  rw [if_neg (by omega)] at m3
  obtain ⟨m9, m10⟩ := m9 hk
  have hrm : (a_rm d' (h1.1.1 - h.1.1) (h1.1.2 - h.1.2)).frames + 1 ≤ R.frames ∧ 8 + (m_nl j + 11) + (a_rm d' (h1.1.1 - h.1.1) (h1.1.2 - h.1.2)).locals ≤ R.locals := ⟨by show d' + 1 ≤ _; omega, by show 8 + (m_nl j + 11) + 64 * d' ≤ _; omega⟩
  have hpre : PreS s H (va_Pc ((Value.ref a :: vs).map (a_rel g.1 g.2.1)) (a_Pre g X h)) (.ref (g.1 + a) :: vs.map (a_rel g.1 g.2.1)) := ⟨a_Pre.blind g X h _, fun U hU hW => ⟨rfl, a_ready hKn hX hbB hBs hR hS hU hW⟩⟩
  have hstk : (F0 m pc ls (st.map (a_rel g.1 g.2.1))).stack = (vs.map (a_rel g.1 g.2.1)).reverse ++ .ref (g.1 + a) :: rest.map (a_rel g.1 g.2.1) := by
    rw [hst]
    show List.map _ (vs.reverse ++ Value.ref a :: rest) = _
    simp [a_rel]
  have hroom : 2 * (F0 m pc ls (st.map (a_rel g.1 g.2.1))).monitorRoom + ((rest.map (a_rel g.1 g.2.1)).map fun v => v.category).sum ≤ 8 := by
    rw [a_cats]
    show 2 * 0 + _ ≤ 8
    omega
  have hfit : (h.1.1 - h0.1.1) + (h1.1.1 - h.1.1) ≤ R.cells ∧ (h.1.2 - h0.1.2) + (h1.1.2 - h.1.2) ≤ R.slots := ⟨by omega, by omega⟩
  have hwj : a_wsM j = Jvm.Cond.code (m_y j) (m_cc j) (m_nl j) none :: wG := by rw [← m10]; rfl
  have fin : va_Run p l e R s m args below meth cd H locs (h.1.1 - h0.1.1) (h.1.2 - h0.1.2) (h1.1.1 - h.1.1) (h1.1.2 - h.1.2) (F0 m pc ls (st.map (a_rel g.1 g.2.1))) (rest.map (a_rel g.1 g.2.1)) (a_Post g none h1 (Value.ref (g.1 + a) :: vs.map (a_rel g.1 g.2.1)).toArray) (fun q => g.1 ≤ q) := by
    rcases l3 (by omega) with ⟨-, l4⟩ | ⟨-, l4⟩
    · exact va_runI ⟨hx, hb, hml, hown, hts⟩ (CC g) ⟨callB_of (m_np j) hts (a_good j m2) hwj rfl rfl (hts _ m5) (hts _ l4) m6 hrm, m9, hts _ m3⟩ hpre rfl (by simpa using hnp) hL.2.1 hstk hroom (a_dec hok hc rfl) hfit
    · exact va_runIN ⟨hx, hb, hml, hown, hts⟩ (CC g) ⟨va_cnB (m_np j) hts (a_good j m2) hwj rfl rfl (hKn.2.1 _ l4) (hts _ m5) m6 hrm, m9, hts _ m3⟩ hpre rfl (by simpa using hnp) hL.2.1 hstk hroom (a_dec hok hc rfl) hfit
  refine a_go fin hS fun H1 locs1 hR1 hS1 => ?_
  have K := K H1 locs1 (by omega) (by omega) hR1 hS1
  rw [show (h.1.1 - h0.1.1) + (h1.1.1 - h.1.1) = h1.1.1 - h0.1.1 by omega, show (h.1.2 - h0.1.2) + (h1.1.2 - h.1.2) = h1.1.2 - h0.1.2 by omega]
  exact K
end AR
-- a method's entry
def a_args (vs : List Value) : List (Option Value) := vs.flatMap fun v => if v.category = 2 then [some v, none] else [some v]
def a_ent (vs : List Value) (n : Nat) : List (Option Value) := a_args vs ++ List.replicate (n - (a_args vs).length) none
theorem a_args_len (B b : Nat) (vs : List Value) : (lg_sl (vs.map (a_rel B b))).length = (a_args vs).length := by
  induction vs with
  | nil => rfl
  | cons v vs ih =>
    simp only [lg_sl, a_args, List.map_cons, List.flatMap_cons, List.length_append] at ih ⊢
    rw [ih, a_rel_cat]
    by_cases hv : v.category = 2 <;> simp [hv]
theorem a_ent_get (B b : Nat) : ∀ (vs : List Value) (n m k : Nat) (v : Value), a_ld (a_args vs ++ List.replicate n none) k = some v → (lg_sl (vs.map (a_rel B b)) ++ List.replicate m Slot.unset)[k]? = some (.val (a_rel B b v)) := by
  intro vs
  induction vs with
  | nil =>
    intro n m k v h
    have : ∀ (n k : Nat), a_ld (List.replicate n none) k = none := by
      intro n
      induction n with
      | zero => intro k; cases k <;> rfl
      | succ n ih => intro k; cases k with
        | zero => rfl
        | succ k => exact ih k
    rw [show a_args [] ++ List.replicate n none = List.replicate n none from rfl, this] at h
    cases h
  | cons w vs ih =>
    intro n m k v h
    have e1 : a_args (w :: vs) = (if w.category = 2 then [some w, none] else [some w]) ++ a_args vs := rfl
    have e2 : lg_sl ((w :: vs).map (a_rel B b)) = (if w.category = 2 then [.val (a_rel B b w), .second] else [.val (a_rel B b w)]) ++ lg_sl (vs.map (a_rel B b)) := by
      simp only [lg_sl, List.map_cons, List.flatMap_cons, a_rel_cat]
    rw [e1] at h
    rw [e2]
    by_cases hw : w.category = 2
    · rw [if_pos hw] at h ⊢
      cases k with
      | zero =>
        have h : some w = some v := h
        cases h
        rfl
      | succ k =>
        cases k with
        | zero => have h : (none : Option Value) = some v := h; cases h
        | succ k => exact ih n m k v h
    · rw [if_neg hw] at h ⊢
      cases k with
      | zero =>
        have h : some w = some v := h
        cases h
        rfl
      | succ k => exact ih n m k v h
theorem Call.of {l : Launch} {X : aX} {d j : Nat} {cf : aK} {vs : List Value} {h h1 : aH} {rv : Option Value} (hok : a_okm j cf) (hj : 0 < j ∧ j < 193 ∧ j ≠ 187) (hl : (a_args vs).length ≤ m_nl j) (hm : h.1.1 ≤ h1.1.1 ∧ h.1.2 ≤ h1.1.2) (K : AW l X j cf d rv h1 0 (a_ent vs (m_nl j)) [] h) : Call l X d j vs h rv h1 := by
  refine ⟨hm, fun g => ?_⟩
  obtain ⟨m1, m2, m3, m4, m5, m6, m7, m8, m9⟩ := a_mok hj.1 hj.2.1 hj.2.2
  refine va_MetF (cc := m_cc j) (maxL := m_nl j) (ret := m_rt j) m7 rfl ?_
  intro p e s m args below meth c s₁ B hml hv
  obtain ⟨rfl, hRp, hKn, hX, hbB⟩ := hv
  have hx := B.exec
  have hb := B.bytes
  have hr := B.returns
  have hts := atoms_spec (ws := a_wsM j) B.pre
  have hown : s.vm.findClass (m_y j).cls = some m.cls := findClass_of_methodNamed B.named
  rw [m1] at hown
  have hlocks := B.notSynchronized
  have hin : meth.name = (m_y j).name := (name_of_methodNamed B.named B.method).1
  have hentry := lv_entry (vs.map (a_rel g.1 g.2.1)) (n := m_nl j) (by rw [a_args_len]; exact hl)
  rw [lg_entry_eq]
  have hL : a_L g.1 g.2.1 ((lg_sl (vs.map (a_rel g.1 g.2.1)) ++ List.replicate (m_nl j - (lg_sl (vs.map (a_rel g.1 g.2.1))).length) Slot.unset).toArray) (m_nl j) (a_ent vs (m_nl j)) := by
    refine ⟨?_, hentry.1, hentry.2.1, fun k v hk => ?_⟩
    · unfold a_ent
      rw [List.length_append, List.length_replicate]
      omega
    · rw [List.getElem?_toArray]
      exact a_ent_get g.1 g.2.1 vs _ _ k v hk
  have main := K g p e (headSpec (a_wsM j) (a_rm d (h1.1.1 - h.1.1) (h1.1.2 - h.1.2))).room s m (vs.map (a_rel g.1 g.2.1)).toArray below meth c h (MQ below (a_Post g rv h1) (vs.map (a_rel g.1 g.2.1)).toArray s (h1.1.1 - h.1.1) (h1.1.2 - h.1.2) (fun q => g.1 ≤ q))
    ⟨hx, hb, hml, hr, hlocks, fun hk => by rw [hin]; exact (m9 hk).1, hown, fun w hw => hts w (List.mem_cons_of_mem _ hw), hKn, hX, hbB, hRp.1, hok, Nat.le_refl _, Nat.le_refl _⟩ (Nat.le_refl _) (Nat.le_refl _)
    (fun pc2 ls2 H2 locs2 hf hR2 hS2 => ?_) s.heap [] _ (Nat.le_refl _) (Nat.le_refl _) hRp hL va_S.rf
  · rw [Nat.sub_self, Nat.sub_self] at main
    exact main
  · have post : ∀ t : State, t.heap = H2 → s.WarmedH t.vm → a_Post g rv h1 (vs.map (a_rel g.1 g.2.1)).toArray s (.returned (rv.map (a_rel g.1 g.2.1))) t := fun t ht _ => ⟨rfl, by rw [ht]; exact hR2, hS2.F ht⟩
    cases rv with
    | none => exact W.vret hx hb (hr.trans hf.2) post hS2.2.2 hf.1 hlocks
    | some v =>
      cases v with
      | int v =>
        obtain ⟨f1, f2⟩ := hf
        rcases f2 with f2 | ⟨f2, f3⟩
        · exact W.iret hx hb (hr.trans f2) post hS2.2.2 f1 hlocks
        · exact W.zret hx hb (hr.trans f2) (a_nfZ f3).1 post hS2.2.2 f1 hlocks
      | long v => exact W.lret hx hb (hr.trans hf.2) post hS2.2.2 hf.1 hlocks
      | ref v =>
        obtain ⟨f1, C, f2⟩ := hf
        exact W.aret hx hb (hr.trans f2) (Or.inl ⟨C, rfl⟩) (Or.inr ⟨_, rfl⟩) post hS2.2.2 f1 hlocks
      | null => exact hf.elim
      | float v => exact hf.elim
      | double v => exact hf.elim
      | retAddr v => exact hf.elim
end
