-- ===== PART A: goes FIRST, ahead of the names: the tables' words, and 'selects' of the private methods out of them =====
/-- a private method of a class that the tables say can be made, by its rows of tables_1 -/
def lw_okq (q : MethodName × Nat) : Prop := (q.1.cls ≠ "java/lang/invoke/MethodHandle" ∧ q.1.cls ≠ "java/lang/invoke/VarHandle") ∧ Cond.instantiable q.1.cls q.2 ∈ tables_1 ∧ Cond.privateMethod q.1 ∈ tables_1 ∧ Cond.instanceMethod q.1 ∈ tables_1
theorem lw_p0 : lw_okq (⟨"WeatherHotel$Days", "readParts", "(I)I"⟩, 9) := ⟨⟨by decide +kernel, by decide +kernel⟩, List.mem_of_getElem? (i := 74) (by decide +kernel), List.mem_of_getElem? (i := 500) (by decide +kernel), List.mem_of_getElem? (i := 501) (by decide +kernel)⟩
theorem lw_p1 : lw_okq (⟨"WeatherHotel$Days", "readPart", "(I)Z"⟩, 9) := ⟨⟨by decide +kernel, by decide +kernel⟩, List.mem_of_getElem? (i := 74) (by decide +kernel), List.mem_of_getElem? (i := 516) (by decide +kernel), List.mem_of_getElem? (i := 517) (by decide +kernel)⟩
theorem lw_p2 : lw_okq (⟨"WeatherHotel$Days", "readHour", "(II)I"⟩, 9) := ⟨⟨by decide +kernel, by decide +kernel⟩, List.mem_of_getElem? (i := 74) (by decide +kernel), List.mem_of_getElem? (i := 631) (by decide +kernel), List.mem_of_getElem? (i := 632) (by decide +kernel)⟩
theorem lw_p3 : lw_okq (⟨"WeatherHotel$LawReader", "readClause", "(I)Z"⟩, 2) := ⟨⟨by decide +kernel, by decide +kernel⟩, List.mem_of_getElem? (i := 248) (by decide +kernel), List.mem_of_getElem? (i := 722) (by decide +kernel), List.mem_of_getElem? (i := 723) (by decide +kernel)⟩
theorem lw_p4 : lw_okq (⟨"WeatherHotel$LawReader", "readSum", "(I)Z"⟩, 2) := ⟨⟨by decide +kernel, by decide +kernel⟩, List.mem_of_getElem? (i := 248) (by decide +kernel), List.mem_of_getElem? (i := 730) (by decide +kernel), List.mem_of_getElem? (i := 731) (by decide +kernel)⟩
theorem lw_p5 : lw_okq (⟨"WeatherHotel$LawReader", "readTerm", "(I)Z"⟩, 2) := ⟨⟨by decide +kernel, by decide +kernel⟩, List.mem_of_getElem? (i := 248) (by decide +kernel), List.mem_of_getElem? (i := 734) (by decide +kernel), List.mem_of_getElem? (i := 735) (by decide +kernel)⟩
theorem lw_p6 : lw_okq (⟨"WeatherHotel$LawReader", "readFactor", "(I)Z"⟩, 2) := ⟨⟨by decide +kernel, by decide +kernel⟩, List.mem_of_getElem? (i := 248) (by decide +kernel), List.mem_of_getElem? (i := 738) (by decide +kernel), List.mem_of_getElem? (i := 739) (by decide +kernel)⟩
theorem lw_p7 : lw_okq (⟨"WeatherHotel$LawReader", "mayOpen", "(I)Z"⟩, 2) := ⟨⟨by decide +kernel, by decide +kernel⟩, List.mem_of_getElem? (i := 248) (by decide +kernel), List.mem_of_getElem? (i := 742) (by decide +kernel), List.mem_of_getElem? (i := 743) (by decide +kernel)⟩
theorem lw_p8 : lw_okq (⟨"WeatherHotel$LawReader", "readCondition", "(I)Z"⟩, 2) := ⟨⟨by decide +kernel, by decide +kernel⟩, List.mem_of_getElem? (i := 248) (by decide +kernel), List.mem_of_getElem? (i := 756) (by decide +kernel), List.mem_of_getElem? (i := 757) (by decide +kernel)⟩
theorem lw_p9 : lw_okq (⟨"WeatherHotel$LawReader", "readPieces", "(I)Z"⟩, 2) := ⟨⟨by decide +kernel, by decide +kernel⟩, List.mem_of_getElem? (i := 248) (by decide +kernel), List.mem_of_getElem? (i := 760) (by decide +kernel), List.mem_of_getElem? (i := 761) (by decide +kernel)⟩
theorem lw_p10 : lw_okq (⟨"WeatherHotel$LawReader", "readPiece", "(I)Z"⟩, 2) := ⟨⟨by decide +kernel, by decide +kernel⟩, List.mem_of_getElem? (i := 248) (by decide +kernel), List.mem_of_getElem? (i := 764) (by decide +kernel), List.mem_of_getElem? (i := 765) (by decide +kernel)⟩
theorem lw_p11 : lw_okq (⟨"WeatherHotel$LawReader", "readComparison", "(I)Z"⟩, 2) := ⟨⟨by decide +kernel, by decide +kernel⟩, List.mem_of_getElem? (i := 248) (by decide +kernel), List.mem_of_getElem? (i := 768) (by decide +kernel), List.mem_of_getElem? (i := 769) (by decide +kernel)⟩
theorem lw_p12 : lw_okq (⟨"WeatherHotel$Load", "change", "(II)V"⟩, 10) := ⟨⟨by decide +kernel, by decide +kernel⟩, List.mem_of_getElem? (i := 261) (by decide +kernel), List.mem_of_getElem? (i := 821) (by decide +kernel), List.mem_of_getElem? (i := 822) (by decide +kernel)⟩
theorem lw_p13 : lw_okq (⟨"WeatherHotel$Service", "serveHour", "(I)V"⟩, 15) := ⟨⟨by decide +kernel, by decide +kernel⟩, List.mem_of_getElem? (i := 342) (by decide +kernel), List.mem_of_getElem? (i := 835) (by decide +kernel), List.mem_of_getElem? (i := 836) (by decide +kernel)⟩
theorem lw_p14 : lw_okq (⟨"WeatherHotel$Service", "orderStays", "(I)I"⟩, 15) := ⟨⟨by decide +kernel, by decide +kernel⟩, List.mem_of_getElem? (i := 342) (by decide +kernel), List.mem_of_getElem? (i := 845) (by decide +kernel), List.mem_of_getElem? (i := 846) (by decide +kernel)⟩
theorem lw_p15 : lw_okq (⟨"WeatherHotel$Law", "reckon", "(II)I"⟩, 12) := ⟨⟨by decide +kernel, by decide +kernel⟩, List.mem_of_getElem? (i := 203) (by decide +kernel), List.mem_of_getElem? (i := 862) (by decide +kernel), List.mem_of_getElem? (i := 863) (by decide +kernel)⟩
def lw_privs_1 : List (MethodName × Nat) := [(⟨"WeatherHotel$Days", "readParts", "(I)I"⟩, 9), (⟨"WeatherHotel$Days", "readPart", "(I)Z"⟩, 9), (⟨"WeatherHotel$Days", "readHour", "(II)I"⟩, 9), (⟨"WeatherHotel$LawReader", "readClause", "(I)Z"⟩, 2), (⟨"WeatherHotel$LawReader", "readSum", "(I)Z"⟩, 2), (⟨"WeatherHotel$LawReader", "readTerm", "(I)Z"⟩, 2), (⟨"WeatherHotel$LawReader", "readFactor", "(I)Z"⟩, 2), (⟨"WeatherHotel$LawReader", "mayOpen", "(I)Z"⟩, 2), (⟨"WeatherHotel$LawReader", "readCondition", "(I)Z"⟩, 2), (⟨"WeatherHotel$LawReader", "readPieces", "(I)Z"⟩, 2), (⟨"WeatherHotel$LawReader", "readPiece", "(I)Z"⟩, 2), (⟨"WeatherHotel$LawReader", "readComparison", "(I)Z"⟩, 2), (⟨"WeatherHotel$Load", "change", "(II)V"⟩, 10), (⟨"WeatherHotel$Service", "serveHour", "(I)V"⟩, 15), (⟨"WeatherHotel$Service", "orderStays", "(I)I"⟩, 15), (⟨"WeatherHotel$Law", "reckon", "(II)I"⟩, 12)]
theorem lw_r1 : ∀ q ∈ lw_privs_1, lw_okq q := List.forall_mem_cons.mpr ⟨lw_p0, List.forall_mem_cons.mpr ⟨lw_p1, List.forall_mem_cons.mpr ⟨lw_p2, List.forall_mem_cons.mpr ⟨lw_p3, List.forall_mem_cons.mpr ⟨lw_p4, List.forall_mem_cons.mpr ⟨lw_p5, List.forall_mem_cons.mpr ⟨lw_p6, List.forall_mem_cons.mpr ⟨lw_p7, List.forall_mem_cons.mpr ⟨lw_p8, List.forall_mem_cons.mpr ⟨lw_p9, List.forall_mem_cons.mpr ⟨lw_p10, List.forall_mem_cons.mpr ⟨lw_p11, List.forall_mem_cons.mpr ⟨lw_p12, List.forall_mem_cons.mpr ⟨lw_p13, List.forall_mem_cons.mpr ⟨lw_p14, List.forall_mem_cons.mpr ⟨lw_p15, fun _ h => absurd h List.not_mem_nil⟩⟩⟩⟩⟩⟩⟩⟩⟩⟩⟩⟩⟩⟩⟩⟩
theorem lw_p16 : lw_okq (⟨"WeatherHotel$Law", "push", "(I)V"⟩, 12) := ⟨⟨by decide +kernel, by decide +kernel⟩, List.mem_of_getElem? (i := 203) (by decide +kernel), List.mem_of_getElem? (i := 866) (by decide +kernel), List.mem_of_getElem? (i := 867) (by decide +kernel)⟩
theorem lw_p17 : lw_okq (⟨"WeatherHotel$Law", "pop", "()I"⟩, 12) := ⟨⟨by decide +kernel, by decide +kernel⟩, List.mem_of_getElem? (i := 203) (by decide +kernel), List.mem_of_getElem? (i := 870) (by decide +kernel), List.mem_of_getElem? (i := 871) (by decide +kernel)⟩
theorem lw_p18 : lw_okq (⟨"WeatherHotel$Law", "join", "(III)I"⟩, 12) := ⟨⟨by decide +kernel, by decide +kernel⟩, List.mem_of_getElem? (i := 203) (by decide +kernel), List.mem_of_getElem? (i := 875) (by decide +kernel), List.mem_of_getElem? (i := 876) (by decide +kernel)⟩
theorem lw_p19 : lw_okq (⟨"WeatherHotel$Service", "serve", "(II)V"⟩, 15) := ⟨⟨by decide +kernel, by decide +kernel⟩, List.mem_of_getElem? (i := 342) (by decide +kernel), List.mem_of_getElem? (i := 880) (by decide +kernel), List.mem_of_getElem? (i := 881) (by decide +kernel)⟩
theorem lw_p20 : lw_okq (⟨"WeatherHotel$Service", "giveRain", "(II)I"⟩, 15) := ⟨⟨by decide +kernel, by decide +kernel⟩, List.mem_of_getElem? (i := 342) (by decide +kernel), List.mem_of_getElem? (i := 884) (by decide +kernel), List.mem_of_getElem? (i := 885) (by decide +kernel)⟩
theorem lw_p21 : lw_okq (⟨"WeatherHotel$Service", "harmOf", "(III)I"⟩, 15) := ⟨⟨by decide +kernel, by decide +kernel⟩, List.mem_of_getElem? (i := 342) (by decide +kernel), List.mem_of_getElem? (i := 889) (by decide +kernel), List.mem_of_getElem? (i := 890) (by decide +kernel)⟩
theorem lw_p22 : lw_okq (⟨"WeatherHotel", "areStays", "(II)Z"⟩, 13) := ⟨⟨by decide +kernel, by decide +kernel⟩, List.mem_of_getElem? (i := 24) (by decide +kernel), List.mem_of_getElem? (i := 905) (by decide +kernel), List.mem_of_getElem? (i := 906) (by decide +kernel)⟩
theorem lw_p23 : lw_okq (⟨"WeatherHotel$Load", "fitsFrom", "(I)Z"⟩, 10) := ⟨⟨by decide +kernel, by decide +kernel⟩, List.mem_of_getElem? (i := 261) (by decide +kernel), List.mem_of_getElem? (i := 922) (by decide +kernel), List.mem_of_getElem? (i := 923) (by decide +kernel)⟩
theorem lw_p24 : lw_okq (⟨"WeatherHotel$Load", "causeAt", "(III)I"⟩, 10) := ⟨⟨by decide +kernel, by decide +kernel⟩, List.mem_of_getElem? (i := 261) (by decide +kernel), List.mem_of_getElem? (i := 927) (by decide +kernel), List.mem_of_getElem? (i := 928) (by decide +kernel)⟩
theorem lw_p25 : lw_okq (⟨"WeatherHotel$Chooser", "fits", "(I)Z"⟩, 8) := ⟨⟨by decide +kernel, by decide +kernel⟩, List.mem_of_getElem? (i := 306) (by decide +kernel), List.mem_of_getElem? (i := 948) (by decide +kernel), List.mem_of_getElem? (i := 949) (by decide +kernel)⟩
theorem lw_p26 : lw_okq (⟨"WeatherHotel", "roomsOnTape", "(II)I"⟩, 13) := ⟨⟨by decide +kernel, by decide +kernel⟩, List.mem_of_getElem? (i := 24) (by decide +kernel), List.mem_of_getElem? (i := 973) (by decide +kernel), List.mem_of_getElem? (i := 974) (by decide +kernel)⟩
theorem lw_p27 : lw_okq (⟨"WeatherHotel$Mover", "findRoomsFrom", "(II)Z"⟩, 9) := ⟨⟨by decide +kernel, by decide +kernel⟩, List.mem_of_getElem? (i := 400) (by decide +kernel), List.mem_of_getElem? (i := 987) (by decide +kernel), List.mem_of_getElem? (i := 988) (by decide +kernel)⟩
theorem lw_p28 : lw_okq (⟨"WeatherHotel$Mover", "findShiftsFrom", "(II)V"⟩, 9) := ⟨⟨by decide +kernel, by decide +kernel⟩, List.mem_of_getElem? (i := 400) (by decide +kernel), List.mem_of_getElem? (i := 1015) (by decide +kernel), List.mem_of_getElem? (i := 1016) (by decide +kernel)⟩
theorem lw_p29 : lw_okq (⟨"WeatherHotel$Chooser", "tryLarger", "(II)V"⟩, 8) := ⟨⟨by decide +kernel, by decide +kernel⟩, List.mem_of_getElem? (i := 306) (by decide +kernel), List.mem_of_getElem? (i := 1036) (by decide +kernel), List.mem_of_getElem? (i := 1037) (by decide +kernel)⟩
theorem lw_p30 : lw_okq (⟨"WeatherHotel$Chooser", "moreOf", "(I)I"⟩, 8) := ⟨⟨by decide +kernel, by decide +kernel⟩, List.mem_of_getElem? (i := 306) (by decide +kernel), List.mem_of_getElem? (i := 1040) (by decide +kernel), List.mem_of_getElem? (i := 1041) (by decide +kernel)⟩
theorem lw_p31 : lw_okq (⟨"WeatherHotel$Chooser", "plantCostOf", "(I)J"⟩, 8) := ⟨⟨by decide +kernel, by decide +kernel⟩, List.mem_of_getElem? (i := 306) (by decide +kernel), List.mem_of_getElem? (i := 1066) (by decide +kernel), List.mem_of_getElem? (i := 1067) (by decide +kernel)⟩
def lw_privs_2 : List (MethodName × Nat) := [(⟨"WeatherHotel$Law", "push", "(I)V"⟩, 12), (⟨"WeatherHotel$Law", "pop", "()I"⟩, 12), (⟨"WeatherHotel$Law", "join", "(III)I"⟩, 12), (⟨"WeatherHotel$Service", "serve", "(II)V"⟩, 15), (⟨"WeatherHotel$Service", "giveRain", "(II)I"⟩, 15), (⟨"WeatherHotel$Service", "harmOf", "(III)I"⟩, 15), (⟨"WeatherHotel", "areStays", "(II)Z"⟩, 13), (⟨"WeatherHotel$Load", "fitsFrom", "(I)Z"⟩, 10), (⟨"WeatherHotel$Load", "causeAt", "(III)I"⟩, 10), (⟨"WeatherHotel$Chooser", "fits", "(I)Z"⟩, 8), (⟨"WeatherHotel", "roomsOnTape", "(II)I"⟩, 13), (⟨"WeatherHotel$Mover", "findRoomsFrom", "(II)Z"⟩, 9), (⟨"WeatherHotel$Mover", "findShiftsFrom", "(II)V"⟩, 9), (⟨"WeatherHotel$Chooser", "tryLarger", "(II)V"⟩, 8), (⟨"WeatherHotel$Chooser", "moreOf", "(I)I"⟩, 8), (⟨"WeatherHotel$Chooser", "plantCostOf", "(I)J"⟩, 8)]
theorem lw_r2 : ∀ q ∈ lw_privs_2, lw_okq q := List.forall_mem_cons.mpr ⟨lw_p16, List.forall_mem_cons.mpr ⟨lw_p17, List.forall_mem_cons.mpr ⟨lw_p18, List.forall_mem_cons.mpr ⟨lw_p19, List.forall_mem_cons.mpr ⟨lw_p20, List.forall_mem_cons.mpr ⟨lw_p21, List.forall_mem_cons.mpr ⟨lw_p22, List.forall_mem_cons.mpr ⟨lw_p23, List.forall_mem_cons.mpr ⟨lw_p24, List.forall_mem_cons.mpr ⟨lw_p25, List.forall_mem_cons.mpr ⟨lw_p26, List.forall_mem_cons.mpr ⟨lw_p27, List.forall_mem_cons.mpr ⟨lw_p28, List.forall_mem_cons.mpr ⟨lw_p29, List.forall_mem_cons.mpr ⟨lw_p30, List.forall_mem_cons.mpr ⟨lw_p31, fun _ h => absurd h List.not_mem_nil⟩⟩⟩⟩⟩⟩⟩⟩⟩⟩⟩⟩⟩⟩⟩⟩
theorem lw_p32 : lw_okq (⟨"WeatherHotel$Chooser", "reduce", "(JJ)V"⟩, 8) := ⟨⟨by decide +kernel, by decide +kernel⟩, List.mem_of_getElem? (i := 306) (by decide +kernel), List.mem_of_getElem? (i := 1071) (by decide +kernel), List.mem_of_getElem? (i := 1072) (by decide +kernel)⟩
theorem lw_p33 : lw_okq (⟨"WeatherHotel$Service", "readRainTops", "(I)V"⟩, 15) := ⟨⟨by decide +kernel, by decide +kernel⟩, List.mem_of_getElem? (i := 342) (by decide +kernel), List.mem_of_getElem? (i := 1083) (by decide +kernel), List.mem_of_getElem? (i := 1084) (by decide +kernel)⟩
theorem lw_p34 : lw_okq (⟨"WeatherHotel$Service", "chooseNext", "(II)V"⟩, 15) := ⟨⟨by decide +kernel, by decide +kernel⟩, List.mem_of_getElem? (i := 342) (by decide +kernel), List.mem_of_getElem? (i := 1094) (by decide +kernel), List.mem_of_getElem? (i := 1095) (by decide +kernel)⟩
theorem lw_p35 : lw_okq (⟨"WeatherHotel$Service", "harmBehind", "(I)I"⟩, 15) := ⟨⟨by decide +kernel, by decide +kernel⟩, List.mem_of_getElem? (i := 342) (by decide +kernel), List.mem_of_getElem? (i := 1099) (by decide +kernel), List.mem_of_getElem? (i := 1100) (by decide +kernel)⟩
theorem lw_p36 : lw_okq (⟨"WeatherHotel$Service", "rainLeft", "(II)I"⟩, 15) := ⟨⟨by decide +kernel, by decide +kernel⟩, List.mem_of_getElem? (i := 342) (by decide +kernel), List.mem_of_getElem? (i := 1103) (by decide +kernel), List.mem_of_getElem? (i := 1104) (by decide +kernel)⟩
theorem lw_p37 : lw_okq (⟨"WeatherHotel$Days", "fillRow", "(III)V"⟩, 9) := ⟨⟨by decide +kernel, by decide +kernel⟩, List.mem_of_getElem? (i := 74) (by decide +kernel), List.mem_of_getElem? (i := 1125) (by decide +kernel), List.mem_of_getElem? (i := 1126) (by decide +kernel)⟩
theorem lw_p38 : lw_okq (⟨"WeatherHotel$Days", "isRestGone", "()Z"⟩, 9) := ⟨⟨by decide +kernel, by decide +kernel⟩, List.mem_of_getElem? (i := 74) (by decide +kernel), List.mem_of_getElem? (i := 1129) (by decide +kernel), List.mem_of_getElem? (i := 1130) (by decide +kernel)⟩
theorem lw_p39 : lw_okq (⟨"WeatherHotel$Days", "noteRow", "(I)V"⟩, 9) := ⟨⟨by decide +kernel, by decide +kernel⟩, List.mem_of_getElem? (i := 74) (by decide +kernel), List.mem_of_getElem? (i := 1133) (by decide +kernel), List.mem_of_getElem? (i := 1134) (by decide +kernel)⟩
theorem lw_p40 : lw_okq (⟨"WeatherHotel$Days", "isWithinRest", "(I)Z"⟩, 9) := ⟨⟨by decide +kernel, by decide +kernel⟩, List.mem_of_getElem? (i := 74) (by decide +kernel), List.mem_of_getElem? (i := 1138) (by decide +kernel), List.mem_of_getElem? (i := 1139) (by decide +kernel)⟩
theorem lw_p41 : lw_okq (⟨"WeatherHotel$Days", "changeRest", "(II)V"⟩, 9) := ⟨⟨by decide +kernel, by decide +kernel⟩, List.mem_of_getElem? (i := 74) (by decide +kernel), List.mem_of_getElem? (i := 1142) (by decide +kernel), List.mem_of_getElem? (i := 1143) (by decide +kernel)⟩
theorem lw_p42 : lw_okq (⟨"WeatherHotel", "drawOne", "()V"⟩, 13) := ⟨⟨by decide +kernel, by decide +kernel⟩, List.mem_of_getElem? (i := 24) (by decide +kernel), List.mem_of_getElem? (i := 1155) (by decide +kernel), List.mem_of_getElem? (i := 1156) (by decide +kernel)⟩
theorem lw_p43 : lw_okq (⟨"WeatherHotel", "countOfOne", "(I)I"⟩, 13) := ⟨⟨by decide +kernel, by decide +kernel⟩, List.mem_of_getElem? (i := 24) (by decide +kernel), List.mem_of_getElem? (i := 1186) (by decide +kernel), List.mem_of_getElem? (i := 1187) (by decide +kernel)⟩
theorem lw_p44 : lw_okq (⟨"WeatherHotelModel", "types", "(I)V"⟩, 68) := ⟨⟨by decide +kernel, by decide +kernel⟩, List.mem_of_getElem? (i := 1190) (by decide +kernel), List.mem_of_getElem? (i := 1405) (by decide +kernel), List.mem_of_getElem? (i := 1406) (by decide +kernel)⟩
theorem lw_p45 : lw_okq (⟨"WeatherHotelModel", "readsPart", "(I)Z"⟩, 68) := ⟨⟨by decide +kernel, by decide +kernel⟩, List.mem_of_getElem? (i := 1190) (by decide +kernel), List.mem_of_getElem? (i := 1416) (by decide +kernel), List.mem_of_getElem? (i := 1417) (by decide +kernel)⟩
theorem lw_p46 : lw_okq (⟨"WeatherHotelModel", "here", "()I"⟩, 68) := ⟨⟨by decide +kernel, by decide +kernel⟩, List.mem_of_getElem? (i := 1190) (by decide +kernel), List.mem_of_getElem? (i := 1420) (by decide +kernel), List.mem_of_getElem? (i := 1421) (by decide +kernel)⟩
theorem lw_p47 : lw_okq (⟨"WeatherHotelModel", "wrongAt", "(II)Z"⟩, 68) := ⟨⟨by decide +kernel, by decide +kernel⟩, List.mem_of_getElem? (i := 1190) (by decide +kernel), List.mem_of_getElem? (i := 1424) (by decide +kernel), List.mem_of_getElem? (i := 1425) (by decide +kernel)⟩
def lw_privs_3 : List (MethodName × Nat) := [(⟨"WeatherHotel$Chooser", "reduce", "(JJ)V"⟩, 8), (⟨"WeatherHotel$Service", "readRainTops", "(I)V"⟩, 15), (⟨"WeatherHotel$Service", "chooseNext", "(II)V"⟩, 15), (⟨"WeatherHotel$Service", "harmBehind", "(I)I"⟩, 15), (⟨"WeatherHotel$Service", "rainLeft", "(II)I"⟩, 15), (⟨"WeatherHotel$Days", "fillRow", "(III)V"⟩, 9), (⟨"WeatherHotel$Days", "isRestGone", "()Z"⟩, 9), (⟨"WeatherHotel$Days", "noteRow", "(I)V"⟩, 9), (⟨"WeatherHotel$Days", "isWithinRest", "(I)Z"⟩, 9), (⟨"WeatherHotel$Days", "changeRest", "(II)V"⟩, 9), (⟨"WeatherHotel", "drawOne", "()V"⟩, 13), (⟨"WeatherHotel", "countOfOne", "(I)I"⟩, 13), (⟨"WeatherHotelModel", "types", "(I)V"⟩, 68), (⟨"WeatherHotelModel", "readsPart", "(I)Z"⟩, 68), (⟨"WeatherHotelModel", "here", "()I"⟩, 68), (⟨"WeatherHotelModel", "wrongAt", "(II)Z"⟩, 68)]
theorem lw_r3 : ∀ q ∈ lw_privs_3, lw_okq q := List.forall_mem_cons.mpr ⟨lw_p32, List.forall_mem_cons.mpr ⟨lw_p33, List.forall_mem_cons.mpr ⟨lw_p34, List.forall_mem_cons.mpr ⟨lw_p35, List.forall_mem_cons.mpr ⟨lw_p36, List.forall_mem_cons.mpr ⟨lw_p37, List.forall_mem_cons.mpr ⟨lw_p38, List.forall_mem_cons.mpr ⟨lw_p39, List.forall_mem_cons.mpr ⟨lw_p40, List.forall_mem_cons.mpr ⟨lw_p41, List.forall_mem_cons.mpr ⟨lw_p42, List.forall_mem_cons.mpr ⟨lw_p43, List.forall_mem_cons.mpr ⟨lw_p44, List.forall_mem_cons.mpr ⟨lw_p45, List.forall_mem_cons.mpr ⟨lw_p46, List.forall_mem_cons.mpr ⟨lw_p47, fun _ h => absurd h List.not_mem_nil⟩⟩⟩⟩⟩⟩⟩⟩⟩⟩⟩⟩⟩⟩⟩⟩
theorem lw_p48 : lw_okq (⟨"WeatherHotelModel", "readsTwo", "()Z"⟩, 68) := ⟨⟨by decide +kernel, by decide +kernel⟩, List.mem_of_getElem? (i := 1190) (by decide +kernel), List.mem_of_getElem? (i := 1428) (by decide +kernel), List.mem_of_getElem? (i := 1429) (by decide +kernel)⟩
theorem lw_p49 : lw_okq (⟨"WeatherHotelModel", "isDigit", "()Z"⟩, 68) := ⟨⟨by decide +kernel, by decide +kernel⟩, List.mem_of_getElem? (i := 1190) (by decide +kernel), List.mem_of_getElem? (i := 1432) (by decide +kernel), List.mem_of_getElem? (i := 1433) (by decide +kernel)⟩
theorem lw_p50 : lw_okq (⟨"WeatherHotelModel", "takes", "(I)Z"⟩, 68) := ⟨⟨by decide +kernel, by decide +kernel⟩, List.mem_of_getElem? (i := 1190) (by decide +kernel), List.mem_of_getElem? (i := 1436) (by decide +kernel), List.mem_of_getElem? (i := 1437) (by decide +kernel)⟩
theorem lw_p51 : lw_okq (⟨"WeatherHotelModel", "readsHour", "(II)Z"⟩, 68) := ⟨⟨by decide +kernel, by decide +kernel⟩, List.mem_of_getElem? (i := 1190) (by decide +kernel), List.mem_of_getElem? (i := 1440) (by decide +kernel), List.mem_of_getElem? (i := 1441) (by decide +kernel)⟩
theorem lw_p52 : lw_okq (⟨"WeatherHotelModel", "isDay", "(I)Z"⟩, 68) := ⟨⟨by decide +kernel, by decide +kernel⟩, List.mem_of_getElem? (i := 1190) (by decide +kernel), List.mem_of_getElem? (i := 1451) (by decide +kernel), List.mem_of_getElem? (i := 1452) (by decide +kernel)⟩
theorem lw_p53 : lw_okq (⟨"WeatherHotelModel", "isRoom", "(I)Z"⟩, 68) := ⟨⟨by decide +kernel, by decide +kernel⟩, List.mem_of_getElem? (i := 1190) (by decide +kernel), List.mem_of_getElem? (i := 1484) (by decide +kernel), List.mem_of_getElem? (i := 1485) (by decide +kernel)⟩
theorem lw_p54 : lw_okq (⟨"WeatherHotelModel", "stayIn", "(I)I"⟩, 68) := ⟨⟨by decide +kernel, by decide +kernel⟩, List.mem_of_getElem? (i := 1190) (by decide +kernel), List.mem_of_getElem? (i := 1488) (by decide +kernel), List.mem_of_getElem? (i := 1489) (by decide +kernel)⟩
theorem lw_p55 : lw_okq (⟨"WeatherHotelModel", "isStay", "(I)Z"⟩, 68) := ⟨⟨by decide +kernel, by decide +kernel⟩, List.mem_of_getElem? (i := 1190) (by decide +kernel), List.mem_of_getElem? (i := 1492) (by decide +kernel), List.mem_of_getElem? (i := 1493) (by decide +kernel)⟩
theorem lw_p56 : lw_okq (⟨"WeatherHotelModel", "wantAll", "(III)I"⟩, 68) := ⟨⟨by decide +kernel, by decide +kernel⟩, List.mem_of_getElem? (i := 1190) (by decide +kernel), List.mem_of_getElem? (i := 1508) (by decide +kernel), List.mem_of_getElem? (i := 1509) (by decide +kernel)⟩
theorem lw_p57 : lw_okq (⟨"WeatherHotelModel", "wantOf", "(III)I"⟩, 68) := ⟨⟨by decide +kernel, by decide +kernel⟩, List.mem_of_getElem? (i := 1190) (by decide +kernel), List.mem_of_getElem? (i := 1512) (by decide +kernel), List.mem_of_getElem? (i := 1513) (by decide +kernel)⟩
theorem lw_p58 : lw_okq (⟨"WeatherHotelModel", "readsClause", "()Z"⟩, 68) := ⟨⟨by decide +kernel, by decide +kernel⟩, List.mem_of_getElem? (i := 1190) (by decide +kernel), List.mem_of_getElem? (i := 1520) (by decide +kernel), List.mem_of_getElem? (i := 1521) (by decide +kernel)⟩
theorem lw_p59 : lw_okq (⟨"WeatherHotelModel", "readsSum", "()Z"⟩, 68) := ⟨⟨by decide +kernel, by decide +kernel⟩, List.mem_of_getElem? (i := 1190) (by decide +kernel), List.mem_of_getElem? (i := 1524) (by decide +kernel), List.mem_of_getElem? (i := 1525) (by decide +kernel)⟩
theorem lw_p60 : lw_okq (⟨"WeatherHotelModel", "readsFactor", "()Z"⟩, 68) := ⟨⟨by decide +kernel, by decide +kernel⟩, List.mem_of_getElem? (i := 1190) (by decide +kernel), List.mem_of_getElem? (i := 1528) (by decide +kernel), List.mem_of_getElem? (i := 1529) (by decide +kernel)⟩
theorem lw_p61 : lw_okq (⟨"WeatherHotelModel", "opens", "(I)Z"⟩, 68) := ⟨⟨by decide +kernel, by decide +kernel⟩, List.mem_of_getElem? (i := 1190) (by decide +kernel), List.mem_of_getElem? (i := 1532) (by decide +kernel), List.mem_of_getElem? (i := 1533) (by decide +kernel)⟩
theorem lw_p62 : lw_okq (⟨"WeatherHotelModel", "readsNumber", "()Z"⟩, 68) := ⟨⟨by decide +kernel, by decide +kernel⟩, List.mem_of_getElem? (i := 1190) (by decide +kernel), List.mem_of_getElem? (i := 1537) (by decide +kernel), List.mem_of_getElem? (i := 1538) (by decide +kernel)⟩
theorem lw_p63 : lw_okq (⟨"WeatherHotelModel", "notes", "(II)V"⟩, 68) := ⟨⟨by decide +kernel, by decide +kernel⟩, List.mem_of_getElem? (i := 1190) (by decide +kernel), List.mem_of_getElem? (i := 1541) (by decide +kernel), List.mem_of_getElem? (i := 1542) (by decide +kernel)⟩
def lw_privs_4 : List (MethodName × Nat) := [(⟨"WeatherHotelModel", "readsTwo", "()Z"⟩, 68), (⟨"WeatherHotelModel", "isDigit", "()Z"⟩, 68), (⟨"WeatherHotelModel", "takes", "(I)Z"⟩, 68), (⟨"WeatherHotelModel", "readsHour", "(II)Z"⟩, 68), (⟨"WeatherHotelModel", "isDay", "(I)Z"⟩, 68), (⟨"WeatherHotelModel", "isRoom", "(I)Z"⟩, 68), (⟨"WeatherHotelModel", "stayIn", "(I)I"⟩, 68), (⟨"WeatherHotelModel", "isStay", "(I)Z"⟩, 68), (⟨"WeatherHotelModel", "wantAll", "(III)I"⟩, 68), (⟨"WeatherHotelModel", "wantOf", "(III)I"⟩, 68), (⟨"WeatherHotelModel", "readsClause", "()Z"⟩, 68), (⟨"WeatherHotelModel", "readsSum", "()Z"⟩, 68), (⟨"WeatherHotelModel", "readsFactor", "()Z"⟩, 68), (⟨"WeatherHotelModel", "opens", "(I)Z"⟩, 68), (⟨"WeatherHotelModel", "readsNumber", "()Z"⟩, 68), (⟨"WeatherHotelModel", "notes", "(II)V"⟩, 68)]
theorem lw_r4 : ∀ q ∈ lw_privs_4, lw_okq q := List.forall_mem_cons.mpr ⟨lw_p48, List.forall_mem_cons.mpr ⟨lw_p49, List.forall_mem_cons.mpr ⟨lw_p50, List.forall_mem_cons.mpr ⟨lw_p51, List.forall_mem_cons.mpr ⟨lw_p52, List.forall_mem_cons.mpr ⟨lw_p53, List.forall_mem_cons.mpr ⟨lw_p54, List.forall_mem_cons.mpr ⟨lw_p55, List.forall_mem_cons.mpr ⟨lw_p56, List.forall_mem_cons.mpr ⟨lw_p57, List.forall_mem_cons.mpr ⟨lw_p58, List.forall_mem_cons.mpr ⟨lw_p59, List.forall_mem_cons.mpr ⟨lw_p60, List.forall_mem_cons.mpr ⟨lw_p61, List.forall_mem_cons.mpr ⟨lw_p62, List.forall_mem_cons.mpr ⟨lw_p63, fun _ h => absurd h List.not_mem_nil⟩⟩⟩⟩⟩⟩⟩⟩⟩⟩⟩⟩⟩⟩⟩⟩
theorem lw_p64 : lw_okq (⟨"WeatherHotelModel", "closesSums", "(Z)V"⟩, 68) := ⟨⟨by decide +kernel, by decide +kernel⟩, List.mem_of_getElem? (i := 1190) (by decide +kernel), List.mem_of_getElem? (i := 1551) (by decide +kernel), List.mem_of_getElem? (i := 1552) (by decide +kernel)⟩
theorem lw_p65 : lw_okq (⟨"WeatherHotelModel", "top", "()I"⟩, 68) := ⟨⟨by decide +kernel, by decide +kernel⟩, List.mem_of_getElem? (i := 1190) (by decide +kernel), List.mem_of_getElem? (i := 1555) (by decide +kernel), List.mem_of_getElem? (i := 1556) (by decide +kernel)⟩
theorem lw_p66 : lw_okq (⟨"WeatherHotelModel", "hasOpenSum", "(I)Z"⟩, 68) := ⟨⟨by decide +kernel, by decide +kernel⟩, List.mem_of_getElem? (i := 1190) (by decide +kernel), List.mem_of_getElem? (i := 1559) (by decide +kernel), List.mem_of_getElem? (i := 1560) (by decide +kernel)⟩
theorem lw_p67 : lw_okq (⟨"WeatherHotelModel", "readsCondition", "()Z"⟩, 68) := ⟨⟨by decide +kernel, by decide +kernel⟩, List.mem_of_getElem? (i := 1190) (by decide +kernel), List.mem_of_getElem? (i := 1563) (by decide +kernel), List.mem_of_getElem? (i := 1564) (by decide +kernel)⟩
theorem lw_p68 : lw_okq (⟨"WeatherHotelModel", "readsCompared", "()Z"⟩, 68) := ⟨⟨by decide +kernel, by decide +kernel⟩, List.mem_of_getElem? (i := 1190) (by decide +kernel), List.mem_of_getElem? (i := 1567) (by decide +kernel), List.mem_of_getElem? (i := 1568) (by decide +kernel)⟩
theorem lw_p69 : lw_okq (⟨"WeatherHotelModel", "endsPiece", "()V"⟩, 68) := ⟨⟨by decide +kernel, by decide +kernel⟩, List.mem_of_getElem? (i := 1190) (by decide +kernel), List.mem_of_getElem? (i := 1571) (by decide +kernel), List.mem_of_getElem? (i := 1572) (by decide +kernel)⟩
theorem lw_p70 : lw_okq (⟨"WeatherHotelModel", "lands", "(Z)V"⟩, 68) := ⟨⟨by decide +kernel, by decide +kernel⟩, List.mem_of_getElem? (i := 1190) (by decide +kernel), List.mem_of_getElem? (i := 1575) (by decide +kernel), List.mem_of_getElem? (i := 1576) (by decide +kernel)⟩
theorem lw_p71 : lw_okq (⟨"WeatherHotelModel", "jumps", "(I)V"⟩, 68) := ⟨⟨by decide +kernel, by decide +kernel⟩, List.mem_of_getElem? (i := 1190) (by decide +kernel), List.mem_of_getElem? (i := 1579) (by decide +kernel), List.mem_of_getElem? (i := 1580) (by decide +kernel)⟩
theorem lw_p72 : lw_okq (⟨"WeatherHotelModel", "serves", "()V"⟩, 68) := ⟨⟨by decide +kernel, by decide +kernel⟩, List.mem_of_getElem? (i := 1190) (by decide +kernel), List.mem_of_getElem? (i := 1587) (by decide +kernel), List.mem_of_getElem? (i := 1588) (by decide +kernel)⟩
theorem lw_p73 : lw_okq (⟨"WeatherHotelModel", "startsDay", "()V"⟩, 68) := ⟨⟨by decide +kernel, by decide +kernel⟩, List.mem_of_getElem? (i := 1190) (by decide +kernel), List.mem_of_getElem? (i := 1591) (by decide +kernel), List.mem_of_getElem? (i := 1592) (by decide +kernel)⟩
theorem lw_p74 : lw_okq (⟨"WeatherHotelModel", "laysOrder", "(I)V"⟩, 68) := ⟨⟨by decide +kernel, by decide +kernel⟩, List.mem_of_getElem? (i := 1190) (by decide +kernel), List.mem_of_getElem? (i := 1595) (by decide +kernel), List.mem_of_getElem? (i := 1596) (by decide +kernel)⟩
theorem lw_p75 : lw_okq (⟨"WeatherHotelModel", "soonOf", "(II)I"⟩, 68) := ⟨⟨by decide +kernel, by decide +kernel⟩, List.mem_of_getElem? (i := 1190) (by decide +kernel), List.mem_of_getElem? (i := 1599) (by decide +kernel), List.mem_of_getElem? (i := 1600) (by decide +kernel)⟩
theorem lw_p76 : lw_okq (⟨"WeatherHotelModel", "feels", "(IIIII)V"⟩, 68) := ⟨⟨by decide +kernel, by decide +kernel⟩, List.mem_of_getElem? (i := 1190) (by decide +kernel), List.mem_of_getElem? (i := 1603) (by decide +kernel), List.mem_of_getElem? (i := 1604) (by decide +kernel)⟩
theorem lw_p77 : lw_okq (⟨"WeatherHotelModel", "byLaw", "(III)I"⟩, 68) := ⟨⟨by decide +kernel, by decide +kernel⟩, List.mem_of_getElem? (i := 1190) (by decide +kernel), List.mem_of_getElem? (i := 1607) (by decide +kernel), List.mem_of_getElem? (i := 1608) (by decide +kernel)⟩
theorem lw_p78 : lw_okq (⟨"WeatherHotelModel", "comesTo", "(II)I"⟩, 68) := ⟨⟨by decide +kernel, by decide +kernel⟩, List.mem_of_getElem? (i := 1190) (by decide +kernel), List.mem_of_getElem? (i := 1611) (by decide +kernel), List.mem_of_getElem? (i := 1612) (by decide +kernel)⟩
theorem lw_p79 : lw_okq (⟨"WeatherHotelModel", "servesHour", "(I)V"⟩, 68) := ⟨⟨by decide +kernel, by decide +kernel⟩, List.mem_of_getElem? (i := 1190) (by decide +kernel), List.mem_of_getElem? (i := 1618) (by decide +kernel), List.mem_of_getElem? (i := 1619) (by decide +kernel)⟩
def lw_privs_5 : List (MethodName × Nat) := [(⟨"WeatherHotelModel", "closesSums", "(Z)V"⟩, 68), (⟨"WeatherHotelModel", "top", "()I"⟩, 68), (⟨"WeatherHotelModel", "hasOpenSum", "(I)Z"⟩, 68), (⟨"WeatherHotelModel", "readsCondition", "()Z"⟩, 68), (⟨"WeatherHotelModel", "readsCompared", "()Z"⟩, 68), (⟨"WeatherHotelModel", "endsPiece", "()V"⟩, 68), (⟨"WeatherHotelModel", "lands", "(Z)V"⟩, 68), (⟨"WeatherHotelModel", "jumps", "(I)V"⟩, 68), (⟨"WeatherHotelModel", "serves", "()V"⟩, 68), (⟨"WeatherHotelModel", "startsDay", "()V"⟩, 68), (⟨"WeatherHotelModel", "laysOrder", "(I)V"⟩, 68), (⟨"WeatherHotelModel", "soonOf", "(II)I"⟩, 68), (⟨"WeatherHotelModel", "feels", "(IIIII)V"⟩, 68), (⟨"WeatherHotelModel", "byLaw", "(III)I"⟩, 68), (⟨"WeatherHotelModel", "comesTo", "(II)I"⟩, 68), (⟨"WeatherHotelModel", "servesHour", "(I)V"⟩, 68)]
theorem lw_r5 : ∀ q ∈ lw_privs_5, lw_okq q := List.forall_mem_cons.mpr ⟨lw_p64, List.forall_mem_cons.mpr ⟨lw_p65, List.forall_mem_cons.mpr ⟨lw_p66, List.forall_mem_cons.mpr ⟨lw_p67, List.forall_mem_cons.mpr ⟨lw_p68, List.forall_mem_cons.mpr ⟨lw_p69, List.forall_mem_cons.mpr ⟨lw_p70, List.forall_mem_cons.mpr ⟨lw_p71, List.forall_mem_cons.mpr ⟨lw_p72, List.forall_mem_cons.mpr ⟨lw_p73, List.forall_mem_cons.mpr ⟨lw_p74, List.forall_mem_cons.mpr ⟨lw_p75, List.forall_mem_cons.mpr ⟨lw_p76, List.forall_mem_cons.mpr ⟨lw_p77, List.forall_mem_cons.mpr ⟨lw_p78, List.forall_mem_cons.mpr ⟨lw_p79, fun _ h => absurd h List.not_mem_nil⟩⟩⟩⟩⟩⟩⟩⟩⟩⟩⟩⟩⟩⟩⟩⟩
theorem lw_p80 : lw_okq (⟨"WeatherHotelModel", "gives", "(III)V"⟩, 68) := ⟨⟨by decide +kernel, by decide +kernel⟩, List.mem_of_getElem? (i := 1190) (by decide +kernel), List.mem_of_getElem? (i := 1622) (by decide +kernel), List.mem_of_getElem? (i := 1623) (by decide +kernel)⟩
theorem lw_p81 : lw_okq (⟨"WeatherHotelModel", "areStays", "(I)Z"⟩, 68) := ⟨⟨by decide +kernel, by decide +kernel⟩, List.mem_of_getElem? (i := 1190) (by decide +kernel), List.mem_of_getElem? (i := 1634) (by decide +kernel), List.mem_of_getElem? (i := 1635) (by decide +kernel)⟩
theorem lw_p82 : lw_okq (⟨"WeatherHotelModel", "canBe", "(IZ)Z"⟩, 68) := ⟨⟨by decide +kernel, by decide +kernel⟩, List.mem_of_getElem? (i := 1190) (by decide +kernel), List.mem_of_getElem? (i := 1638) (by decide +kernel), List.mem_of_getElem? (i := 1639) (by decide +kernel)⟩
theorem lw_p83 : lw_okq (⟨"WeatherHotelModel", "whyNot", "(IIIZ)I"⟩, 68) := ⟨⟨by decide +kernel, by decide +kernel⟩, List.mem_of_getElem? (i := 1190) (by decide +kernel), List.mem_of_getElem? (i := 1642) (by decide +kernel), List.mem_of_getElem? (i := 1643) (by decide +kernel)⟩
theorem lw_p84 : lw_okq (⟨"WeatherHotelModel", "rainOf", "(III)I"⟩, 68) := ⟨⟨by decide +kernel, by decide +kernel⟩, List.mem_of_getElem? (i := 1190) (by decide +kernel), List.mem_of_getElem? (i := 1646) (by decide +kernel), List.mem_of_getElem? (i := 1647) (by decide +kernel)⟩
theorem lw_p85 : lw_okq (⟨"WeatherHotelModel", "bestOf", "(I)I"⟩, 68) := ⟨⟨by decide +kernel, by decide +kernel⟩, List.mem_of_getElem? (i := 1190) (by decide +kernel), List.mem_of_getElem? (i := 1654) (by decide +kernel), List.mem_of_getElem? (i := 1655) (by decide +kernel)⟩
theorem lw_p86 : lw_okq (⟨"WeatherHotelModel", "pricesOf", "(I)I"⟩, 68) := ⟨⟨by decide +kernel, by decide +kernel⟩, List.mem_of_getElem? (i := 1190) (by decide +kernel), List.mem_of_getElem? (i := 1658) (by decide +kernel), List.mem_of_getElem? (i := 1659) (by decide +kernel)⟩
theorem lw_p87 : lw_okq (⟨"WeatherHotelModel", "takesRooms", "(II)Z"⟩, 68) := ⟨⟨by decide +kernel, by decide +kernel⟩, List.mem_of_getElem? (i := 1190) (by decide +kernel), List.mem_of_getElem? (i := 1681) (by decide +kernel), List.mem_of_getElem? (i := 1682) (by decide +kernel)⟩
theorem lw_p88 : lw_okq (⟨"WeatherHotelModel", "laysWho", "(I)V"⟩, 68) := ⟨⟨by decide +kernel, by decide +kernel⟩, List.mem_of_getElem? (i := 1190) (by decide +kernel), List.mem_of_getElem? (i := 1685) (by decide +kernel), List.mem_of_getElem? (i := 1686) (by decide +kernel)⟩
theorem lw_p89 : lw_okq (⟨"WeatherHotelModel", "firstRooms", "()I"⟩, 68) := ⟨⟨by decide +kernel, by decide +kernel⟩, List.mem_of_getElem? (i := 1190) (by decide +kernel), List.mem_of_getElem? (i := 1689) (by decide +kernel), List.mem_of_getElem? (i := 1690) (by decide +kernel)⟩
theorem lw_p90 : lw_okq (⟨"WeatherHotelModel", "ordersBy", "(III)V"⟩, 68) := ⟨⟨by decide +kernel, by decide +kernel⟩, List.mem_of_getElem? (i := 1190) (by decide +kernel), List.mem_of_getElem? (i := 1696) (by decide +kernel), List.mem_of_getElem? (i := 1697) (by decide +kernel)⟩
theorem lw_p91 : lw_okq (⟨"WeatherHotelModel", "shiftsBy", "(II)I"⟩, 68) := ⟨⟨by decide +kernel, by decide +kernel⟩, List.mem_of_getElem? (i := 1190) (by decide +kernel), List.mem_of_getElem? (i := 1704) (by decide +kernel), List.mem_of_getElem? (i := 1705) (by decide +kernel)⟩
theorem lw_p92 : lw_okq (⟨"WeatherHotelModel", "brings", "(I)I"⟩, 68) := ⟨⟨by decide +kernel, by decide +kernel⟩, List.mem_of_getElem? (i := 1190) (by decide +kernel), List.mem_of_getElem? (i := 1715) (by decide +kernel), List.mem_of_getElem? (i := 1716) (by decide +kernel)⟩
theorem lw_p93 : lw_okq (⟨"WeatherHotelModel", "moreOf", "(II)I"⟩, 68) := ⟨⟨by decide +kernel, by decide +kernel⟩, List.mem_of_getElem? (i := 1190) (by decide +kernel), List.mem_of_getElem? (i := 1719) (by decide +kernel), List.mem_of_getElem? (i := 1720) (by decide +kernel)⟩
theorem lw_p94 : lw_okq (⟨"WeatherHotelModel", "mostWanted", "(II)I"⟩, 68) := ⟨⟨by decide +kernel, by decide +kernel⟩, List.mem_of_getElem? (i := 1190) (by decide +kernel), List.mem_of_getElem? (i := 1723) (by decide +kernel), List.mem_of_getElem? (i := 1724) (by decide +kernel)⟩
theorem lw_p95 : lw_okq (⟨"WeatherHotelModel", "plantCost", "(I)I"⟩, 68) := ⟨⟨by decide +kernel, by decide +kernel⟩, List.mem_of_getElem? (i := 1190) (by decide +kernel), List.mem_of_getElem? (i := 1735) (by decide +kernel), List.mem_of_getElem? (i := 1736) (by decide +kernel)⟩
def lw_privs_6 : List (MethodName × Nat) := [(⟨"WeatherHotelModel", "gives", "(III)V"⟩, 68), (⟨"WeatherHotelModel", "areStays", "(I)Z"⟩, 68), (⟨"WeatherHotelModel", "canBe", "(IZ)Z"⟩, 68), (⟨"WeatherHotelModel", "whyNot", "(IIIZ)I"⟩, 68), (⟨"WeatherHotelModel", "rainOf", "(III)I"⟩, 68), (⟨"WeatherHotelModel", "bestOf", "(I)I"⟩, 68), (⟨"WeatherHotelModel", "pricesOf", "(I)I"⟩, 68), (⟨"WeatherHotelModel", "takesRooms", "(II)Z"⟩, 68), (⟨"WeatherHotelModel", "laysWho", "(I)V"⟩, 68), (⟨"WeatherHotelModel", "firstRooms", "()I"⟩, 68), (⟨"WeatherHotelModel", "ordersBy", "(III)V"⟩, 68), (⟨"WeatherHotelModel", "shiftsBy", "(II)I"⟩, 68), (⟨"WeatherHotelModel", "brings", "(I)I"⟩, 68), (⟨"WeatherHotelModel", "moreOf", "(II)I"⟩, 68), (⟨"WeatherHotelModel", "mostWanted", "(II)I"⟩, 68), (⟨"WeatherHotelModel", "plantCost", "(I)I"⟩, 68)]
theorem lw_r6 : ∀ q ∈ lw_privs_6, lw_okq q := List.forall_mem_cons.mpr ⟨lw_p80, List.forall_mem_cons.mpr ⟨lw_p81, List.forall_mem_cons.mpr ⟨lw_p82, List.forall_mem_cons.mpr ⟨lw_p83, List.forall_mem_cons.mpr ⟨lw_p84, List.forall_mem_cons.mpr ⟨lw_p85, List.forall_mem_cons.mpr ⟨lw_p86, List.forall_mem_cons.mpr ⟨lw_p87, List.forall_mem_cons.mpr ⟨lw_p88, List.forall_mem_cons.mpr ⟨lw_p89, List.forall_mem_cons.mpr ⟨lw_p90, List.forall_mem_cons.mpr ⟨lw_p91, List.forall_mem_cons.mpr ⟨lw_p92, List.forall_mem_cons.mpr ⟨lw_p93, List.forall_mem_cons.mpr ⟨lw_p94, List.forall_mem_cons.mpr ⟨lw_p95, fun _ h => absurd h List.not_mem_nil⟩⟩⟩⟩⟩⟩⟩⟩⟩⟩⟩⟩⟩⟩⟩⟩
theorem lw_p96 : lw_okq (⟨"WeatherHotelModel", "harmBy", "(II)I"⟩, 68) := ⟨⟨by decide +kernel, by decide +kernel⟩, List.mem_of_getElem? (i := 1190) (by decide +kernel), List.mem_of_getElem? (i := 1747) (by decide +kernel), List.mem_of_getElem? (i := 1748) (by decide +kernel)⟩
theorem lw_p97 : lw_okq (⟨"WeatherHotelModel", "isMeterRow", "(II)Z"⟩, 68) := ⟨⟨by decide +kernel, by decide +kernel⟩, List.mem_of_getElem? (i := 1190) (by decide +kernel), List.mem_of_getElem? (i := 1755) (by decide +kernel), List.mem_of_getElem? (i := 1756) (by decide +kernel)⟩
theorem lw_p98 : lw_okq (⟨"WeatherHotelModel", "comesToMeter", "(I)Z"⟩, 68) := ⟨⟨by decide +kernel, by decide +kernel⟩, List.mem_of_getElem? (i := 1190) (by decide +kernel), List.mem_of_getElem? (i := 1759) (by decide +kernel), List.mem_of_getElem? (i := 1760) (by decide +kernel)⟩
theorem lw_p99 : lw_okq (⟨"WeatherHotelModel", "tapeNumber", "(I)I"⟩, 68) := ⟨⟨by decide +kernel, by decide +kernel⟩, List.mem_of_getElem? (i := 1190) (by decide +kernel), List.mem_of_getElem? (i := 1788) (by decide +kernel), List.mem_of_getElem? (i := 1789) (by decide +kernel)⟩
def lw_privs_7 : List (MethodName × Nat) := [(⟨"WeatherHotelModel", "harmBy", "(II)I"⟩, 68), (⟨"WeatherHotelModel", "isMeterRow", "(II)Z"⟩, 68), (⟨"WeatherHotelModel", "comesToMeter", "(I)Z"⟩, 68), (⟨"WeatherHotelModel", "tapeNumber", "(I)I"⟩, 68)]
theorem lw_r7 : ∀ q ∈ lw_privs_7, lw_okq q := List.forall_mem_cons.mpr ⟨lw_p96, List.forall_mem_cons.mpr ⟨lw_p97, List.forall_mem_cons.mpr ⟨lw_p98, List.forall_mem_cons.mpr ⟨lw_p99, fun _ h => absurd h List.not_mem_nil⟩⟩⟩⟩
def lw_privs : List (MethodName × Nat) := lw_privs_1 ++ (lw_privs_2 ++ (lw_privs_3 ++ (lw_privs_4 ++ (lw_privs_5 ++ (lw_privs_6 ++ (lw_privs_7))))))
def lw_tbl : List Cond := k2_sels lw_privs ++ tables_1
theorem lw_privs_ok : ∀ q ∈ lw_privs, lw_okq q := by
  show ∀ q ∈ lw_privs_1 ++ (lw_privs_2 ++ (lw_privs_3 ++ (lw_privs_4 ++ (lw_privs_5 ++ (lw_privs_6 ++ (lw_privs_7)))))), lw_okq q
  exact List.forall_mem_append.mpr ⟨lw_r1, List.forall_mem_append.mpr ⟨lw_r2, List.forall_mem_append.mpr ⟨lw_r3, List.forall_mem_append.mpr ⟨lw_r4, List.forall_mem_append.mpr ⟨lw_r5, List.forall_mem_append.mpr ⟨lw_r6, lw_r7⟩⟩⟩⟩⟩⟩

def RX0 : String := "WeatherHotel$Chooser"
def TX0 : u_T := fun k => match k with
  | 0 => ("WeatherHotel$Chooser", "house", "LWeatherHotel$House;", true)
  | 1 => ("WeatherHotel$Chooser", "guests", "LWeatherHotel$Register;", true)
  | 2 => ("WeatherHotel$Chooser", "load", "LWeatherHotel$Load;", true)
  | 3 => ("WeatherHotel$Chooser", "gain", "I", false)
  | 4 => ("WeatherHotel$Chooser", "gainSet", "I", false)
  | 5 => ("WeatherHotel$Chooser", "more", "[I", true)
  | 6 => ("WeatherHotel$Chooser", "above", "J", false)
  | _ => ("WeatherHotel$Chooser", "below", "J", false)
def tyX0 : Nat → FieldType := fun k => match k with
  | 0 => .object "WeatherHotel$House"
  | 1 => .object "WeatherHotel$Register"
  | 2 => .object "WeatherHotel$Load"
  | 3 => .int
  | 4 => .int
  | 5 => .array .int
  | 6 => .long
  | _ => .long
theorem nmX0 : ∀ a, a < 8 → ∀ b, b < 8 → a ≠ b → (TX0 a).2.1 ≠ (TX0 b).2.1 := by decide +kernel
theorem tyX0_ok : ∀ k, k < 8 → parseFieldDescriptor (TX0 k).2.2.1 = some (tyX0 k) := by decide +kernel
abbrev cX0_init : ByteArray := prog_2_method_1_code
def yX0_init : MethodName := ⟨RX0, "<init>", "(LWeatherHotel$House;LWeatherHotel$Register;LWeatherHotel$Load;)V"⟩
abbrev cX0_bestOf : ByteArray := prog_2_method_2_code
def yX0_bestOf : MethodName := ⟨RX0, "bestOf", "(I)I"⟩
abbrev cX0_isBetter : ByteArray := prog_2_method_3_code
def yX0_isBetter : MethodName := ⟨RX0, "isBetter", "(IIII)Z"⟩
abbrev cX0_fits : ByteArray := prog_2_method_4_code
def yX0_fits : MethodName := ⟨RX0, "fits", "(I)Z"⟩
abbrev cX0_smallestMisfit : ByteArray := prog_2_method_5_code
def yX0_smallestMisfit : MethodName := ⟨RX0, "smallestMisfit", "()I"⟩
abbrev cX0_chooseLarger : ByteArray := prog_2_method_6_code
def yX0_chooseLarger : MethodName := ⟨RX0, "chooseLarger", "()V"⟩
abbrev cX0_tryLarger : ByteArray := prog_2_method_7_code
def yX0_tryLarger : MethodName := ⟨RX0, "tryLarger", "(II)V"⟩
abbrev cX0_moreOf : ByteArray := prog_2_method_8_code
def yX0_moreOf : MethodName := ⟨RX0, "moreOf", "(I)I"⟩
abbrev cX0_shareOut : ByteArray := prog_2_method_9_code
def yX0_shareOut : MethodName := ⟨RX0, "shareOut", "(II)V"⟩
abbrev cX0_plantCostOf : ByteArray := prog_2_method_10_code
def yX0_plantCostOf : MethodName := ⟨RX0, "plantCostOf", "(I)J"⟩
abbrev cX0_factorial : ByteArray := prog_2_method_11_code
def yX0_factorial : MethodName := ⟨RX0, "factorial", "(I)J"⟩
abbrev cX0_reduce : ByteArray := prog_2_method_12_code
def yX0_reduce : MethodName := ⟨RX0, "reduce", "(JJ)V"⟩
def RX1 : String := "WeatherHotel$Days"
def TX1 : u_T := fun k => match k with
  | 0 => ("WeatherHotel$Days", "text", "LWeatherHotel$TextReader;", true)
  | 1 => ("WeatherHotel$Days", "amounts", "[[I", true)
  | 2 => ("WeatherHotel$Days", "draftRow", "[I", true)
  | 3 => ("WeatherHotel$Days", "told", "I", false)
  | 4 => ("WeatherHotel$Days", "restOfRain", "[I", true)
  | 5 => ("WeatherHotel$Days", "row", "[I", true)
  | 6 => ("WeatherHotel$Days", "firstRow", "[I", true)
  | 7 => ("WeatherHotel$Days", "rowCount", "I", false)
  | _ => ("WeatherHotel$Days", "inAllRows", "I", false)
def tyX1 : Nat → FieldType := fun k => match k with
  | 0 => .object "WeatherHotel$TextReader"
  | 1 => .array (.array .int)
  | 2 => .array .int
  | 3 => .int
  | 4 => .array .int
  | 5 => .array .int
  | 6 => .array .int
  | 7 => .int
  | _ => .int
theorem nmX1 : ∀ a, a < 9 → ∀ b, b < 9 → a ≠ b → (TX1 a).2.1 ≠ (TX1 b).2.1 := by decide +kernel
theorem tyX1_ok : ∀ k, k < 9 → parseFieldDescriptor (TX1 k).2.2.1 = some (tyX1 k) := by decide +kernel
abbrev cX1_init : ByteArray := prog_3_method_1_code
def yX1_init : MethodName := ⟨RX1, "<init>", "(LWeatherHotel$TextReader;)V"⟩
abbrev cX1_isTold : ByteArray := prog_3_method_2_code
def yX1_isTold : MethodName := ⟨RX1, "isTold", "(I)Z"⟩
abbrev cX1_rowOf : ByteArray := prog_3_method_3_code
def yX1_rowOf : MethodName := ⟨RX1, "rowOf", "(I)[I"⟩
abbrev cX1_tell : ByteArray := prog_3_method_4_code
def yX1_tell : MethodName := ⟨RX1, "tell", "(II)I"⟩
abbrev cX1_readParts : ByteArray := prog_3_method_5_code
def yX1_readParts : MethodName := ⟨RX1, "readParts", "(I)I"⟩
abbrev cX1_readPart : ByteArray := prog_3_method_6_code
def yX1_readPart : MethodName := ⟨RX1, "readPart", "(I)Z"⟩
abbrev cX1_readHour : ByteArray := prog_3_method_7_code
def yX1_readHour : MethodName := ⟨RX1, "readHour", "(II)I"⟩
abbrev cX1_readMeter : ByteArray := prog_3_method_8_code
def yX1_readMeter : MethodName := ⟨RX1, "readMeter", "(LWeatherHotel$Tape;I)V"⟩
abbrev cX1_fillRow : ByteArray := prog_3_method_9_code
def yX1_fillRow : MethodName := ⟨RX1, "fillRow", "(III)V"⟩
abbrev cX1_isWithinRest : ByteArray := prog_3_method_10_code
def yX1_isWithinRest : MethodName := ⟨RX1, "isWithinRest", "(I)Z"⟩
abbrev cX1_isRestGone : ByteArray := prog_3_method_11_code
def yX1_isRestGone : MethodName := ⟨RX1, "isRestGone", "()Z"⟩
abbrev cX1_changeRest : ByteArray := prog_3_method_12_code
def yX1_changeRest : MethodName := ⟨RX1, "changeRest", "(II)V"⟩
abbrev cX1_noteRow : ByteArray := prog_3_method_13_code
def yX1_noteRow : MethodName := ⟨RX1, "noteRow", "(I)V"⟩
def RX2 : String := "WeatherHotel$House"
def TX2 : u_T := fun k => match k with
  | 0 => ("WeatherHotel$House", "floorOf", "[I", true)
  | 1 => ("WeatherHotel$House", "rooms", "I", false)
  | 2 => ("WeatherHotel$House", "most", "[I", true)
  | 3 => ("WeatherHotel$House", "pence", "[I", true)
  | 4 => ("WeatherHotel$House", "pipeMost", "[I", true)
  | 5 => ("WeatherHotel$House", "water", "I", false)
  | _ => ("WeatherHotel$House", "comes", "I", false)
def tyX2 : Nat → FieldType := fun k => match k with
  | 0 => .array .int
  | 1 => .int
  | 2 => .array .int
  | 3 => .array .int
  | 4 => .array .int
  | 5 => .int
  | _ => .int
theorem nmX2 : ∀ a, a < 7 → ∀ b, b < 7 → a ≠ b → (TX2 a).2.1 ≠ (TX2 b).2.1 := by decide +kernel
theorem tyX2_ok : ∀ k, k < 7 → parseFieldDescriptor (TX2 k).2.2.1 = some (tyX2 k) := by decide +kernel
abbrev cX2_init : ByteArray := prog_4_method_1_code
def yX2_init : MethodName := ⟨RX2, "<init>", "()V"⟩
abbrev cX2_afterInflow : ByteArray := prog_4_method_2_code
def yX2_afterInflow : MethodName := ⟨RX2, "afterInflow", "(I)I"⟩
def RX3 : String := "WeatherHotel$Law"
def TX3 : u_T := fun k => match k with
  | 0 => ("WeatherHotel$Law", "steps", "[I", true)
  | 1 => ("WeatherHotel$Law", "args", "[I", true)
  | 2 => ("WeatherHotel$Law", "length", "I", false)
  | 3 => ("WeatherHotel$Law", "clauseLetter", "[I", true)
  | 4 => ("WeatherHotel$Law", "sumStart", "[I", true)
  | 5 => ("WeatherHotel$Law", "conditionStart", "[I", true)
  | 6 => ("WeatherHotel$Law", "clauseEnd", "[I", true)
  | 7 => ("WeatherHotel$Law", "clauses", "I", false)
  | 8 => ("WeatherHotel$Law", "letters", "[I", true)
  | 9 => ("WeatherHotel$Law", "stack", "[I", true)
  | 10 => ("WeatherHotel$Law", "depth", "I", false)
  | _ => ("WeatherHotel$Law", "refused", "Z", false)
def tyX3 : Nat → FieldType := fun k => match k with
  | 0 => .array .int
  | 1 => .array .int
  | 2 => .int
  | 3 => .array .int
  | 4 => .array .int
  | 5 => .array .int
  | 6 => .array .int
  | 7 => .int
  | 8 => .array .int
  | 9 => .array .int
  | 10 => .int
  | _ => .boolean
theorem nmX3 : ∀ a, a < 12 → ∀ b, b < 12 → a ≠ b → (TX3 a).2.1 ≠ (TX3 b).2.1 := by decide +kernel
theorem tyX3_ok : ∀ k, k < 12 → parseFieldDescriptor (TX3 k).2.2.1 = some (tyX3 k) := by decide +kernel
abbrev cX3_init : ByteArray := prog_5_method_1_code
def yX3_init : MethodName := ⟨RX3, "<init>", "()V"⟩
abbrev cX3_clear : ByteArray := prog_5_method_2_code
def yX3_clear : MethodName := ⟨RX3, "clear", "()V"⟩
abbrev cX3_copyFrom : ByteArray := prog_5_method_3_code
def yX3_copyFrom : MethodName := ⟨RX3, "copyFrom", "(LWeatherHotel$Law;)V"⟩
abbrev cX3_addClause : ByteArray := prog_5_method_4_code
def yX3_addClause : MethodName := ⟨RX3, "addClause", "(III)V"⟩
abbrev cX3_addStep : ByteArray := prog_5_method_5_code
def yX3_addStep : MethodName := ⟨RX3, "addStep", "(II)V"⟩
abbrev cX3_addExit : ByteArray := prog_5_method_6_code
def yX3_addExit : MethodName := ⟨RX3, "addExit", "(II)I"⟩
abbrev cX3_endExit : ByteArray := prog_5_method_7_code
def yX3_endExit : MethodName := ⟨RX3, "endExit", "(I)V"⟩
abbrev cX3_askAbout : ByteArray := prog_5_method_8_code
def yX3_askAbout : MethodName := ⟨RX3, "askAbout", "(ILWeatherHotel$Register;LWeatherHotel$House;)V"⟩
abbrev cX3_askAt : ByteArray := prog_5_method_9_code
def yX3_askAt : MethodName := ⟨RX3, "askAt", "(IIII)V"⟩
abbrev cX3_answerBy : ByteArray := prog_5_method_10_code
def yX3_answerBy : MethodName := ⟨RX3, "answerBy", "(C)I"⟩
abbrev cX3_reckon : ByteArray := prog_5_method_11_code
def yX3_reckon : MethodName := ⟨RX3, "reckon", "(II)I"⟩
abbrev cX3_join : ByteArray := prog_5_method_12_code
def yX3_join : MethodName := ⟨RX3, "join", "(III)I"⟩
abbrev cX3_push : ByteArray := prog_5_method_13_code
def yX3_push : MethodName := ⟨RX3, "push", "(I)V"⟩
abbrev cX3_pop : ByteArray := prog_5_method_14_code
def yX3_pop : MethodName := ⟨RX3, "pop", "()I"⟩
def RX4 : String := "WeatherHotel$LawReader"
def TX4 : u_T := fun k => match k with
  | 0 => ("WeatherHotel$LawReader", "text", "LWeatherHotel$TextReader;", true)
  | _ => ("WeatherHotel$LawReader", "law", "LWeatherHotel$Law;", true)
def tyX4 : Nat → FieldType := fun k => match k with
  | 0 => .object "WeatherHotel$TextReader"
  | _ => .object "WeatherHotel$Law"
theorem nmX4 : ∀ a, a < 2 → ∀ b, b < 2 → a ≠ b → (TX4 a).2.1 ≠ (TX4 b).2.1 := by decide +kernel
theorem tyX4_ok : ∀ k, k < 2 → parseFieldDescriptor (TX4 k).2.2.1 = some (tyX4 k) := by decide +kernel
abbrev cX4_init : ByteArray := prog_6_method_1_code
def yX4_init : MethodName := ⟨RX4, "<init>", "(LWeatherHotel$TextReader;LWeatherHotel$Law;)V"⟩
abbrev cX4_read : ByteArray := prog_6_method_2_code
def yX4_read : MethodName := ⟨RX4, "read", "(I)I"⟩
abbrev cX4_readClause : ByteArray := prog_6_method_3_code
def yX4_readClause : MethodName := ⟨RX4, "readClause", "(I)Z"⟩
abbrev cX4_readCondition : ByteArray := prog_6_method_4_code
def yX4_readCondition : MethodName := ⟨RX4, "readCondition", "(I)Z"⟩
abbrev cX4_readPieces : ByteArray := prog_6_method_5_code
def yX4_readPieces : MethodName := ⟨RX4, "readPieces", "(I)Z"⟩
abbrev cX4_readPiece : ByteArray := prog_6_method_6_code
def yX4_readPiece : MethodName := ⟨RX4, "readPiece", "(I)Z"⟩
abbrev cX4_readComparison : ByteArray := prog_6_method_7_code
def yX4_readComparison : MethodName := ⟨RX4, "readComparison", "(I)Z"⟩
abbrev cX4_readSum : ByteArray := prog_6_method_8_code
def yX4_readSum : MethodName := ⟨RX4, "readSum", "(I)Z"⟩
abbrev cX4_readTerm : ByteArray := prog_6_method_9_code
def yX4_readTerm : MethodName := ⟨RX4, "readTerm", "(I)Z"⟩
abbrev cX4_readFactor : ByteArray := prog_6_method_10_code
def yX4_readFactor : MethodName := ⟨RX4, "readFactor", "(I)Z"⟩
abbrev cX4_mayOpen : ByteArray := prog_6_method_11_code
def yX4_mayOpen : MethodName := ⟨RX4, "mayOpen", "(I)Z"⟩
def RX5 : String := "WeatherHotel$Load"
def TX5 : u_T := fun k => match k with
  | 0 => ("WeatherHotel$Load", "house", "LWeatherHotel$House;", true)
  | 1 => ("WeatherHotel$Load", "guests", "LWeatherHotel$Register;", true)
  | 2 => ("WeatherHotel$Load", "days", "LWeatherHotel$Days;", true)
  | 3 => ("WeatherHotel$Load", "wanted", "[[I", true)
  | 4 => ("WeatherHotel$Load", "floorOf", "[I", true)
  | 5 => ("WeatherHotel$Load", "sum", "[I", true)
  | 6 => ("WeatherHotel$Load", "floorRain", "[I", true)
  | 7 => ("WeatherHotel$Load", "set", "I", false)
  | 8 => ("WeatherHotel$Load", "badHour", "I", false)
  | _ => ("WeatherHotel$Load", "badCause", "I", false)
def tyX5 : Nat → FieldType := fun k => match k with
  | 0 => .object "WeatherHotel$House"
  | 1 => .object "WeatherHotel$Register"
  | 2 => .object "WeatherHotel$Days"
  | 3 => .array (.array .int)
  | 4 => .array .int
  | 5 => .array .int
  | 6 => .array .int
  | 7 => .int
  | 8 => .int
  | _ => .int
theorem nmX5 : ∀ a, a < 10 → ∀ b, b < 10 → a ≠ b → (TX5 a).2.1 ≠ (TX5 b).2.1 := by decide +kernel
theorem tyX5_ok : ∀ k, k < 10 → parseFieldDescriptor (TX5 k).2.2.1 = some (tyX5 k) := by decide +kernel
abbrev cX5_init : ByteArray := prog_7_method_1_code
def yX5_init : MethodName := ⟨RX5, "<init>", "(LWeatherHotel$House;LWeatherHotel$Register;LWeatherHotel$Days;)V"⟩
abbrev cX5_begin : ByteArray := prog_7_method_2_code
def yX5_begin : MethodName := ⟨RX5, "begin", "()V"⟩
abbrev cX5_setFloor : ByteArray := prog_7_method_3_code
def yX5_setFloor : MethodName := ⟨RX5, "setFloor", "(II)V"⟩
abbrev cX5_setShift : ByteArray := prog_7_method_4_code
def yX5_setShift : MethodName := ⟨RX5, "setShift", "(II)V"⟩
abbrev cX5_turnTo : ByteArray := prog_7_method_5_code
def yX5_turnTo : MethodName := ⟨RX5, "turnTo", "(I)V"⟩
abbrev cX5_include : ByteArray := prog_7_method_6_code
def yX5_include : MethodName := ⟨RX5, "include", "(I)V"⟩
abbrev cX5_exclude : ByteArray := prog_7_method_7_code
def yX5_exclude : MethodName := ⟨RX5, "exclude", "(I)V"⟩
abbrev cX5_change : ByteArray := prog_7_method_8_code
def yX5_change : MethodName := ⟨RX5, "change", "(II)V"⟩
abbrev cX5_fits : ByteArray := prog_7_method_9_code
def yX5_fits : MethodName := ⟨RX5, "fits", "()Z"⟩
abbrev cX5_fitsButForPlant : ByteArray := prog_7_method_10_code
def yX5_fitsButForPlant : MethodName := ⟨RX5, "fitsButForPlant", "()Z"⟩
abbrev cX5_fitsFrom : ByteArray := prog_7_method_11_code
def yX5_fitsFrom : MethodName := ⟨RX5, "fitsFrom", "(I)Z"⟩
abbrev cX5_causeAt : ByteArray := prog_7_method_12_code
def yX5_causeAt : MethodName := ⟨RX5, "causeAt", "(III)I"⟩
abbrev cX5_peakOf : ByteArray := prog_7_method_13_code
def yX5_peakOf : MethodName := ⟨RX5, "peakOf", "(I)I"⟩
abbrev cX5_throughPipes : ByteArray := prog_7_method_14_code
def yX5_throughPipes : MethodName := ⟨RX5, "throughPipes", "(I)I"⟩
def RX6 : String := "WeatherHotel$Mover"
def TX6 : u_T := fun k => match k with
  | 0 => ("WeatherHotel$Mover", "house", "LWeatherHotel$House;", true)
  | 1 => ("WeatherHotel$Mover", "guests", "LWeatherHotel$Register;", true)
  | 2 => ("WeatherHotel$Mover", "load", "LWeatherHotel$Load;", true)
  | 3 => ("WeatherHotel$Mover", "moving", "I", false)
  | 4 => ("WeatherHotel$Mover", "roomFor", "[I", true)
  | 5 => ("WeatherHotel$Mover", "shiftFor", "[I", true)
  | 6 => ("WeatherHotel$Mover", "triedShift", "[I", true)
  | 7 => ("WeatherHotel$Mover", "mostEach", "I", false)
  | _ => ("WeatherHotel$Mover", "fewestHours", "I", false)
def tyX6 : Nat → FieldType := fun k => match k with
  | 0 => .object "WeatherHotel$House"
  | 1 => .object "WeatherHotel$Register"
  | 2 => .object "WeatherHotel$Load"
  | 3 => .int
  | 4 => .array .int
  | 5 => .array .int
  | 6 => .array .int
  | 7 => .int
  | _ => .int
theorem nmX6 : ∀ a, a < 9 → ∀ b, b < 9 → a ≠ b → (TX6 a).2.1 ≠ (TX6 b).2.1 := by decide +kernel
theorem tyX6_ok : ∀ k, k < 9 → parseFieldDescriptor (TX6 k).2.2.1 = some (tyX6 k) := by decide +kernel
abbrev cX6_init : ByteArray := prog_8_method_1_code
def yX6_init : MethodName := ⟨RX6, "<init>", "(LWeatherHotel$House;LWeatherHotel$Register;LWeatherHotel$Load;)V"⟩
abbrev cX6_findRooms : ByteArray := prog_8_method_2_code
def yX6_findRooms : MethodName := ⟨RX6, "findRooms", "(II)Z"⟩
abbrev cX6_findRoomsFrom : ByteArray := prog_8_method_3_code
def yX6_findRoomsFrom : MethodName := ⟨RX6, "findRoomsFrom", "(II)Z"⟩
abbrev cX6_moveIn : ByteArray := prog_8_method_4_code
def yX6_moveIn : MethodName := ⟨RX6, "moveIn", "(I)V"⟩
abbrev cX6_findShifts : ByteArray := prog_8_method_5_code
def yX6_findShifts : MethodName := ⟨RX6, "findShifts", "(II)Z"⟩
abbrev cX6_findShiftsFrom : ByteArray := prog_8_method_6_code
def yX6_findShiftsFrom : MethodName := ⟨RX6, "findShiftsFrom", "(II)V"⟩
abbrev cX6_shiftAll : ByteArray := prog_8_method_7_code
def yX6_shiftAll : MethodName := ⟨RX6, "shiftAll", "(I)V"⟩
def RX7 : String := "WeatherHotel$Register"
def TX7 : u_T := fun k => match k with
  | 0 => ("WeatherHotel$Register", "stays", "I", false)
  | 1 => ("WeatherHotel$Register", "room", "[I", true)
  | 2 => ("WeatherHotel$Register", "dayOf", "[I", true)
  | 3 => ("WeatherHotel$Register", "price", "[I", true)
  | 4 => ("WeatherHotel$Register", "shifted", "[I", true)
  | _ => ("WeatherHotel$Register", "x", "I", false)
def tyX7 : Nat → FieldType := fun k => match k with
  | 0 => .int
  | 1 => .array .int
  | 2 => .array .int
  | 3 => .array .int
  | 4 => .array .int
  | _ => .int
theorem nmX7 : ∀ a, a < 6 → ∀ b, b < 6 → a ≠ b → (TX7 a).2.1 ≠ (TX7 b).2.1 := by decide +kernel
theorem tyX7_ok : ∀ k, k < 6 → parseFieldDescriptor (TX7 k).2.2.1 = some (tyX7 k) := by decide +kernel
abbrev cX7_init : ByteArray := prog_9_method_1_code
def yX7_init : MethodName := ⟨RX7, "<init>", "()V"⟩
abbrev cX7_has : ByteArray := prog_9_method_2_code
def yX7_has : MethodName := ⟨RX7, "has", "(I)Z"⟩
abbrev cX7_write : ByteArray := prog_9_method_3_code
def yX7_write : MethodName := ⟨RX7, "write", "(IIII)V"⟩
abbrev cX7_holderOf : ByteArray := prog_9_method_4_code
def yX7_holderOf : MethodName := ⟨RX7, "holderOf", "(I)I"⟩
abbrev cX7_pricesOf : ByteArray := prog_9_method_5_code
def yX7_pricesOf : MethodName := ⟨RX7, "pricesOf", "(I)I"⟩
abbrev cX7_copyFrom : ByteArray := prog_9_method_6_code
def yX7_copyFrom : MethodName := ⟨RX7, "copyFrom", "(LWeatherHotel$Register;)V"⟩
def RX8 : String := "WeatherHotel$Service"
def TX8 : u_T := fun k => match k with
  | 0 => ("WeatherHotel$Service", "house", "LWeatherHotel$House;", true)
  | 1 => ("WeatherHotel$Service", "guests", "LWeatherHotel$Register;", true)
  | 2 => ("WeatherHotel$Service", "law", "LWeatherHotel$Law;", true)
  | 3 => ("WeatherHotel$Service", "load", "LWeatherHotel$Load;", true)
  | 4 => ("WeatherHotel$Service", "given", "[[I", true)
  | 5 => ("WeatherHotel$Service", "missed", "[I", true)
  | 6 => ("WeatherHotel$Service", "harm", "I", false)
  | 7 => ("WeatherHotel$Service", "water", "I", false)
  | 8 => ("WeatherHotel$Service", "order", "[I", true)
  | 9 => ("WeatherHotel$Service", "soon", "[I", true)
  | 10 => ("WeatherHotel$Service", "plantLeft", "[I", true)
  | 11 => ("WeatherHotel$Service", "pipesLeft", "[I", true)
  | 12 => ("WeatherHotel$Service", "rainTop", "[I", true)
  | 13 => ("WeatherHotel$Service", "leastHarm", "[I", true)
  | _ => ("WeatherHotel$Service", "nextStay", "[I", true)
def tyX8 : Nat → FieldType := fun k => match k with
  | 0 => .object "WeatherHotel$House"
  | 1 => .object "WeatherHotel$Register"
  | 2 => .object "WeatherHotel$Law"
  | 3 => .object "WeatherHotel$Load"
  | 4 => .array (.array .int)
  | 5 => .array .int
  | 6 => .int
  | 7 => .int
  | 8 => .array .int
  | 9 => .array .int
  | 10 => .array .int
  | 11 => .array .int
  | 12 => .array .int
  | 13 => .array .int
  | _ => .array .int
theorem nmX8 : ∀ a, a < 15 → ∀ b, b < 15 → a ≠ b → (TX8 a).2.1 ≠ (TX8 b).2.1 := by decide +kernel
theorem tyX8_ok : ∀ k, k < 15 → parseFieldDescriptor (TX8 k).2.2.1 = some (tyX8 k) := by decide +kernel
abbrev cX8_init : ByteArray := prog_10_method_1_code
def yX8_init : MethodName := ⟨RX8, "<init>", "(LWeatherHotel$House;LWeatherHotel$Register;LWeatherHotel$Law;LWeatherHotel$Load;)V"⟩
abbrev cX8_serveAll : ByteArray := prog_10_method_2_code
def yX8_serveAll : MethodName := ⟨RX8, "serveAll", "()V"⟩
abbrev cX8_missedOfAll : ByteArray := prog_10_method_3_code
def yX8_missedOfAll : MethodName := ⟨RX8, "missedOfAll", "()I"⟩
abbrev cX8_serveHour : ByteArray := prog_10_method_4_code
def yX8_serveHour : MethodName := ⟨RX8, "serveHour", "(I)V"⟩
abbrev cX8_orderStays : ByteArray := prog_10_method_5_code
def yX8_orderStays : MethodName := ⟨RX8, "orderStays", "(I)I"⟩
abbrev cX8_serve : ByteArray := prog_10_method_6_code
def yX8_serve : MethodName := ⟨RX8, "serve", "(II)V"⟩
abbrev cX8_giveRain : ByteArray := prog_10_method_7_code
def yX8_giveRain : MethodName := ⟨RX8, "giveRain", "(II)I"⟩
abbrev cX8_harmOf : ByteArray := prog_10_method_8_code
def yX8_harmOf : MethodName := ⟨RX8, "harmOf", "(III)I"⟩
abbrev cX8_orderForDrought : ByteArray := prog_10_method_9_code
def yX8_orderForDrought : MethodName := ⟨RX8, "orderForDrought", "(I)V"⟩
abbrev cX8_readRainTops : ByteArray := prog_10_method_10_code
def yX8_readRainTops : MethodName := ⟨RX8, "readRainTops", "(I)V"⟩
abbrev cX8_chooseNext : ByteArray := prog_10_method_11_code
def yX8_chooseNext : MethodName := ⟨RX8, "chooseNext", "(II)V"⟩
abbrev cX8_harmBehind : ByteArray := prog_10_method_12_code
def yX8_harmBehind : MethodName := ⟨RX8, "harmBehind", "(I)I"⟩
abbrev cX8_rainLeft : ByteArray := prog_10_method_13_code
def yX8_rainLeft : MethodName := ⟨RX8, "rainLeft", "(II)I"⟩
abbrev cX8_droughtStayAt : ByteArray := prog_10_method_14_code
def yX8_droughtStayAt : MethodName := ⟨RX8, "droughtStayAt", "(I)I"⟩
def RX9 : String := "WeatherHotel$Tape"
def TX9 : u_T := fun k => match k with
  | 0 => ("WeatherHotel$Tape", "bytes", "[I", true)
  | _ => ("WeatherHotel$Tape", "length", "I", false)
def tyX9 : Nat → FieldType := fun k => match k with
  | 0 => .array .int
  | _ => .int
theorem nmX9 : ∀ a, a < 2 → ∀ b, b < 2 → a ≠ b → (TX9 a).2.1 ≠ (TX9 b).2.1 := by decide +kernel
theorem tyX9_ok : ∀ k, k < 2 → parseFieldDescriptor (TX9 k).2.2.1 = some (tyX9 k) := by decide +kernel
abbrev cX9_init : ByteArray := prog_11_method_1_code
def yX9_init : MethodName := ⟨RX9, "<init>", "()V"⟩
abbrev cX9_size : ByteArray := prog_11_method_2_code
def yX9_size : MethodName := ⟨RX9, "size", "()I"⟩
abbrev cX9_clear : ByteArray := prog_11_method_3_code
def yX9_clear : MethodName := ⟨RX9, "clear", "()V"⟩
abbrev cX9_append : ByteArray := prog_11_method_4_code
def yX9_append : MethodName := ⟨RX9, "append", "(I)V"⟩
abbrev cX9_byteAt : ByteArray := prog_11_method_5_code
def yX9_byteAt : MethodName := ⟨RX9, "byteAt", "(I)I"⟩
abbrev cX9_pairAt : ByteArray := prog_11_method_6_code
def yX9_pairAt : MethodName := ⟨RX9, "pairAt", "(I)I"⟩
abbrev cX9_numberAt : ByteArray := prog_11_method_7_code
def yX9_numberAt : MethodName := ⟨RX9, "numberAt", "(I)I"⟩
def RX10 : String := "WeatherHotel$TextReader"
def TX10 : u_T := fun k => match k with
  | 0 => ("WeatherHotel$TextReader", "tape", "LWeatherHotel$Tape;", true)
  | 1 => ("WeatherHotel$TextReader", "length", "I", false)
  | 2 => ("WeatherHotel$TextReader", "place", "I", false)
  | 3 => ("WeatherHotel$TextReader", "sign", "I", false)
  | _ => ("WeatherHotel$TextReader", "fault", "I", false)
def tyX10 : Nat → FieldType := fun k => match k with
  | 0 => .object "WeatherHotel$Tape"
  | 1 => .int
  | 2 => .int
  | 3 => .int
  | _ => .int
theorem nmX10 : ∀ a, a < 5 → ∀ b, b < 5 → a ≠ b → (TX10 a).2.1 ≠ (TX10 b).2.1 := by decide +kernel
theorem tyX10_ok : ∀ k, k < 5 → parseFieldDescriptor (TX10 k).2.2.1 = some (tyX10 k) := by decide +kernel
abbrev cX10_init : ByteArray := prog_12_method_1_code
def yX10_init : MethodName := ⟨RX10, "<init>", "(LWeatherHotel$Tape;)V"⟩
abbrev cX10_open : ByteArray := prog_12_method_2_code
def yX10_open : MethodName := ⟨RX10, "open", "(I)V"⟩
abbrev cX10_step : ByteArray := prog_12_method_3_code
def yX10_step : MethodName := ⟨RX10, "step", "()V"⟩
abbrev cX10_atEnd : ByteArray := prog_12_method_4_code
def yX10_atEnd : MethodName := ⟨RX10, "atEnd", "()Z"⟩
abbrev cX10_atDigit : ByteArray := prog_12_method_5_code
def yX10_atDigit : MethodName := ⟨RX10, "atDigit", "()Z"⟩
abbrev cX10_failAt : ByteArray := prog_12_method_6_code
def yX10_failAt : MethodName := ⟨RX10, "failAt", "(II)V"⟩
abbrev cX10_failHere : ByteArray := prog_12_method_7_code
def yX10_failHere : MethodName := ⟨RX10, "failHere", "(I)Z"⟩
abbrev cX10_take : ByteArray := prog_12_method_8_code
def yX10_take : MethodName := ⟨RX10, "take", "(C)Z"⟩
abbrev cX10_among : ByteArray := prog_12_method_9_code
def yX10_among : MethodName := ⟨RX10, "among", "(Ljava/lang/String;)I"⟩
abbrev cX10_number : ByteArray := prog_12_method_10_code
def yX10_number : MethodName := ⟨RX10, "number", "(I)I"⟩
def RX11 : String := "WeatherHotel"
def TX11 : u_T := fun k => match k with
  | 0 => ("WeatherHotel", "tape", "LWeatherHotel$Tape;", true)
  | 1 => ("WeatherHotel", "days", "LWeatherHotel$Days;", true)
  | 2 => ("WeatherHotel", "house", "LWeatherHotel$House;", true)
  | 3 => ("WeatherHotel", "guests", "LWeatherHotel$Register;", true)
  | 4 => ("WeatherHotel", "kept", "LWeatherHotel$Register;", true)
  | 5 => ("WeatherHotel", "isKept", "Z", false)
  | 6 => ("WeatherHotel", "valid", "LWeatherHotel$Law;", true)
  | 7 => ("WeatherHotel", "draft", "LWeatherHotel$Law;", true)
  | 8 => ("WeatherHotel", "lawReader", "LWeatherHotel$LawReader;", true)
  | 9 => ("WeatherHotel", "load", "LWeatherHotel$Load;", true)
  | 10 => ("WeatherHotel", "chooser", "LWeatherHotel$Chooser;", true)
  | 11 => ("WeatherHotel", "service", "LWeatherHotel$Service;", true)
  | _ => ("WeatherHotel", "mover", "LWeatherHotel$Mover;", true)
def tyX11 : Nat → FieldType := fun k => match k with
  | 0 => .object "WeatherHotel$Tape"
  | 1 => .object "WeatherHotel$Days"
  | 2 => .object "WeatherHotel$House"
  | 3 => .object "WeatherHotel$Register"
  | 4 => .object "WeatherHotel$Register"
  | 5 => .boolean
  | 6 => .object "WeatherHotel$Law"
  | 7 => .object "WeatherHotel$Law"
  | 8 => .object "WeatherHotel$LawReader"
  | 9 => .object "WeatherHotel$Load"
  | 10 => .object "WeatherHotel$Chooser"
  | 11 => .object "WeatherHotel$Service"
  | _ => .object "WeatherHotel$Mover"
theorem nmX11 : ∀ a, a < 13 → ∀ b, b < 13 → a ≠ b → (TX11 a).2.1 ≠ (TX11 b).2.1 := by decide +kernel
theorem tyX11_ok : ∀ k, k < 13 → parseFieldDescriptor (TX11 k).2.2.1 = some (tyX11 k) := by decide +kernel
abbrev cX11_init : ByteArray := prog_1_method_1_code
def yX11_init : MethodName := ⟨RX11, "<init>", "()V"⟩
abbrev cX11_feed : ByteArray := prog_1_method_2_code
def yX11_feed : MethodName := ⟨RX11, "feed", "(IIIII)I"⟩
abbrev cX11_day : ByteArray := prog_1_method_3_code
def yX11_day : MethodName := ⟨RX11, "day", "(II)I"⟩
abbrev cX11_dayIs : ByteArray := prog_1_method_4_code
def yX11_dayIs : MethodName := ⟨RX11, "dayIs", "(III)I"⟩
abbrev cX11_room : ByteArray := prog_1_method_5_code
def yX11_room : MethodName := ⟨RX11, "room", "(I)I"⟩
abbrev cX11_plant : ByteArray := prog_1_method_6_code
def yX11_plant : MethodName := ⟨RX11, "plant", "(III)Z"⟩
abbrev cX11_pipes : ByteArray := prog_1_method_7_code
def yX11_pipes : MethodName := ⟨RX11, "pipes", "(II)Z"⟩
abbrev cX11_cellar : ByteArray := prog_1_method_8_code
def yX11_cellar : MethodName := ⟨RX11, "cellar", "(II)Z"⟩
abbrev cX11_stay : ByteArray := prog_1_method_9_code
def yX11_stay : MethodName := ⟨RX11, "stay", "(IIII)Z"⟩
abbrev cX11_leave : ByteArray := prog_1_method_10_code
def yX11_leave : MethodName := ⟨RX11, "leave", "(I)Z"⟩
abbrev cX11_shift : ByteArray := prog_1_method_11_code
def yX11_shift : MethodName := ⟨RX11, "shift", "(II)Z"⟩
abbrev cX11_law : ByteArray := prog_1_method_12_code
def yX11_law : MethodName := ⟨RX11, "law", "(I)I"⟩
abbrev cX11_wants : ByteArray := prog_1_method_13_code
def yX11_wants : MethodName := ⟨RX11, "wants", "(II)I"⟩
abbrev cX11_gets : ByteArray := prog_1_method_14_code
def yX11_gets : MethodName := ⟨RX11, "gets", "(III)I"⟩
abbrev cX11_served : ByteArray := prog_1_method_15_code
def yX11_served : MethodName := ⟨RX11, "served", "(I)I"⟩
abbrev cX11_can : ByteArray := prog_1_method_16_code
def yX11_can : MethodName := ⟨RX11, "can", "(II)I"⟩
abbrev cX11_best : ByteArray := prog_1_method_17_code
def yX11_best : MethodName := ⟨RX11, "best", "(I)I"⟩
abbrev cX11_smallest : ByteArray := prog_1_method_18_code
def yX11_smallest : MethodName := ⟨RX11, "smallest", "()I"⟩
abbrev cX11_costs : ByteArray := prog_1_method_19_code
def yX11_costs : MethodName := ⟨RX11, "costs", "(I)I"⟩
abbrev cX11_rooms : ByteArray := prog_1_method_20_code
def yX11_rooms : MethodName := ⟨RX11, "rooms", "(III)I"⟩
abbrev cX11_shifting : ByteArray := prog_1_method_21_code
def yX11_shifting : MethodName := ⟨RX11, "shifting", "(III)I"⟩
abbrev cX11_larger : ByteArray := prog_1_method_22_code
def yX11_larger : MethodName := ⟨RX11, "larger", "(I)I"⟩
abbrev cX11_fair : ByteArray := prog_1_method_23_code
def yX11_fair : MethodName := ⟨RX11, "fair", "(III)J"⟩
abbrev cX11_drought : ByteArray := prog_1_method_24_code
def yX11_drought : MethodName := ⟨RX11, "drought", "(II)I"⟩
abbrev cX11_meter : ByteArray := prog_1_method_25_code
def yX11_meter : MethodName := ⟨RX11, "meter", "(II)I"⟩
abbrev cX11_seed : ByteArray := prog_1_method_26_code
def yX11_seed : MethodName := ⟨RX11, "seed", "(I)Z"⟩
abbrev cX11_draw : ByteArray := prog_1_method_27_code
def yX11_draw : MethodName := ⟨RX11, "draw", "(I)I"⟩
abbrev cX11_keep : ByteArray := prog_1_method_28_code
def yX11_keep : MethodName := ⟨RX11, "keep", "()I"⟩
abbrev cX11_undo : ByteArray := prog_1_method_29_code
def yX11_undo : MethodName := ⟨RX11, "undo", "()Z"⟩
abbrev cX11_check : ByteArray := prog_1_method_30_code
def yX11_check : MethodName := ⟨RX11, "check", "(III)I"⟩
abbrev cX11_count : ByteArray := prog_1_method_31_code
def yX11_count : MethodName := ⟨RX11, "count", "(I)I"⟩
abbrev cX11_countOfOne : ByteArray := prog_1_method_32_code
def yX11_countOfOne : MethodName := ⟨RX11, "countOfOne", "(I)I"⟩
abbrev cX11_drawOne : ByteArray := prog_1_method_33_code
def yX11_drawOne : MethodName := ⟨RX11, "drawOne", "()V"⟩
abbrev cX11_roomsOnTape : ByteArray := prog_1_method_34_code
def yX11_roomsOnTape : MethodName := ⟨RX11, "roomsOnTape", "(II)I"⟩
abbrev cX11_areStays : ByteArray := prog_1_method_35_code
def yX11_areStays : MethodName := ⟨RX11, "areStays", "(II)Z"⟩
abbrev cX11_isBelow : ByteArray := prog_1_method_36_code
def yX11_isBelow : MethodName := ⟨RX11, "isBelow", "(II)Z"⟩
abbrev cX11_isUpTo : ByteArray := prog_1_method_37_code
def yX11_isUpTo : MethodName := ⟨RX11, "isUpTo", "(II)Z"⟩
abbrev cX11_isIn : ByteArray := prog_1_method_38_code
def yX11_isIn : MethodName := ⟨RX11, "isIn", "(II)Z"⟩
abbrev cX11_isPart : ByteArray := prog_1_method_39_code
def yX11_isPart : MethodName := ⟨RX11, "isPart", "(II)Z"⟩
def RX12 : String := "WeatherHotelModel"
def TX12 : u_T := fun k => match k with
  | 0 => ("WeatherHotelModel", "tape", "[B", true)
  | 1 => ("WeatherHotelModel", "taped", "I", false)
  | 2 => ("WeatherHotelModel", "place0", "I", false)
  | 3 => ("WeatherHotelModel", "length0", "I", false)
  | 4 => ("WeatherHotelModel", "fault", "I", false)
  | 5 => ("WeatherHotelModel", "number0", "I", false)
  | 6 => ("WeatherHotelModel", "toldDays", "I", false)
  | 7 => ("WeatherHotelModel", "dayHas", "[I", true)
  | 8 => ("WeatherHotelModel", "newDay", "[I", true)
  | 9 => ("WeatherHotelModel", "roomMany", "I", false)
  | 10 => ("WeatherHotelModel", "water0", "I", false)
  | 11 => ("WeatherHotelModel", "comes0", "I", false)
  | 12 => ("WeatherHotelModel", "toldStays", "I", false)
  | 13 => ("WeatherHotelModel", "x0", "I", false)
  | 14 => ("WeatherHotelModel", "floorOf", "[I", true)
  | 15 => ("WeatherHotelModel", "mostOf", "[I", true)
  | 16 => ("WeatherHotelModel", "penceOf", "[I", true)
  | 17 => ("WeatherHotelModel", "pipeOf", "[I", true)
  | 18 => ("WeatherHotelModel", "roomOf", "[I", true)
  | 19 => ("WeatherHotelModel", "dayOf", "[I", true)
  | 20 => ("WeatherHotelModel", "priceOf", "[I", true)
  | 21 => ("WeatherHotelModel", "shiftOf", "[I", true)
  | 22 => ("WeatherHotelModel", "open", "I", false)
  | 23 => ("WeatherHotelModel", "codeMany", "I", false)
  | 24 => ("WeatherHotelModel", "waiting", "I", false)
  | 25 => ("WeatherHotelModel", "saidMany", "I", false)
  | 26 => ("WeatherHotelModel", "clauses", "I", false)
  | 27 => ("WeatherHotelModel", "said", "[I", true)
  | 28 => ("WeatherHotelModel", "waits", "[I", true)
  | 29 => ("WeatherHotelModel", "saidLetter", "[I", true)
  | 30 => ("WeatherHotelModel", "saidFrom", "[I", true)
  | 31 => ("WeatherHotelModel", "saidHalf", "[I", true)
  | 32 => ("WeatherHotelModel", "saidTo", "[I", true)
  | 33 => ("WeatherHotelModel", "codes", "[I", true)
  | 34 => ("WeatherHotelModel", "clauseOf", "[I", true)
  | 35 => ("WeatherHotelModel", "codeFrom", "[I", true)
  | 36 => ("WeatherHotelModel", "codeHalf", "[I", true)
  | 37 => ("WeatherHotelModel", "codeTo", "[I", true)
  | 38 => ("WeatherHotelModel", "stack", "[I", true)
  | 39 => ("WeatherHotelModel", "facts", "[I", true)
  | 40 => ("WeatherHotelModel", "orderNow", "[I", true)
  | 41 => ("WeatherHotelModel", "soon", "[I", true)
  | 42 => ("WeatherHotelModel", "plantLeft", "[I", true)
  | 43 => ("WeatherHotelModel", "pipeLeft", "[I", true)
  | 44 => ("WeatherHotelModel", "given", "[I", true)
  | 45 => ("WeatherHotelModel", "missedOf", "[I", true)
  | 46 => ("WeatherHotelModel", "orderLong", "I", false)
  | 47 => ("WeatherHotelModel", "harm", "I", false)
  | 48 => ("WeatherHotelModel", "missedAll", "I", false)
  | 49 => ("WeatherHotelModel", "waterNow", "I", false)
  | 50 => ("WeatherHotelModel", "badHour", "I", false)
  | 51 => ("WeatherHotelModel", "badWhy", "I", false)
  | 52 => ("WeatherHotelModel", "who", "[I", true)
  | 53 => ("WeatherHotelModel", "roomTold", "[I", true)
  | 54 => ("WeatherHotelModel", "oldRoom", "[I", true)
  | 55 => ("WeatherHotelModel", "oldShift", "[I", true)
  | 56 => ("WeatherHotelModel", "rowNow", "[I", true)
  | 57 => ("WeatherHotelModel", "whoMany", "I", false)
  | 58 => ("WeatherHotelModel", "metered", "[I", true)
  | 59 => ("WeatherHotelModel", "meterDay", "[I", true)
  | 60 => ("WeatherHotelModel", "firstMeter", "[I", true)
  | 61 => ("WeatherHotelModel", "isKept", "Z", false)
  | 62 => ("WeatherHotelModel", "keptStays", "I", false)
  | 63 => ("WeatherHotelModel", "keptX", "I", false)
  | 64 => ("WeatherHotelModel", "keptRoom", "[I", true)
  | 65 => ("WeatherHotelModel", "keptDay", "[I", true)
  | 66 => ("WeatherHotelModel", "keptPrice", "[I", true)
  | _ => ("WeatherHotelModel", "keptShift", "[I", true)
def tyX12 : Nat → FieldType := fun k => match k with
  | 0 => .array .byte
  | 1 => .int
  | 2 => .int
  | 3 => .int
  | 4 => .int
  | 5 => .int
  | 6 => .int
  | 7 => .array .int
  | 8 => .array .int
  | 9 => .int
  | 10 => .int
  | 11 => .int
  | 12 => .int
  | 13 => .int
  | 14 => .array .int
  | 15 => .array .int
  | 16 => .array .int
  | 17 => .array .int
  | 18 => .array .int
  | 19 => .array .int
  | 20 => .array .int
  | 21 => .array .int
  | 22 => .int
  | 23 => .int
  | 24 => .int
  | 25 => .int
  | 26 => .int
  | 27 => .array .int
  | 28 => .array .int
  | 29 => .array .int
  | 30 => .array .int
  | 31 => .array .int
  | 32 => .array .int
  | 33 => .array .int
  | 34 => .array .int
  | 35 => .array .int
  | 36 => .array .int
  | 37 => .array .int
  | 38 => .array .int
  | 39 => .array .int
  | 40 => .array .int
  | 41 => .array .int
  | 42 => .array .int
  | 43 => .array .int
  | 44 => .array .int
  | 45 => .array .int
  | 46 => .int
  | 47 => .int
  | 48 => .int
  | 49 => .int
  | 50 => .int
  | 51 => .int
  | 52 => .array .int
  | 53 => .array .int
  | 54 => .array .int
  | 55 => .array .int
  | 56 => .array .int
  | 57 => .int
  | 58 => .array .int
  | 59 => .array .int
  | 60 => .array .int
  | 61 => .boolean
  | 62 => .int
  | 63 => .int
  | 64 => .array .int
  | 65 => .array .int
  | 66 => .array .int
  | _ => .array .int
theorem nmX12 : ∀ a, a < 68 → ∀ b, b < 68 → a ≠ b → (TX12 a).2.1 ≠ (TX12 b).2.1 := by decide +kernel
theorem tyX12_ok : ∀ k, k < 68 → parseFieldDescriptor (TX12 k).2.2.1 = some (tyX12 k) := by decide +kernel
abbrev cX12_init : ByteArray := prog_14_method_1_code
def yX12_init : MethodName := ⟨RX12, "<init>", "()V"⟩
abbrev cX12_in : ByteArray := prog_14_method_2_code
def yX12_in : MethodName := ⟨RX12, "in", "(III)Z"⟩
abbrev cX12_min : ByteArray := prog_14_method_3_code
def yX12_min : MethodName := ⟨RX12, "min", "(II)I"⟩
abbrev cX12_max : ByteArray := prog_14_method_4_code
def yX12_max : MethodName := ⟨RX12, "max", "(II)I"⟩
abbrev cX12_size : ByteArray := prog_14_method_5_code
def yX12_size : MethodName := ⟨RX12, "size", "(I)I"⟩
abbrev cX12_bits : ByteArray := prog_14_method_6_code
def yX12_bits : MethodName := ⟨RX12, "bits", "(I)I"⟩
abbrev cX12_has : ByteArray := prog_14_method_7_code
def yX12_has : MethodName := ⟨RX12, "has", "(II)Z"⟩
abbrev cX12_types : ByteArray := prog_14_method_8_code
def yX12_types : MethodName := ⟨RX12, "types", "(I)V"⟩
abbrev cX12_feed : ByteArray := prog_14_method_9_code
def yX12_feed : MethodName := ⟨RX12, "feed", "(IIIII)I"⟩
abbrev cX12_readsTwo : ByteArray := prog_14_method_10_code
def yX12_readsTwo : MethodName := ⟨RX12, "readsTwo", "()Z"⟩
abbrev cX12_readsHour : ByteArray := prog_14_method_11_code
def yX12_readsHour : MethodName := ⟨RX12, "readsHour", "(II)Z"⟩
abbrev cX12_readsPart : ByteArray := prog_14_method_12_code
def yX12_readsPart : MethodName := ⟨RX12, "readsPart", "(I)Z"⟩
abbrev cX12_day : ByteArray := prog_14_method_13_code
def yX12_day : MethodName := ⟨RX12, "day", "(II)I"⟩
abbrev cX12_isDay : ByteArray := prog_14_method_14_code
def yX12_isDay : MethodName := ⟨RX12, "isDay", "(I)Z"⟩
abbrev cX12_isKind : ByteArray := prog_14_method_15_code
def yX12_isKind : MethodName := ⟨RX12, "isKind", "(I)Z"⟩
abbrev cX12_isHour : ByteArray := prog_14_method_16_code
def yX12_isHour : MethodName := ⟨RX12, "isHour", "(I)Z"⟩
abbrev cX12_dayIs : ByteArray := prog_14_method_17_code
def yX12_dayIs : MethodName := ⟨RX12, "dayIs", "(III)I"⟩
abbrev cX12_room : ByteArray := prog_14_method_18_code
def yX12_room : MethodName := ⟨RX12, "room", "(I)I"⟩
abbrev cX12_plant : ByteArray := prog_14_method_19_code
def yX12_plant : MethodName := ⟨RX12, "plant", "(III)Z"⟩
abbrev cX12_pipes : ByteArray := prog_14_method_20_code
def yX12_pipes : MethodName := ⟨RX12, "pipes", "(II)Z"⟩
abbrev cX12_cellar : ByteArray := prog_14_method_21_code
def yX12_cellar : MethodName := ⟨RX12, "cellar", "(II)Z"⟩
abbrev cX12_isStay : ByteArray := prog_14_method_22_code
def yX12_isStay : MethodName := ⟨RX12, "isStay", "(I)Z"⟩
abbrev cX12_isRoom : ByteArray := prog_14_method_23_code
def yX12_isRoom : MethodName := ⟨RX12, "isRoom", "(I)Z"⟩
abbrev cX12_stayIn : ByteArray := prog_14_method_24_code
def yX12_stayIn : MethodName := ⟨RX12, "stayIn", "(I)I"⟩
abbrev cX12_stay : ByteArray := prog_14_method_25_code
def yX12_stay : MethodName := ⟨RX12, "stay", "(IIII)Z"⟩
abbrev cX12_leave : ByteArray := prog_14_method_26_code
def yX12_leave : MethodName := ⟨RX12, "leave", "(I)Z"⟩
abbrev cX12_shift : ByteArray := prog_14_method_27_code
def yX12_shift : MethodName := ⟨RX12, "shift", "(II)Z"⟩
abbrev cX12_wantOf : ByteArray := prog_14_method_28_code
def yX12_wantOf : MethodName := ⟨RX12, "wantOf", "(III)I"⟩
abbrev cX12_wantAll : ByteArray := prog_14_method_29_code
def yX12_wantAll : MethodName := ⟨RX12, "wantAll", "(III)I"⟩
abbrev cX12_wants : ByteArray := prog_14_method_30_code
def yX12_wants : MethodName := ⟨RX12, "wants", "(II)I"⟩
abbrev cX12_here : ByteArray := prog_14_method_31_code
def yX12_here : MethodName := ⟨RX12, "here", "()I"⟩
abbrev cX12_isDigit : ByteArray := prog_14_method_32_code
def yX12_isDigit : MethodName := ⟨RX12, "isDigit", "()Z"⟩
abbrev cX12_wrongAt : ByteArray := prog_14_method_33_code
def yX12_wrongAt : MethodName := ⟨RX12, "wrongAt", "(II)Z"⟩
abbrev cX12_takes : ByteArray := prog_14_method_34_code
def yX12_takes : MethodName := ⟨RX12, "takes", "(I)Z"⟩
abbrev cX12_readsNumber : ByteArray := prog_14_method_35_code
def yX12_readsNumber : MethodName := ⟨RX12, "readsNumber", "()Z"⟩
abbrev cX12_notes : ByteArray := prog_14_method_36_code
def yX12_notes : MethodName := ⟨RX12, "notes", "(II)V"⟩
abbrev cX12_opens : ByteArray := prog_14_method_37_code
def yX12_opens : MethodName := ⟨RX12, "opens", "(I)Z"⟩
abbrev cX12_top : ByteArray := prog_14_method_38_code
def yX12_top : MethodName := ⟨RX12, "top", "()I"⟩
abbrev cX12_factOf : ByteArray := prog_14_method_39_code
def yX12_factOf : MethodName := ⟨RX12, "factOf", "(I)I"⟩
abbrev cX12_sumSign : ByteArray := prog_14_method_40_code
def yX12_sumSign : MethodName := ⟨RX12, "sumSign", "(I)I"⟩
abbrev cX12_closesSums : ByteArray := prog_14_method_41_code
def yX12_closesSums : MethodName := ⟨RX12, "closesSums", "(Z)V"⟩
abbrev cX12_readsFactor : ByteArray := prog_14_method_42_code
def yX12_readsFactor : MethodName := ⟨RX12, "readsFactor", "()Z"⟩
abbrev cX12_hasOpenSum : ByteArray := prog_14_method_43_code
def yX12_hasOpenSum : MethodName := ⟨RX12, "hasOpenSum", "(I)Z"⟩
abbrev cX12_readsSum : ByteArray := prog_14_method_44_code
def yX12_readsSum : MethodName := ⟨RX12, "readsSum", "()Z"⟩
abbrev cX12_endsPiece : ByteArray := prog_14_method_45_code
def yX12_endsPiece : MethodName := ⟨RX12, "endsPiece", "()V"⟩
abbrev cX12_lands : ByteArray := prog_14_method_46_code
def yX12_lands : MethodName := ⟨RX12, "lands", "(Z)V"⟩
abbrev cX12_jumps : ByteArray := prog_14_method_47_code
def yX12_jumps : MethodName := ⟨RX12, "jumps", "(I)V"⟩
abbrev cX12_readsCompared : ByteArray := prog_14_method_48_code
def yX12_readsCompared : MethodName := ⟨RX12, "readsCompared", "()Z"⟩
abbrev cX12_readsCondition : ByteArray := prog_14_method_49_code
def yX12_readsCondition : MethodName := ⟨RX12, "readsCondition", "()Z"⟩
abbrev cX12_readsClause : ByteArray := prog_14_method_50_code
def yX12_readsClause : MethodName := ⟨RX12, "readsClause", "()Z"⟩
abbrev cX12_law : ByteArray := prog_14_method_51_code
def yX12_law : MethodName := ⟨RX12, "law", "(I)I"⟩
abbrev cX12_reckon : ByteArray := prog_14_method_52_code
def yX12_reckon : MethodName := ⟨RX12, "reckon", "(III)I"⟩
abbrev cX12_comesTo : ByteArray := prog_14_method_53_code
def yX12_comesTo : MethodName := ⟨RX12, "comesTo", "(II)I"⟩
abbrev cX12_byLaw : ByteArray := prog_14_method_54_code
def yX12_byLaw : MethodName := ⟨RX12, "byLaw", "(III)I"⟩
abbrev cX12_feels : ByteArray := prog_14_method_55_code
def yX12_feels : MethodName := ⟨RX12, "feels", "(IIIII)V"⟩
abbrev cX12_soonOf : ByteArray := prog_14_method_56_code
def yX12_soonOf : MethodName := ⟨RX12, "soonOf", "(II)I"⟩
abbrev cX12_laysOrder : ByteArray := prog_14_method_57_code
def yX12_laysOrder : MethodName := ⟨RX12, "laysOrder", "(I)V"⟩
abbrev cX12_gives : ByteArray := prog_14_method_58_code
def yX12_gives : MethodName := ⟨RX12, "gives", "(III)V"⟩
abbrev cX12_startsDay : ByteArray := prog_14_method_59_code
def yX12_startsDay : MethodName := ⟨RX12, "startsDay", "()V"⟩
abbrev cX12_servesHour : ByteArray := prog_14_method_60_code
def yX12_servesHour : MethodName := ⟨RX12, "servesHour", "(I)V"⟩
abbrev cX12_serves : ByteArray := prog_14_method_61_code
def yX12_serves : MethodName := ⟨RX12, "serves", "()V"⟩
abbrev cX12_gets : ByteArray := prog_14_method_62_code
def yX12_gets : MethodName := ⟨RX12, "gets", "(III)I"⟩
abbrev cX12_served : ByteArray := prog_14_method_63_code
def yX12_served : MethodName := ⟨RX12, "served", "(I)I"⟩
abbrev cX12_rainOf : ByteArray := prog_14_method_64_code
def yX12_rainOf : MethodName := ⟨RX12, "rainOf", "(III)I"⟩
abbrev cX12_whyNot : ByteArray := prog_14_method_65_code
def yX12_whyNot : MethodName := ⟨RX12, "whyNot", "(IIIZ)I"⟩
abbrev cX12_canBe : ByteArray := prog_14_method_66_code
def yX12_canBe : MethodName := ⟨RX12, "canBe", "(IZ)Z"⟩
abbrev cX12_areStays : ByteArray := prog_14_method_67_code
def yX12_areStays : MethodName := ⟨RX12, "areStays", "(I)Z"⟩
abbrev cX12_can : ByteArray := prog_14_method_68_code
def yX12_can : MethodName := ⟨RX12, "can", "(II)I"⟩
abbrev cX12_pricesOf : ByteArray := prog_14_method_69_code
def yX12_pricesOf : MethodName := ⟨RX12, "pricesOf", "(I)I"⟩
abbrev cX12_isBetter : ByteArray := prog_14_method_70_code
def yX12_isBetter : MethodName := ⟨RX12, "isBetter", "(IIII)Z"⟩
abbrev cX12_bestOf : ByteArray := prog_14_method_71_code
def yX12_bestOf : MethodName := ⟨RX12, "bestOf", "(I)I"⟩
abbrev cX12_best : ByteArray := prog_14_method_72_code
def yX12_best : MethodName := ⟨RX12, "best", "(I)I"⟩
abbrev cX12_smallest : ByteArray := prog_14_method_73_code
def yX12_smallest : MethodName := ⟨RX12, "smallest", "()I"⟩
abbrev cX12_costs : ByteArray := prog_14_method_74_code
def yX12_costs : MethodName := ⟨RX12, "costs", "(I)I"⟩
abbrev cX12_laysWho : ByteArray := prog_14_method_75_code
def yX12_laysWho : MethodName := ⟨RX12, "laysWho", "(I)V"⟩
abbrev cX12_takesRooms : ByteArray := prog_14_method_76_code
def yX12_takesRooms : MethodName := ⟨RX12, "takesRooms", "(II)Z"⟩
abbrev cX12_ordersBy : ByteArray := prog_14_method_77_code
def yX12_ordersBy : MethodName := ⟨RX12, "ordersBy", "(III)V"⟩
abbrev cX12_orders : ByteArray := prog_14_method_78_code
def yX12_orders : MethodName := ⟨RX12, "orders", "(I)I"⟩
abbrev cX12_firstRooms : ByteArray := prog_14_method_79_code
def yX12_firstRooms : MethodName := ⟨RX12, "firstRooms", "()I"⟩
abbrev cX12_rooms : ByteArray := prog_14_method_80_code
def yX12_rooms : MethodName := ⟨RX12, "rooms", "(III)I"⟩
abbrev cX12_shiftsBy : ByteArray := prog_14_method_81_code
def yX12_shiftsBy : MethodName := ⟨RX12, "shiftsBy", "(II)I"⟩
abbrev cX12_shifting : ByteArray := prog_14_method_82_code
def yX12_shifting : MethodName := ⟨RX12, "shifting", "(III)I"⟩
abbrev cX12_mostWanted : ByteArray := prog_14_method_83_code
def yX12_mostWanted : MethodName := ⟨RX12, "mostWanted", "(II)I"⟩
abbrev cX12_moreOf : ByteArray := prog_14_method_84_code
def yX12_moreOf : MethodName := ⟨RX12, "moreOf", "(II)I"⟩
abbrev cX12_brings : ByteArray := prog_14_method_85_code
def yX12_brings : MethodName := ⟨RX12, "brings", "(I)I"⟩
abbrev cX12_larger : ByteArray := prog_14_method_86_code
def yX12_larger : MethodName := ⟨RX12, "larger", "(I)I"⟩
abbrev cX12_plantCost : ByteArray := prog_14_method_87_code
def yX12_plantCost : MethodName := ⟨RX12, "plantCost", "(I)I"⟩
abbrev cX12_gcd : ByteArray := prog_14_method_88_code
def yX12_gcd : MethodName := ⟨RX12, "gcd", "(JJ)J"⟩
abbrev cX12_fair : ByteArray := prog_14_method_89_code
def yX12_fair : MethodName := ⟨RX12, "fair", "(III)J"⟩
abbrev cX12_harmBy : ByteArray := prog_14_method_90_code
def yX12_harmBy : MethodName := ⟨RX12, "harmBy", "(II)I"⟩
abbrev cX12_drought : ByteArray := prog_14_method_91_code
def yX12_drought : MethodName := ⟨RX12, "drought", "(II)I"⟩
abbrev cX12_comesToMeter : ByteArray := prog_14_method_92_code
def yX12_comesToMeter : MethodName := ⟨RX12, "comesToMeter", "(I)Z"⟩
abbrev cX12_isMeterRow : ByteArray := prog_14_method_93_code
def yX12_isMeterRow : MethodName := ⟨RX12, "isMeterRow", "(II)Z"⟩
abbrev cX12_meter : ByteArray := prog_14_method_94_code
def yX12_meter : MethodName := ⟨RX12, "meter", "(II)I"⟩
abbrev cX12_seed : ByteArray := prog_14_method_95_code
def yX12_seed : MethodName := ⟨RX12, "seed", "(I)Z"⟩
abbrev cX12_draw : ByteArray := prog_14_method_96_code
def yX12_draw : MethodName := ⟨RX12, "draw", "(I)I"⟩
abbrev cX12_copies : ByteArray := prog_14_method_97_code
def yX12_copies : MethodName := ⟨RX12, "copies", "([I[I)V"⟩
abbrev cX12_keep : ByteArray := prog_14_method_98_code
def yX12_keep : MethodName := ⟨RX12, "keep", "()I"⟩
abbrev cX12_undo : ByteArray := prog_14_method_99_code
def yX12_undo : MethodName := ⟨RX12, "undo", "()Z"⟩
abbrev cX12_tapeNumber : ByteArray := prog_14_method_100_code
def yX12_tapeNumber : MethodName := ⟨RX12, "tapeNumber", "(I)I"⟩
abbrev cX12_check : ByteArray := prog_14_method_101_code
def yX12_check : MethodName := ⟨RX12, "check", "(III)I"⟩
abbrev cX12_count : ByteArray := prog_14_method_102_code
def yX12_count : MethodName := ⟨RX12, "count", "(I)I"⟩
def RJx145de : String := "java/io/Serializable"
def TJx145de : u_T := fun k => match k with
  | _ => ("", "", "", false)
def tyJx145de : Nat → FieldType := fun k => match k with
  | _ => .int
theorem nmJx145de : ∀ a, a < 0 → ∀ b, b < 0 → a ≠ b → (TJx145de a).2.1 ≠ (TJx145de b).2.1 := by decide +kernel
theorem tyJx145de_ok : ∀ k, k < 0 → parseFieldDescriptor (TJx145de k).2.2.1 = some (tyJx145de k) := by decide +kernel
def RJx9f9b0 : String := "java/lang/CharSequence"
def TJx9f9b0 : u_T := fun k => match k with
  | _ => ("", "", "", false)
def tyJx9f9b0 : Nat → FieldType := fun k => match k with
  | _ => .int
theorem nmJx9f9b0 : ∀ a, a < 0 → ∀ b, b < 0 → a ≠ b → (TJx9f9b0 a).2.1 ≠ (TJx9f9b0 b).2.1 := by decide +kernel
theorem tyJx9f9b0_ok : ∀ k, k < 0 → parseFieldDescriptor (TJx9f9b0 k).2.2.1 = some (tyJx9f9b0 k) := by decide +kernel
def RJ11 : String := "java/lang/Character"
def TJ11 : u_T := fun k => match k with
  | _ => ("", "", "", false)
def tyJ11 : Nat → FieldType := fun k => match k with
  | _ => .int
theorem nmJ11 : ∀ a, a < 0 → ∀ b, b < 0 → a ≠ b → (TJ11 a).2.1 ≠ (TJ11 b).2.1 := by decide +kernel
theorem tyJ11_ok : ∀ k, k < 0 → parseFieldDescriptor (TJ11 k).2.2.1 = some (tyJ11 k) := by decide +kernel
abbrev cJ11_isValidCodePoint_9a6ad : ByteArray := prog_15_method_11_code
def yJ11_isValidCodePoint_9a6ad : MethodName := ⟨RJ11, "isValidCodePoint", "(I)Z"⟩
abbrev cJ11_highSurrogate_5068e : ByteArray := prog_15_method_28_code
def yJ11_highSurrogate_5068e : MethodName := ⟨RJ11, "highSurrogate", "(I)C"⟩
abbrev cJ11_lowSurrogate_5068e : ByteArray := prog_15_method_29_code
def yJ11_lowSurrogate_5068e : MethodName := ⟨RJ11, "lowSurrogate", "(I)C"⟩
def RJxb160c : String := "java/lang/Comparable"
def TJxb160c : u_T := fun k => match k with
  | _ => ("", "", "", false)
def tyJxb160c : Nat → FieldType := fun k => match k with
  | _ => .int
theorem nmJxb160c : ∀ a, a < 0 → ∀ b, b < 0 → a ≠ b → (TJxb160c a).2.1 ≠ (TJxb160c b).2.1 := by decide +kernel
theorem tyJxb160c_ok : ∀ k, k < 0 → parseFieldDescriptor (TJxb160c k).2.2.1 = some (tyJxb160c k) := by decide +kernel
def RJ6 : String := "java/lang/Integer"
def TJ6 : u_T := fun k => match k with
  | _ => ("", "", "", false)
def tyJ6 : Nat → FieldType := fun k => match k with
  | _ => .int
theorem nmJ6 : ∀ a, a < 0 → ∀ b, b < 0 → a ≠ b → (TJ6 a).2.1 ≠ (TJ6 b).2.1 := by decide +kernel
theorem tyJ6_ok : ∀ k, k < 0 → parseFieldDescriptor (TJ6 k).2.2.1 = some (tyJ6 k) := by decide +kernel
abbrev cJ6_bitCount_0f7a4 : ByteArray := prog_16_method_49_code
def yJ6_bitCount_0f7a4 : MethodName := ⟨RJ6, "bitCount", "(I)I"⟩
def RJ9 : String := "java/lang/Math"
def TJ9 : u_T := fun k => match k with
  | _ => ("", "", "", false)
def tyJ9 : Nat → FieldType := fun k => match k with
  | _ => .int
theorem nmJ9 : ∀ a, a < 0 → ∀ b, b < 0 → a ≠ b → (TJ9 a).2.1 ≠ (TJ9 b).2.1 := by decide +kernel
theorem tyJ9_ok : ∀ k, k < 0 → parseFieldDescriptor (TJ9 k).2.2.1 = some (tyJ9 k) := by decide +kernel
abbrev cJ9_floorMod_7cf53 : ByteArray := prog_17_method_50_code
def yJ9_floorMod_7cf53 : MethodName := ⟨RJ9, "floorMod", "(II)I"⟩
abbrev cJ9_abs_0f7a4 : ByteArray := prog_17_method_59_code
def yJ9_abs_0f7a4 : MethodName := ⟨RJ9, "abs", "(I)I"⟩
abbrev cJ9_max_7cf53 : ByteArray := prog_17_method_65_code
def yJ9_max_7cf53 : MethodName := ⟨RJ9, "max", "(II)I"⟩
abbrev cJ9_min_7cf53 : ByteArray := prog_17_method_69_code
def yJ9_min_7cf53 : MethodName := ⟨RJ9, "min", "(II)I"⟩
def RJ0 : String := "java/lang/String"
def TJ0 : u_T := fun k => match k with
  | _ => ("", "", "", false)
def tyJ0 : Nat → FieldType := fun k => match k with
  | _ => .int
theorem nmJ0 : ∀ a, a < 0 → ∀ b, b < 0 → a ≠ b → (TJ0 a).2.1 ≠ (TJ0 b).2.1 := by decide +kernel
theorem tyJ0_ok : ∀ k, k < 0 → parseFieldDescriptor (TJ0 k).2.2.1 = some (tyJ0 k) := by decide +kernel
abbrev cJ0_length_8abf5 : ByteArray := prog_18_method_54_code
def yJ0_length_8abf5 : MethodName := ⟨RJ0, "length", "()I"⟩
abbrev cJ0_indexOf_0f7a4 : ByteArray := prog_18_method_79_code
def yJ0_indexOf_0f7a4 : MethodName := ⟨RJ0, "indexOf", "(I)I"⟩
abbrev cJ0_indexOf_7cf53 : ByteArray := prog_18_method_80_code
def yJ0_indexOf_7cf53 : MethodName := ⟨RJ0, "indexOf", "(II)I"⟩
abbrev cJ0_coder_7d493 : ByteArray := prog_18_method_152_code
def yJ0_coder_7d493 : MethodName := ⟨RJ0, "coder", "()B"⟩
abbrev cJ0_isLatin1_aae02 : ByteArray := prog_18_method_154_code
def yJ0_isLatin1_aae02 : MethodName := ⟨RJ0, "isLatin1", "()Z"⟩
abbrev cJ0_checkBoundsBeginEnd_23922 : ByteArray := prog_18_method_158_code
def yJ0_checkBoundsBeginEnd_23922 : MethodName := ⟨RJ0, "checkBoundsBeginEnd", "(III)V"⟩
def RJ1 : String := "java/lang/StringLatin1"
def TJ1 : u_T := fun k => match k with
  | _ => ("", "", "", false)
def tyJ1 : Nat → FieldType := fun k => match k with
  | _ => .int
theorem nmJ1 : ∀ a, a < 0 → ∀ b, b < 0 → a ≠ b → (TJ1 a).2.1 ≠ (TJ1 b).2.1 := by decide +kernel
theorem tyJ1_ok : ∀ k, k < 0 → parseFieldDescriptor (TJ1 k).2.2.1 = some (tyJ1 k) := by decide +kernel
abbrev cJ1_canEncode_9a6ad : ByteArray := prog_19_method_4_code
def yJ1_canEncode_9a6ad : MethodName := ⟨RJ1, "canEncode", "(I)Z"⟩
abbrev cJ1_indexOf_4cfef : ByteArray := prog_19_method_22_code
def yJ1_indexOf_4cfef : MethodName := ⟨RJ1, "indexOf", "([BIII)I"⟩
abbrev cJ1_indexOfChar_4cfef : ByteArray := prog_19_method_23_code
def yJ1_indexOfChar_4cfef : MethodName := ⟨RJ1, "indexOfChar", "([BIII)I"⟩
def RJ2 : String := "java/lang/StringUTF16"
def TJ2 : u_T := fun k => match k with
  | _ => ("", "", "", false)
def tyJ2 : Nat → FieldType := fun k => match k with
  | _ => .int
theorem nmJ2 : ∀ a, a < 0 → ∀ b, b < 0 → a ≠ b → (TJ2 a).2.1 ≠ (TJ2 b).2.1 := by decide +kernel
theorem tyJ2_ok : ∀ k, k < 0 → parseFieldDescriptor (TJ2 k).2.2.1 = some (tyJ2 k) := by decide +kernel
abbrev cJ2_getChar_3b067 : ByteArray := prog_20_method_5_code
def yJ2_getChar_3b067 : MethodName := ⟨RJ2, "getChar", "([BI)C"⟩
abbrev cJ2_length_9d52b : ByteArray := prog_20_method_6_code
def yJ2_length_9d52b : MethodName := ⟨RJ2, "length", "([B)I"⟩
abbrev cJ2_indexOf_4cfef : ByteArray := prog_20_method_40_code
def yJ2_indexOf_4cfef : MethodName := ⟨RJ2, "indexOf", "([BIII)I"⟩
abbrev cJ2_indexOfChar_4cfef : ByteArray := prog_20_method_47_code
def yJ2_indexOfChar_4cfef : MethodName := ⟨RJ2, "indexOfChar", "([BIII)I"⟩
abbrev cJ2_indexOfCharUnsafe_4cfef : ByteArray := prog_20_method_48_code
def yJ2_indexOfCharUnsafe_4cfef : MethodName := ⟨RJ2, "indexOfCharUnsafe", "([BIII)I"⟩
abbrev cJ2_indexOfSupplementary_4cfef : ByteArray := prog_20_method_49_code
def yJ2_indexOfSupplementary_4cfef : MethodName := ⟨RJ2, "indexOfSupplementary", "([BIII)I"⟩
abbrev cJ2_checkBoundsBeginEnd_d044e : ByteArray := prog_20_method_93_code
def yJ2_checkBoundsBeginEnd_d044e : MethodName := ⟨RJ2, "checkBoundsBeginEnd", "(II[B)V"⟩
def RJ10 : String := "java/lang/System"
def TJ10 : u_T := fun k => match k with
  | _ => ("", "", "", false)
def tyJ10 : Nat → FieldType := fun k => match k with
  | _ => .int
theorem nmJ10 : ∀ a, a < 0 → ∀ b, b < 0 → a ≠ b → (TJ10 a).2.1 ≠ (TJ10 b).2.1 := by decide +kernel
theorem tyJ10_ok : ∀ k, k < 0 → parseFieldDescriptor (TJ10 k).2.2.1 = some (tyJ10 k) := by decide +kernel
def RJxfd54e : String := "java/lang/constant/Constable"
def TJxfd54e : u_T := fun k => match k with
  | _ => ("", "", "", false)
def tyJxfd54e : Nat → FieldType := fun k => match k with
  | _ => .int
theorem nmJxfd54e : ∀ a, a < 0 → ∀ b, b < 0 → a ≠ b → (TJxfd54e a).2.1 ≠ (TJxfd54e b).2.1 := by decide +kernel
theorem tyJxfd54e_ok : ∀ k, k < 0 → parseFieldDescriptor (TJxfd54e k).2.2.1 = some (tyJxfd54e k) := by decide +kernel
def RJx3cf43 : String := "java/lang/constant/ConstantDesc"
def TJx3cf43 : u_T := fun k => match k with
  | _ => ("", "", "", false)
def tyJx3cf43 : Nat → FieldType := fun k => match k with
  | _ => .int
theorem nmJx3cf43 : ∀ a, a < 0 → ∀ b, b < 0 → a ≠ b → (TJx3cf43 a).2.1 ≠ (TJx3cf43 b).2.1 := by decide +kernel
theorem tyJx3cf43_ok : ∀ k, k < 0 → parseFieldDescriptor (TJx3cf43 k).2.2.1 = some (tyJx3cf43 k) := by decide +kernel
def RJ7 : String := "java/util/Arrays"
def TJ7 : u_T := fun k => match k with
  | _ => ("", "", "", false)
def tyJ7 : Nat → FieldType := fun k => match k with
  | _ => .int
theorem nmJ7 : ∀ a, a < 0 → ∀ b, b < 0 → a ≠ b → (TJ7 a).2.1 ≠ (TJ7 b).2.1 := by decide +kernel
theorem tyJ7_ok : ∀ k, k < 0 → parseFieldDescriptor (TJ7 k).2.2.1 = some (tyJ7 k) := by decide +kernel
abbrev cJ7_fill_53178 : ByteArray := prog_22_method_103_code
def yJ7_fill_53178 : MethodName := ⟨RJ7, "fill", "([II)V"⟩
def RJ3 : String := "jdk/internal/util/Preconditions"
def TJ3 : u_T := fun k => match k with
  | _ => ("", "", "", false)
def tyJ3 : Nat → FieldType := fun k => match k with
  | _ => .int
theorem nmJ3 : ∀ a, a < 0 → ∀ b, b < 0 → a ≠ b → (TJ3 a).2.1 ≠ (TJ3 b).2.1 := by decide +kernel
theorem tyJ3_ok : ∀ k, k < 0 → parseFieldDescriptor (TJ3 k).2.2.1 = some (tyJ3 k) := by decide +kernel
abbrev cJ3_checkFromToIndex_8c36e : ByteArray := prog_23_method_12_code
def yJ3_checkFromToIndex_8c36e : MethodName := ⟨RJ3, "checkFromToIndex", "(IIILjava/util/function/BiFunction;)I"⟩
def RL : String := "WeatherHotelLaw"
abbrev cL_law : ByteArray := code
def yL_law : MethodName := ⟨RL, "law", "([I)Z"⟩
abbrev vwCl : List vw_C := [(RX0, TX0, 8), (RX1, TX1, 9), (RX2, TX2, 7), (RX3, TX3, 12), (RX4, TX4, 2), (RX5, TX5, 10), (RX6, TX6, 9), (RX7, TX7, 6), (RX8, TX8, 15), (RX9, TX9, 2), (RX10, TX10, 5), (RX11, TX11, 13), (RX12, TX12, 68)]
