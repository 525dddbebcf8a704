section
/-- a private method of a class that the tables say can be made, by its rows of tables_1 -/
def lw_okq (q : MethodName × Nat) : Prop := (q.1.cls ≠ "java/lang/invoke/MethodHandle" ∧ q.1.cls ≠ "java/lang/invoke/VarHandle") ∧ Cond.instantiable q.1.cls q.2 ∈ tables_1 ∧ Cond.privateMethod q.1 ∈ tables_1 ∧ Cond.instanceMethod q.1 ∈ tables_1
theorem lw_p0 : lw_okq (⟨"MudWalls$Guesses", "clear", "(I)V"⟩, 2) := ⟨⟨by decide +kernel, by decide +kernel⟩, List.mem_of_getElem? (i := 378) (by decide +kernel), List.mem_of_getElem? (i := 388) (by decide +kernel), List.mem_of_getElem? (i := 389) (by decide +kernel)⟩
theorem lw_p1 : lw_okq (⟨"MudWalls", "putNumber", "(I)V"⟩, 19) := ⟨⟨by decide +kernel, by decide +kernel⟩, List.mem_of_getElem? (i := 26) (by decide +kernel), List.mem_of_getElem? (i := 462) (by decide +kernel), List.mem_of_getElem? (i := 463) (by decide +kernel)⟩
theorem lw_p2 : lw_okq (⟨"MudWalls$Bricks", "gainsays", "(IZ)Z"⟩, 3) := ⟨⟨by decide +kernel, by decide +kernel⟩, List.mem_of_getElem? (i := 330) (by decide +kernel), List.mem_of_getElem? (i := 478) (by decide +kernel), List.mem_of_getElem? (i := 479) (by decide +kernel)⟩
theorem lw_p3 : lw_okq (⟨"MudWalls$Guesses", "apartAt", "(I)I"⟩, 2) := ⟨⟨by decide +kernel, by decide +kernel⟩, List.mem_of_getElem? (i := 378) (by decide +kernel), List.mem_of_getElem? (i := 502) (by decide +kernel), List.mem_of_getElem? (i := 503) (by decide +kernel)⟩
theorem lw_p4 : lw_okq (⟨"java/lang/Throwable", "fillInStackTrace", "(I)Ljava/lang/Throwable;"⟩, 6) := ⟨⟨by decide +kernel, by decide +kernel⟩, List.mem_of_getElem? (i := 572) (by decide +kernel), List.mem_of_getElem? (i := 570) (by decide +kernel), List.mem_of_getElem? (i := 571) (by decide +kernel)⟩
theorem lw_p5 : lw_okq (⟨"MudWalls$Reader", "advance", "()V"⟩, 7) := ⟨⟨by decide +kernel, by decide +kernel⟩, List.mem_of_getElem? (i := 34) (by decide +kernel), List.mem_of_getElem? (i := 608) (by decide +kernel), List.mem_of_getElem? (i := 609) (by decide +kernel)⟩
theorem lw_p6 : lw_okq (⟨"MudWalls$Reader", "skipRow", "(CC)V"⟩, 7) := ⟨⟨by decide +kernel, by decide +kernel⟩, List.mem_of_getElem? (i := 34) (by decide +kernel), List.mem_of_getElem? (i := 615) (by decide +kernel), List.mem_of_getElem? (i := 616) (by decide +kernel)⟩
theorem lw_p7 : lw_okq (⟨"MudWalls$Reader", "readLine", "(LMudWalls$Yard;)V"⟩, 7) := ⟨⟨by decide +kernel, by decide +kernel⟩, List.mem_of_getElem? (i := 34) (by decide +kernel), List.mem_of_getElem? (i := 619) (by decide +kernel), List.mem_of_getElem? (i := 620) (by decide +kernel)⟩
theorem lw_p8 : lw_okq (⟨"MudWalls$Reader", "atWord", "(Ljava/lang/String;)Z"⟩, 7) := ⟨⟨by decide +kernel, by decide +kernel⟩, List.mem_of_getElem? (i := 34) (by decide +kernel), List.mem_of_getElem? (i := 624) (by decide +kernel), List.mem_of_getElem? (i := 625) (by decide +kernel)⟩
theorem lw_p9 : lw_okq (⟨"MudWalls$Reader", "readEarth", "(LMudWalls$Yard;)V"⟩, 7) := ⟨⟨by decide +kernel, by decide +kernel⟩, List.mem_of_getElem? (i := 34) (by decide +kernel), List.mem_of_getElem? (i := 676) (by decide +kernel), List.mem_of_getElem? (i := 677) (by decide +kernel)⟩
theorem lw_p10 : lw_okq (⟨"MudWalls$Reader", "refuse", "(I)V"⟩, 7) := ⟨⟨by decide +kernel, by decide +kernel⟩, List.mem_of_getElem? (i := 34) (by decide +kernel), List.mem_of_getElem? (i := 680) (by decide +kernel), List.mem_of_getElem? (i := 681) (by decide +kernel)⟩
theorem lw_p11 : lw_okq (⟨"MudWalls$Reader", "takeNumber", "(II)I"⟩, 7) := ⟨⟨by decide +kernel, by decide +kernel⟩, List.mem_of_getElem? (i := 34) (by decide +kernel), List.mem_of_getElem? (i := 684) (by decide +kernel), List.mem_of_getElem? (i := 685) (by decide +kernel)⟩
theorem lw_p12 : lw_okq (⟨"MudWalls$Reader", "numberAtHand", "()I"⟩, 7) := ⟨⟨by decide +kernel, by decide +kernel⟩, List.mem_of_getElem? (i := 34) (by decide +kernel), List.mem_of_getElem? (i := 688) (by decide +kernel), List.mem_of_getElem? (i := 689) (by decide +kernel)⟩
theorem lw_p13 : lw_okq (⟨"MudWalls$Reader", "readWall", "(LMudWalls$Yard;)V"⟩, 7) := ⟨⟨by decide +kernel, by decide +kernel⟩, List.mem_of_getElem? (i := 34) (by decide +kernel), List.mem_of_getElem? (i := 694) (by decide +kernel), List.mem_of_getElem? (i := 695) (by decide +kernel)⟩
theorem lw_p14 : lw_okq (⟨"MudWalls$Reader", "takeOption", "(Ljava/lang/String;II)I"⟩, 7) := ⟨⟨by decide +kernel, by decide +kernel⟩, List.mem_of_getElem? (i := 34) (by decide +kernel), List.mem_of_getElem? (i := 699) (by decide +kernel), List.mem_of_getElem? (i := 700) (by decide +kernel)⟩
theorem lw_p15 : lw_okq (⟨"MudWalls$Reader", "takeWord", "(Ljava/lang/String;)Z"⟩, 7) := ⟨⟨by decide +kernel, by decide +kernel⟩, List.mem_of_getElem? (i := 34) (by decide +kernel), List.mem_of_getElem? (i := 703) (by decide +kernel), List.mem_of_getElem? (i := 704) (by decide +kernel)⟩
def lw_privs_1 : List (MethodName × Nat) := [(⟨"MudWalls$Guesses", "clear", "(I)V"⟩, 2), (⟨"MudWalls", "putNumber", "(I)V"⟩, 19), (⟨"MudWalls$Bricks", "gainsays", "(IZ)Z"⟩, 3), (⟨"MudWalls$Guesses", "apartAt", "(I)I"⟩, 2), (⟨"java/lang/Throwable", "fillInStackTrace", "(I)Ljava/lang/Throwable;"⟩, 6), (⟨"MudWalls$Reader", "advance", "()V"⟩, 7), (⟨"MudWalls$Reader", "skipRow", "(CC)V"⟩, 7), (⟨"MudWalls$Reader", "readLine", "(LMudWalls$Yard;)V"⟩, 7), (⟨"MudWalls$Reader", "atWord", "(Ljava/lang/String;)Z"⟩, 7), (⟨"MudWalls$Reader", "readEarth", "(LMudWalls$Yard;)V"⟩, 7), (⟨"MudWalls$Reader", "refuse", "(I)V"⟩, 7), (⟨"MudWalls$Reader", "takeNumber", "(II)I"⟩, 7), (⟨"MudWalls$Reader", "numberAtHand", "()I"⟩, 7), (⟨"MudWalls$Reader", "readWall", "(LMudWalls$Yard;)V"⟩, 7), (⟨"MudWalls$Reader", "takeOption", "(Ljava/lang/String;II)I"⟩, 7), (⟨"MudWalls$Reader", "takeWord", "(Ljava/lang/String;)Z"⟩, 7)]
theorem lw_r1 : ∀ q ∈ lw_privs_1, lw_okq q := List.forall_mem_cons.mpr ⟨lw_p0, List.forall_mem_cons.mpr ⟨lw_p1, List.forall_mem_cons.mpr ⟨lw_p2, List.forall_mem_cons.mpr ⟨lw_p3, List.forall_mem_cons.mpr ⟨lw_p4, List.forall_mem_cons.mpr ⟨lw_p5, List.forall_mem_cons.mpr ⟨lw_p6, List.forall_mem_cons.mpr ⟨lw_p7, List.forall_mem_cons.mpr ⟨lw_p8, List.forall_mem_cons.mpr ⟨lw_p9, List.forall_mem_cons.mpr ⟨lw_p10, List.forall_mem_cons.mpr ⟨lw_p11, List.forall_mem_cons.mpr ⟨lw_p12, List.forall_mem_cons.mpr ⟨lw_p13, List.forall_mem_cons.mpr ⟨lw_p14, List.forall_mem_cons.mpr ⟨lw_p15, fun _ h => absurd h List.not_mem_nil⟩⟩⟩⟩⟩⟩⟩⟩⟩⟩⟩⟩⟩⟩⟩⟩
theorem lw_p16 : lw_okq (⟨"MudWalls$Reader", "readWeek", "(LMudWalls$Yard;)V"⟩, 7) := ⟨⟨by decide +kernel, by decide +kernel⟩, List.mem_of_getElem? (i := 34) (by decide +kernel), List.mem_of_getElem? (i := 712) (by decide +kernel), List.mem_of_getElem? (i := 713) (by decide +kernel)⟩
theorem lw_p17 : lw_okq (⟨"MudWalls", "beginAnew", "()V"⟩, 19) := ⟨⟨by decide +kernel, by decide +kernel⟩, List.mem_of_getElem? (i := 26) (by decide +kernel), List.mem_of_getElem? (i := 717) (by decide +kernel), List.mem_of_getElem? (i := 718) (by decide +kernel)⟩
theorem lw_p18 : lw_okq (⟨"MudWalls", "waterCome", "()I"⟩, 19) := ⟨⟨by decide +kernel, by decide +kernel⟩, List.mem_of_getElem? (i := 26) (by decide +kernel), List.mem_of_getElem? (i := 757) (by decide +kernel), List.mem_of_getElem? (i := 758) (by decide +kernel)⟩
theorem lw_p19 : lw_okq (⟨"MudWalls", "waterGone", "()I"⟩, 19) := ⟨⟨by decide +kernel, by decide +kernel⟩, List.mem_of_getElem? (i := 26) (by decide +kernel), List.mem_of_getElem? (i := 761) (by decide +kernel), List.mem_of_getElem? (i := 762) (by decide +kernel)⟩
theorem lw_p20 : lw_okq (⟨"MudWalls", "wallAt", "(I)LMudWalls$Wall;"⟩, 19) := ⟨⟨by decide +kernel, by decide +kernel⟩, List.mem_of_getElem? (i := 26) (by decide +kernel), List.mem_of_getElem? (i := 788) (by decide +kernel), List.mem_of_getElem? (i := 789) (by decide +kernel)⟩
theorem lw_p21 : lw_okq (⟨"MudWalls", "wallWithCell", "(III)LMudWalls$Wall;"⟩, 19) := ⟨⟨by decide +kernel, by decide +kernel⟩, List.mem_of_getElem? (i := 26) (by decide +kernel), List.mem_of_getElem? (i := 805) (by decide +kernel), List.mem_of_getElem? (i := 806) (by decide +kernel)⟩
theorem lw_p22 : lw_okq (⟨"MudWalls", "wallWithLayer", "(II)LMudWalls$Wall;"⟩, 19) := ⟨⟨by decide +kernel, by decide +kernel⟩, List.mem_of_getElem? (i := 26) (by decide +kernel), List.mem_of_getElem? (i := 809) (by decide +kernel), List.mem_of_getElem? (i := 810) (by decide +kernel)⟩
theorem lw_p23 : lw_okq (⟨"MudWalls$Wall", "propBears", "()I"⟩, 17) := ⟨⟨by decide +kernel, by decide +kernel⟩, List.mem_of_getElem? (i := 131) (by decide +kernel), List.mem_of_getElem? (i := 847) (by decide +kernel), List.mem_of_getElem? (i := 848) (by decide +kernel)⟩
theorem lw_p24 : lw_okq (⟨"MudWalls$Weather", "wet", "(LMudWalls$Wall;I)V"⟩, 3) := ⟨⟨by decide +kernel, by decide +kernel⟩, List.mem_of_getElem? (i := 220) (by decide +kernel), List.mem_of_getElem? (i := 915) (by decide +kernel), List.mem_of_getElem? (i := 916) (by decide +kernel)⟩
theorem lw_p25 : lw_okq (⟨"MudWalls$Weather", "move", "(LMudWalls$Wall;)V"⟩, 3) := ⟨⟨by decide +kernel, by decide +kernel⟩, List.mem_of_getElem? (i := 220) (by decide +kernel), List.mem_of_getElem? (i := 924) (by decide +kernel), List.mem_of_getElem? (i := 925) (by decide +kernel)⟩
theorem lw_p26 : lw_okq (⟨"MudWalls$Weather", "flow", "(LMudWalls$Wall;III)V"⟩, 3) := ⟨⟨by decide +kernel, by decide +kernel⟩, List.mem_of_getElem? (i := 220) (by decide +kernel), List.mem_of_getElem? (i := 928) (by decide +kernel), List.mem_of_getElem? (i := 929) (by decide +kernel)⟩
theorem lw_p27 : lw_okq (⟨"MudWalls$Weather", "dry", "(LMudWalls$Wall;I)V"⟩, 3) := ⟨⟨by decide +kernel, by decide +kernel⟩, List.mem_of_getElem? (i := 220) (by decide +kernel), List.mem_of_getElem? (i := 932) (by decide +kernel), List.mem_of_getElem? (i := 933) (by decide +kernel)⟩
theorem lw_p28 : lw_okq (⟨"MudWalls$Weather", "crackAll", "(LMudWalls$Wall;Z)V"⟩, 3) := ⟨⟨by decide +kernel, by decide +kernel⟩, List.mem_of_getElem? (i := 220) (by decide +kernel), List.mem_of_getElem? (i := 940) (by decide +kernel), List.mem_of_getElem? (i := 941) (by decide +kernel)⟩
theorem lw_p29 : lw_okq (⟨"MudWalls$Weather", "settle", "(LMudWalls$Wall;)I"⟩, 3) := ⟨⟨by decide +kernel, by decide +kernel⟩, List.mem_of_getElem? (i := 220) (by decide +kernel), List.mem_of_getElem? (i := 948) (by decide +kernel), List.mem_of_getElem? (i := 949) (by decide +kernel)⟩
theorem lw_p30 : lw_okq (⟨"MudWalls$Wall", "whyGivesWay", "(I)I"⟩, 17) := ⟨⟨by decide +kernel, by decide +kernel⟩, List.mem_of_getElem? (i := 131) (by decide +kernel), List.mem_of_getElem? (i := 958) (by decide +kernel), List.mem_of_getElem? (i := 959) (by decide +kernel)⟩
theorem lw_p31 : lw_okq (⟨"MudWalls$Wall", "spare", "()I"⟩, 17) := ⟨⟨by decide +kernel, by decide +kernel⟩, List.mem_of_getElem? (i := 131) (by decide +kernel), List.mem_of_getElem? (i := 974) (by decide +kernel), List.mem_of_getElem? (i := 975) (by decide +kernel)⟩
def lw_privs_2 : List (MethodName × Nat) := [(⟨"MudWalls$Reader", "readWeek", "(LMudWalls$Yard;)V"⟩, 7), (⟨"MudWalls", "beginAnew", "()V"⟩, 19), (⟨"MudWalls", "waterCome", "()I"⟩, 19), (⟨"MudWalls", "waterGone", "()I"⟩, 19), (⟨"MudWalls", "wallAt", "(I)LMudWalls$Wall;"⟩, 19), (⟨"MudWalls", "wallWithCell", "(III)LMudWalls$Wall;"⟩, 19), (⟨"MudWalls", "wallWithLayer", "(II)LMudWalls$Wall;"⟩, 19), (⟨"MudWalls$Wall", "propBears", "()I"⟩, 17), (⟨"MudWalls$Weather", "wet", "(LMudWalls$Wall;I)V"⟩, 3), (⟨"MudWalls$Weather", "move", "(LMudWalls$Wall;)V"⟩, 3), (⟨"MudWalls$Weather", "flow", "(LMudWalls$Wall;III)V"⟩, 3), (⟨"MudWalls$Weather", "dry", "(LMudWalls$Wall;I)V"⟩, 3), (⟨"MudWalls$Weather", "crackAll", "(LMudWalls$Wall;Z)V"⟩, 3), (⟨"MudWalls$Weather", "settle", "(LMudWalls$Wall;)I"⟩, 3), (⟨"MudWalls$Wall", "whyGivesWay", "(I)I"⟩, 17), (⟨"MudWalls$Wall", "spare", "()I"⟩, 17)]
theorem lw_r2 : ∀ q ∈ lw_privs_2, lw_okq q := List.forall_mem_cons.mpr ⟨lw_p16, List.forall_mem_cons.mpr ⟨lw_p17, List.forall_mem_cons.mpr ⟨lw_p18, List.forall_mem_cons.mpr ⟨lw_p19, List.forall_mem_cons.mpr ⟨lw_p20, List.forall_mem_cons.mpr ⟨lw_p21, List.forall_mem_cons.mpr ⟨lw_p22, List.forall_mem_cons.mpr ⟨lw_p23, List.forall_mem_cons.mpr ⟨lw_p24, List.forall_mem_cons.mpr ⟨lw_p25, List.forall_mem_cons.mpr ⟨lw_p26, List.forall_mem_cons.mpr ⟨lw_p27, List.forall_mem_cons.mpr ⟨lw_p28, List.forall_mem_cons.mpr ⟨lw_p29, List.forall_mem_cons.mpr ⟨lw_p30, List.forall_mem_cons.mpr ⟨lw_p31, fun _ h => absurd h List.not_mem_nil⟩⟩⟩⟩⟩⟩⟩⟩⟩⟩⟩⟩⟩⟩⟩⟩
theorem lw_p32 : lw_okq (⟨"MudWalls$Planner", "reaches", "(III)Z"⟩, 5) := ⟨⟨by decide +kernel, by decide +kernel⟩, List.mem_of_getElem? (i := 255) (by decide +kernel), List.mem_of_getElem? (i := 1006) (by decide +kernel), List.mem_of_getElem? (i := 1007) (by decide +kernel)⟩
theorem lw_p33 : lw_okq (⟨"MudWalls$Planner", "bearsLift", "(LMudWalls$Wall;LMudWalls$Wall;I)Z"⟩, 5) := ⟨⟨by decide +kernel, by decide +kernel⟩, List.mem_of_getElem? (i := 255) (by decide +kernel), List.mem_of_getElem? (i := 1010) (by decide +kernel), List.mem_of_getElem? (i := 1011) (by decide +kernel)⟩
theorem lw_p34 : lw_okq (⟨"MudWalls$Turner", "seek", "(III)V"⟩, 5) := ⟨⟨by decide +kernel, by decide +kernel⟩, List.mem_of_getElem? (i := 279) (by decide +kernel), List.mem_of_getElem? (i := 1046) (by decide +kernel), List.mem_of_getElem? (i := 1047) (by decide +kernel)⟩
theorem lw_p35 : lw_okq (⟨"MudWalls$Turner", "goOn", "(III)V"⟩, 5) := ⟨⟨by decide +kernel, by decide +kernel⟩, List.mem_of_getElem? (i := 279) (by decide +kernel), List.mem_of_getElem? (i := 1052) (by decide +kernel), List.mem_of_getElem? (i := 1053) (by decide +kernel)⟩
theorem lw_p36 : lw_okq (⟨"MudWalls$Forecast", "firstPaste", "(I)I"⟩, 4) := ⟨⟨by decide +kernel, by decide +kernel⟩, List.mem_of_getElem? (i := 236) (by decide +kernel), List.mem_of_getElem? (i := 1069) (by decide +kernel), List.mem_of_getElem? (i := 1070) (by decide +kernel)⟩
theorem lw_p37 : lw_okq (⟨"MudWalls$Orderer", "seek", "(II)V"⟩, 6) := ⟨⟨by decide +kernel, by decide +kernel⟩, List.mem_of_getElem? (i := 303) (by decide +kernel), List.mem_of_getElem? (i := 1113) (by decide +kernel), List.mem_of_getElem? (i := 1114) (by decide +kernel)⟩
theorem lw_p38 : lw_okq (⟨"MudWalls$Bricks", "lowEnd", "()I"⟩, 3) := ⟨⟨by decide +kernel, by decide +kernel⟩, List.mem_of_getElem? (i := 330) (by decide +kernel), List.mem_of_getElem? (i := 1143) (by decide +kernel), List.mem_of_getElem? (i := 1144) (by decide +kernel)⟩
theorem lw_p39 : lw_okq (⟨"MudWalls$Bricks", "highEnd", "()I"⟩, 3) := ⟨⟨by decide +kernel, by decide +kernel⟩, List.mem_of_getElem? (i := 330) (by decide +kernel), List.mem_of_getElem? (i := 1147) (by decide +kernel), List.mem_of_getElem? (i := 1148) (by decide +kernel)⟩
theorem lw_p40 : lw_okq (⟨"MudWallsModel", "fail", "(I)I"⟩, 42) := ⟨⟨by decide +kernel, by decide +kernel⟩, List.mem_of_getElem? (i := 1199) (by decide +kernel), List.mem_of_getElem? (i := 1345) (by decide +kernel), List.mem_of_getElem? (i := 1346) (by decide +kernel)⟩
theorem lw_p41 : lw_okq (⟨"MudWallsModel", "stepOn", "()V"⟩, 42) := ⟨⟨by decide +kernel, by decide +kernel⟩, List.mem_of_getElem? (i := 1199) (by decide +kernel), List.mem_of_getElem? (i := 1349) (by decide +kernel), List.mem_of_getElem? (i := 1350) (by decide +kernel)⟩
theorem lw_p42 : lw_okq (⟨"MudWallsModel", "byteAt", "(I)I"⟩, 42) := ⟨⟨by decide +kernel, by decide +kernel⟩, List.mem_of_getElem? (i := 1199) (by decide +kernel), List.mem_of_getElem? (i := 1353) (by decide +kernel), List.mem_of_getElem? (i := 1354) (by decide +kernel)⟩
theorem lw_p43 : lw_okq (⟨"MudWallsModel", "readLine", "(Z)Z"⟩, 42) := ⟨⟨by decide +kernel, by decide +kernel⟩, List.mem_of_getElem? (i := 1199) (by decide +kernel), List.mem_of_getElem? (i := 1365) (by decide +kernel), List.mem_of_getElem? (i := 1366) (by decide +kernel)⟩
theorem lw_p44 : lw_okq (⟨"MudWallsModel", "is", "(Ljava/lang/String;)Z"⟩, 42) := ⟨⟨by decide +kernel, by decide +kernel⟩, List.mem_of_getElem? (i := 1199) (by decide +kernel), List.mem_of_getElem? (i := 1370) (by decide +kernel), List.mem_of_getElem? (i := 1371) (by decide +kernel)⟩
theorem lw_p45 : lw_okq (⟨"MudWallsModel", "wrong", "(I)V"⟩, 42) := ⟨⟨by decide +kernel, by decide +kernel⟩, List.mem_of_getElem? (i := 1199) (by decide +kernel), List.mem_of_getElem? (i := 1378) (by decide +kernel), List.mem_of_getElem? (i := 1379) (by decide +kernel)⟩
theorem lw_p46 : lw_okq (⟨"MudWallsModel", "readNumber", "(II)I"⟩, 42) := ⟨⟨by decide +kernel, by decide +kernel⟩, List.mem_of_getElem? (i := 1199) (by decide +kernel), List.mem_of_getElem? (i := 1382) (by decide +kernel), List.mem_of_getElem? (i := 1383) (by decide +kernel)⟩
theorem lw_p47 : lw_okq (⟨"MudWallsModel", "readWall", "()V"⟩, 42) := ⟨⟨by decide +kernel, by decide +kernel⟩, List.mem_of_getElem? (i := 1199) (by decide +kernel), List.mem_of_getElem? (i := 1386) (by decide +kernel), List.mem_of_getElem? (i := 1387) (by decide +kernel)⟩
def lw_privs_3 : List (MethodName × Nat) := [(⟨"MudWalls$Planner", "reaches", "(III)Z"⟩, 5), (⟨"MudWalls$Planner", "bearsLift", "(LMudWalls$Wall;LMudWalls$Wall;I)Z"⟩, 5), (⟨"MudWalls$Turner", "seek", "(III)V"⟩, 5), (⟨"MudWalls$Turner", "goOn", "(III)V"⟩, 5), (⟨"MudWalls$Forecast", "firstPaste", "(I)I"⟩, 4), (⟨"MudWalls$Orderer", "seek", "(II)V"⟩, 6), (⟨"MudWalls$Bricks", "lowEnd", "()I"⟩, 3), (⟨"MudWalls$Bricks", "highEnd", "()I"⟩, 3), (⟨"MudWallsModel", "fail", "(I)I"⟩, 42), (⟨"MudWallsModel", "stepOn", "()V"⟩, 42), (⟨"MudWallsModel", "byteAt", "(I)I"⟩, 42), (⟨"MudWallsModel", "readLine", "(Z)Z"⟩, 42), (⟨"MudWallsModel", "is", "(Ljava/lang/String;)Z"⟩, 42), (⟨"MudWallsModel", "wrong", "(I)V"⟩, 42), (⟨"MudWallsModel", "readNumber", "(II)I"⟩, 42), (⟨"MudWallsModel", "readWall", "()V"⟩, 42)]
theorem lw_r3 : ∀ q ∈ lw_privs_3, lw_okq q := List.forall_mem_cons.mpr ⟨lw_p32, List.forall_mem_cons.mpr ⟨lw_p33, List.forall_mem_cons.mpr ⟨lw_p34, List.forall_mem_cons.mpr ⟨lw_p35, List.forall_mem_cons.mpr ⟨lw_p36, List.forall_mem_cons.mpr ⟨lw_p37, List.forall_mem_cons.mpr ⟨lw_p38, List.forall_mem_cons.mpr ⟨lw_p39, List.forall_mem_cons.mpr ⟨lw_p40, List.forall_mem_cons.mpr ⟨lw_p41, List.forall_mem_cons.mpr ⟨lw_p42, List.forall_mem_cons.mpr ⟨lw_p43, List.forall_mem_cons.mpr ⟨lw_p44, List.forall_mem_cons.mpr ⟨lw_p45, List.forall_mem_cons.mpr ⟨lw_p46, List.forall_mem_cons.mpr ⟨lw_p47, fun _ h => absurd h List.not_mem_nil⟩⟩⟩⟩⟩⟩⟩⟩⟩⟩⟩⟩⟩⟩⟩⟩
theorem lw_p48 : lw_okq (⟨"MudWallsModel", "put", "(III)V"⟩, 42) := ⟨⟨by decide +kernel, by decide +kernel⟩, List.mem_of_getElem? (i := 1199) (by decide +kernel), List.mem_of_getElem? (i := 1390) (by decide +kernel), List.mem_of_getElem? (i := 1391) (by decide +kernel)⟩
theorem lw_p49 : lw_okq (⟨"MudWallsModel", "perhaps", "(Ljava/lang/String;II)I"⟩, 42) := ⟨⟨by decide +kernel, by decide +kernel⟩, List.mem_of_getElem? (i := 1199) (by decide +kernel), List.mem_of_getElem? (i := 1395) (by decide +kernel), List.mem_of_getElem? (i := 1396) (by decide +kernel)⟩
theorem lw_p50 : lw_okq (⟨"MudWallsModel", "passes", "(Ljava/lang/String;)Z"⟩, 42) := ⟨⟨by decide +kernel, by decide +kernel⟩, List.mem_of_getElem? (i := 1199) (by decide +kernel), List.mem_of_getElem? (i := 1399) (by decide +kernel), List.mem_of_getElem? (i := 1400) (by decide +kernel)⟩
theorem lw_p51 : lw_okq (⟨"MudWallsModel", "readWeek", "()V"⟩, 42) := ⟨⟨by decide +kernel, by decide +kernel⟩, List.mem_of_getElem? (i := 1199) (by decide +kernel), List.mem_of_getElem? (i := 1407) (by decide +kernel), List.mem_of_getElem? (i := 1408) (by decide +kernel)⟩
theorem lw_p52 : lw_okq (⟨"MudWallsModel", "semi", "()V"⟩, 42) := ⟨⟨by decide +kernel, by decide +kernel⟩, List.mem_of_getElem? (i := 1199) (by decide +kernel), List.mem_of_getElem? (i := 1412) (by decide +kernel), List.mem_of_getElem? (i := 1413) (by decide +kernel)⟩
theorem lw_p53 : lw_okq (⟨"MudWallsModel", "copy", "(II)V"⟩, 42) := ⟨⟨by decide +kernel, by decide +kernel⟩, List.mem_of_getElem? (i := 1199) (by decide +kernel), List.mem_of_getElem? (i := 1416) (by decide +kernel), List.mem_of_getElem? (i := 1417) (by decide +kernel)⟩
theorem lw_p54 : lw_okq (⟨"MudWallsModel", "full", "()I"⟩, 42) := ⟨⟨by decide +kernel, by decide +kernel⟩, List.mem_of_getElem? (i := 1199) (by decide +kernel), List.mem_of_getElem? (i := 1431) (by decide +kernel), List.mem_of_getElem? (i := 1432) (by decide +kernel)⟩
theorem lw_p55 : lw_okq (⟨"MudWallsModel", "shrink", "()I"⟩, 42) := ⟨⟨by decide +kernel, by decide +kernel⟩, List.mem_of_getElem? (i := 1199) (by decide +kernel), List.mem_of_getElem? (i := 1435) (by decide +kernel), List.mem_of_getElem? (i := 1436) (by decide +kernel)⟩
theorem lw_p56 : lw_okq (⟨"MudWallsModel", "green", "()I"⟩, 42) := ⟨⟨by decide +kernel, by decide +kernel⟩, List.mem_of_getElem? (i := 1199) (by decide +kernel), List.mem_of_getElem? (i := 1439) (by decide +kernel), List.mem_of_getElem? (i := 1440) (by decide +kernel)⟩
theorem lw_p57 : lw_okq (⟨"MudWallsModel", "of", "(II)I"⟩, 42) := ⟨⟨by decide +kernel, by decide +kernel⟩, List.mem_of_getElem? (i := 1199) (by decide +kernel), List.mem_of_getElem? (i := 1443) (by decide +kernel), List.mem_of_getElem? (i := 1444) (by decide +kernel)⟩
theorem lw_p58 : lw_okq (⟨"MudWallsModel", "isWall", "(I)Z"⟩, 42) := ⟨⟨by decide +kernel, by decide +kernel⟩, List.mem_of_getElem? (i := 1199) (by decide +kernel), List.mem_of_getElem? (i := 1451) (by decide +kernel), List.mem_of_getElem? (i := 1452) (by decide +kernel)⟩
theorem lw_p59 : lw_okq (⟨"MudWallsModel", "waterIn", "(I)I"⟩, 42) := ⟨⟨by decide +kernel, by decide +kernel⟩, List.mem_of_getElem? (i := 1199) (by decide +kernel), List.mem_of_getElem? (i := 1455) (by decide +kernel), List.mem_of_getElem? (i := 1456) (by decide +kernel)⟩
theorem lw_p60 : lw_okq (⟨"MudWallsModel", "isCell", "(III)Z"⟩, 42) := ⟨⟨by decide +kernel, by decide +kernel⟩, List.mem_of_getElem? (i := 1199) (by decide +kernel), List.mem_of_getElem? (i := 1466) (by decide +kernel), List.mem_of_getElem? (i := 1467) (by decide +kernel)⟩
theorem lw_p61 : lw_okq (⟨"MudWallsModel", "isLayer", "(II)Z"⟩, 42) := ⟨⟨by decide +kernel, by decide +kernel⟩, List.mem_of_getElem? (i := 1199) (by decide +kernel), List.mem_of_getElem? (i := 1470) (by decide +kernel), List.mem_of_getElem? (i := 1471) (by decide +kernel)⟩
theorem lw_p62 : lw_okq (⟨"MudWallsModel", "isCracked", "(III)Z"⟩, 42) := ⟨⟨by decide +kernel, by decide +kernel⟩, List.mem_of_getElem? (i := 1199) (by decide +kernel), List.mem_of_getElem? (i := 1474) (by decide +kernel), List.mem_of_getElem? (i := 1475) (by decide +kernel)⟩
theorem lw_p63 : lw_okq (⟨"MudWallsModel", "isHollow", "(III)Z"⟩, 42) := ⟨⟨by decide +kernel, by decide +kernel⟩, List.mem_of_getElem? (i := 1199) (by decide +kernel), List.mem_of_getElem? (i := 1478) (by decide +kernel), List.mem_of_getElem? (i := 1479) (by decide +kernel)⟩
def lw_privs_4 : List (MethodName × Nat) := [(⟨"MudWallsModel", "put", "(III)V"⟩, 42), (⟨"MudWallsModel", "perhaps", "(Ljava/lang/String;II)I"⟩, 42), (⟨"MudWallsModel", "passes", "(Ljava/lang/String;)Z"⟩, 42), (⟨"MudWallsModel", "readWeek", "()V"⟩, 42), (⟨"MudWallsModel", "semi", "()V"⟩, 42), (⟨"MudWallsModel", "copy", "(II)V"⟩, 42), (⟨"MudWallsModel", "full", "()I"⟩, 42), (⟨"MudWallsModel", "shrink", "()I"⟩, 42), (⟨"MudWallsModel", "green", "()I"⟩, 42), (⟨"MudWallsModel", "of", "(II)I"⟩, 42), (⟨"MudWallsModel", "isWall", "(I)Z"⟩, 42), (⟨"MudWallsModel", "waterIn", "(I)I"⟩, 42), (⟨"MudWallsModel", "isCell", "(III)Z"⟩, 42), (⟨"MudWallsModel", "isLayer", "(II)Z"⟩, 42), (⟨"MudWallsModel", "isCracked", "(III)Z"⟩, 42), (⟨"MudWallsModel", "isHollow", "(III)Z"⟩, 42)]
theorem lw_r4 : ∀ q ∈ lw_privs_4, lw_okq q := List.forall_mem_cons.mpr ⟨lw_p48, List.forall_mem_cons.mpr ⟨lw_p49, List.forall_mem_cons.mpr ⟨lw_p50, List.forall_mem_cons.mpr ⟨lw_p51, List.forall_mem_cons.mpr ⟨lw_p52, List.forall_mem_cons.mpr ⟨lw_p53, List.forall_mem_cons.mpr ⟨lw_p54, List.forall_mem_cons.mpr ⟨lw_p55, List.forall_mem_cons.mpr ⟨lw_p56, List.forall_mem_cons.mpr ⟨lw_p57, List.forall_mem_cons.mpr ⟨lw_p58, List.forall_mem_cons.mpr ⟨lw_p59, List.forall_mem_cons.mpr ⟨lw_p60, List.forall_mem_cons.mpr ⟨lw_p61, List.forall_mem_cons.mpr ⟨lw_p62, List.forall_mem_cons.mpr ⟨lw_p63, fun _ h => absurd h List.not_mem_nil⟩⟩⟩⟩⟩⟩⟩⟩⟩⟩⟩⟩⟩⟩⟩⟩
theorem lw_p64 : lw_okq (⟨"MudWallsModel", "strength", "(III)I"⟩, 42) := ⟨⟨by decide +kernel, by decide +kernel⟩, List.mem_of_getElem? (i := 1199) (by decide +kernel), List.mem_of_getElem? (i := 1482) (by decide +kernel), List.mem_of_getElem? (i := 1483) (by decide +kernel)⟩
theorem lw_p65 : lw_okq (⟨"MudWallsModel", "load", "(III)I"⟩, 42) := ⟨⟨by decide +kernel, by decide +kernel⟩, List.mem_of_getElem? (i := 1199) (by decide +kernel), List.mem_of_getElem? (i := 1487) (by decide +kernel), List.mem_of_getElem? (i := 1488) (by decide +kernel)⟩
theorem lw_p66 : lw_okq (⟨"MudWallsModel", "bears", "(II)I"⟩, 42) := ⟨⟨by decide +kernel, by decide +kernel⟩, List.mem_of_getElem? (i := 1199) (by decide +kernel), List.mem_of_getElem? (i := 1495) (by decide +kernel), List.mem_of_getElem? (i := 1496) (by decide +kernel)⟩
theorem lw_p67 : lw_okq (⟨"MudWallsModel", "presses", "(II)I"⟩, 42) := ⟨⟨by decide +kernel, by decide +kernel⟩, List.mem_of_getElem? (i := 1199) (by decide +kernel), List.mem_of_getElem? (i := 1499) (by decide +kernel), List.mem_of_getElem? (i := 1500) (by decide +kernel)⟩
theorem lw_p68 : lw_okq (⟨"MudWallsModel", "sits", "(II)Z"⟩, 42) := ⟨⟨by decide +kernel, by decide +kernel⟩, List.mem_of_getElem? (i := 1199) (by decide +kernel), List.mem_of_getElem? (i := 1503) (by decide +kernel), List.mem_of_getElem? (i := 1504) (by decide +kernel)⟩
theorem lw_p69 : lw_okq (⟨"MudWallsModel", "raise", "(II)V"⟩, 42) := ⟨⟨by decide +kernel, by decide +kernel⟩, List.mem_of_getElem? (i := 1199) (by decide +kernel), List.mem_of_getElem? (i := 1511) (by decide +kernel), List.mem_of_getElem? (i := 1512) (by decide +kernel)⟩
theorem lw_p70 : lw_okq (⟨"MudWallsModel", "cut", "(II)V"⟩, 42) := ⟨⟨by decide +kernel, by decide +kernel⟩, List.mem_of_getElem? (i := 1199) (by decide +kernel), List.mem_of_getElem? (i := 1519) (by decide +kernel), List.mem_of_getElem? (i := 1520) (by decide +kernel)⟩
theorem lw_p71 : lw_okq (⟨"MudWallsModel", "week", "(I)V"⟩, 42) := ⟨⟨by decide +kernel, by decide +kernel⟩, List.mem_of_getElem? (i := 1199) (by decide +kernel), List.mem_of_getElem? (i := 1531) (by decide +kernel), List.mem_of_getElem? (i := 1532) (by decide +kernel)⟩
theorem lw_p72 : lw_okq (⟨"MudWallsModel", "comeIn", "(II)V"⟩, 42) := ⟨⟨by decide +kernel, by decide +kernel⟩, List.mem_of_getElem? (i := 1199) (by decide +kernel), List.mem_of_getElem? (i := 1535) (by decide +kernel), List.mem_of_getElem? (i := 1536) (by decide +kernel)⟩
theorem lw_p73 : lw_okq (⟨"MudWallsModel", "wet", "(IIII)V"⟩, 42) := ⟨⟨by decide +kernel, by decide +kernel⟩, List.mem_of_getElem? (i := 1199) (by decide +kernel), List.mem_of_getElem? (i := 1539) (by decide +kernel), List.mem_of_getElem? (i := 1540) (by decide +kernel)⟩
theorem lw_p74 : lw_okq (⟨"MudWallsModel", "move", "(I)V"⟩, 42) := ⟨⟨by decide +kernel, by decide +kernel⟩, List.mem_of_getElem? (i := 1199) (by decide +kernel), List.mem_of_getElem? (i := 1543) (by decide +kernel), List.mem_of_getElem? (i := 1544) (by decide +kernel)⟩
theorem lw_p75 : lw_okq (⟨"MudWallsModel", "see", "(I)V"⟩, 42) := ⟨⟨by decide +kernel, by decide +kernel⟩, List.mem_of_getElem? (i := 1199) (by decide +kernel), List.mem_of_getElem? (i := 1547) (by decide +kernel), List.mem_of_getElem? (i := 1548) (by decide +kernel)⟩
theorem lw_p76 : lw_okq (⟨"MudWallsModel", "flow", "(IIII)V"⟩, 42) := ⟨⟨by decide +kernel, by decide +kernel⟩, List.mem_of_getElem? (i := 1199) (by decide +kernel), List.mem_of_getElem? (i := 1551) (by decide +kernel), List.mem_of_getElem? (i := 1552) (by decide +kernel)⟩
theorem lw_p77 : lw_okq (⟨"MudWallsModel", "dry", "(II)V"⟩, 42) := ⟨⟨by decide +kernel, by decide +kernel⟩, List.mem_of_getElem? (i := 1199) (by decide +kernel), List.mem_of_getElem? (i := 1555) (by decide +kernel), List.mem_of_getElem? (i := 1556) (by decide +kernel)⟩
theorem lw_p78 : lw_okq (⟨"MudWallsModel", "crack", "(IZ)V"⟩, 42) := ⟨⟨by decide +kernel, by decide +kernel⟩, List.mem_of_getElem? (i := 1199) (by decide +kernel), List.mem_of_getElem? (i := 1559) (by decide +kernel), List.mem_of_getElem? (i := 1560) (by decide +kernel)⟩
theorem lw_p79 : lw_okq (⟨"MudWallsModel", "sit", "(I)V"⟩, 42) := ⟨⟨by decide +kernel, by decide +kernel⟩, List.mem_of_getElem? (i := 1199) (by decide +kernel), List.mem_of_getElem? (i := 1563) (by decide +kernel), List.mem_of_getElem? (i := 1564) (by decide +kernel)⟩
def lw_privs_5 : List (MethodName × Nat) := [(⟨"MudWallsModel", "strength", "(III)I"⟩, 42), (⟨"MudWallsModel", "load", "(III)I"⟩, 42), (⟨"MudWallsModel", "bears", "(II)I"⟩, 42), (⟨"MudWallsModel", "presses", "(II)I"⟩, 42), (⟨"MudWallsModel", "sits", "(II)Z"⟩, 42), (⟨"MudWallsModel", "raise", "(II)V"⟩, 42), (⟨"MudWallsModel", "cut", "(II)V"⟩, 42), (⟨"MudWallsModel", "week", "(I)V"⟩, 42), (⟨"MudWallsModel", "comeIn", "(II)V"⟩, 42), (⟨"MudWallsModel", "wet", "(IIII)V"⟩, 42), (⟨"MudWallsModel", "move", "(I)V"⟩, 42), (⟨"MudWallsModel", "see", "(I)V"⟩, 42), (⟨"MudWallsModel", "flow", "(IIII)V"⟩, 42), (⟨"MudWallsModel", "dry", "(II)V"⟩, 42), (⟨"MudWallsModel", "crack", "(IZ)V"⟩, 42), (⟨"MudWallsModel", "sit", "(I)V"⟩, 42)]
theorem lw_r5 : ∀ q ∈ lw_privs_5, lw_okq q := List.forall_mem_cons.mpr ⟨lw_p64, List.forall_mem_cons.mpr ⟨lw_p65, List.forall_mem_cons.mpr ⟨lw_p66, List.forall_mem_cons.mpr ⟨lw_p67, List.forall_mem_cons.mpr ⟨lw_p68, List.forall_mem_cons.mpr ⟨lw_p69, List.forall_mem_cons.mpr ⟨lw_p70, List.forall_mem_cons.mpr ⟨lw_p71, List.forall_mem_cons.mpr ⟨lw_p72, List.forall_mem_cons.mpr ⟨lw_p73, List.forall_mem_cons.mpr ⟨lw_p74, List.forall_mem_cons.mpr ⟨lw_p75, List.forall_mem_cons.mpr ⟨lw_p76, List.forall_mem_cons.mpr ⟨lw_p77, List.forall_mem_cons.mpr ⟨lw_p78, List.forall_mem_cons.mpr ⟨lw_p79, fun _ h => absurd h List.not_mem_nil⟩⟩⟩⟩⟩⟩⟩⟩⟩⟩⟩⟩⟩⟩⟩⟩
theorem lw_p80 : lw_okq (⟨"MudWallsModel", "whyOf", "(II)I"⟩, 42) := ⟨⟨by decide +kernel, by decide +kernel⟩, List.mem_of_getElem? (i := 1199) (by decide +kernel), List.mem_of_getElem? (i := 1567) (by decide +kernel), List.mem_of_getElem? (i := 1568) (by decide +kernel)⟩
theorem lw_p81 : lw_okq (⟨"MudWallsModel", "highOf", "(I)I"⟩, 42) := ⟨⟨by decide +kernel, by decide +kernel⟩, List.mem_of_getElem? (i := 1199) (by decide +kernel), List.mem_of_getElem? (i := 1575) (by decide +kernel), List.mem_of_getElem? (i := 1576) (by decide +kernel)⟩
theorem lw_p82 : lw_okq (⟨"MudWallsModel", "someSits", "(I)Z"⟩, 42) := ⟨⟨by decide +kernel, by decide +kernel⟩, List.mem_of_getElem? (i := 1199) (by decide +kernel), List.mem_of_getElem? (i := 1579) (by decide +kernel), List.mem_of_getElem? (i := 1580) (by decide +kernel)⟩
theorem lw_p83 : lw_okq (⟨"MudWallsModel", "planOn", "(III)Z"⟩, 42) := ⟨⟨by decide +kernel, by decide +kernel⟩, List.mem_of_getElem? (i := 1199) (by decide +kernel), List.mem_of_getElem? (i := 1591) (by decide +kernel), List.mem_of_getElem? (i := 1592) (by decide +kernel)⟩
theorem lw_p84 : lw_okq (⟨"MudWallsModel", "footOf", "(I)I"⟩, 42) := ⟨⟨by decide +kernel, by decide +kernel⟩, List.mem_of_getElem? (i := 1199) (by decide +kernel), List.mem_of_getElem? (i := 1607) (by decide +kernel), List.mem_of_getElem? (i := 1608) (by decide +kernel)⟩
theorem lw_p85 : lw_okq (⟨"MudWallsModel", "doWork", "(II)V"⟩, 42) := ⟨⟨by decide +kernel, by decide +kernel⟩, List.mem_of_getElem? (i := 1199) (by decide +kernel), List.mem_of_getElem? (i := 1615) (by decide +kernel), List.mem_of_getElem? (i := 1616) (by decide +kernel)⟩
theorem lw_p86 : lw_okq (⟨"MudWallsModel", "orderOn", "(II)V"⟩, 42) := ⟨⟨by decide +kernel, by decide +kernel⟩, List.mem_of_getElem? (i := 1199) (by decide +kernel), List.mem_of_getElem? (i := 1623) (by decide +kernel), List.mem_of_getElem? (i := 1624) (by decide +kernel)⟩
theorem lw_p87 : lw_okq (⟨"MudWallsModel", "bulges", "(I)I"⟩, 42) := ⟨⟨by decide +kernel, by decide +kernel⟩, List.mem_of_getElem? (i := 1199) (by decide +kernel), List.mem_of_getElem? (i := 1627) (by decide +kernel), List.mem_of_getElem? (i := 1628) (by decide +kernel)⟩
theorem lw_p88 : lw_okq (⟨"MudWallsModel", "knows", "(III)Z"⟩, 42) := ⟨⟨by decide +kernel, by decide +kernel⟩, List.mem_of_getElem? (i := 1199) (by decide +kernel), List.mem_of_getElem? (i := 1659) (by decide +kernel), List.mem_of_getElem? (i := 1660) (by decide +kernel)⟩
def lw_privs_6 : List (MethodName × Nat) := [(⟨"MudWallsModel", "whyOf", "(II)I"⟩, 42), (⟨"MudWallsModel", "highOf", "(I)I"⟩, 42), (⟨"MudWallsModel", "someSits", "(I)Z"⟩, 42), (⟨"MudWallsModel", "planOn", "(III)Z"⟩, 42), (⟨"MudWallsModel", "footOf", "(I)I"⟩, 42), (⟨"MudWallsModel", "doWork", "(II)V"⟩, 42), (⟨"MudWallsModel", "orderOn", "(II)V"⟩, 42), (⟨"MudWallsModel", "bulges", "(I)I"⟩, 42), (⟨"MudWallsModel", "knows", "(III)Z"⟩, 42)]
theorem lw_r6 : ∀ q ∈ lw_privs_6, lw_okq q := List.forall_mem_cons.mpr ⟨lw_p80, List.forall_mem_cons.mpr ⟨lw_p81, List.forall_mem_cons.mpr ⟨lw_p82, List.forall_mem_cons.mpr ⟨lw_p83, List.forall_mem_cons.mpr ⟨lw_p84, List.forall_mem_cons.mpr ⟨lw_p85, List.forall_mem_cons.mpr ⟨lw_p86, List.forall_mem_cons.mpr ⟨lw_p87, List.forall_mem_cons.mpr ⟨lw_p88, fun _ h => absurd h List.not_mem_nil⟩⟩⟩⟩⟩⟩⟩⟩⟩
def lw_privs : List (MethodName × Nat) := lw_privs_1 ++ (lw_privs_2 ++ (lw_privs_3 ++ (lw_privs_4 ++ (lw_privs_5 ++ (lw_privs_6)))))
def lw_tbl : List Cond := k2_sels lw_privs ++ tables_1
theorem lw_privs_ok : ∀ q ∈ lw_privs, lw_okq q := by
  show ∀ q ∈ lw_privs_1 ++ (lw_privs_2 ++ (lw_privs_3 ++ (lw_privs_4 ++ (lw_privs_5 ++ (lw_privs_6))))), lw_okq q
  exact List.forall_mem_append.mpr ⟨lw_r1, List.forall_mem_append.mpr ⟨lw_r2, List.forall_mem_append.mpr ⟨lw_r3, List.forall_mem_append.mpr ⟨lw_r4, List.forall_mem_append.mpr ⟨lw_r5, lw_r6⟩⟩⟩⟩⟩
end
section
/-! ===== BEGIN words of one list among another's, by their places ===== -/
theorem goodIn_r {big : List Cond} (ws : List Cond) (ps : List Nat) (hp : ws = ps.filterMap (fun i => big[i]?)) (h : ws.all goodWord = true) : GoodIn big ws := by
  intro w hw
  have h1 := List.all_eq_true.mp h w hw
  rw [hp] at hw
  obtain ⟨i, -, hi⟩ := List.mem_filterMap.mp hw
  have hm : w ∈ big := by first | exact List.mem_of_getElem? hi | exact List.getElem?_mem hi
  exact ⟨hm, good_of_word h1⟩
theorem goodIn_app {big a b : List Cond} (ha : GoodIn big a) (hb : GoodIn big b) : GoodIn big (a ++ b) := fun w h => (List.mem_append.mp h).elim (ha w) (hb w)
theorem goodIn_ca {big a b : List Cond} {c : Cond} (ha : GoodIn big (c :: a)) (hb : GoodIn big b) : GoodIn big (c :: (a ++ b)) := fun w h => (List.mem_cons.mp h).elim (fun e => ha w (List.mem_cons.mpr (Or.inl e))) (fun h => (List.mem_append.mp h).elim (fun h => ha w (List.mem_cons.mpr (Or.inr h))) (hb w))
theorem goodIn_sub {big ws : List Cond} (hm : ∀ w ∈ ws, w ∈ big) (h : ws.all goodWord = true) : GoodIn big ws := fun w hw => ⟨hm w hw, good_of_word (List.all_eq_true.mp h w hw)⟩
/-! ===== END ===== -/

/-! ===== BEGIN exceptions that leave a method, and their catching by the caller (launches without stack traces) ===== -/
section VXA
/-! The laws vx_back, vx_callV, vx_callS, vx_callSW, vx_throw0, vx_throwS follow proofs of the library, with one case more: JvmDerived/Free/Laws.lean (Back.of_free), Shelf42/LK1.lean (callV, callS), Shelf/KitTraced.lean (throwNew0V, throwNewS). -/
/-- where a method has thrown q: by its name, the cell, what was written, the world -/
def vx_T (XC : String → State → State → Prop) (st : State) (q : Addr) (t : State) (mc ms : Nat) (free : Addr → Prop) : Prop :=
  ∃ (E : String) (ce : Cell) (L : List Loc), XC E st t ∧ t.heap[q]? = some ce ∧ ce.vm = .none ∧ st.vm.findClass E = some ce.cls ∧ st.WarmedH t.vm ∧ st.sameButNew ({ t with vm := st.vm } : State) L mc ms ∧ ∀ z ∈ L, free z.base
def vx_Q (Qc : Array Value → State → Outcome → State → Prop) (XC : String → State → State → Prop) (mc ms : Nat) (free : Addr → Prop) : Array Value → State → Outcome → State → Prop := fun a st o t =>
  (Qc a st o t ∧ ∃ L, FrameEnd st o t L mc ms ∧ ∀ q ∈ L, free q.base) ∨ ∃ q, o = .threw q ∧ vx_T XC st q t mc ms free
/-- a callee that returns or throws -/
def vx_Met (l : Launch) (y : MethodName) (ws : List Cond) (rm : Room) (Pc : Array Value → State → Prop) (Qc : Array Value → State → Outcome → State → Prop) (XC : String → State → State → Prop) (mc ms : Nat) (free : Addr → Prop) : Prop :=
  MetFree l y (headSpec ws rm) Pc (fun _ _ _ _ _ => True) (vx_Q Qc XC mc ms free)
def vx_Post (XC : String → State → State → Prop) (mc ms : Nat) (free : Addr → Prop) : Pt → Array Value → Addr → Pt → Prop := fun A a q B =>
  ∃ (g : JFrame) (mk : MethodId) (t : State) (L : List Loc) (E : String) (ce : Cell), B.U.heap = t.heap ∧ B.U.vm = t.vm ∧ XC E (A.U.calling g mk a) t ∧ t.heap[q]? = some ce ∧ ce.vm = .none ∧ A.U.vm.findClass E = some ce.cls ∧ B.locs = A.locs ++ L ∧ (∀ z ∈ L, free z.base) ∧ B.cells = A.cells + mc ∧ B.slots = A.slots + ms
def vx_Back (l : Launch) (R : Room) (p : Program) (e : Env) (below : List Frame) (s : State) (sargs : Array Value) (y : MethodName) (len W9 : Nat)
    (Pre : Pt → Array Value → Prop) (Post : Pt → Array Value → Option Value → Pt → Prop) (PostX : Pt → Array Value → Addr → Pt → Prop) : Prop :=
  ∀ (m : MethodId) (meth : Method) (c : Code) (A : Pt) (g : JFrame) (ig : Instr) (mk : MethodId) (a : Array Value),
    Stand p l e R s m sargs below meth c A.U A.locs A.cells A.slots → g.method = m → g.locals.size = c.maxLocals → decode c.code g.pc = .ok (ig, len) →
    2 * g.monitorRoom + (g.stack.map fun v => v.category).sum ≤ W9 → A.U.methodNamed? y = some mk → Pre A a →
    (∃ (v : Option Value) (B : Pt), Stand p l e R s m sargs below meth c B.U B.locs B.cells B.slots ∧ Post A a v B ∧
      Steps p.tables e below (doInvoke e (A.U.setTop g) [] mk a).1 (B.U.setTop { g with pc := g.pc + len, stack := v.toList ++ g.stack })) ∨
    (∃ (q : Addr) (B : Pt), Stand p l e R s m sargs below meth c B.U B.locs B.cells B.slots ∧ PostX A a q B ∧
      Steps p.tables e below (doInvoke e (A.U.setTop g) [] mk a).1 ((B.U.setTop g).pushFrame (.throwing q)))
section Payer
variable {l : Launch} {R : Room} {p : Program} {e : Env} {below : List Frame} {s : State} {sargs : Array Value} {y : MethodName} {len W9 : Nat}
theorem vx_back {ws : List Cond} {rm : Room} {Pc : Array Value → State → Prop} {Qc : Array Value → State → Outcome → State → Prop} {XC : String → State → State → Prop} {mc ms : Nat} {free : Addr → Prop} {bytes : ByteArray} {maxL : Nat} {ret : Option FieldType}
    (hM : vx_Met l y ws rm Pc Qc XC mc ms free) (hblind : FrameBlind Pc) (hrc : rm.cells = mc) (hrs : rm.slots = ms)
    (hframes : rm.frames + 1 ≤ R.frames) (hlocals : W9 + (maxL + 11) + rm.locals ≤ R.locals)
    (hws : ∀ w ∈ ws, ∀ a' U, s.WarmedH U.vm → w.before a' U = true) (hcode : Cond.code y bytes maxL ret ∈ ws) (hinit : ∀ a' U, s.WarmedH U.vm → (Cond.initialized y.cls).before a' U = true) :
    vx_Back l R p e below s sargs y len W9 (PreOf R mc ms Pc) (PostOf Qc mc ms free) (vx_Post XC mc ms free) := by
  intro m meth c A g ig mk a X hg hsize hdg hW hn hp
  have h1 : (headSpec ws rm).pre.before a A.U = true := atoms_intro fun w hw => hws w hw _ _ X.warmed
  have h2 : (Cond.code y bytes maxL ret).before a A.U = true := hws _ hcode _ _ X.warmed
  have h3 : (Cond.initialized y.cls).before a A.U = true := hinit _ _ X.warmed
  have h4 : A.cells + (headSpec ws rm).room.cells ≤ R.cells := by rw [show (headSpec ws rm).room.cells = mc from hrc]; exact hp.1
  have h5 : A.slots + (headSpec ws rm).room.slots ≤ R.slots := by rw [show (headSpec ws rm).room.slots = ms from hrs]; exact hp.2.1
  have hPc : Pc a (A.U.calling g mk a) := hblind _ _ _ _ hp.2.2
  obtain ⟨U, Ls, c0, s0⟩ := A
  dsimp only [Pt.U, Pt.locs, Pt.cells, Pt.slots] at h1 h2 h3 h4 h5 X hn hPc ⊢
  obtain ⟨methY, cY, hmY, hcY, -, hlY, -, -, -, -⟩ := Cond.code_spec hn h2
  obtain ⟨kY, hkY, -⟩ := className_of_methodNamed hn
  have hinitY : kY.init = .initialized := Cond.initialized_spec (findClass_of_methodNamed hn) hkY h3
  have h : At U g.method c below := by rw [hg]; exact X.here
  have hlocals9 : W9 + (maxL + 11) + (headSpec ws rm).room.locals ≤ R.locals := hlocals
  have happ : (headSpec ws rm).appliesLoose y e.platform (U.calling g mk a) = true :=
    Spec.appliesLoose_calling (g := g) h hdg hn hkY hinitY
      (X.room_calling (g := g) (R' := (headSpec ws rm).room) hsize hmY hcY hframes (by rw [hlY]; omega) h4 h5) h1
  obtain ⟨mid, hmid⟩ := h.above
  have hfr : (U.setTop g).frames = (.java g :: mid) ++ below := by rw [State.frames_setTop' g h.top, hmid]; rfl
  obtain ⟨o, s₂, hsteps, -, hend, hq⟩ := Steps.callFree hM p X.admits X.cas X.clock (acts := []) hfr happ hPc trivial
  have hq' : vx_Q Qc XC mc ms free a (U.calling g mk a) o s₂ := hq
  rw [State.frames_setTop' g h.top] at hend
  obtain ⟨g₀, hg0⟩ := Option.isSome_iff_exists.mp h.top
  obtain ⟨r, hr⟩ := State.topJava?_eq_some.mp hg0
  have hr' : (({ U with heap := s₂.heap, slotsUsed := s₂.slotsUsed } : State).setVm s₂.vm).frames = .java g₀ :: r := hr
  rcases hq' with ⟨hqc, L, hfe, hL⟩ | ⟨q, rfl, E, ce, L, hx, hce, hcv, hcl, hW₂, hsm, hL⟩
  · obtain ⟨⟨v, rfl⟩, hW₂, e2, q2, q3, q4, q5, q6⟩ := id hfe
    have e3 : s₂ = ({ (U.calling g mk a).setFrames s₂.frames with heap := s₂.heap, slotsUsed := s₂.slotsUsed } : State).setVm s₂.vm := by
      have : s₂ = ({ s₂ with vm := (U.calling g mk a).vm } : State).setVm s₂.vm := rfl
      rw [e2] at this
      exact this
    obtain ⟨c₂, i₂, len₂, hc₂, hd₂, hf₂⟩ := hend
    have hW' : U.WarmedH s₂.vm := hW₂
    have hcc : c₂ = c := by
      have h1 : s₂.code? g.method = U.code? g.method := by
        rw [State.code?_eq, State.code?_eq, hW'.alike.method?]
      exact Option.some.inj (hc₂.symm.trans (h1.trans h.code))
    subst hcc
    have hlen : len₂ = len := by rw [hdg] at hd₂; cases hd₂; rfl
    subst hlen
    have hs₂ : s₂ = (({ U with heap := s₂.heap, slotsUsed := s₂.slotsUsed } : State).setVm s₂.vm).setTop { g with pc := g.pc + len₂, stack := v.toList ++ g.stack } := by
      refine e3.trans ?_
      rw [hf₂, State.calling_eq h.top, State.setFrames_setFrames, State.setTop_of_frames _ hr', hr]
      rfl
    have hsame : U.sameButNew ({ U with heap := s₂.heap, slotsUsed := s₂.slotsUsed } : State) L mc ms := by
      refine ⟨?_, q2, q3, q4, q5, q6⟩
      obtain ⟨t, ht, -⟩ := State.frames_cons hr
      show ({ U with heap := s₂.heap, slotsUsed := s₂.slotsUsed } : State) = { U.setFrames U.frames with heap := s₂.heap, slotsUsed := s₂.slotsUsed }
      rw [State.setFrames_self ht]
    subst hg
    refine Or.inl ⟨v, ⟨(({ U with heap := s₂.heap, slotsUsed := s₂.slotsUsed } : State).setVm s₂.vm), Ls ++ L, c0 + mc, s0 + ms⟩,
      ⟨X.admits, X.cas, X.clock, X.frames, X.room, X.hears, X.method, X.code, (X.here.setHeapUsed s₂.heap s₂.slotsUsed).setVm hW'.alike, X.tail, State.WarmedH.trans X.warmed hW', X.limits, X.bytes, X.same.trans (hsame.setVm s.vm)⟩,
      ⟨g, mk, s₂, L, rfl, rfl, hqc, rfl, hL, rfl, rfl⟩, ?_⟩
    show Steps p.tables e below _ ((({ U with heap := s₂.heap, slotsUsed := s₂.slotsUsed } : State).setVm s₂.vm).setTop { g with pc := g.pc + len₂, stack := v.toList ++ g.stack })
    rw [← hs₂]
    exact hsteps
  · obtain ⟨e2, q2, q3, q4, q5, q6⟩ := id hsm
    have e3 : s₂ = ({ (U.calling g mk a).setFrames s₂.frames with heap := s₂.heap, slotsUsed := s₂.slotsUsed } : State).setVm s₂.vm := by
      have : s₂ = ({ s₂ with vm := (U.calling g mk a).vm } : State).setVm s₂.vm := rfl
      rw [e2] at this
      exact this
    have hf₂ : s₂.frames = .throwing q :: .java g :: U.frames.tail := hend
    have hW' : U.WarmedH s₂.vm := hW₂
    have hs₂ : s₂ = ((({ U with heap := s₂.heap, slotsUsed := s₂.slotsUsed } : State).setVm s₂.vm).setTop g).pushFrame (.throwing q) := by
      refine e3.trans ?_
      rw [hf₂, State.calling_eq h.top, State.setFrames_setFrames, State.pushFrame, State.frames_setTop _ hr', State.setTop_of_frames _ hr', State.setFrames_setFrames, hr]
      rfl
    have hsame : U.sameButNew ({ U with heap := s₂.heap, slotsUsed := s₂.slotsUsed } : State) L mc ms := by
      refine ⟨?_, q2, q3, q4, q5, q6⟩
      obtain ⟨t, ht, -⟩ := State.frames_cons hr
      show ({ U with heap := s₂.heap, slotsUsed := s₂.slotsUsed } : State) = { U.setFrames U.frames with heap := s₂.heap, slotsUsed := s₂.slotsUsed }
      rw [State.setFrames_self ht]
    subst hg
    refine Or.inr ⟨q, ⟨(({ U with heap := s₂.heap, slotsUsed := s₂.slotsUsed } : State).setVm s₂.vm), Ls ++ L, c0 + mc, s0 + ms⟩,
      ⟨X.admits, X.cas, X.clock, X.frames, X.room, X.hears, X.method, X.code, (X.here.setHeapUsed s₂.heap s₂.slotsUsed).setVm hW'.alike, X.tail, State.WarmedH.trans X.warmed hW', X.limits, X.bytes, X.same.trans (hsame.setVm s.vm)⟩,
      ⟨g, mk, s₂, L, E, ce, rfl, rfl, hx, hce, hcv, hcl, rfl, hL, rfl, rfl⟩, ?_⟩
    show Steps p.tables e below _ (((({ U with heap := s₂.heap, slotsUsed := s₂.slotsUsed } : State).setVm s₂.vm).setTop g).pushFrame (.throwing q))
    rw [← hs₂]
    exact hsteps
end Payer
section Calls
variable {p : Program} {l : Launch} {e : Env} {R : Room} {s : State} {m : MethodId} {args : Array Value} {below : List Frame} {meth : Method} {c : Code} {T : State} {locs : List Loc} {cells slots : Nat}
theorem vx_callV (X : Stand p l e R s m args below meth c T locs cells slots) (hexec : p.tables.exec = Jvm.exec) {own C : String} {index : Nat} {y : MethodName} {bytes : ByteArray} {maxL : Nat} {ret : Option FieldType}
    (hown : s.vm.findClass own = some m.cls) (hlink : (Cond.methodLink own index y).before args s = true) (hinst : (Cond.instanceMethod y).before args s = true) (hsel : (Cond.selects C y y).before args s = true)
    (hcode : (Cond.code y bytes maxL ret).before args s = true) (hy : y.cls ≠ "java/lang/invoke/MethodHandle" ∧ y.cls ≠ "java/lang/invoke/VarHandle")
    {W9 : Nat} {Pre : Pt → Array Value → Prop} {Post : Pt → Array Value → Option Value → Pt → Prop} {PostX : Pt → Array Value → Addr → Pt → Prop} (hK : vx_Back l R p e below s args y 3 W9 Pre Post PostX)
    {b : Addr} {cellB : Cell} (hcell : T.heap[b]? = some cellB) (hobj : cellB.vm.isStatics = false) (hcls : s.vm.findClass C = some cellB.cls)
    {g : JFrame} (hg : g.method = m) (hsize : g.locals.size = c.maxLocals) {argsL rest : List Value} (hlen : ∀ sig, parseMethodDescriptor y.desc = some sig → argsL.length = sig.parameters.length)
    (hstack : g.stack = argsL.reverse ++ .ref b :: rest) (hW : 2 * g.monitorRoom + (rest.map fun v => v.category).sum ≤ W9) (hdg : decode c.code g.pc = .ok (.invokevirtual index, 3))
    (hpre : ∀ vm₁, s.WarmedH vm₁ → Pre ⟨T.setVm vm₁, locs, cells, slots⟩ (Value.ref b :: argsL).toArray) :
    (∃ (v : Option Value) (vm₁ : Vm) (B : Pt), s.WarmedH vm₁ ∧ Stand p l e R s m args below meth c B.U B.locs B.cells B.slots ∧ Post ⟨T.setVm vm₁, locs, cells, slots⟩ (Value.ref b :: argsL).toArray v B ∧
      ∀ target, Steps p.tables e below (B.U.setTop { g with pc := g.pc + 3, stack := v.toList ++ rest }) target → Steps p.tables e below (T.setTop g) target) ∨
    (∃ (q : Addr) (vm₁ : Vm) (B : Pt), s.WarmedH vm₁ ∧ Stand p l e R s m args below meth c B.U B.locs B.cells B.slots ∧ PostX ⟨T.setVm vm₁, locs, cells, slots⟩ (Value.ref b :: argsL).toArray q B ∧
      Steps p.tables e below (T.setTop g) ((B.U.setTop { g with stack := rest }).pushFrame (.throwing q))) := by
  obtain ⟨mk, methM, hnamed, hmethM, hstM, habM⟩ := Cond.instanceMethod_spec hinst
  obtain ⟨methM', cM, hmethM', -, -, -, -, -, -, hsigM⟩ := Cond.code_spec hnamed hcode
  cases hmethM.symm.trans hmethM'
  obtain ⟨c2, r2, m2, q1, q2, q3, q4, kP, hkP, hkPi⟩ := Cond.selects_spec hsel
  cases hcls.symm.trans q1
  cases (State.methodFound?_of_named hnamed hy).symm.trans q2
  cases hnamed.symm.trans q3
  have hselP : selectMethod e.platform s.vm cellB.cls mk = .method mk := by rw [Launch.admits_selectMethod X.admits]; exact q4
  obtain ⟨vm₁, X₁, hstep₁⟩ := X.invokevirtual hexec hown hlink hnamed hmethM hstM hkP hkPi hy (a := b) (cell := cellB) hcell
    (fun z h => by rw [h] at hobj; cases hobj) hselP hmethM habM hkP hkPi (g := g) hg (argsL := argsL) (rest := rest) (hlen _ hsigM) hstack hdg
  rcases hK m meth c ⟨T.setVm vm₁, locs, cells, slots⟩ { g with stack := rest } (.invokevirtual index) mk (Value.ref b :: argsL).toArray X₁ hg hsize hdg hW (X₁.named hnamed) (hpre vm₁ X₁.warmed) with ⟨v, B, X', hpost, hsteps⟩ | ⟨q, B, X', hpost, hsteps⟩
  · exact Or.inl ⟨v, vm₁, B, X₁.warmed, X', hpost, fun target h => hstep₁ _ fun acts => by rw [doInvoke_state]; exact hsteps.trans h⟩
  · exact Or.inr ⟨q, vm₁, B, X₁.warmed, X', hpost, hstep₁ _ fun acts => by rw [doInvoke_state]; exact hsteps⟩
theorem vx_callS (X : Stand p l e R s m args below meth c T locs cells slots) (hexec : p.tables.exec = Jvm.exec) {own : String} {index : Nat} {y : MethodName} {bytes : ByteArray} {maxL : Nat} {ret : Option FieldType}
    (hown : s.vm.findClass own = some m.cls) (hlink : (Cond.methodLink own index y).before args s = true) (hstat : (Cond.static y).before args s = true) (hinit : (Cond.initialized y.cls).before args s = true)
    (hcode : (Cond.code y bytes maxL ret).before args s = true) (hy : y.cls ≠ "java/lang/invoke/MethodHandle" ∧ y.cls ≠ "java/lang/invoke/VarHandle")
    {W9 : Nat} {Pre : Pt → Array Value → Prop} {Post : Pt → Array Value → Option Value → Pt → Prop} {PostX : Pt → Array Value → Addr → Pt → Prop} (hK : vx_Back l R p e below s args y 3 W9 Pre Post PostX)
    {g : JFrame} (hg : g.method = m) (hsize : g.locals.size = c.maxLocals) {argsL rest : List Value} (hlen : ∀ sig, parseMethodDescriptor y.desc = some sig → argsL.length = sig.parameters.length)
    (hstack : g.stack = argsL.reverse ++ rest) (hW : 2 * g.monitorRoom + (rest.map fun v => v.category).sum ≤ W9) (hdg : decode c.code g.pc = .ok (.invokestatic index, 3))
    (hpre : ∀ vm₁, s.WarmedH vm₁ → Pre ⟨T.setVm vm₁, locs, cells, slots⟩ argsL.toArray) :
    (∃ (v : Option Value) (vm₁ : Vm) (B : Pt), s.WarmedH vm₁ ∧ Stand p l e R s m args below meth c B.U B.locs B.cells B.slots ∧ Post ⟨T.setVm vm₁, locs, cells, slots⟩ argsL.toArray v B ∧
      ∀ target, Steps p.tables e below (B.U.setTop { g with pc := g.pc + 3, stack := v.toList ++ rest }) target → Steps p.tables e below (T.setTop g) target) ∨
    (∃ (q : Addr) (vm₁ : Vm) (B : Pt), s.WarmedH vm₁ ∧ Stand p l e R s m args below meth c B.U B.locs B.cells B.slots ∧ PostX ⟨T.setVm vm₁, locs, cells, slots⟩ argsL.toArray q B ∧
      Steps p.tables e below (T.setTop g) ((B.U.setTop { g with stack := rest }).pushFrame (.throwing q))) := by
  obtain ⟨mk, hnamed⟩ := Cond.code_named hcode
  obtain ⟨methM, cM, hmethM, -, -, -, -, -, -, hsigM⟩ := Cond.code_spec hnamed hcode
  have hstatic : methM.isStatic = true := Cond.static_spec hnamed hmethM hstat
  obtain ⟨kP, hkP, -⟩ := className_of_methodNamed hnamed
  have hinitP : kP.init = .initialized := Cond.initialized_spec (findClass_of_methodNamed hnamed) hkP hinit
  obtain ⟨vm₁, X₁, hstep₁⟩ := X.invokestatic hexec hown hlink hnamed hmethM hstatic hkP hinitP hy (g := g) hg (argsL := argsL) (rest := rest) (hlen _ hsigM) hstack hdg
  rcases hK m meth c ⟨T.setVm vm₁, locs, cells, slots⟩ { g with stack := rest } (.invokestatic index) mk argsL.toArray X₁ hg hsize hdg hW (X₁.named hnamed) (hpre vm₁ X₁.warmed) with ⟨v, B, X', hpost, hsteps⟩ | ⟨q, B, X', hpost, hsteps⟩
  · exact Or.inl ⟨v, vm₁, B, X₁.warmed, X', hpost, fun target h => hstep₁ _ fun acts => by rw [doInvoke_state]; exact hsteps.trans h⟩
  · exact Or.inr ⟨q, vm₁, B, X₁.warmed, X', hpost, hstep₁ _ fun acts => by rw [doInvoke_state]; exact hsteps⟩
end Calls
theorem vx_cls {s : State} {T : State} {vm₁ : Vm} {E : String} {k : ClassId} (hW : s.WarmedH vm₁) (h : (T.setVm vm₁).vm.findClass E = some k) : s.vm.findClass E = some k := by
  have h1 : vm₁.findClass E = some k := h
  rw [hW.alike.findClass] at h1
  exact h1
/-- the method's frame g, with q thrown over it -/
def vx_W (p : Program) (l : Launch) (e : Env) (R : Room) (s : State) (m : MethodId) (args : Array Value) (below : List Frame) (meth : Method) (c : Code) (H : Heap) (locs : List Loc) (cells slots : Nat) (Q : State → Prop) (g : JFrame) (q : Addr) : Prop :=
  ∀ T : State, T.heap = H → Stand p l e R s m args below meth c T locs cells slots → ∃ t, Steps p.tables e below ((T.setTop g).pushFrame (.throwing q)) t ∧ Q t
def vx_Run (p : Program) (l : Launch) (e : Env) (R : Room) (s : State) (m : MethodId) (args : Array Value) (below : List Frame) (meth : Method) (c : Code) (H : Heap) (locs : List Loc) (cells slots mc ms : Nat) (g : JFrame) (rest : List Value) (Qa : State → Outcome → State → Prop) (XC : String → State → State → Prop) (free : Addr → Prop) : Prop :=
  ∀ T : State, T.heap = H → Stand p l e R s m args below meth c T locs cells slots →
    (∃ (v : Option Value) (st₀ t T' : State) (L : List Loc), st₀.heap = H ∧ Stand p l e R s m args below meth c T' (locs ++ L) (cells + mc) (slots + ms) ∧ (∀ q ∈ L, free q.base) ∧ T'.heap = t.heap ∧ T'.vm = t.vm ∧ Qa st₀ (.returned v) t ∧
      Goes p e below T g T' { g with pc := g.pc + 3, stack := v.toList ++ rest }) ∨
    (∃ (q : Addr) (st₀ t T' : State) (L : List Loc) (E : String) (ce : Cell), st₀.heap = H ∧ Stand p l e R s m args below meth c T' (locs ++ L) (cells + mc) (slots + ms) ∧ (∀ z ∈ L, free z.base) ∧ T'.heap = t.heap ∧ T'.vm = t.vm ∧ XC E st₀ t ∧ t.heap[q]? = some ce ∧ ce.vm = .none ∧ s.vm.findClass E = some ce.cls ∧
      Steps p.tables e below (T.setTop g) ((T'.setTop { g with stack := rest }).pushFrame (.throwing q)))
def vx_X {S : Type} (px : S → Prop) (B : String → S → State → Prop) (A : Nat → Prop) : String → State → State → Prop := fun E st t => ∃ u : S, px u ∧ B E u t ∧ va_F A st t
section Runs
variable {p : Program} {l : Launch} {e : Env} {R : Room} {s : State} {m : MethodId} {args : Array Value} {below : List Frame} {meth : Method} {c : Code} {H : Heap} {locs : List Loc} {cells slots : Nat}
variable {y : MethodName} {bytes cc : ByteArray} {maxL nL mc ms n index : Nat} {ret : Option FieldType} {ws : List Cond} {rm : Room} {Pc : Array Value → State → Prop} {Qc : Array Value → State → Outcome → State → Prop} {XC : String → State → State → Prop} {free : Addr → Prop} {Ts : List Cond} {own C : String} {b : Addr} {As rest : List Value} {g : JFrame}
theorem vx_callBack (cb : CallB R s args own index y bytes maxL ret ws rm mc ms n) (hM : vx_Met l y ws rm Pc Qc XC mc ms free) (hbl : FrameBlind Pc) : vx_Back l R p e below s args y 3 8 (PreOf R mc ms Pc) (PostOf Qc mc ms free) (vx_Post XC mc ms free) := by
  obtain ⟨hrc, hrs, hfr, hlo, hws, hcw, -, hini, -⟩ := cb
  exact vx_back (bytes := bytes) (maxL := maxL) (ret := ret) hM hbl hrc hrs hfr hlo hws hcw (fun a' U hW => word_at hW (Or.inl (by first | rfl | simp [Cond.onTables, Cond.keeps, Cond.steady])) hini)
theorem vx_runV (S : CallFix p m c cc nL s args Ts own) (hM : vx_Met l y ws rm Pc Qc XC mc ms free) (cw : CallW R s args own C index y bytes maxL ret ws rm mc ms n) (hp : PreV s H C b Pc As)
    (hg : g.method = m) (hn : As.length = n) (hsize : g.locals.size = nL) (hstack : g.stack = As.reverse ++ .ref b :: rest) (hW : 2 * g.monitorRoom + (rest.map fun v => v.category).sum ≤ 8) (hdg : decode cc g.pc = .ok (.invokevirtual index, 3)) (hf : cells + mc ≤ R.cells ∧ slots + ms ≤ R.slots) :
    vx_Run p l e R s m args below meth c H locs cells slots mc ms g rest (Qc (Value.ref b :: As).toArray) XC free := by
  have hK : vx_Back l R p e below s args y 3 8 (PreOf R mc ms Pc) (PostOf Qc mc ms free) (vx_Post XC mc ms free) := vx_callBack cw.1 hM hp.1
  obtain ⟨⟨-, -, -, -, -, -, hcode, -, hy, hlen, hl⟩, hin, hse⟩ := cw
  obtain ⟨hx, hb, hml, ho, -⟩ := S
  obtain ⟨-, ⟨cellB, hcB, hoB, hclB⟩, hPc⟩ := hp
  intro T hT X
  rcases vx_callV X hx (C := C) (bytes := bytes) (maxL := maxL) (ret := ret) ho hl hin hse hcode hy hK (by rw [hT]; exact hcB) hoB hclB hg (hsize.trans hml.symm) (argsL := As) (rest := rest) (fun sig h => hn.trans (hlen sig h)) hstack hW (by rw [hb]; exact hdg)
    (fun vm₁ hW₁ => ⟨hf.1, hf.2, hPc (T.setVm vm₁) hT hW₁⟩) with ⟨v, vm₁, ⟨U', l2, c2, s2⟩, hW₁, X', ⟨g', mk, t, L, e1, e2, hq, h1, hL, h2, h3⟩, st⟩ | ⟨q, vm₁, ⟨U', l2, c2, s2⟩, hW₁, X', ⟨g', mk, t, L, E, ce, e1, e2, hq, hce, hcv, hcl, h1, hL, h2, h3⟩, st⟩
  · dsimp only [Pt.U, Pt.locs, Pt.cells, Pt.slots] at X' e1 e2 h1 h2 h3 st
    subst h1; subst h2; subst h3
    exact Or.inl ⟨v, (T.setVm vm₁).calling g' mk (Value.ref b :: As).toArray, t, U', L, hT, X', hL, e1, e2, hq, st⟩
  · dsimp only [Pt.U, Pt.locs, Pt.cells, Pt.slots] at X' e1 e2 h1 h2 h3 st hcl
    subst h1; subst h2; subst h3
    exact Or.inr ⟨q, (T.setVm vm₁).calling g' mk (Value.ref b :: As).toArray, t, U', L, E, ce, hT, X', hL, e1, e2, hq, hce, hcv, vx_cls hW₁ hcl, st⟩
theorem vx_runS (S : CallFix p m c cc nL s args Ts own) (hM : vx_Met l y ws rm Pc Qc XC mc ms free) (cw : CallB R s args own index y bytes maxL ret ws rm mc ms n ∧ (Cond.static y).before args s = true) (hp : PreS s H Pc As)
    (hg : g.method = m) (hn : As.length = n) (hsize : g.locals.size = nL) (hstack : g.stack = As.reverse ++ rest) (hW : 2 * g.monitorRoom + (rest.map fun v => v.category).sum ≤ 8) (hdg : decode cc g.pc = .ok (.invokestatic index, 3)) (hf : cells + mc ≤ R.cells ∧ slots + ms ≤ R.slots) :
    vx_Run p l e R s m args below meth c H locs cells slots mc ms g rest (Qc As.toArray) XC free := by
  have hK : vx_Back l R p e below s args y 3 8 (PreOf R mc ms Pc) (PostOf Qc mc ms free) (vx_Post XC mc ms free) := vx_callBack cw.1 hM hp.1
  obtain ⟨⟨-, -, -, -, -, -, hcode, hini, hy, hlen, hl⟩, hstt⟩ := cw
  obtain ⟨hx, hb, hml, ho, -⟩ := S
  intro T hT X
  rcases vx_callS X hx (bytes := bytes) (maxL := maxL) (ret := ret) ho hl hstt hini hcode hy hK hg (hsize.trans hml.symm) (argsL := As) (rest := rest) (fun sig h => hn.trans (hlen sig h)) hstack hW (by rw [hb]; exact hdg)
    (fun vm₁ hW₁ => ⟨hf.1, hf.2, hp.2 (T.setVm vm₁) hT hW₁⟩) with ⟨v, vm₁, ⟨U', l2, c2, s2⟩, hW₁, X', ⟨g', mk, t, L, e1, e2, hq, h1, hL, h2, h3⟩, st⟩ | ⟨q, vm₁, ⟨U', l2, c2, s2⟩, hW₁, X', ⟨g', mk, t, L, E, ce, e1, e2, hq, hce, hcv, hcl, h1, hL, h2, h3⟩, st⟩
  · dsimp only [Pt.U, Pt.locs, Pt.cells, Pt.slots] at X' e1 e2 h1 h2 h3 st
    subst h1; subst h2; subst h3
    exact Or.inl ⟨v, (T.setVm vm₁).calling g' mk As.toArray, t, U', L, hT, X', hL, e1, e2, hq, st⟩
  · dsimp only [Pt.U, Pt.locs, Pt.cells, Pt.slots] at X' e1 e2 h1 h2 h3 st hcl
    subst h1; subst h2; subst h3
    exact Or.inr ⟨q, (T.setVm vm₁).calling g' mk As.toArray, t, U', L, E, ce, hT, X', hL, e1, e2, hq, hce, hcv, vx_cls hW₁ hcl, st⟩
end Runs
section Rows
variable {p : Program} {l : Launch} {e : Env} {R : Room} {s : State} {m : MethodId} {args : Array Value} {below : List Frame} {meth : Method} {c : Code} {H : Heap} {locs : List Loc} {cells slots : Nat} {Q : State → Prop}
variable {mc ms : Nat} {free : Addr → Prop} {A0 A1 : Nat → Prop} {H0 : Heap} {a : Array Value} {pc : Nat} {ls : Array Slot} {st0 rest : List Value}
theorem vx_keep {st₀ t T' : State} {L : List Loc} (h0 : st₀.heap = H) (e1 : T'.heap = t.heap) (hS : va_S A0 H0 H locs) (hA : ∀ q, q < H.size → A1 q → A0 q) (hf : ∀ q, free q → A0 q) (hL : ∀ q ∈ L, free q.base) (hF : va_F A1 st₀ t) :
    H.size ≤ T'.heap.size ∧ (∀ q : Nat, q < H.size → ¬ A1 q → T'.heap[q]? = H[q]?) ∧ va_S A0 H0 T'.heap (locs ++ L) := by
  obtain ⟨hz, hk⟩ := hF
  rw [h0] at hz hk
  exact ⟨by rw [e1]; exact hz, fun q h1 h2 => by rw [e1]; exact hk q h1 h2,
    ⟨Nat.le_trans hS.1 (by rw [e1]; exact hz), fun q h1 h2 => by rw [e1, hk q (Nat.lt_of_lt_of_le h1 hS.1) (fun z => h2 (hA q (Nat.lt_of_lt_of_le h1 hS.1) z))]; exact hS.2.1 q h1 h2, fun q hq => by
      rcases List.mem_append.mp hq with h | h
      · exact hS.2.2 q h
      · exact hf _ (hL q h)⟩⟩
theorem vx_calli {S SX : Type} {post : Int32 → S → Prop} {px : SX → Prop} {B : S → State → Prop} {BX : String → SX → State → Prop} {AX : Nat → Prop} (hr : vx_Run p l e R s m args below meth c H locs cells slots mc ms (F0 m pc ls st0) rest (va_Qi post B A1 a) (vx_X px BX AX) free) (hS : va_S A0 H0 H locs) (hA : ∀ q, q < H.size → A1 q → A0 q) (hf : ∀ q, free q → A0 q) (hAX : ∀ q, q < H.size → AX q → A0 q)
    (kx : ∀ (E : String) (ce : Cell) (q9 : Addr) (u : SX) (t : State) (H1 : Heap) (locs1 : List Loc), t.heap = H1 → s.vm.Alike t.vm → px u → BX E u t → H.size ≤ H1.size → (∀ q : Nat, q < H.size → ¬ AX q → H1[q]? = H[q]?) → va_S A0 H0 H1 locs1 → H1[q9]? = some ce → ce.vm = .none → s.vm.findClass E = some ce.cls → vx_W p l e R s m args below meth c H1 locs1 (cells + mc) (slots + ms) Q (F0 m pc ls rest) q9)
    (kk : ∀ (r : Int32) (u : S) (t : State) (H1 : Heap) (locs1 : List Loc), t.heap = H1 → s.vm.Alike t.vm → post r u → B u t → H.size ≤ H1.size → (∀ q : Nat, q < H.size → ¬ A1 q → H1[q]? = H[q]?) → va_S A0 H0 H1 locs1 → W p l e R s m args below meth c H1 locs1 (cells + mc) (slots + ms) Q (F0 m (pc + 3) ls (.int r :: rest))) : W p l e R s m args below meth c H locs cells slots Q (F0 m pc ls st0) := by
  intro T hT X
  rcases hr T hT X with ⟨v, st₀, t, T', L, h0, X', hL, e1, e2, ⟨⟨r, u, hv, hp, hb⟩, hF⟩, st⟩ | ⟨q, st₀, t, T', L, E, ce, h0, X', hL, e1, e2, ⟨u, hp, hb, hF⟩, hce, hcv, hcl, st⟩
  · cases hv
    obtain ⟨k1, k2, k3⟩ := vx_keep h0 e1 hS hA hf hL hF
    obtain ⟨t2, a1, b1⟩ := kk r u t T'.heap (locs ++ L) e1.symm (by rw [← e2]; exact X'.warmed.alike) hp hb k1 k2 k3 T' rfl X'
    exact ⟨t2, st t2 a1, b1⟩
  · obtain ⟨k1, k2, k3⟩ := vx_keep h0 e1 hS hAX hf hL hF
    obtain ⟨t2, a1, b1⟩ := kx E ce q u t T'.heap (locs ++ L) e1.symm (by rw [← e2]; exact X'.warmed.alike) hp hb k1 k2 k3 (by rw [e1]; exact hce) hcv hcl T' rfl X'
    exact ⟨t2, st.trans a1, b1⟩
theorem vx_calll {S SX : Type} {post : Int64 → S → Prop} {px : SX → Prop} {B : S → State → Prop} {BX : String → SX → State → Prop} {AX : Nat → Prop} (hr : vx_Run p l e R s m args below meth c H locs cells slots mc ms (F0 m pc ls st0) rest (va_Ql post B A1 a) (vx_X px BX AX) free) (hS : va_S A0 H0 H locs) (hA : ∀ q, q < H.size → A1 q → A0 q) (hf : ∀ q, free q → A0 q) (hAX : ∀ q, q < H.size → AX q → A0 q)
    (kx : ∀ (E : String) (ce : Cell) (q9 : Addr) (u : SX) (t : State) (H1 : Heap) (locs1 : List Loc), t.heap = H1 → s.vm.Alike t.vm → px u → BX E u t → H.size ≤ H1.size → (∀ q : Nat, q < H.size → ¬ AX q → H1[q]? = H[q]?) → va_S A0 H0 H1 locs1 → H1[q9]? = some ce → ce.vm = .none → s.vm.findClass E = some ce.cls → vx_W p l e R s m args below meth c H1 locs1 (cells + mc) (slots + ms) Q (F0 m pc ls rest) q9)
    (kk : ∀ (r : Int64) (u : S) (t : State) (H1 : Heap) (locs1 : List Loc), t.heap = H1 → s.vm.Alike t.vm → post r u → B u t → H.size ≤ H1.size → (∀ q : Nat, q < H.size → ¬ A1 q → H1[q]? = H[q]?) → va_S A0 H0 H1 locs1 → W p l e R s m args below meth c H1 locs1 (cells + mc) (slots + ms) Q (F0 m (pc + 3) ls (.long r :: rest))) : W p l e R s m args below meth c H locs cells slots Q (F0 m pc ls st0) := by
  intro T hT X
  rcases hr T hT X with ⟨v, st₀, t, T', L, h0, X', hL, e1, e2, ⟨⟨r, u, hv, hp, hb⟩, hF⟩, st⟩ | ⟨q, st₀, t, T', L, E, ce, h0, X', hL, e1, e2, ⟨u, hp, hb, hF⟩, hce, hcv, hcl, st⟩
  · cases hv
    obtain ⟨k1, k2, k3⟩ := vx_keep h0 e1 hS hA hf hL hF
    obtain ⟨t2, a1, b1⟩ := kk r u t T'.heap (locs ++ L) e1.symm (by rw [← e2]; exact X'.warmed.alike) hp hb k1 k2 k3 T' rfl X'
    exact ⟨t2, st t2 a1, b1⟩
  · obtain ⟨k1, k2, k3⟩ := vx_keep h0 e1 hS hAX hf hL hF
    obtain ⟨t2, a1, b1⟩ := kx E ce q u t T'.heap (locs ++ L) e1.symm (by rw [← e2]; exact X'.warmed.alike) hp hb k1 k2 k3 (by rw [e1]; exact hce) hcv hcl T' rfl X'
    exact ⟨t2, st.trans a1, b1⟩
theorem vx_callf {S SX : Type} {post : UInt32 → S → Prop} {px : SX → Prop} {B : S → State → Prop} {BX : String → SX → State → Prop} {AX : Nat → Prop} (hr : vx_Run p l e R s m args below meth c H locs cells slots mc ms (F0 m pc ls st0) rest (va_Qf post B A1 a) (vx_X px BX AX) free) (hS : va_S A0 H0 H locs) (hA : ∀ q, q < H.size → A1 q → A0 q) (hf : ∀ q, free q → A0 q) (hAX : ∀ q, q < H.size → AX q → A0 q)
    (kx : ∀ (E : String) (ce : Cell) (q9 : Addr) (u : SX) (t : State) (H1 : Heap) (locs1 : List Loc), t.heap = H1 → s.vm.Alike t.vm → px u → BX E u t → H.size ≤ H1.size → (∀ q : Nat, q < H.size → ¬ AX q → H1[q]? = H[q]?) → va_S A0 H0 H1 locs1 → H1[q9]? = some ce → ce.vm = .none → s.vm.findClass E = some ce.cls → vx_W p l e R s m args below meth c H1 locs1 (cells + mc) (slots + ms) Q (F0 m pc ls rest) q9)
    (kk : ∀ (r : UInt32) (u : S) (t : State) (H1 : Heap) (locs1 : List Loc), t.heap = H1 → s.vm.Alike t.vm → post r u → B u t → H.size ≤ H1.size → (∀ q : Nat, q < H.size → ¬ A1 q → H1[q]? = H[q]?) → va_S A0 H0 H1 locs1 → W p l e R s m args below meth c H1 locs1 (cells + mc) (slots + ms) Q (F0 m (pc + 3) ls (.float r :: rest))) : W p l e R s m args below meth c H locs cells slots Q (F0 m pc ls st0) := by
  intro T hT X
  rcases hr T hT X with ⟨v, st₀, t, T', L, h0, X', hL, e1, e2, ⟨⟨r, u, hv, hp, hb⟩, hF⟩, st⟩ | ⟨q, st₀, t, T', L, E, ce, h0, X', hL, e1, e2, ⟨u, hp, hb, hF⟩, hce, hcv, hcl, st⟩
  · cases hv
    obtain ⟨k1, k2, k3⟩ := vx_keep h0 e1 hS hA hf hL hF
    obtain ⟨t2, a1, b1⟩ := kk r u t T'.heap (locs ++ L) e1.symm (by rw [← e2]; exact X'.warmed.alike) hp hb k1 k2 k3 T' rfl X'
    exact ⟨t2, st t2 a1, b1⟩
  · obtain ⟨k1, k2, k3⟩ := vx_keep h0 e1 hS hAX hf hL hF
    obtain ⟨t2, a1, b1⟩ := kx E ce q u t T'.heap (locs ++ L) e1.symm (by rw [← e2]; exact X'.warmed.alike) hp hb k1 k2 k3 (by rw [e1]; exact hce) hcv hcl T' rfl X'
    exact ⟨t2, st.trans a1, b1⟩
theorem vx_calld {S SX : Type} {post : UInt64 → S → Prop} {px : SX → Prop} {B : S → State → Prop} {BX : String → SX → State → Prop} {AX : Nat → Prop} (hr : vx_Run p l e R s m args below meth c H locs cells slots mc ms (F0 m pc ls st0) rest (va_Qd post B A1 a) (vx_X px BX AX) free) (hS : va_S A0 H0 H locs) (hA : ∀ q, q < H.size → A1 q → A0 q) (hf : ∀ q, free q → A0 q) (hAX : ∀ q, q < H.size → AX q → A0 q)
    (kx : ∀ (E : String) (ce : Cell) (q9 : Addr) (u : SX) (t : State) (H1 : Heap) (locs1 : List Loc), t.heap = H1 → s.vm.Alike t.vm → px u → BX E u t → H.size ≤ H1.size → (∀ q : Nat, q < H.size → ¬ AX q → H1[q]? = H[q]?) → va_S A0 H0 H1 locs1 → H1[q9]? = some ce → ce.vm = .none → s.vm.findClass E = some ce.cls → vx_W p l e R s m args below meth c H1 locs1 (cells + mc) (slots + ms) Q (F0 m pc ls rest) q9)
    (kk : ∀ (r : UInt64) (u : S) (t : State) (H1 : Heap) (locs1 : List Loc), t.heap = H1 → s.vm.Alike t.vm → post r u → B u t → H.size ≤ H1.size → (∀ q : Nat, q < H.size → ¬ A1 q → H1[q]? = H[q]?) → va_S A0 H0 H1 locs1 → W p l e R s m args below meth c H1 locs1 (cells + mc) (slots + ms) Q (F0 m (pc + 3) ls (.double r :: rest))) : W p l e R s m args below meth c H locs cells slots Q (F0 m pc ls st0) := by
  intro T hT X
  rcases hr T hT X with ⟨v, st₀, t, T', L, h0, X', hL, e1, e2, ⟨⟨r, u, hv, hp, hb⟩, hF⟩, st⟩ | ⟨q, st₀, t, T', L, E, ce, h0, X', hL, e1, e2, ⟨u, hp, hb, hF⟩, hce, hcv, hcl, st⟩
  · cases hv
    obtain ⟨k1, k2, k3⟩ := vx_keep h0 e1 hS hA hf hL hF
    obtain ⟨t2, a1, b1⟩ := kk r u t T'.heap (locs ++ L) e1.symm (by rw [← e2]; exact X'.warmed.alike) hp hb k1 k2 k3 T' rfl X'
    exact ⟨t2, st t2 a1, b1⟩
  · obtain ⟨k1, k2, k3⟩ := vx_keep h0 e1 hS hAX hf hL hF
    obtain ⟨t2, a1, b1⟩ := kx E ce q u t T'.heap (locs ++ L) e1.symm (by rw [← e2]; exact X'.warmed.alike) hp hb k1 k2 k3 (by rw [e1]; exact hce) hcv hcl T' rfl X'
    exact ⟨t2, st.trans a1, b1⟩
theorem vx_callv {S SX : Type} {post : S → Prop} {px : SX → Prop} {B : S → State → Prop} {BX : String → SX → State → Prop} {AX : Nat → Prop} (hr : vx_Run p l e R s m args below meth c H locs cells slots mc ms (F0 m pc ls st0) rest (va_Qv post B A1 a) (vx_X px BX AX) free) (hS : va_S A0 H0 H locs) (hA : ∀ q, q < H.size → A1 q → A0 q) (hf : ∀ q, free q → A0 q) (hAX : ∀ q, q < H.size → AX q → A0 q)
    (kx : ∀ (E : String) (ce : Cell) (q9 : Addr) (u : SX) (t : State) (H1 : Heap) (locs1 : List Loc), t.heap = H1 → s.vm.Alike t.vm → px u → BX E u t → H.size ≤ H1.size → (∀ q : Nat, q < H.size → ¬ AX q → H1[q]? = H[q]?) → va_S A0 H0 H1 locs1 → H1[q9]? = some ce → ce.vm = .none → s.vm.findClass E = some ce.cls → vx_W p l e R s m args below meth c H1 locs1 (cells + mc) (slots + ms) Q (F0 m pc ls rest) q9)
    (kk : ∀ (u : S) (t : State) (H1 : Heap) (locs1 : List Loc), t.heap = H1 → s.vm.Alike t.vm → post u → B u t → H.size ≤ H1.size → (∀ q : Nat, q < H.size → ¬ A1 q → H1[q]? = H[q]?) → va_S A0 H0 H1 locs1 → W p l e R s m args below meth c H1 locs1 (cells + mc) (slots + ms) Q (F0 m (pc + 3) ls (rest))) : W p l e R s m args below meth c H locs cells slots Q (F0 m pc ls st0) := by
  intro T hT X
  rcases hr T hT X with ⟨v, st₀, t, T', L, h0, X', hL, e1, e2, ⟨⟨u, hv, hp, hb⟩, hF⟩, st⟩ | ⟨q, st₀, t, T', L, E, ce, h0, X', hL, e1, e2, ⟨u, hp, hb, hF⟩, hce, hcv, hcl, st⟩
  · cases hv
    obtain ⟨k1, k2, k3⟩ := vx_keep h0 e1 hS hA hf hL hF
    obtain ⟨t2, a1, b1⟩ := kk u t T'.heap (locs ++ L) e1.symm (by rw [← e2]; exact X'.warmed.alike) hp hb k1 k2 k3 T' rfl X'
    exact ⟨t2, st t2 a1, b1⟩
  · obtain ⟨k1, k2, k3⟩ := vx_keep h0 e1 hS hAX hf hL hF
    obtain ⟨t2, a1, b1⟩ := kx E ce q u t T'.heap (locs ++ L) e1.symm (by rw [← e2]; exact X'.warmed.alike) hp hb k1 k2 k3 (by rw [e1]; exact hce) hcv hcl T' rfl X'
    exact ⟨t2, st.trans a1, b1⟩
end Rows
section Ends
variable {p : Program} {l : Launch} {e : Env} {R : Room} {s : State} {m : MethodId} {args : Array Value} {below : List Frame} {meth : Method} {c : Code} {H : Heap} {locs : List Loc} {cells slots : Nat} {Q : State → Prop}
variable {mc ms : Nat} {free : Addr → Prop} {A0 A1 : Nat → Prop} {H0 : Heap} {a : Array Value} {ls : Array Slot} {st0 rest : List Value}
variable {Qc : Array Value → State → Outcome → State → Prop} {XC : String → State → State → Prop}
/-- what a body that may throw owes at its end -/
def vx_MQ (below : List Frame) (Qc : Array Value → State → Outcome → State → Prop) (XC : String → State → State → Prop) (a : Array Value) (s : State) (mc ms : Nat) (free : Addr → Prop) : State → Prop := fun t =>
  ∃ o, t.status = .running ∧ Ended t below o ∧ vx_Q Qc XC mc ms free a s o t
theorem vx_ret {g : JFrame} {mc ms : Nat} (k : W p l e R s m args below meth c H locs cells slots (MQ below Qc args s mc ms free) g) : W p l e R s m args below meth c H locs cells slots (vx_MQ below Qc XC args s mc ms free) g := by
  intro T hT X
  obtain ⟨t, a1, o, b1, b2, b3, b4⟩ := k T hT X
  exact ⟨t, a1, o, b1, b2, Or.inl ⟨b3, b4⟩⟩
/-- not caught here: it goes on to the caller -/
theorem vx_widen {g : JFrame} {q : Addr} {k n : Nat} (h1 : cells ≤ k) (h2 : slots ≤ n) (kk : vx_W p l e R s m args below meth c H locs k n Q g q) : vx_W p l e R s m args below meth c H locs cells slots Q g q := fun T hT X => kk T hT (stand_widen X h1 h2)
theorem vx_out {pc : Nat} {E : String} {ce : Cell} {q : Addr} {mc ms : Nat} (hout : ∀ x ∈ c.exceptionTable.toList, covers x pc = false) (hlocks : meth.locks = false) (hcell : H[q]? = some ce) (hv : ce.vm = .none) (hcl : s.vm.findClass E = some ce.cls)
    (hx : ∀ t : State, t.heap = H → s.vm.Alike t.vm → XC E s t) (hf : ∀ z ∈ locs, free z.base) (hc : cells ≤ mc) (hs : slots ≤ ms) :
    vx_W p l e R s m args below meth c H locs cells slots (vx_MQ below Qc XC args s mc ms free) (F0 m pc ls rest) q := by
  intro T hT X
  obtain ⟨st1, hrun, hend, hW, hsm⟩ := X.leaveThrown q (g := F0 m pc ls rest) rfl rfl rfl hout hlocks
  have hcell9 : (T.setFrames (.throwing q :: below)).heap[q]? = some ce := by
    show T.heap[q]? = some ce
    rw [hT]; exact hcell
  exact ⟨_, st1, .threw q, hrun, hend, Or.inr ⟨q, rfl, E, ce, locs, hx _ hT hW.alike, hcell9, hv, hcl, hW, hsm.mono hc hs, hf⟩⟩
theorem vx_frame {U : State} {k n : Nat} (h : s.sameButNew ({ U with vm := s.vm } : State) locs k n) : s.heap.size ≤ U.heap.size ∧ ∀ q : Nat, q < s.heap.size → (∀ z ∈ locs, z.base ≠ q) → U.heap[q]? = s.heap[q]? := by
  obtain ⟨-, h2, -, -, -, h6⟩ := h
  refine ⟨h2, fun q hq hz => ?_⟩
  obtain ⟨c9, e1, e2, e3, e4⟩ := h6 q _ (Array.getElem?_eq_getElem hq)
  have hs : c9.slots = (s.heap[q]).slots := Array.ext_getElem? fun i => e4 i fun hm => hz _ hm rfl
  have h9 : c9 = s.heap[q] := by
    rw [hs] at e2
    exact e2
  have e5 : U.heap[q]? = some c9 := e1
  rw [e5, h9, Array.getElem?_eq_getElem hq]
/-- the words of a throw but the four that speak of the heap -/
def vx_no (w : Cond) : Bool := decide (w ≠ .isRef (.static Bundle.tN "UNASSIGNED_STACK" Bundle.steD)) && decide (w ≠ .isRef (.static Bundle.tN "SUPPRESSED_SENTINEL" Bundle.listD)) && decide (w ≠ .laysStatic Bundle.tN "UNASSIGNED_STACK" Bundle.steD) && decide (w ≠ .laysStatic Bundle.tN "SUPPRESSED_SENTINEL" Bundle.listD)
def vx_at0 (own : String) (ic : Nat) (X : String) (names : List String) : List Cond := (Bundle.ownAtoms0 own ic X names).filter vx_no
def vx_atS (own : String) (ic : Nat) (X : String) (names : List String) : List Cond := (Bundle.ownAtoms own ic X names).filter vx_no
/-- a word that the tables alone decide, or a good one -/
def vx_ot (w : Cond) : Bool := w.onTables || goodWord w
theorem vx_ot_at {args a' : Array Value} {s U : State} {w : Cond} (hW : s.WarmedH U.vm) (hvm : s.vm = U.vm) (hg : vx_ot w = true) (h : w.before args s = true) : w.before a' U = true := by
  simp only [vx_ot, Bool.or_eq_true] at hg
  rcases hg with hg | hg
  · exact va_tabs hg hvm h
  · exact word_at hW (good_of_word hg) h
/-- a list's words: the good ones out of the method's own list, the others by premises of their own -/
theorem vx_hat {args : Array Value} {s : State} {L B : List Cond} (h1 : ∀ w ∈ L.filter goodWord, w.before args s = true) (h2 : ∀ w ∈ L.filter (fun w => !goodWord w), w ∈ B) (h3 : ∀ w ∈ B, w.before args s = true) : ∀ w ∈ L, w.before args s = true := by
  intro w hw
  by_cases g : goodWord w = true
  · exact h1 w (List.mem_filter.mpr ⟨hw, g⟩)
  · refine h3 w (h2 w (List.mem_filter.mpr ⟨hw, ?_⟩))
    show (!goodWord w) = true
    cases hgw : goodWord w
    · rfl
    · exact absurd hgw g
theorem vx_c {args : Array Value} {s : State} {w : Cond} {B : List Cond} (h : w.before args s = true) (t : ∀ w ∈ B, w.before args s = true) : ∀ w' ∈ w :: B, w'.before args s = true := fun w' h' => (List.mem_cons.mp h').elim (fun e => by rw [e]; exact h) (t w')
theorem vx_n {args : Array Value} {s : State} : ∀ w ∈ ([] : List Cond), w.before args s = true := fun _ h => nomatch h
theorem vx_own {args : Array Value} {s : State} {L : List Cond} (h1 : ∀ w ∈ L.filter vx_no, w.before args s = true)
    (hU : (Cond.isRef (.static Bundle.tN "UNASSIGNED_STACK" Bundle.steD)).before args s = true) (hN : (Cond.isRef (.static Bundle.tN "SUPPRESSED_SENTINEL" Bundle.listD)).before args s = true)
    (lU : (Cond.laysStatic Bundle.tN "UNASSIGNED_STACK" Bundle.steD).before args s = true) (lN : (Cond.laysStatic Bundle.tN "SUPPRESSED_SENTINEL" Bundle.listD).before args s = true) : ∀ w ∈ L, w.before args s = true := by
  intro w hw
  by_cases e1 : w = .isRef (.static Bundle.tN "UNASSIGNED_STACK" Bundle.steD)
  · rw [e1]; exact hU
  · by_cases e2 : w = .isRef (.static Bundle.tN "SUPPRESSED_SENTINEL" Bundle.listD)
    · rw [e2]; exact hN
    · by_cases e3 : w = .laysStatic Bundle.tN "UNASSIGNED_STACK" Bundle.steD
      · rw [e3]; exact lU
      · by_cases e4 : w = .laysStatic Bundle.tN "SUPPRESSED_SENTINEL" Bundle.listD
        · rw [e4]; exact lN
        · exact h1 w (List.mem_filter.mpr ⟨hw, by unfold vx_no; rw [decide_eq_true e1, decide_eq_true e2, decide_eq_true e3, decide_eq_true e4]; rfl⟩)
/-- where a static field lies, its statics cell in H -/
def vx_L (C n d : String) (A : Nat → Prop) (U : State) (H : Heap) : Prop := ∃ (c : ClassId) (k : Class) (i : Nat) (f : Field) (a : Nat) (cell : Cell), U.vm.findClass C = some c ∧ U.fieldFound? C n d = some (c, k, i, f) ∧ f.isStatic = true ∧ k.statics = some a ∧ H[a]? = some cell ∧ cell.vm.isStatics = true ∧ cell.cls = c ∧ f.slot < cell.slots.size ∧ k.staticTypes[f.slot]? = some f.type ∧ ¬ A a
theorem vx_L.moved {C n d : String} {A : Nat → Prop} {u U : State} {H : Heap} (hvm : u.vm.Alike U.vm) (h : vx_L C n d A u H) : vx_L C n d A U H := by
  obtain ⟨c, k, i, f, a, cell, h1, h2, h3, h4, h5, h6, h7, h8, h9, h10⟩ := h
  obtain ⟨k', hi', he⟩ := State.fieldFound?_setVm hvm h2
  exact ⟨c, k', i, f, a, cell, by rw [hvm.findClass]; exact h1, hi', h3, by rw [he]; exact h4, h5, h6, h7, h8, by rw [he]; exact h9, h10⟩
theorem vx_L.kept {C n d : String} {A : Nat → Prop} {U : State} {H H1 : Heap} (h : vx_L C n d A U H) (hq : ∀ a : Nat, a < H.size → ¬ A a → H1[a]? = H[a]?) : vx_L C n d A U H1 := by
  obtain ⟨c, k, i, f, a, cell, h1, h2, h3, h4, h5, h6, h7, h8, h9, h10⟩ := h
  exact ⟨c, k, i, f, a, cell, h1, h2, h3, h4, by rw [hq a (Array.getElem?_eq_some_iff.mp h5).1 h10]; exact h5, h6, h7, h8, h9, h10⟩
theorem vx_L.narrow {C n d : String} {A B : Nat → Prop} {U : State} {H : Heap} (h : vx_L C n d A U H) (hAB : ∀ q, B q → A q) : vx_L C n d B U H := by
  obtain ⟨c, k, i, f, a, cell, h1, h2, h3, h4, h5, h6, h7, h8, h9, h10⟩ := h
  exact ⟨c, k, i, f, a, cell, h1, h2, h3, h4, h5, h6, h7, h8, h9, fun z => h10 (hAB _ z)⟩
theorem vx_L.word {C n d : String} {A : Nat → Prop} {s : State} {args : Array Value} (h : vx_L C n d A s s.heap) : (Cond.laysStatic C n d).before args s = true := by
  obtain ⟨c, k, i, f, a, cell, h1, h2, h3, h4, h5, h6, h7, h8, h9, -⟩ := h
  show (Cond.laysStatic C n d).holds args s none s [] = true
  exact Cond.laysStatic_of h1 h2 h3 h4 h5 h6 h7 h8 h9
/-- .. and what it holds: null or some reference -/
def vx_Zq (C n d : String) (A : Nat → Prop) (U : State) (H : Heap) : Prop := va_Zq C n d A U H ∧ vx_L C n d A U H
theorem vx_Zq.moved {C n d : String} {A : Nat → Prop} {u U : State} {H : Heap} (hvm : u.vm.Alike U.vm) (h : vx_Zq C n d A u H) : vx_Zq C n d A U H := ⟨va_Zq.moved hvm h.1, vx_L.moved hvm h.2⟩
theorem vx_Zq.kept {C n d : String} {A : Nat → Prop} {U : State} {H H1 : Heap} (h : vx_Zq C n d A U H) (hq : ∀ a : Nat, a < H.size → ¬ A a → H1[a]? = H[a]?) : vx_Zq C n d A U H1 := ⟨va_Zq.kept h.1 hq, vx_L.kept h.2 hq⟩
theorem vx_Zq.narrow {C n d : String} {A B : Nat → Prop} {U : State} {H : Heap} (h : vx_Zq C n d A U H) (hAB : ∀ q, B q → A q) : vx_Zq C n d B U H := ⟨va_Zq.narrow h.1 hAB, vx_L.narrow h.2 hAB⟩
theorem vx_Zqof {args : Array Value} {s : State} {C n d : String} {A : Nat → Prop} (hl : (Cond.laysStatic C n d).before args s = true) (hini : (Cond.initialized C).before args s = true) (h : (Cond.isRef (.static C n d)).before args s = true) (hA : ∀ a : Nat, a < s.heap.size → ¬ A a) : vx_Zq C n d A s s.heap := by
  refine ⟨va_Zqof hl hini h hA, ?_⟩
  obtain ⟨c, k, i, f, a, cell, h1, h2, h3, h4, h5, h6, h7, h8, h9⟩ := Cond.laysStatic_spec hl
  exact ⟨c, k, i, f, a, cell, h1, h2, h3, h4, h5, h6, h7, h8, h9, hA a (Array.getElem?_eq_some_iff.mp h5).1⟩
theorem vx_isRef {C n d : String} {v : Value} {A : Nat → Prop} {s : State} {args : Array Value} (h : va_Z C n d v A s s.heap) (hv : v.isRef = true) : (Cond.isRef (.static C n d)).before args s = true := by
  obtain ⟨cf, kf, fi, f, a, cell, h1, h2, h3, h4, h5, h6, h7, -⟩ := h
  have he : (Term.static C n d).eval args s none [] s = some v := by
    simp [Term.eval, State.fieldNamed?, h1, h2, h4, h5, h6, h7]
  simp only [Cond.before, Cond.holds, Cond.value, he]
  cases v <;> simp_all [Value.isRef]
theorem vx_isRefq {C n d : String} {A : Nat → Prop} {s : State} {args : Array Value} (h : va_Zq C n d A s s.heap) : (Cond.isRef (.static C n d)).before args s = true := by
  rcases h with h | ⟨t, h⟩
  · exact vx_isRef h rfl
  · exact vx_isRef h rfl
/-- the same frame, seen from here: as if the method were called anew in this heap -/
theorem vx_rebase {T : State} (X : Stand p l e R s m args below meth c T locs cells slots) {R' : Room} (hf : R'.frames ≤ R.frames) (hl : R'.locals ≤ R.locals) (hc : cells + R'.cells ≤ R.cells) (hs : slots + R'.slots ≤ R.slots) :
    Stand p l e R' ((T.setVm s.vm).setFrames (.invoking m args :: below)) m args below meth c T [] 0 0 := by
  have htop : (T.setVm s.vm).topJava?.isSome := X.here.top
  have hF : ((T.setVm s.vm).setFrames (.invoking m args :: below)).frames = .invoking m args :: below := State.frames_setFrames _ (State.cur_lt_of_top htop)
  obtain ⟨g₀, hg0⟩ := Option.isSome_iff_exists.mp htop
  obtain ⟨r, hr⟩ := State.topJava?_eq_some.mp hg0
  have hl9 : e.platform.stackLimits (T.setVm s.vm).me = e.platform.stackLimits s.me := X.limits
  have hb9 : (T.setVm s.vm).me.stackBytes = s.me.stackBytes := X.bytes
  refine ⟨X.admits, X.cas, X.clock, hF, ?_, X.hears, X.method, X.code, X.here, X.tail, X.warmed, ?_, ?_, ?_⟩
  · have h := X.room
    have hU : ((T.setVm s.vm).setFrames (.invoking m args :: below)).localsInUse = s.localsInUse := by
      rw [State.localsInUse_invoking hF (meth := meth) (c := c) X.method X.code, State.localsInUse_invoking X.frames X.method X.code]
    simp only [State.hasRoom, Bool.and_eq_true, decide_eq_true_eq] at h ⊢
    obtain ⟨⟨⟨⟨h1, h2, h3, h4, h5, h6⟩, h7⟩, h8⟩, h9⟩ := h
    rw [X.frames, List.length_cons] at h2 h3
    have q1 := X.heapSize
    have q2 := X.used
    simp only [hF, hU, List.length_cons, State.stackLimits_setFrames, State.stackBytes_setFrames, hl9, hb9]
    refine ⟨⟨⟨⟨by omega, by omega, by omega, by omega, by omega, h6⟩, ?_⟩, ?_⟩, X.book⟩
    · show T.heap.size + R'.cells ≤ e.platform.maxCells
      omega
    · show T.slotsUsed + R'.slots ≤ e.platform.maxSlots
      omega
  · rw [State.stackLimits_setFrames]; rfl
  · rw [State.stackBytes_setFrames]; rfl
  · refine ⟨?_, Nat.le_refl _, Nat.le_refl _, ?_, ?_, fun a c9 h9 => ⟨c9, h9, rfl, rfl, fun _ _ => rfl⟩⟩
    · obtain ⟨t, ht, -⟩ := State.frames_cons hr
      show T.setVm s.vm = { ((T.setVm s.vm).setFrames (.invoking m args :: below)).setFrames (T.setVm s.vm).frames with heap := T.heap, slotsUsed := T.slotsUsed }
      rw [State.setFrames_setFrames, State.setFrames_self ht]
      rfl
    · show T.slotsUsed = T.slotsUsed + ((T.heap.toList.drop T.heap.size).map (·.slots.size)).sum
      rw [List.drop_eq_nil_of_le (Nat.le_of_eq Array.length_toList)]
      rfl
    · show ((T.heap.toList.drop T.heap.size).map (·.slots.size)).sum ≤ 0
      rw [List.drop_eq_nil_of_le (Nat.le_of_eq Array.length_toList)]
      exact Nat.le_refl _
/-- 'throw new E()': new; dup; invokespecial; athrow -/
theorem vx_throw0 {cc : ByteArray} {pc : Nat} (hexec : p.tables.exec = Jvm.exec) (hb : c.code = cc) (hl : l.stackTraces = false) {own cls : String} {names : List String} {ik ic mc ms : Nat} {A : Nat → Prop}
    (hown : s.vm.findClass own = some m.cls) (hcls : Bundle.fit cls = true) (hnames : ∀ n ∈ names, Bundle.fit n = true)
    (hk : (Cond.classLink own ik cls).before args s = true) (hini : (Cond.initialized cls).before args s = true) (hat : ∀ w ∈ vx_at0 own ic cls names, w.before args s = true)
    (hgood : ∀ w ∈ Cond.classLink own ik cls :: Cond.initialized cls :: vx_at0 own ic cls names, vx_ot w = true)
    (hU : vx_Zq Bundle.tN "UNASSIGNED_STACK" Bundle.steD A s s.heap) (hN : vx_Zq Bundle.tN "SUPPRESSED_SENTINEL" Bundle.listD A s s.heap) (hS : va_S A s.heap H locs) (hsize : ls.size = c.maxLocals)
    (d0 : decode cc pc = .ok (.new ik, 3)) (d3 : decode cc (pc + 3) = .ok (.dup, 1)) (d4 : decode cc (pc + 4) = .ok (.invokespecial ic, 3)) (d7 : decode cc (pc + 7) = .ok (.athrow, 1))
    (hout : ∀ x ∈ c.exceptionTable.toList, covers x (pc + 7) = false)
    (hRframes : names.length + 3 < R.frames) (hRlocals : (rest.map fun v => v.category).sum + (13 * (names.length + 1) + 42) ≤ R.locals) (hRcells : cells + 1 ≤ R.cells) (hRslots : slots + 6 ≤ R.slots) (hlocks : meth.locks = false)
    (hx : ∀ t : State, s.vm.Alike t.vm → H.size ≤ t.heap.size → (∀ q : Nat, q < H.size → t.heap[q]? = H[q]?) → XC cls s t)
    (hf : ∀ z ∈ locs, free z.base) (hc : cells + 1 ≤ mc) (hs : slots + 6 ≤ ms) :
    W p l e R s m args below meth c H locs cells slots (vx_MQ below Qc XC args s mc ms free) (F0 m pc ls rest) := by
  intro T hT X
  have htr : e.platform.stackTraces = false := (show e.platform.stackTraces = l.stackTraces by rw [X.admits.platform]).trans hl
  have Y := vx_rebase X (R' := { frames := R.frames, locals := R.locals, cells := 1, slots := 6 }) (Nat.le_refl _) (Nat.le_refl _) hRcells hRslots
  obtain ⟨s', hA⟩ : ∃ z, z = (T.setVm s.vm).setFrames (.invoking m args :: below) := ⟨_, rfl⟩
  rw [← hA] at Y
  have hvm : s'.vm = s.vm := by rw [hA]; rfl
  have hhp : s'.heap = H := by rw [hA]; exact hT
  have hW0 : s.WarmedH s'.vm := by rw [hvm]; exact State.WarmedH.refl s
  have hat' : ∀ w ∈ vx_at0 own ic cls names, w.before args s' = true := fun w hw => vx_ot_at hW0 hvm.symm (hgood w (List.mem_cons_of_mem _ (List.mem_cons_of_mem _ hw))) (hat w hw)
  have hk' : (Cond.classLink own ik cls).before args s' = true := vx_ot_at hW0 hvm.symm (hgood _ List.mem_cons_self) hk
  have hini' : (Cond.initialized cls).before args s' = true := vx_ot_at hW0 hvm.symm (hgood _ (List.mem_cons_of_mem _ List.mem_cons_self)) hini
  have hU' : vx_Zq Bundle.tN "UNASSIGNED_STACK" Bundle.steD A s' s'.heap := by rw [hhp]; exact vx_Zq.moved hW0.alike (hU.kept hS.2.1)
  have hN' : vx_Zq Bundle.tN "SUPPRESSED_SENTINEL" Bundle.listD A s' s'.heap := by rw [hhp]; exact vx_Zq.moved hW0.alike (hN.kept hS.2.1)
  have h : ∀ w ∈ Bundle.ownAtoms0 own ic cls names, w.before args s' = true := vx_own hat' (vx_isRefq hU'.1) (vx_isRefq hN'.1) hU'.2.word hN'.2.word
  have hown' : s'.vm.findClass own = some m.cls := by rw [hvm]; exact hown
  have hins : (Cond.instantiable cls 6).before args s' = true := h _ (by simp [Bundle.ownAtoms0])
  obtain ⟨vm₁, cX, kX, hfX, hkX, -, -, X₁, st1⟩ := Y.newCold hexec (own := own) (C := cls) (index := ik) (n := 6) hown' hk' hins hini'
    (g := F0 m pc ls rest) rfl (by rw [hb]; exact d0) (Nat.le_refl _) (Nat.le_refl _)
  generalize hT1 : (T.setVm vm₁).pushCell { cls := cX, slots := kX.instanceTypes.map defaultValue, vm := .none } = T1 at X₁ st1
  have hcat : (Value.ref T.heap.size).category = 1 := rfl
  have hcellA : T1.heap[T.heap.size]? = some (freshCell cX kX) := by rw [← hT1]; exact State.heap_pushCell_size _ _
  have d3' : decode c.code (pc + 3) = .ok (.dup, 1) := by rw [hb]; exact d3
  obtain ⟨U, hsteps, hrun, hend, hW, hsame, ce, hce, hO⟩ := X₁.ctorThrow0 hexec htr (own := own) (cls := cls) (names := names) (ic := ic) hown' hcls hnames h (fun x hx => nomatch hx) hfX hkX hcellA (by rw [hhp, hT]; exact Nat.le_refl _)
    (g := { method := m, pc := pc + 4, locals := ls, stack := .ref T.heap.size :: .ref T.heap.size :: rest, locked := none }) rfl hsize rfl rfl (rest := rest) rfl
    (by rw [hb]; exact d4) (by rw [hb]; exact d7) hout hRframes (by simp only [List.map_cons, List.sum_cons, hcat]; omega) hlocks
  obtain ⟨f1, f2⟩ := vx_frame hsame
  rw [hhp] at f1 f2
  have hWs : s.WarmedH U.vm := State.WarmedH.trans hW0 hW
  have hcl : s.vm.findClass cls = some ce.cls := by
    have h9 := hO.cls
    rw [hvm] at h9
    exact h9
  have hall : s.sameButNew ({ U with vm := s.vm } : State) locs mc ms := by
    subst hA
    obtain ⟨e1, e2⟩ := hsame
    rw [State.setFrames_setFrames] at e1
    have h2 : (T.setVm s.vm).sameButNew ({ U with vm := s.vm } : State) [] (0 + 1) (0 + 6) := ⟨e1, e2⟩
    have h3 := X.same.trans h2
    rw [List.append_nil] at h3
    exact h3.mono hc hs
  refine ⟨U, ?_, .threw T.heap.size, hrun, hend, Or.inr ⟨T.heap.size, rfl, cls, ce, locs, hx U hWs.alike f1 (fun q hq => f2 q hq (fun z hz => nomatch hz)), hce, hO.vm, hcl, hWs, hall, hf⟩⟩
  refine st1 _ ?_
  show Steps p.tables e below (T1.setTop { method := m, pc := pc + 3, locals := ls, stack := .ref T.heap.size :: rest, locked := none }) _
  jvm_step X₁.here [X₁.here.top, hexec, d3', Value.category]
  exact hsteps
/-- 'throw new E("text")': new; dup; ldc; invokespecial; athrow -/
theorem vx_throwS {cc : ByteArray} {pc : Nat} (hexec : p.tables.exec = Jvm.exec) (hb : c.code = cc) (hl : l.stackTraces = false) {own cls text : String} {names : List String} {ik is ic mc ms sa : Nat} {A : Nat → Prop}
    (hown : s.vm.findClass own = some m.cls) (hcls : Bundle.fit cls = true) (hnames : ∀ n ∈ names, Bundle.fit n = true)
    (hk : (Cond.classLink own ik cls).before args s = true) (hini : (Cond.initialized cls).before args s = true) (hstr : vk_R own is text sa s) (hat : ∀ w ∈ vx_atS own ic cls names, w.before args s = true)
    (hgood : ∀ w ∈ Cond.classLink own ik cls :: Cond.initialized cls :: vx_atS own ic cls names, vx_ot w = true)
    (hU : vx_Zq Bundle.tN "UNASSIGNED_STACK" Bundle.steD A s s.heap) (hN : vx_Zq Bundle.tN "SUPPRESSED_SENTINEL" Bundle.listD A s s.heap) (hS : va_S A s.heap H locs) (hsize : ls.size = c.maxLocals)
    (d0 : decode cc pc = .ok (.new ik, 3)) (d3 : decode cc (pc + 3) = .ok (.dup, 1)) (d4 : decode cc (pc + 4) = .ok (.ldc is, 2)) (d6 : decode cc (pc + 6) = .ok (.invokespecial ic, 3)) (d9 : decode cc (pc + 9) = .ok (.athrow, 1))
    (hout : ∀ x ∈ c.exceptionTable.toList, covers x (pc + 9) = false)
    (hRframes : names.length + 3 < R.frames) (hRlocals : (rest.map fun v => v.category).sum + (13 * (names.length + 1) + 43) ≤ R.locals) (hRcells : cells + 1 ≤ R.cells) (hRslots : slots + 6 ≤ R.slots) (hlocks : meth.locks = false)
    (hx : ∀ t : State, s.vm.Alike t.vm → H.size ≤ t.heap.size → (∀ q : Nat, q < H.size → t.heap[q]? = H[q]?) → XC cls s t)
    (hf : ∀ z ∈ locs, free z.base) (hc : cells + 1 ≤ mc) (hs : slots + 6 ≤ ms) :
    W p l e R s m args below meth c H locs cells slots (vx_MQ below Qc XC args s mc ms free) (F0 m pc ls rest) := by
  intro T hT X
  have htr : e.platform.stackTraces = false := (show e.platform.stackTraces = l.stackTraces by rw [X.admits.platform]).trans hl
  have Y := vx_rebase X (R' := { frames := R.frames, locals := R.locals, cells := 1, slots := 6 }) (Nat.le_refl _) (Nat.le_refl _) hRcells hRslots
  obtain ⟨s', hA⟩ : ∃ z, z = (T.setVm s.vm).setFrames (.invoking m args :: below) := ⟨_, rfl⟩
  rw [← hA] at Y
  have hvm : s'.vm = s.vm := by rw [hA]; rfl
  have hhp : s'.heap = H := by rw [hA]; exact hT
  have hW0 : s.WarmedH s'.vm := by rw [hvm]; exact State.WarmedH.refl s
  have hat' : ∀ w ∈ vx_atS own ic cls names, w.before args s' = true := fun w hw => vx_ot_at hW0 hvm.symm (hgood w (List.mem_cons_of_mem _ (List.mem_cons_of_mem _ hw))) (hat w hw)
  have hk' : (Cond.classLink own ik cls).before args s' = true := vx_ot_at hW0 hvm.symm (hgood _ List.mem_cons_self) hk
  have hini' : (Cond.initialized cls).before args s' = true := vx_ot_at hW0 hvm.symm (hgood _ (List.mem_cons_of_mem _ List.mem_cons_self)) hini
  have hU' : vx_Zq Bundle.tN "UNASSIGNED_STACK" Bundle.steD A s' s'.heap := by rw [hhp]; exact vx_Zq.moved hW0.alike (hU.kept hS.2.1)
  have hN' : vx_Zq Bundle.tN "SUPPRESSED_SENTINEL" Bundle.listD A s' s'.heap := by rw [hhp]; exact vx_Zq.moved hW0.alike (hN.kept hS.2.1)
  have h : ∀ w ∈ Bundle.ownAtoms own ic cls names, w.before args s' = true := vx_own hat' (vx_isRefq hU'.1) (vx_isRefq hN'.1) hU'.2.word hN'.2.word
  have hown' : s'.vm.findClass own = some m.cls := by rw [hvm]; exact hown
  have hins : (Cond.instantiable cls 6).before args s' = true := h _ (by simp [Bundle.ownAtoms])
  obtain ⟨vm₁, cX, kX, hfX, hkX, -, -, X₁, st1⟩ := Y.newCold hexec (own := own) (C := cls) (index := ik) (n := 6) hown' hk' hins hini'
    (g := F0 m pc ls rest) rfl (by rw [hb]; exact d0) (Nat.le_refl _) (Nat.le_refl _)
  generalize hT1 : (T.setVm vm₁).pushCell { cls := cX, slots := kX.instanceTypes.map defaultValue, vm := .none } = T1 at X₁ st1
  have hcat : (Value.ref T.heap.size).category = 1 := rfl
  have hcellA : T1.heap[T.heap.size]? = some (freshCell cX kX) := by rw [← hT1]; exact State.heap_pushCell_size _ _
  have d3' : decode c.code (pc + 3) = .ok (.dup, 1) := by rw [hb]; exact d3
  have d4' : decode c.code (pc + 4) = .ok (.ldc is, 2) := by rw [hb]; exact d4
  have hstr' : vk_R own is text sa s' := vk_R.warm hW0 hstr
  obtain ⟨U, hsteps, hrun, hend, hW, hsame, ce, hce, hO⟩ := X₁.ctorThrowS hexec htr (own := own) (cls := cls) (names := names) (ic := ic) hown' hcls hnames h (fun x hx => nomatch hx) hfX hkX hcellA (by rw [hhp, hT]; exact Nat.le_refl _) (msg := .ref sa) rfl
    (g := { method := m, pc := pc + 6, locals := ls, stack := .ref sa :: .ref T.heap.size :: .ref T.heap.size :: rest, locked := none }) rfl hsize rfl rfl (rest := rest) rfl
    (by rw [hb]; exact d6) (by rw [hb]; exact d9) hout hRframes (by simp only [List.map_cons, List.sum_cons, hcat]; omega) hlocks
  obtain ⟨f1, f2⟩ := vx_frame hsame
  rw [hhp] at f1 f2
  have hWs : s.WarmedH U.vm := State.WarmedH.trans hW0 hW
  have hcl : s.vm.findClass cls = some ce.cls := by
    have h9 := hO.cls
    rw [hvm] at h9
    exact h9
  have hall : s.sameButNew ({ U with vm := s.vm } : State) locs mc ms := by
    subst hA
    obtain ⟨e1, e2⟩ := hsame
    rw [State.setFrames_setFrames] at e1
    have h2 : (T.setVm s.vm).sameButNew ({ U with vm := s.vm } : State) [] (0 + 1) (0 + 6) := ⟨e1, e2⟩
    have h3 := X.same.trans h2
    rw [List.append_nil] at h3
    exact h3.mono hc hs
  refine ⟨U, ?_, .threw T.heap.size, hrun, hend, Or.inr ⟨T.heap.size, rfl, cls, ce, locs, hx U hWs.alike f1 (fun q hq => f2 q hq (fun z hz => nomatch hz)), hce, hO.vm, hcl, hWs, hall, hf⟩⟩
  refine st1 _ ?_
  show Steps p.tables e below (T1.setTop { method := m, pc := pc + 3, locals := ls, stack := .ref T.heap.size :: rest, locked := none }) _
  jvm_step X₁.here [X₁.here.top, hexec, d3', Value.category]
  exact X₁.ldcString hexec (own := own) (text := text) (index := is) (a := sa) hown' hstr'.1 hstr'.2
    (g := { method := m, pc := pc + 4, locals := ls, stack := .ref T.heap.size :: .ref T.heap.size :: rest, locked := none }) rfl d4' _ hsteps
/-- 'throw new E("text")', the text by a wide index -/
theorem vx_throwSW {cc : ByteArray} {pc : Nat} (hexec : p.tables.exec = Jvm.exec) (hb : c.code = cc) (hl : l.stackTraces = false) {own cls text : String} {names : List String} {ik is ic mc ms sa : Nat} {A : Nat → Prop}
    (hown : s.vm.findClass own = some m.cls) (hcls : Bundle.fit cls = true) (hnames : ∀ n ∈ names, Bundle.fit n = true)
    (hk : (Cond.classLink own ik cls).before args s = true) (hini : (Cond.initialized cls).before args s = true) (hstr : vk_R own is text sa s) (hat : ∀ w ∈ vx_atS own ic cls names, w.before args s = true)
    (hgood : ∀ w ∈ Cond.classLink own ik cls :: Cond.initialized cls :: vx_atS own ic cls names, vx_ot w = true)
    (hU : vx_Zq Bundle.tN "UNASSIGNED_STACK" Bundle.steD A s s.heap) (hN : vx_Zq Bundle.tN "SUPPRESSED_SENTINEL" Bundle.listD A s s.heap) (hS : va_S A s.heap H locs) (hsize : ls.size = c.maxLocals)
    (d0 : decode cc pc = .ok (.new ik, 3)) (d3 : decode cc (pc + 3) = .ok (.dup, 1)) (d4 : decode cc (pc + 4) = .ok (.ldc_w is, 3)) (d7 : decode cc (pc + 7) = .ok (.invokespecial ic, 3)) (d10 : decode cc (pc + 10) = .ok (.athrow, 1))
    (hout : ∀ x ∈ c.exceptionTable.toList, covers x (pc + 10) = false)
    (hRframes : names.length + 3 < R.frames) (hRlocals : (rest.map fun v => v.category).sum + (13 * (names.length + 1) + 43) ≤ R.locals) (hRcells : cells + 1 ≤ R.cells) (hRslots : slots + 6 ≤ R.slots) (hlocks : meth.locks = false)
    (hx : ∀ t : State, s.vm.Alike t.vm → H.size ≤ t.heap.size → (∀ q : Nat, q < H.size → t.heap[q]? = H[q]?) → XC cls s t)
    (hf : ∀ z ∈ locs, free z.base) (hc : cells + 1 ≤ mc) (hs : slots + 6 ≤ ms) :
    W p l e R s m args below meth c H locs cells slots (vx_MQ below Qc XC args s mc ms free) (F0 m pc ls rest) := by
  intro T hT X
  have htr : e.platform.stackTraces = false := (show e.platform.stackTraces = l.stackTraces by rw [X.admits.platform]).trans hl
  have Y := vx_rebase X (R' := { frames := R.frames, locals := R.locals, cells := 1, slots := 6 }) (Nat.le_refl _) (Nat.le_refl _) hRcells hRslots
  obtain ⟨s', hA⟩ : ∃ z, z = (T.setVm s.vm).setFrames (.invoking m args :: below) := ⟨_, rfl⟩
  rw [← hA] at Y
  have hvm : s'.vm = s.vm := by rw [hA]; rfl
  have hhp : s'.heap = H := by rw [hA]; exact hT
  have hW0 : s.WarmedH s'.vm := by rw [hvm]; exact State.WarmedH.refl s
  have hat' : ∀ w ∈ vx_atS own ic cls names, w.before args s' = true := fun w hw => vx_ot_at hW0 hvm.symm (hgood w (List.mem_cons_of_mem _ (List.mem_cons_of_mem _ hw))) (hat w hw)
  have hk' : (Cond.classLink own ik cls).before args s' = true := vx_ot_at hW0 hvm.symm (hgood _ List.mem_cons_self) hk
  have hini' : (Cond.initialized cls).before args s' = true := vx_ot_at hW0 hvm.symm (hgood _ (List.mem_cons_of_mem _ List.mem_cons_self)) hini
  have hU' : vx_Zq Bundle.tN "UNASSIGNED_STACK" Bundle.steD A s' s'.heap := by rw [hhp]; exact vx_Zq.moved hW0.alike (hU.kept hS.2.1)
  have hN' : vx_Zq Bundle.tN "SUPPRESSED_SENTINEL" Bundle.listD A s' s'.heap := by rw [hhp]; exact vx_Zq.moved hW0.alike (hN.kept hS.2.1)
  have h : ∀ w ∈ Bundle.ownAtoms own ic cls names, w.before args s' = true := vx_own hat' (vx_isRefq hU'.1) (vx_isRefq hN'.1) hU'.2.word hN'.2.word
  have hown' : s'.vm.findClass own = some m.cls := by rw [hvm]; exact hown
  have hins : (Cond.instantiable cls 6).before args s' = true := h _ (by simp [Bundle.ownAtoms])
  obtain ⟨vm₁, cX, kX, hfX, hkX, -, -, X₁, st1⟩ := Y.newCold hexec (own := own) (C := cls) (index := ik) (n := 6) hown' hk' hins hini'
    (g := F0 m pc ls rest) rfl (by rw [hb]; exact d0) (Nat.le_refl _) (Nat.le_refl _)
  generalize hT1 : (T.setVm vm₁).pushCell { cls := cX, slots := kX.instanceTypes.map defaultValue, vm := .none } = T1 at X₁ st1
  have hcat : (Value.ref T.heap.size).category = 1 := rfl
  have hcellA : T1.heap[T.heap.size]? = some (freshCell cX kX) := by rw [← hT1]; exact State.heap_pushCell_size _ _
  have d3' : decode c.code (pc + 3) = .ok (.dup, 1) := by rw [hb]; exact d3
  have d4' : decode c.code (pc + 4) = .ok (.ldc_w is, 3) := by rw [hb]; exact d4
  have hstr' : vk_R own is text sa s' := vk_R.warm hW0 hstr
  obtain ⟨U, hsteps, hrun, hend, hW, hsame, ce, hce, hO⟩ := X₁.ctorThrowS hexec htr (own := own) (cls := cls) (names := names) (ic := ic) hown' hcls hnames h (fun x hx => nomatch hx) hfX hkX hcellA (by rw [hhp, hT]; exact Nat.le_refl _) (msg := .ref sa) rfl
    (g := { method := m, pc := pc + 7, locals := ls, stack := .ref sa :: .ref T.heap.size :: .ref T.heap.size :: rest, locked := none }) rfl hsize rfl rfl (rest := rest) rfl
    (by rw [hb]; exact d7) (by rw [hb]; exact d10) hout hRframes (by simp only [List.map_cons, List.sum_cons, hcat]; omega) hlocks
  obtain ⟨f1, f2⟩ := vx_frame hsame
  rw [hhp] at f1 f2
  have hWs : s.WarmedH U.vm := State.WarmedH.trans hW0 hW
  have hcl : s.vm.findClass cls = some ce.cls := by
    have h9 := hO.cls
    rw [hvm] at h9
    exact h9
  have hall : s.sameButNew ({ U with vm := s.vm } : State) locs mc ms := by
    subst hA
    obtain ⟨e1, e2⟩ := hsame
    rw [State.setFrames_setFrames] at e1
    have h2 : (T.setVm s.vm).sameButNew ({ U with vm := s.vm } : State) [] (0 + 1) (0 + 6) := ⟨e1, e2⟩
    have h3 := X.same.trans h2
    rw [List.append_nil] at h3
    exact h3.mono hc hs
  refine ⟨U, ?_, .threw T.heap.size, hrun, hend, Or.inr ⟨T.heap.size, rfl, cls, ce, locs, hx U hWs.alike f1 (fun q hq => f2 q hq (fun z hz => nomatch hz)), hce, hO.vm, hcl, hWs, hall, hf⟩⟩
  refine st1 _ ?_
  show Steps p.tables e below (T1.setTop { method := m, pc := pc + 3, locals := ls, stack := .ref T.heap.size :: rest, locked := none }) _
  jvm_step X₁.here [X₁.here.top, hexec, d3', Value.category]
  exact X₁.ldcStringW hexec (own := own) (text := text) (index := is) (a := sa) hown' hstr'.1 hstr'.2
    (g := { method := m, pc := pc + 4, locals := ls, stack := .ref T.heap.size :: .ref T.heap.size :: rest, locked := none }) rfl d4' _ hsteps
end Ends
section Bodies
variable {l : Launch}
theorem vx_ofW {y : MethodName} {ws ws' : List Cond} {rm : Room} {Pc : Array Value → State → Prop} {Qc : Array Value → State → Outcome → State → Prop} {XC : String → State → State → Prop} {mc ms : Nat} {free : Addr → Prop} {cc : ByteArray} {maxL : Nat} {ret : Option FieldType}
    (hy : plainName y.cls = true) (hw : ws = Cond.code y cc maxL ret :: ws')
    (body : ∀ p e s m args below meth c s₁, BodyLoose p l y (headSpec ws rm) cc maxL ret e s m args below meth c s₁ → c.maxLocals = maxL → (∀ x ∈ c.exceptionTable.toList, False) → Pc args s →
      W p l e (headSpec ws rm).room s m args below meth c s.heap [] 0 0 (vx_MQ below Qc XC args s mc ms free) (entryFrame m args maxL)) : vx_Met l y ws rm Pc Qc XC mc ms free := by
  refine MetFree.of_bodyS (code := cc) (maxLocals := maxL) (ret := ret) hy ?_ ?_
  · intro args s m h hn
    obtain ⟨meth, c, h1, h2, h3, h4, h5, h6, -, -⟩ := Cond.code_spec hn (atoms_spec (ws := ws) h _ (by rw [hw]; exact List.mem_cons_self))
    exact ⟨meth, c, h1, h2, h3, h4, h5, h6⟩
  · intro p e s m args below meth c s₁ B hml hP _
    have hh0 : s₁.heap = s.heap := by rw [B.state]; rfl
    have ht : ∀ x ∈ c.exceptionTable.toList, False := by
      obtain ⟨meth9, c9, h1, h2, -, -, -, -, h7, -⟩ := Cond.code_spec B.named (atoms_spec (ws := ws) B.pre _ (by rw [hw]; exact List.mem_cons_self))
      cases Option.some.inj (h1.symm.trans B.method)
      cases Option.some.inj (h2.symm.trans (Stand.of_body B).code)
      intro x hx
      rw [Array.isEmpty_iff.mp h7] at hx
      cases hx
    obtain ⟨t, a1, o, b1, b2, b3⟩ := body p e s m args below meth c s₁ B hml ht hP s₁ hh0 (Stand.of_body B)
    exact ⟨t, o, a1, b1, b2, b3⟩
/-- the table of a body with handlers -/
theorem vx_table {p : Program} {x y : MethodName} {S : Spec} {cc bytes : ByteArray} {maxL maxL' : Nat} {ret ret' : Option FieldType} {e : Env} {s s₁ : State} {m : MethodId} {args : Array Value} {below : List Frame} {meth : Method} {c : Code} {hh : List (Nat × Nat × Nat × Nat)}
    (B : BodyLoose p l y S cc maxL ret e s m args below meth c s₁) (h : (Cond.codeWith y bytes maxL' ret' hh).before args s = true) : c.exceptionTable.toList = tableOf hh := by
  obtain ⟨m9, meth9, c9, hn9, h1, h2, -, -, h6, -⟩ := Cond.codeWith_spec h
  cases Option.some.inj (hn9.symm.trans B.named)
  cases Option.some.inj (h1.symm.trans B.method)
  cases Option.some.inj (h2.symm.trans (Stand.of_body B).code)
  rw [← h6, table_eq]
end Bodies
end VXA
/-! ===== END ===== -/
/-! ===== BEGIN a static call of a method with an exception table ===== -/
section VXS
variable {p : Program} {l : Launch} {e : Env} {R : Room} {s : State} {m : MethodId} {args : Array Value} {below : List Frame} {meth : Method} {c : Code} {T : State} {H : Heap} {locs : List Loc} {cells slots : Nat}
abbrev vx_CSW (R : Room) (s : State) (args : Array Value) (own : String) (index : Nat) (y : MethodName) (bytes : ByteArray) (maxL : Nat) (ret : Option FieldType) (hh : List (Nat × Nat × Nat × Nat)) (ws : List Cond) (rm : Room) (mc ms n : Nat) : Prop :=
  (rm.cells = mc ∧ rm.slots = ms ∧ rm.frames + 1 ≤ R.frames ∧ 8 + (maxL + 11) + rm.locals ≤ R.locals ∧ (∀ w ∈ ws, ∀ (a' : Array Value) (U : State), s.WarmedH U.vm → w.before a' U = true) ∧ Cond.codeWith y bytes maxL ret hh ∈ ws) ∧
  (Cond.codeWith y bytes maxL ret hh).before args s = true ∧ (Cond.initialized y.cls).before args s = true ∧ (y.cls ≠ "java/lang/invoke/MethodHandle" ∧ y.cls ≠ "java/lang/invoke/VarHandle") ∧
  (∀ sig, parseMethodDescriptor y.desc = some sig → n = sig.parameters.length) ∧ (Cond.methodLink own index y).before args s = true ∧ (Cond.static y).before args s = true
theorem vx_cwSW {own : String} {index maxL mc ms : Nat} {y : MethodName} {bytes : ByteArray} {ret : Option FieldType} {hh : List (Nat × Nat × Nat × Nat)} {Ts ws ws' : List Cond} {rm : Room} (n : Nat) (ht : ∀ w ∈ Ts, w.before args s = true) (hT : GoodIn Ts (va_wsS own index y ws)) (hw : ws = Cond.codeWith y bytes maxL ret hh :: ws') (hrc : rm.cells = mc) (hrs : rm.slots = ms)
    (hd : y.cls ≠ "java/lang/invoke/MethodHandle" ∧ y.cls ≠ "java/lang/invoke/VarHandle" ∧ (parseMethodDescriptor y.desc).map (fun d => d.parameters.length) = some n) (hR : rm.frames + 1 ≤ R.frames ∧ 8 + (maxL + 11) + rm.locals ≤ R.locals) :
    vx_CSW R s args own index y bytes maxL ret hh ws rm mc ms n := by
  have ok : ∀ w ∈ va_wsS own index y ws, w.before args s = true := fun w h => ht w (hT w h).1
  have hG : GoodIn Ts ws := fun w h => hT w (by unfold va_wsS; exact List.mem_append_right _ h)
  have hc : Cond.codeWith y bytes maxL ret hh ∈ ws := by rw [hw]; exact List.mem_cons_self
  refine ⟨⟨hrc, hrs, hR.1, hR.2, pay_in ht hG, hc⟩, ht _ (hG _ hc).1, ok _ (by simp [va_wsS]), ⟨hd.1, hd.2.1⟩, fun sig h => ?_, ok _ (by simp [va_wsS]), ok _ (by simp [va_wsS])⟩
  have h2 := hd.2.2
  rw [h] at h2
  exact (Option.some.inj h2).symm
theorem vx_callSW (X : Stand p l e R s m args below meth c T locs cells slots) (hexec : p.tables.exec = Jvm.exec) {own : String} {index : Nat} {y : MethodName} {bytes : ByteArray} {maxL : Nat} {ret : Option FieldType} {hh : List (Nat × Nat × Nat × Nat)}
    (hown : s.vm.findClass own = some m.cls) (hlink : (Cond.methodLink own index y).before args s = true) (hstat : (Cond.static y).before args s = true) (hinit : (Cond.initialized y.cls).before args s = true)
    (hcode : (Cond.codeWith y bytes maxL ret hh).before args s = true) (hy : y.cls ≠ "java/lang/invoke/MethodHandle" ∧ y.cls ≠ "java/lang/invoke/VarHandle")
    {W9 : Nat} {Pre : Pt → Array Value → Prop} {Post : Pt → Array Value → Option Value → Pt → Prop} (hK : Back l R p e below s args y 3 W9 Pre Post)
    {g : JFrame} (hg : g.method = m) (hsize : g.locals.size = c.maxLocals) {argsL rest : List Value} (hlen : ∀ sig, parseMethodDescriptor y.desc = some sig → argsL.length = sig.parameters.length)
    (hstack : g.stack = argsL.reverse ++ rest) (hW : 2 * g.monitorRoom + (rest.map fun v => v.category).sum ≤ W9) (hdg : decode c.code g.pc = .ok (.invokestatic index, 3))
    (hpre : ∀ vm₁, s.WarmedH vm₁ → Pre ⟨T.setVm vm₁, locs, cells, slots⟩ argsL.toArray) :
    ∃ (v : Option Value) (vm₁ : Vm) (B : Pt), s.WarmedH vm₁ ∧ Stand p l e R s m args below meth c B.U B.locs B.cells B.slots ∧ Post ⟨T.setVm vm₁, locs, cells, slots⟩ argsL.toArray v B ∧
      ∀ target, Steps p.tables e below (B.U.setTop { g with pc := g.pc + 3, stack := v.toList ++ rest }) target → Steps p.tables e below (T.setTop g) target := by
  obtain ⟨mk, methM, cM, hnamed, hmethM, -, -, -, -, -, -, hsigM⟩ := Cond.codeWith_spec hcode
  have hstatic : methM.isStatic = true := Cond.static_spec hnamed hmethM hstat
  obtain ⟨kP, hkP, -⟩ := className_of_methodNamed hnamed
  have hinitP : kP.init = .initialized := Cond.initialized_spec (findClass_of_methodNamed hnamed) hkP hinit
  obtain ⟨vm₁, X₁, hstep₁⟩ := X.invokestatic hexec hown hlink hnamed hmethM hstatic hkP hinitP hy (g := g) hg (argsL := argsL) (rest := rest) (hlen _ hsigM) hstack hdg
  obtain ⟨v, B, X', hpost, hsteps⟩ := hK m meth c ⟨T.setVm vm₁, locs, cells, slots⟩ { g with stack := rest } (.invokestatic index) mk argsL.toArray X₁ hg hsize hdg hW (X₁.named hnamed) (hpre vm₁ X₁.warmed)
  exact ⟨v, vm₁, B, X₁.warmed, X', hpost, fun target h => hstep₁ _ fun acts => by rw [doInvoke_state]; exact hsteps.trans h⟩
theorem vx_runSW {y : MethodName} {bytes cc : ByteArray} {maxL nL mc ms n index : Nat} {ret : Option FieldType} {hh : List (Nat × Nat × Nat × Nat)} {ws : List Cond} {rm : Room} {Pc : Array Value → State → Prop} {Qc : Array Value → State → Outcome → State → Prop} {free : Addr → Prop} {Ts : List Cond} {own : String} {As rest : List Value} {g : JFrame}
    (S : CallFix p m c cc nL s args Ts own) (hM : Met l y ws rm Pc Qc mc ms free) (cw : vx_CSW R s args own index y bytes maxL ret hh ws rm mc ms n) (hp : PreS s H Pc As)
    (hg : g.method = m) (hn : As.length = n) (hsize : g.locals.size = nL) (hstack : g.stack = As.reverse ++ rest) (hW : 2 * g.monitorRoom + (rest.map fun v => v.category).sum ≤ 8) (hdg : decode cc g.pc = .ok (.invokestatic index, 3)) (hf : cells + mc ≤ R.cells ∧ slots + ms ≤ R.slots) :
    va_Run p l e R s m args below meth c H locs cells slots mc ms g rest (Qc As.toArray) (free) := by
  obtain ⟨⟨hrc, hrs, hfr, hlo, hws, hcw⟩, hcode, hini, hy, hlen, hl, hstt⟩ := cw
  have hK : Back l R p e below s args y 3 8 (PreOf R mc ms Pc) (PostOf Qc mc ms free) := va_backW (hh := hh) (bytes := bytes) (maxL := maxL) (ret := ret) hM hp.1 hrc hrs hfr hlo hws hcw (fun a' U hW => word_at hW (Or.inl (by first | rfl | simp [Cond.onTables, Cond.keeps, Cond.steady])) hini)
  obtain ⟨hx, hb, hml, ho, -⟩ := S
  intro T hT X
  obtain ⟨v, vm₁, ⟨U', l2, c2, s2⟩, hW₁, X', ⟨g', mk, t, L, e1, e2, hq, h1, hL, h2, h3⟩, st⟩ := vx_callSW X hx (hh := hh) (bytes := bytes) (maxL := maxL) (ret := ret) ho hl hstt hini hcode hy hK hg (hsize.trans hml.symm) (argsL := As) (rest := rest) (fun sig h => hn.trans (hlen sig h)) hstack hW (by rw [hb]; exact hdg)
    (fun vm₁ hW₁ => ⟨hf.1, hf.2, hp.2 (T.setVm vm₁) hT hW₁⟩)
  dsimp only [Pt.U, Pt.locs, Pt.cells, Pt.slots] at X' e1 e2 h1 h2 h3 st
  subst h1; subst h2; subst h3
  exact ⟨v, (T.setVm vm₁).calling g' mk As.toArray, t, U', L, hT, X', hL, e1, e2, hq, st⟩
/-- a thing of a world lies in the heap -/
theorem vx_lt {D : va_G} {cl : List vw_C} {ws : va_W} {H1 : Heap} (h : va_P D cl ws H1) {k : Nat} {q : Nat × va_E} (hk : ws[k]? = some q) : q.1 < H1.size := (h k q hk).lt
end VXS
/-! ===== END ===== -/
/-! ===== BEGIN methods with a table of their own: called by a name, returning or throwing ===== -/
section VXH
/-! vx_backW, vx_callVX, vx_callSX, vx_callVW, vx_runVW, vx_runVX, vx_runSX, vx_ofWH follow the same proofs as their sisters above (Free/Laws.lean, Shelf42/LK1.lean); vx_outP calls Shelf42/NT130.lean (outThrough). -/
section
variable {l : Launch} {R : Room} {p : Program} {e : Env} {below : List Frame} {s : State} {sargs : Array Value} {y : MethodName} {len W9 : Nat}
theorem vx_backW {ws : List Cond} {rm : Room} {Pc : Array Value → State → Prop} {Qc : Array Value → State → Outcome → State → Prop} {XC : String → State → State → Prop} {mc ms : Nat} {free : Addr → Prop} {bytes : ByteArray} {maxL : Nat} {ret : Option FieldType} {hh : List (Nat × Nat × Nat × Nat)}
    (hM : vx_Met l y ws rm Pc Qc XC mc ms free) (hblind : FrameBlind Pc) (hrc : rm.cells = mc) (hrs : rm.slots = ms)
    (hframes : rm.frames + 1 ≤ R.frames) (hlocals : W9 + (maxL + 11) + rm.locals ≤ R.locals)
    (hws : ∀ w ∈ ws, ∀ a' U, s.WarmedH U.vm → w.before a' U = true) (hcode : Cond.codeWith y bytes maxL ret hh ∈ ws) (hinit : ∀ a' U, s.WarmedH U.vm → (Cond.initialized y.cls).before a' U = true) :
    vx_Back l R p e below s sargs y len W9 (PreOf R mc ms Pc) (PostOf Qc mc ms free) (vx_Post XC mc ms free) := by
  intro m meth c A g ig mk a X hg hsize hdg hW hn hp
  have h1 : (headSpec ws rm).pre.before a A.U = true := atoms_intro fun w hw => hws w hw _ _ X.warmed
  have h2 : (Cond.codeWith y bytes maxL ret hh).before a A.U = true := hws _ hcode _ _ X.warmed
  have h3 : (Cond.initialized y.cls).before a A.U = true := hinit _ _ X.warmed
  have h4 : A.cells + (headSpec ws rm).room.cells ≤ R.cells := by rw [show (headSpec ws rm).room.cells = mc from hrc]; exact hp.1
  have h5 : A.slots + (headSpec ws rm).room.slots ≤ R.slots := by rw [show (headSpec ws rm).room.slots = ms from hrs]; exact hp.2.1
  have hPc : Pc a (A.U.calling g mk a) := hblind _ _ _ _ hp.2.2
  obtain ⟨U, Ls, c0, s0⟩ := A
  dsimp only [Pt.U, Pt.locs, Pt.cells, Pt.slots] at h1 h2 h3 h4 h5 X hn hPc ⊢
  obtain ⟨m9, methY, cY, hn9, hmY, hcY, -, hlY, -⟩ := Cond.codeWith_spec h2
  cases Option.some.inj (hn9.symm.trans hn)
  obtain ⟨kY, hkY, -⟩ := className_of_methodNamed hn
  have hinitY : kY.init = .initialized := Cond.initialized_spec (findClass_of_methodNamed hn) hkY h3
  have h : At U g.method c below := by rw [hg]; exact X.here
  have hlocals9 : W9 + (maxL + 11) + (headSpec ws rm).room.locals ≤ R.locals := hlocals
  have happ : (headSpec ws rm).appliesLoose y e.platform (U.calling g mk a) = true :=
    Spec.appliesLoose_calling (g := g) h hdg hn hkY hinitY
      (X.room_calling (g := g) (R' := (headSpec ws rm).room) hsize hmY hcY hframes (by rw [hlY]; omega) h4 h5) h1
  obtain ⟨mid, hmid⟩ := h.above
  have hfr : (U.setTop g).frames = (.java g :: mid) ++ below := by rw [State.frames_setTop' g h.top, hmid]; rfl
  obtain ⟨o, s₂, hsteps, -, hend, hq⟩ := Steps.callFree hM p X.admits X.cas X.clock (acts := []) hfr happ hPc trivial
  have hq' : vx_Q Qc XC mc ms free a (U.calling g mk a) o s₂ := hq
  rw [State.frames_setTop' g h.top] at hend
  obtain ⟨g₀, hg0⟩ := Option.isSome_iff_exists.mp h.top
  obtain ⟨r, hr⟩ := State.topJava?_eq_some.mp hg0
  have hr' : (({ U with heap := s₂.heap, slotsUsed := s₂.slotsUsed } : State).setVm s₂.vm).frames = .java g₀ :: r := hr
  rcases hq' with ⟨hqc, L, hfe, hL⟩ | ⟨q, rfl, E, ce, L, hx, hce, hcv, hcl, hW₂, hsm, hL⟩
  · obtain ⟨⟨v, rfl⟩, hW₂, e2, q2, q3, q4, q5, q6⟩ := id hfe
    have e3 : s₂ = ({ (U.calling g mk a).setFrames s₂.frames with heap := s₂.heap, slotsUsed := s₂.slotsUsed } : State).setVm s₂.vm := by
      have : s₂ = ({ s₂ with vm := (U.calling g mk a).vm } : State).setVm s₂.vm := rfl
      rw [e2] at this
      exact this
    obtain ⟨c₂, i₂, len₂, hc₂, hd₂, hf₂⟩ := hend
    have hW' : U.WarmedH s₂.vm := hW₂
    have hcc : c₂ = c := by
      have h1 : s₂.code? g.method = U.code? g.method := by
        rw [State.code?_eq, State.code?_eq, hW'.alike.method?]
      exact Option.some.inj (hc₂.symm.trans (h1.trans h.code))
    subst hcc
    have hlen : len₂ = len := by rw [hdg] at hd₂; cases hd₂; rfl
    subst hlen
    have hs₂ : s₂ = (({ U with heap := s₂.heap, slotsUsed := s₂.slotsUsed } : State).setVm s₂.vm).setTop { g with pc := g.pc + len₂, stack := v.toList ++ g.stack } := by
      refine e3.trans ?_
      rw [hf₂, State.calling_eq h.top, State.setFrames_setFrames, State.setTop_of_frames _ hr', hr]
      rfl
    have hsame : U.sameButNew ({ U with heap := s₂.heap, slotsUsed := s₂.slotsUsed } : State) L mc ms := by
      refine ⟨?_, q2, q3, q4, q5, q6⟩
      obtain ⟨t, ht, -⟩ := State.frames_cons hr
      show ({ U with heap := s₂.heap, slotsUsed := s₂.slotsUsed } : State) = { U.setFrames U.frames with heap := s₂.heap, slotsUsed := s₂.slotsUsed }
      rw [State.setFrames_self ht]
    subst hg
    refine Or.inl ⟨v, ⟨(({ U with heap := s₂.heap, slotsUsed := s₂.slotsUsed } : State).setVm s₂.vm), Ls ++ L, c0 + mc, s0 + ms⟩,
      ⟨X.admits, X.cas, X.clock, X.frames, X.room, X.hears, X.method, X.code, (X.here.setHeapUsed s₂.heap s₂.slotsUsed).setVm hW'.alike, X.tail, State.WarmedH.trans X.warmed hW', X.limits, X.bytes, X.same.trans (hsame.setVm s.vm)⟩,
      ⟨g, mk, s₂, L, rfl, rfl, hqc, rfl, hL, rfl, rfl⟩, ?_⟩
    show Steps p.tables e below _ ((({ U with heap := s₂.heap, slotsUsed := s₂.slotsUsed } : State).setVm s₂.vm).setTop { g with pc := g.pc + len₂, stack := v.toList ++ g.stack })
    rw [← hs₂]
    exact hsteps
  · obtain ⟨e2, q2, q3, q4, q5, q6⟩ := id hsm
    have e3 : s₂ = ({ (U.calling g mk a).setFrames s₂.frames with heap := s₂.heap, slotsUsed := s₂.slotsUsed } : State).setVm s₂.vm := by
      have : s₂ = ({ s₂ with vm := (U.calling g mk a).vm } : State).setVm s₂.vm := rfl
      rw [e2] at this
      exact this
    have hf₂ : s₂.frames = .throwing q :: .java g :: U.frames.tail := hend
    have hW' : U.WarmedH s₂.vm := hW₂
    have hs₂ : s₂ = ((({ U with heap := s₂.heap, slotsUsed := s₂.slotsUsed } : State).setVm s₂.vm).setTop g).pushFrame (.throwing q) := by
      refine e3.trans ?_
      rw [hf₂, State.calling_eq h.top, State.setFrames_setFrames, State.pushFrame, State.frames_setTop _ hr', State.setTop_of_frames _ hr', State.setFrames_setFrames, hr]
      rfl
    have hsame : U.sameButNew ({ U with heap := s₂.heap, slotsUsed := s₂.slotsUsed } : State) L mc ms := by
      refine ⟨?_, q2, q3, q4, q5, q6⟩
      obtain ⟨t, ht, -⟩ := State.frames_cons hr
      show ({ U with heap := s₂.heap, slotsUsed := s₂.slotsUsed } : State) = { U.setFrames U.frames with heap := s₂.heap, slotsUsed := s₂.slotsUsed }
      rw [State.setFrames_self ht]
    subst hg
    refine Or.inr ⟨q, ⟨(({ U with heap := s₂.heap, slotsUsed := s₂.slotsUsed } : State).setVm s₂.vm), Ls ++ L, c0 + mc, s0 + ms⟩,
      ⟨X.admits, X.cas, X.clock, X.frames, X.room, X.hears, X.method, X.code, (X.here.setHeapUsed s₂.heap s₂.slotsUsed).setVm hW'.alike, X.tail, State.WarmedH.trans X.warmed hW', X.limits, X.bytes, X.same.trans (hsame.setVm s.vm)⟩,
      ⟨g, mk, s₂, L, E, ce, rfl, rfl, hx, hce, hcv, hcl, rfl, hL, rfl, rfl⟩, ?_⟩
    show Steps p.tables e below _ (((({ U with heap := s₂.heap, slotsUsed := s₂.slotsUsed } : State).setVm s₂.vm).setTop g).pushFrame (.throwing q))
    rw [← hs₂]
    exact hsteps
end
variable {p : Program} {l : Launch} {e : Env} {R : Room} {s : State} {m : MethodId} {args : Array Value} {below : List Frame} {meth : Method} {c : Code} {T : State} {H : Heap} {locs : List Loc} {cells slots : Nat}
theorem vx_callVX (X : Stand p l e R s m args below meth c T locs cells slots) (hexec : p.tables.exec = Jvm.exec) {own C : String} {index : Nat} {y : MethodName} {bytes : ByteArray} {maxL : Nat} {ret : Option FieldType} {hh : List (Nat × Nat × Nat × Nat)}
    (hown : s.vm.findClass own = some m.cls) (hlink : (Cond.methodLink own index y).before args s = true) (hinst : (Cond.instanceMethod y).before args s = true) (hsel : (Cond.selects C y y).before args s = true)
    (hcode : (Cond.codeWith y bytes maxL ret hh).before args s = true) (hy : y.cls ≠ "java/lang/invoke/MethodHandle" ∧ y.cls ≠ "java/lang/invoke/VarHandle")
    {W9 : Nat} {Pre : Pt → Array Value → Prop} {Post : Pt → Array Value → Option Value → Pt → Prop} {PostX : Pt → Array Value → Addr → Pt → Prop} (hK : vx_Back l R p e below s args y 3 W9 Pre Post PostX)
    {b : Addr} {cellB : Cell} (hcell : T.heap[b]? = some cellB) (hobj : cellB.vm.isStatics = false) (hcls : s.vm.findClass C = some cellB.cls)
    {g : JFrame} (hg : g.method = m) (hsize : g.locals.size = c.maxLocals) {argsL rest : List Value} (hlen : ∀ sig, parseMethodDescriptor y.desc = some sig → argsL.length = sig.parameters.length)
    (hstack : g.stack = argsL.reverse ++ .ref b :: rest) (hW : 2 * g.monitorRoom + (rest.map fun v => v.category).sum ≤ W9) (hdg : decode c.code g.pc = .ok (.invokevirtual index, 3))
    (hpre : ∀ vm₁, s.WarmedH vm₁ → Pre ⟨T.setVm vm₁, locs, cells, slots⟩ (Value.ref b :: argsL).toArray) :
    (∃ (v : Option Value) (vm₁ : Vm) (B : Pt), s.WarmedH vm₁ ∧ Stand p l e R s m args below meth c B.U B.locs B.cells B.slots ∧ Post ⟨T.setVm vm₁, locs, cells, slots⟩ (Value.ref b :: argsL).toArray v B ∧
      ∀ target, Steps p.tables e below (B.U.setTop { g with pc := g.pc + 3, stack := v.toList ++ rest }) target → Steps p.tables e below (T.setTop g) target) ∨
    (∃ (q : Addr) (vm₁ : Vm) (B : Pt), s.WarmedH vm₁ ∧ Stand p l e R s m args below meth c B.U B.locs B.cells B.slots ∧ PostX ⟨T.setVm vm₁, locs, cells, slots⟩ (Value.ref b :: argsL).toArray q B ∧
      Steps p.tables e below (T.setTop g) ((B.U.setTop { g with stack := rest }).pushFrame (.throwing q))) := by
  obtain ⟨mk, methM, hnamed, hmethM, hstM, habM⟩ := Cond.instanceMethod_spec hinst
  obtain ⟨m8, methM', cM, hn8, hmethM', -, -, -, -, -, -, hsigM⟩ := Cond.codeWith_spec hcode
  cases Option.some.inj (hn8.symm.trans hnamed)
  cases hmethM.symm.trans hmethM'
  obtain ⟨c2, r2, m2, q1, q2, q3, q4, kP, hkP, hkPi⟩ := Cond.selects_spec hsel
  cases hcls.symm.trans q1
  cases (State.methodFound?_of_named hnamed hy).symm.trans q2
  cases hnamed.symm.trans q3
  have hselP : selectMethod e.platform s.vm cellB.cls mk = .method mk := by rw [Launch.admits_selectMethod X.admits]; exact q4
  obtain ⟨vm₁, X₁, hstep₁⟩ := X.invokevirtual hexec hown hlink hnamed hmethM hstM hkP hkPi hy (a := b) (cell := cellB) hcell
    (fun z h => by rw [h] at hobj; cases hobj) hselP hmethM habM hkP hkPi (g := g) hg (argsL := argsL) (rest := rest) (hlen _ hsigM) hstack hdg
  rcases hK m meth c ⟨T.setVm vm₁, locs, cells, slots⟩ { g with stack := rest } (.invokevirtual index) mk (Value.ref b :: argsL).toArray X₁ hg hsize hdg hW (X₁.named hnamed) (hpre vm₁ X₁.warmed) with ⟨v, B, X', hpost, hsteps⟩ | ⟨q, B, X', hpost, hsteps⟩
  · exact Or.inl ⟨v, vm₁, B, X₁.warmed, X', hpost, fun target h => hstep₁ _ fun acts => by rw [doInvoke_state]; exact hsteps.trans h⟩
  · exact Or.inr ⟨q, vm₁, B, X₁.warmed, X', hpost, hstep₁ _ fun acts => by rw [doInvoke_state]; exact hsteps⟩
theorem vx_callSX (X : Stand p l e R s m args below meth c T locs cells slots) (hexec : p.tables.exec = Jvm.exec) {own : String} {index : Nat} {y : MethodName} {bytes : ByteArray} {maxL : Nat} {ret : Option FieldType} {hh : List (Nat × Nat × Nat × Nat)}
    (hown : s.vm.findClass own = some m.cls) (hlink : (Cond.methodLink own index y).before args s = true) (hstat : (Cond.static y).before args s = true) (hinit : (Cond.initialized y.cls).before args s = true)
    (hcode : (Cond.codeWith y bytes maxL ret hh).before args s = true) (hy : y.cls ≠ "java/lang/invoke/MethodHandle" ∧ y.cls ≠ "java/lang/invoke/VarHandle")
    {W9 : Nat} {Pre : Pt → Array Value → Prop} {Post : Pt → Array Value → Option Value → Pt → Prop} {PostX : Pt → Array Value → Addr → Pt → Prop} (hK : vx_Back l R p e below s args y 3 W9 Pre Post PostX)
    {g : JFrame} (hg : g.method = m) (hsize : g.locals.size = c.maxLocals) {argsL rest : List Value} (hlen : ∀ sig, parseMethodDescriptor y.desc = some sig → argsL.length = sig.parameters.length)
    (hstack : g.stack = argsL.reverse ++ rest) (hW : 2 * g.monitorRoom + (rest.map fun v => v.category).sum ≤ W9) (hdg : decode c.code g.pc = .ok (.invokestatic index, 3))
    (hpre : ∀ vm₁, s.WarmedH vm₁ → Pre ⟨T.setVm vm₁, locs, cells, slots⟩ argsL.toArray) :
    (∃ (v : Option Value) (vm₁ : Vm) (B : Pt), s.WarmedH vm₁ ∧ Stand p l e R s m args below meth c B.U B.locs B.cells B.slots ∧ Post ⟨T.setVm vm₁, locs, cells, slots⟩ argsL.toArray v B ∧
      ∀ target, Steps p.tables e below (B.U.setTop { g with pc := g.pc + 3, stack := v.toList ++ rest }) target → Steps p.tables e below (T.setTop g) target) ∨
    (∃ (q : Addr) (vm₁ : Vm) (B : Pt), s.WarmedH vm₁ ∧ Stand p l e R s m args below meth c B.U B.locs B.cells B.slots ∧ PostX ⟨T.setVm vm₁, locs, cells, slots⟩ argsL.toArray q B ∧
      Steps p.tables e below (T.setTop g) ((B.U.setTop { g with stack := rest }).pushFrame (.throwing q))) := by
  obtain ⟨mk, methM, cM, hnamed, hmethM, -, -, -, -, -, -, hsigM⟩ := Cond.codeWith_spec hcode
  have hstatic : methM.isStatic = true := Cond.static_spec hnamed hmethM hstat
  obtain ⟨kP, hkP, -⟩ := className_of_methodNamed hnamed
  have hinitP : kP.init = .initialized := Cond.initialized_spec (findClass_of_methodNamed hnamed) hkP hinit
  obtain ⟨vm₁, X₁, hstep₁⟩ := X.invokestatic hexec hown hlink hnamed hmethM hstatic hkP hinitP hy (g := g) hg (argsL := argsL) (rest := rest) (hlen _ hsigM) hstack hdg
  rcases hK m meth c ⟨T.setVm vm₁, locs, cells, slots⟩ { g with stack := rest } (.invokestatic index) mk argsL.toArray X₁ hg hsize hdg hW (X₁.named hnamed) (hpre vm₁ X₁.warmed) with ⟨v, B, X', hpost, hsteps⟩ | ⟨q, B, X', hpost, hsteps⟩
  · exact Or.inl ⟨v, vm₁, B, X₁.warmed, X', hpost, fun target h => hstep₁ _ fun acts => by rw [doInvoke_state]; exact hsteps.trans h⟩
  · exact Or.inr ⟨q, vm₁, B, X₁.warmed, X', hpost, hstep₁ _ fun acts => by rw [doInvoke_state]; exact hsteps⟩
theorem vx_callVW (X : Stand p l e R s m args below meth c T locs cells slots) (hexec : p.tables.exec = Jvm.exec) {own C : String} {index : Nat} {y : MethodName} {bytes : ByteArray} {maxL : Nat} {ret : Option FieldType} {hh : List (Nat × Nat × Nat × Nat)}
    (hown : s.vm.findClass own = some m.cls) (hlink : (Cond.methodLink own index y).before args s = true) (hinst : (Cond.instanceMethod y).before args s = true) (hsel : (Cond.selects C y y).before args s = true)
    (hcode : (Cond.codeWith y bytes maxL ret hh).before args s = true) (hy : y.cls ≠ "java/lang/invoke/MethodHandle" ∧ y.cls ≠ "java/lang/invoke/VarHandle")
    {W9 : Nat} {Pre : Pt → Array Value → Prop} {Post : Pt → Array Value → Option Value → Pt → Prop} (hK : Back l R p e below s args y 3 W9 Pre Post)
    {b : Addr} {cellB : Cell} (hcell : T.heap[b]? = some cellB) (hobj : cellB.vm.isStatics = false) (hcls : s.vm.findClass C = some cellB.cls)
    {g : JFrame} (hg : g.method = m) (hsize : g.locals.size = c.maxLocals) {argsL rest : List Value} (hlen : ∀ sig, parseMethodDescriptor y.desc = some sig → argsL.length = sig.parameters.length)
    (hstack : g.stack = argsL.reverse ++ .ref b :: rest) (hW : 2 * g.monitorRoom + (rest.map fun v => v.category).sum ≤ W9) (hdg : decode c.code g.pc = .ok (.invokevirtual index, 3))
    (hpre : ∀ vm₁, s.WarmedH vm₁ → Pre ⟨T.setVm vm₁, locs, cells, slots⟩ (Value.ref b :: argsL).toArray) :
    ∃ (v : Option Value) (vm₁ : Vm) (B : Pt), s.WarmedH vm₁ ∧ Stand p l e R s m args below meth c B.U B.locs B.cells B.slots ∧ Post ⟨T.setVm vm₁, locs, cells, slots⟩ (Value.ref b :: argsL).toArray v B ∧
      ∀ target, Steps p.tables e below (B.U.setTop { g with pc := g.pc + 3, stack := v.toList ++ rest }) target → Steps p.tables e below (T.setTop g) target := by
  obtain ⟨mk, methM, hnamed, hmethM, hstM, habM⟩ := Cond.instanceMethod_spec hinst
  obtain ⟨m8, methM', cM, hn8, hmethM', -, -, -, -, -, -, hsigM⟩ := Cond.codeWith_spec hcode
  cases Option.some.inj (hn8.symm.trans hnamed)
  cases hmethM.symm.trans hmethM'
  obtain ⟨c2, r2, m2, q1, q2, q3, q4, kP, hkP, hkPi⟩ := Cond.selects_spec hsel
  cases hcls.symm.trans q1
  cases (State.methodFound?_of_named hnamed hy).symm.trans q2
  cases hnamed.symm.trans q3
  have hselP : selectMethod e.platform s.vm cellB.cls mk = .method mk := by rw [Launch.admits_selectMethod X.admits]; exact q4
  obtain ⟨vm₁, X₁, hstep₁⟩ := X.invokevirtual hexec hown hlink hnamed hmethM hstM hkP hkPi hy (a := b) (cell := cellB) hcell
    (fun z h => by rw [h] at hobj; cases hobj) hselP hmethM habM hkP hkPi (g := g) hg (argsL := argsL) (rest := rest) (hlen _ hsigM) hstack hdg
  obtain ⟨v, B, X', hpost, hsteps⟩ := hK m meth c ⟨T.setVm vm₁, locs, cells, slots⟩ { g with stack := rest } (.invokevirtual index) mk (Value.ref b :: argsL).toArray X₁ hg hsize hdg hW (X₁.named hnamed) (hpre vm₁ X₁.warmed)
  exact ⟨v, vm₁, B, X₁.warmed, X', hpost, fun target h => hstep₁ _ fun acts => by rw [doInvoke_state]; exact hsteps.trans h⟩
abbrev vx_CVW (R : Room) (s : State) (args : Array Value) (own C : String) (index : Nat) (y : MethodName) (bytes : ByteArray) (maxL : Nat) (ret : Option FieldType) (hh : List (Nat × Nat × Nat × Nat)) (ws : List Cond) (rm : Room) (mc ms n : Nat) : Prop :=
  (rm.cells = mc ∧ rm.slots = ms ∧ rm.frames + 1 ≤ R.frames ∧ 8 + (maxL + 11) + rm.locals ≤ R.locals ∧ (∀ w ∈ ws, ∀ (a' : Array Value) (U : State), s.WarmedH U.vm → w.before a' U = true) ∧ Cond.codeWith y bytes maxL ret hh ∈ ws) ∧
  (Cond.codeWith y bytes maxL ret hh).before args s = true ∧ (Cond.initialized y.cls).before args s = true ∧ (y.cls ≠ "java/lang/invoke/MethodHandle" ∧ y.cls ≠ "java/lang/invoke/VarHandle") ∧
  (∀ sig, parseMethodDescriptor y.desc = some sig → n = sig.parameters.length) ∧ (Cond.methodLink own index y).before args s = true ∧ (Cond.instanceMethod y).before args s = true ∧ (Cond.selects C y y).before args s = true
theorem vx_cwVW {own C : String} {index maxL mc ms : Nat} {y : MethodName} {bytes : ByteArray} {ret : Option FieldType} {hh : List (Nat × Nat × Nat × Nat)} {Ts ws ws' : List Cond} {rm : Room} (n : Nat) (ht : ∀ w ∈ Ts, w.before args s = true) (hT : GoodIn Ts (wsV own index C y ws)) (hw : ws = Cond.codeWith y bytes maxL ret hh :: ws') (hrc : rm.cells = mc) (hrs : rm.slots = ms)
    (hd : y.cls = C ∧ y.cls ≠ "java/lang/invoke/MethodHandle" ∧ y.cls ≠ "java/lang/invoke/VarHandle" ∧ (parseMethodDescriptor y.desc).map (fun d => d.parameters.length) = some n) (hR : rm.frames + 1 ≤ R.frames ∧ 8 + (maxL + 11) + rm.locals ≤ R.locals) :
    vx_CVW R s args own C index y bytes maxL ret hh ws rm mc ms n := by
  obtain ⟨hC, hd⟩ := hd
  subst hC
  have ok : ∀ w ∈ wsV own index y.cls y ws, w.before args s = true := fun w h => ht w (hT w h).1
  have hG : GoodIn Ts ws := fun w h => hT w (by unfold wsV; exact List.mem_append_right _ h)
  have hc : Cond.codeWith y bytes maxL ret hh ∈ ws := by rw [hw]; exact List.mem_cons_self
  refine ⟨⟨hrc, hrs, hR.1, hR.2, pay_in ht hG, hc⟩, ht _ (hG _ hc).1, ok _ (by simp [wsV]), ⟨hd.1, hd.2.1⟩, fun sig h => ?_, ok _ (by simp [wsV]), ok _ (by simp [wsV]), ok _ (by simp [wsV])⟩
  have h2 := hd.2.2
  rw [h] at h2
  exact (Option.some.inj h2).symm
theorem vx_runVW {y : MethodName} {bytes cc : ByteArray} {maxL nL mc ms n index : Nat} {ret : Option FieldType} {hh : List (Nat × Nat × Nat × Nat)} {ws : List Cond} {rm : Room} {Pc : Array Value → State → Prop} {Qc : Array Value → State → Outcome → State → Prop} {free : Addr → Prop} {Ts : List Cond} {own C : String} {b : Addr} {As rest : List Value} {g : JFrame}
    (S : CallFix p m c cc nL s args Ts own) (hM : Met l y ws rm Pc Qc mc ms free) (cw : vx_CVW R s args own C index y bytes maxL ret hh ws rm mc ms n) (hp : PreV s H C b Pc As)
    (hg : g.method = m) (hn : As.length = n) (hsize : g.locals.size = nL) (hstack : g.stack = As.reverse ++ .ref b :: rest) (hW : 2 * g.monitorRoom + (rest.map fun v => v.category).sum ≤ 8) (hdg : decode cc g.pc = .ok (.invokevirtual index, 3)) (hf : cells + mc ≤ R.cells ∧ slots + ms ≤ R.slots) :
    va_Run p l e R s m args below meth c H locs cells slots mc ms g rest (Qc (Value.ref b :: As).toArray) free := by
  obtain ⟨⟨hrc, hrs, hfr, hlo, hws, hcw⟩, hcode, hini, hy, hlen, hl, hin, hse⟩ := cw
  have hK : Back l R p e below s args y 3 8 (PreOf R mc ms Pc) (PostOf Qc mc ms free) := va_backW (hh := hh) (bytes := bytes) (maxL := maxL) (ret := ret) hM hp.1 hrc hrs hfr hlo hws hcw (fun a' U hW => word_at hW (Or.inl (by first | rfl | simp [Cond.onTables, Cond.keeps, Cond.steady])) hini)
  obtain ⟨hx, hb, hml, ho, -⟩ := S
  obtain ⟨-, ⟨cellB, hcB, hoB, hclB⟩, hPc⟩ := hp
  intro T hT X
  obtain ⟨v, vm₁, ⟨U', l2, c2, s2⟩, hW₁, X', ⟨g', mk, t, L, e1, e2, hq, h1, hL, h2, h3⟩, st⟩ := vx_callVW X hx (C := C) (hh := hh) (bytes := bytes) (maxL := maxL) (ret := ret) ho hl hin hse hcode hy hK (by rw [hT]; exact hcB) hoB hclB hg (hsize.trans hml.symm) (argsL := As) (rest := rest) (fun sig h => hn.trans (hlen sig h)) hstack hW (by rw [hb]; exact hdg)
    (fun vm₁ hW₁ => ⟨hf.1, hf.2, hPc (T.setVm vm₁) hT hW₁⟩)
  dsimp only [Pt.U, Pt.locs, Pt.cells, Pt.slots] at X' e1 e2 h1 h2 h3 st
  subst h1; subst h2; subst h3
  exact ⟨v, (T.setVm vm₁).calling g' mk (Value.ref b :: As).toArray, t, U', L, hT, X', hL, e1, e2, hq, st⟩
section
variable {y : MethodName} {bytes cc : ByteArray} {maxL nL mc ms n index : Nat} {ret : Option FieldType} {ws : List Cond} {rm : Room} {Pc : Array Value → State → Prop} {Qc : Array Value → State → Outcome → State → Prop} {XC : String → State → State → Prop} {free : Addr → Prop} {Ts : List Cond} {own C : String} {b : Addr} {As rest : List Value} {g : JFrame}
theorem vx_runVX {hh : List (Nat × Nat × Nat × Nat)} (S : CallFix p m c cc nL s args Ts own) (hM : vx_Met l y ws rm Pc Qc XC mc ms free) (cw : vx_CVW R s args own C index y bytes maxL ret hh ws rm mc ms n) (hp : PreV s H C b Pc As)
    (hg : g.method = m) (hn : As.length = n) (hsize : g.locals.size = nL) (hstack : g.stack = As.reverse ++ .ref b :: rest) (hW : 2 * g.monitorRoom + (rest.map fun v => v.category).sum ≤ 8) (hdg : decode cc g.pc = .ok (.invokevirtual index, 3)) (hf : cells + mc ≤ R.cells ∧ slots + ms ≤ R.slots) :
    vx_Run p l e R s m args below meth c H locs cells slots mc ms g rest (Qc (Value.ref b :: As).toArray) XC free := by
  obtain ⟨⟨hrc, hrs, hfr, hlo, hws, hcw⟩, hcode, hini, hy, hlen, hl, hin, hse⟩ := cw
  have hK : vx_Back l R p e below s args y 3 8 (PreOf R mc ms Pc) (PostOf Qc mc ms free) (vx_Post XC mc ms free) := vx_backW (hh := hh) (bytes := bytes) (maxL := maxL) (ret := ret) hM hp.1 hrc hrs hfr hlo hws hcw (fun a' U hW => word_at hW (Or.inl (by first | rfl | simp [Cond.onTables, Cond.keeps, Cond.steady])) hini)
  obtain ⟨hx, hb, hml, ho, -⟩ := S
  obtain ⟨-, ⟨cellB, hcB, hoB, hclB⟩, hPc⟩ := hp
  intro T hT X
  rcases vx_callVX X hx (C := C) (hh := hh) (bytes := bytes) (maxL := maxL) (ret := ret) ho hl hin hse hcode hy hK (by rw [hT]; exact hcB) hoB hclB hg (hsize.trans hml.symm) (argsL := As) (rest := rest) (fun sig h => hn.trans (hlen sig h)) hstack hW (by rw [hb]; exact hdg)
    (fun vm₁ hW₁ => ⟨hf.1, hf.2, hPc (T.setVm vm₁) hT hW₁⟩) with ⟨v, vm₁, ⟨U', l2, c2, s2⟩, hW₁, X', ⟨g', mk, t, L, e1, e2, hq, h1, hL, h2, h3⟩, st⟩ | ⟨q, vm₁, ⟨U', l2, c2, s2⟩, hW₁, X', ⟨g', mk, t, L, E, ce, e1, e2, hq, hce, hcv, hcl, h1, hL, h2, h3⟩, st⟩
  · dsimp only [Pt.U, Pt.locs, Pt.cells, Pt.slots] at X' e1 e2 h1 h2 h3 st
    subst h1; subst h2; subst h3
    exact Or.inl ⟨v, (T.setVm vm₁).calling g' mk (Value.ref b :: As).toArray, t, U', L, hT, X', hL, e1, e2, hq, st⟩
  · dsimp only [Pt.U, Pt.locs, Pt.cells, Pt.slots] at X' e1 e2 h1 h2 h3 st hcl
    subst h1; subst h2; subst h3
    exact Or.inr ⟨q, (T.setVm vm₁).calling g' mk (Value.ref b :: As).toArray, t, U', L, E, ce, hT, X', hL, e1, e2, hq, hce, hcv, vx_cls hW₁ hcl, st⟩
theorem vx_runSX {hh : List (Nat × Nat × Nat × Nat)} (S : CallFix p m c cc nL s args Ts own) (hM : vx_Met l y ws rm Pc Qc XC mc ms free) (cw : vx_CSW R s args own index y bytes maxL ret hh ws rm mc ms n) (hp : PreS s H Pc As)
    (hg : g.method = m) (hn : As.length = n) (hsize : g.locals.size = nL) (hstack : g.stack = As.reverse ++ rest) (hW : 2 * g.monitorRoom + (rest.map fun v => v.category).sum ≤ 8) (hdg : decode cc g.pc = .ok (.invokestatic index, 3)) (hf : cells + mc ≤ R.cells ∧ slots + ms ≤ R.slots) :
    vx_Run p l e R s m args below meth c H locs cells slots mc ms g rest (Qc As.toArray) XC free := by
  obtain ⟨⟨hrc, hrs, hfr, hlo, hws, hcw⟩, hcode, hini, hy, hlen, hl, hstt⟩ := cw
  have hK : vx_Back l R p e below s args y 3 8 (PreOf R mc ms Pc) (PostOf Qc mc ms free) (vx_Post XC mc ms free) := vx_backW (hh := hh) (bytes := bytes) (maxL := maxL) (ret := ret) hM hp.1 hrc hrs hfr hlo hws hcw (fun a' U hW => word_at hW (Or.inl (by first | rfl | simp [Cond.onTables, Cond.keeps, Cond.steady])) hini)
  obtain ⟨hx, hb, hml, ho, -⟩ := S
  intro T hT X
  rcases vx_callSX X hx (hh := hh) (bytes := bytes) (maxL := maxL) (ret := ret) ho hl hstt hini hcode hy hK hg (hsize.trans hml.symm) (argsL := As) (rest := rest) (fun sig h => hn.trans (hlen sig h)) hstack hW (by rw [hb]; exact hdg)
    (fun vm₁ hW₁ => ⟨hf.1, hf.2, hp.2 (T.setVm vm₁) hT hW₁⟩) with ⟨v, vm₁, ⟨U', l2, c2, s2⟩, hW₁, X', ⟨g', mk, t, L, e1, e2, hq, h1, hL, h2, h3⟩, st⟩ | ⟨q, vm₁, ⟨U', l2, c2, s2⟩, hW₁, X', ⟨g', mk, t, L, E, ce, e1, e2, hq, hce, hcv, hcl, h1, hL, h2, h3⟩, st⟩
  · dsimp only [Pt.U, Pt.locs, Pt.cells, Pt.slots] at X' e1 e2 h1 h2 h3 st
    subst h1; subst h2; subst h3
    exact Or.inl ⟨v, (T.setVm vm₁).calling g' mk As.toArray, t, U', L, hT, X', hL, e1, e2, hq, st⟩
  · dsimp only [Pt.U, Pt.locs, Pt.cells, Pt.slots] at X' e1 e2 h1 h2 h3 st hcl
    subst h1; subst h2; subst h3
    exact Or.inr ⟨q, (T.setVm vm₁).calling g' mk As.toArray, t, U', L, E, ce, hT, X', hL, e1, e2, hq, hce, hcv, vx_cls hW₁ hcl, st⟩
end
end VXH
theorem vx_ofWH {l : Launch} {y : MethodName} {ws ws' : List Cond} {rm : Room} {Pc : Array Value → State → Prop} {Qc : Array Value → State → Outcome → State → Prop} {XC : String → State → State → Prop} {mc ms : Nat} {free : Addr → Prop} {cc : ByteArray} {maxL : Nat} {ret : Option FieldType} {hh : List (Nat × Nat × Nat × Nat)}
    (hy : plainName y.cls = true) (hw : ws = Cond.codeWith y cc maxL ret hh :: ws')
    (body : ∀ p e s m args below meth c s₁, BodyLoose p l y (headSpec ws rm) cc maxL ret e s m args below meth c s₁ → c.maxLocals = maxL → Pc args s →
      W p l e (headSpec ws rm).room s m args below meth c s.heap [] 0 0 (vx_MQ below Qc XC args s mc ms free) (entryFrame m args maxL)) : vx_Met l y ws rm Pc Qc XC mc ms free := by
  refine MetFree.of_bodyS (code := cc) (maxLocals := maxL) (ret := ret) hy ?_ ?_
  · intro args s m h hn
    obtain ⟨m9, meth, c, hn9, h1, h2, h3, h4, -, h5, h6, -⟩ := Cond.codeWith_spec (atoms_spec (ws := ws) h _ (by rw [hw]; exact List.mem_cons_self))
    cases hn.symm.trans hn9
    exact ⟨meth, c, h1, h2, h3, h4, h5, h6⟩
  · intro p e s m args below meth c s₁ B hml hP _
    have hh0 : s₁.heap = s.heap := by rw [B.state]; rfl
    obtain ⟨t, a1, o, b1, b2, b3⟩ := body p e s m args below meth c s₁ B hml hP s₁ hh0 (Stand.of_body B)
    exact ⟨t, o, a1, b1, b2, b3⟩
/-! ===== END ===== -/
end
section
def RX0 : String := "MudWalls$Bricks"
def TX0 : u_T := fun k => match k with
  | 0 => ("MudWalls$Bricks", "trials", "I", false)
  | 1 => ("MudWalls$Bricks", "greatestCracked", "I", false)
  | _ => ("MudWalls$Bricks", "leastWhole", "I", false)
def tyX0 : Nat → FieldType := fun k => match k with
  | 0 => .int
  | 1 => .int
  | _ => .int
abbrev wsX00 : List Cond := u_ws RX0 TX0 3
theorem nmX0 : ∀ a, a < 3 → ∀ b, b < 3 → a ≠ b → (TX0 a).2.1 ≠ (TX0 b).2.1 := by decide +kernel
theorem tyX0_ok : ∀ k, k < 3 → parseFieldDescriptor (TX0 k).2.2.1 = some (tyX0 k) := by decide +kernel
abbrev cX0_init : ByteArray := prog_2_method_1_code
def yX0_init : MethodName := ⟨RX0, "<init>", "()V"⟩
abbrev cX0_forget : ByteArray := prog_2_method_2_code
def yX0_forget : MethodName := ⟨RX0, "forget", "()V"⟩
abbrev cX0_add : ByteArray := prog_2_method_3_code
def yX0_add : MethodName := ⟨RX0, "add", "(IZ)Z"⟩
abbrev cX0_gainsays : ByteArray := prog_2_method_4_code
def yX0_gainsays : MethodName := ⟨RX0, "gainsays", "(IZ)Z"⟩
abbrev cX0_lowEnd : ByteArray := prog_2_method_5_code
def yX0_lowEnd : MethodName := ⟨RX0, "lowEnd", "()I"⟩
abbrev cX0_highEnd : ByteArray := prog_2_method_6_code
def yX0_highEnd : MethodName := ⟨RX0, "highEnd", "()I"⟩
abbrev cX0_nextShare : ByteArray := prog_2_method_7_code
def yX0_nextShare : MethodName := ⟨RX0, "nextShare", "()I"⟩
abbrev cX0_fewestTrials : ByteArray := prog_2_method_8_code
def yX0_fewestTrials : MethodName := ⟨RX0, "fewestTrials", "()I"⟩
def RX1 : String := "MudWalls$Forecast"
def TX1 : u_T := fun k => match k with
  | 0 => ("MudWalls$Forecast", "yard", "LMudWalls$Yard;", true)
  | 1 => ("MudWalls$Forecast", "weather", "LMudWalls$Weather;", true)
  | 2 => ("MudWalls$Forecast", "trial", "LMudWalls$Wall;", true)
  | _ => ("MudWalls$Forecast", "roundBefore", "LMudWalls$Wall;", true)
def tyX1 : Nat → FieldType := fun k => match k with
  | 0 => .object "MudWalls$Yard"
  | 1 => .object "MudWalls$Weather"
  | 2 => .object "MudWalls$Wall"
  | _ => .object "MudWalls$Wall"
abbrev wsX10 : List Cond := u_ws RX1 TX1 4
theorem nmX1 : ∀ a, a < 4 → ∀ b, b < 4 → a ≠ b → (TX1 a).2.1 ≠ (TX1 b).2.1 := by decide +kernel
theorem tyX1_ok : ∀ k, k < 4 → parseFieldDescriptor (TX1 k).2.2.1 = some (tyX1 k) := by decide +kernel
abbrev cX1_init : ByteArray := prog_3_method_1_code
def yX1_init : MethodName := ⟨RX1, "<init>", "(LMudWalls$Yard;LMudWalls$Weather;[LMudWalls$Wall;)V"⟩
abbrev cX1_weeksUntil : ByteArray := prog_3_method_2_code
def yX1_weeksUntil : MethodName := ⟨RX1, "weeksUntil", "(LMudWalls$Wall;I)I"⟩
abbrev cX1_fewestShoes : ByteArray := prog_3_method_3_code
def yX1_fewestShoes : MethodName := ⟨RX1, "fewestShoes", "(LMudWalls$Wall;I)I"⟩
abbrev cX1_leastOuter : ByteArray := prog_3_method_4_code
def yX1_leastOuter : MethodName := ⟨RX1, "leastOuter", "(LMudWalls$Wall;I)I"⟩
abbrev cX1_footPaste : ByteArray := prog_3_method_5_code
def yX1_footPaste : MethodName := ⟨RX1, "footPaste", "(LMudWalls$Wall;I)I"⟩
abbrev cX1_firstPaste : ByteArray := prog_3_method_6_code
def yX1_firstPaste : MethodName := ⟨RX1, "firstPaste", "(I)I"⟩
def RX2 : String := "MudWalls$Guesses"
def TX2 : u_T := fun k => match k with
  | 0 => ("MudWalls$Guesses", "water", "[I", true)
  | _ => ("MudWalls$Guesses", "fits", "[I", true)
def tyX2 : Nat → FieldType := fun k => match k with
  | 0 => .array .int
  | _ => .array .int
abbrev wsX20 : List Cond := u_ws RX2 TX2 2
theorem nmX2 : ∀ a, a < 2 → ∀ b, b < 2 → a ≠ b → (TX2 a).2.1 ≠ (TX2 b).2.1 := by decide +kernel
theorem tyX2_ok : ∀ k, k < 2 → parseFieldDescriptor (TX2 k).2.2.1 = some (tyX2 k) := by decide +kernel
abbrev cX2_init : ByteArray := prog_4_method_1_code
def yX2_init : MethodName := ⟨RX2, "<init>", "()V"⟩
abbrev cX2_forget : ByteArray := prog_4_method_2_code
def yX2_forget : MethodName := ⟨RX2, "forget", "()V"⟩
abbrev cX2_clear : ByteArray := prog_4_method_3_code
def yX2_clear : MethodName := ⟨RX2, "clear", "(I)V"⟩
abbrev cX2_keep : ByteArray := prog_4_method_4_code
def yX2_keep : MethodName := ⟨RX2, "keep", "(ILMudWalls$Wall;)V"⟩
abbrev cX2_reading : ByteArray := prog_4_method_5_code
def yX2_reading : MethodName := ⟨RX2, "reading", "(III)I"⟩
abbrev cX2_farthestApart : ByteArray := prog_4_method_6_code
def yX2_farthestApart : MethodName := ⟨RX2, "farthestApart", "()I"⟩
abbrev cX2_apartAt : ByteArray := prog_4_method_7_code
def yX2_apartAt : MethodName := ⟨RX2, "apartAt", "(I)I"⟩
def RX3 : String := "MudWalls$Houses"
def TX3 : u_T := fun k => match k with
  | 0 => ("MudWalls$Houses", "worth", "[I", true)
  | 1 => ("MudWalls$Houses", "cost", "[I", true)
  | 2 => ("MudWalls$Houses", "known", "I", false)
  | 3 => ("MudWalls$Houses", "bestWorth", "I", false)
  | 4 => ("MudWalls$Houses", "bestCost", "I", false)
  | _ => ("MudWalls$Houses", "bestSet", "I", false)
def tyX3 : Nat → FieldType := fun k => match k with
  | 0 => .array .int
  | 1 => .array .int
  | 2 => .int
  | 3 => .int
  | 4 => .int
  | _ => .int
abbrev wsX30 : List Cond := u_ws RX3 TX3 6
theorem nmX3 : ∀ a, a < 6 → ∀ b, b < 6 → a ≠ b → (TX3 a).2.1 ≠ (TX3 b).2.1 := by decide +kernel
theorem tyX3_ok : ∀ k, k < 6 → parseFieldDescriptor (TX3 k).2.2.1 = some (tyX3 k) := by decide +kernel
abbrev cX3_init : ByteArray := prog_5_method_1_code
def yX3_init : MethodName := ⟨RX3, "<init>", "()V"⟩
abbrev cX3_forget : ByteArray := prog_5_method_2_code
def yX3_forget : MethodName := ⟨RX3, "forget", "()V"⟩
abbrev cX3_add : ByteArray := prog_5_method_3_code
def yX3_add : MethodName := ⟨RX3, "add", "(III)Z"⟩
abbrev cX3_choose : ByteArray := prog_5_method_4_code
def yX3_choose : MethodName := ⟨RX3, "choose", "(I)V"⟩
def RX4 : String := "MudWalls$Orderer"
def TX4 : u_T := fun k => match k with
  | 0 => ("MudWalls$Orderer", "weather", "LMudWalls$Weather;", true)
  | 1 => ("MudWalls$Orderer", "bench", "[LMudWalls$Wall;", true)
  | 2 => ("MudWalls$Orderer", "row", "[I", true)
  | 3 => ("MudWalls$Orderer", "best", "I", false)
  | 4 => ("MudWalls$Orderer", "kept", "[I", true)
  | _ => ("MudWalls$Orderer", "keptLength", "I", false)
def tyX4 : Nat → FieldType := fun k => match k with
  | 0 => .object "MudWalls$Weather"
  | 1 => .array (.object "MudWalls$Wall")
  | 2 => .array .int
  | 3 => .int
  | 4 => .array .int
  | _ => .int
abbrev wsX40 : List Cond := u_ws RX4 TX4 6
theorem nmX4 : ∀ a, a < 6 → ∀ b, b < 6 → a ≠ b → (TX4 a).2.1 ≠ (TX4 b).2.1 := by decide +kernel
theorem tyX4_ok : ∀ k, k < 6 → parseFieldDescriptor (TX4 k).2.2.1 = some (tyX4 k) := by decide +kernel
abbrev cX4_init : ByteArray := prog_6_method_1_code
def yX4_init : MethodName := ⟨RX4, "<init>", "(LMudWalls$Weather;[LMudWalls$Wall;)V"⟩
abbrev cX4_forget : ByteArray := prog_6_method_2_code
def yX4_forget : MethodName := ⟨RX4, "forget", "()V"⟩
abbrev cX4_leastBulges : ByteArray := prog_6_method_3_code
def yX4_leastBulges : MethodName := ⟨RX4, "leastBulges", "(LMudWalls$Wall;I)I"⟩
abbrev cX4_seek : ByteArray := prog_6_method_4_code
def yX4_seek : MethodName := ⟨RX4, "seek", "(II)V"⟩
def RX5 : String := "MudWalls$Planner"
def TX5 : u_T := fun k => match k with
  | 0 => ("MudWalls$Planner", "weather", "LMudWalls$Weather;", true)
  | 1 => ("MudWalls$Planner", "bench", "[LMudWalls$Wall;", true)
  | 2 => ("MudWalls$Planner", "row", "[I", true)
  | 3 => ("MudWalls$Planner", "kept", "[I", true)
  | _ => ("MudWalls$Planner", "keptLength", "I", false)
def tyX5 : Nat → FieldType := fun k => match k with
  | 0 => .object "MudWalls$Weather"
  | 1 => .array (.object "MudWalls$Wall")
  | 2 => .array .int
  | 3 => .array .int
  | _ => .int
abbrev wsX50 : List Cond := u_ws RX5 TX5 5
theorem nmX5 : ∀ a, a < 5 → ∀ b, b < 5 → a ≠ b → (TX5 a).2.1 ≠ (TX5 b).2.1 := by decide +kernel
theorem tyX5_ok : ∀ k, k < 5 → parseFieldDescriptor (TX5 k).2.2.1 = some (tyX5 k) := by decide +kernel
abbrev cX5_init : ByteArray := prog_7_method_1_code
def yX5_init : MethodName := ⟨RX5, "<init>", "(LMudWalls$Weather;[LMudWalls$Wall;)V"⟩
abbrev cX5_forget : ByteArray := prog_7_method_2_code
def yX5_forget : MethodName := ⟨RX5, "forget", "()V"⟩
abbrev cX5_weeksTo : ByteArray := prog_7_method_3_code
def yX5_weeksTo : MethodName := ⟨RX5, "weeksTo", "(LMudWalls$Wall;I)I"⟩
abbrev cX5_reaches : ByteArray := prog_7_method_4_code
def yX5_reaches : MethodName := ⟨RX5, "reaches", "(III)Z"⟩
abbrev cX5_bearsLift : ByteArray := prog_7_method_5_code
def yX5_bearsLift : MethodName := ⟨RX5, "bearsLift", "(LMudWalls$Wall;LMudWalls$Wall;I)Z"⟩
def RX6 : String := "MudWalls$Reader"
def TX6 : u_T := fun k => match k with
  | 0 => ("MudWalls$Reader", "text", "[B", false)
  | 1 => ("MudWalls$Reader", "length", "I", false)
  | 2 => ("MudWalls$Reader", "kind", "I", false)
  | 3 => ("MudWalls$Reader", "start", "I", false)
  | 4 => ("MudWalls$Reader", "end", "I", false)
  | 5 => ("MudWalls$Reader", "faultKind", "I", false)
  | _ => ("MudWalls$Reader", "faultPlace", "I", false)
def tyX6 : Nat → FieldType := fun k => match k with
  | 0 => .array .byte
  | 1 => .int
  | 2 => .int
  | 3 => .int
  | 4 => .int
  | 5 => .int
  | _ => .int
abbrev wsX60 : List Cond := u_ws RX6 TX6 7
theorem nmX6 : ∀ a, a < 7 → ∀ b, b < 7 → a ≠ b → (TX6 a).2.1 ≠ (TX6 b).2.1 := by decide +kernel
theorem tyX6_ok : ∀ k, k < 7 → parseFieldDescriptor (TX6 k).2.2.1 = some (tyX6 k) := by decide +kernel
abbrev cX6_init : ByteArray := prog_8_method_1_code
def yX6_init : MethodName := ⟨RX6, "<init>", "()V"⟩
abbrev cX6_read : ByteArray := prog_8_method_2_code
def yX6_read : MethodName := ⟨RX6, "read", "([BILMudWalls$Yard;)I"⟩
abbrev cX6_readLine : ByteArray := prog_8_method_3_code
def yX6_readLine : MethodName := ⟨RX6, "readLine", "(LMudWalls$Yard;)V"⟩
abbrev cX6_readEarth : ByteArray := prog_8_method_4_code
def yX6_readEarth : MethodName := ⟨RX6, "readEarth", "(LMudWalls$Yard;)V"⟩
abbrev cX6_readWall : ByteArray := prog_8_method_5_code
def yX6_readWall : MethodName := ⟨RX6, "readWall", "(LMudWalls$Yard;)V"⟩
abbrev cX6_readWeek : ByteArray := prog_8_method_6_code
def yX6_readWeek : MethodName := ⟨RX6, "readWeek", "(LMudWalls$Yard;)V"⟩
abbrev cX6_refuse : ByteArray := prog_8_method_7_code
def yX6_refuse : MethodName := ⟨RX6, "refuse", "(I)V"⟩
abbrev cX6_takeNumber : ByteArray := prog_8_method_8_code
def yX6_takeNumber : MethodName := ⟨RX6, "takeNumber", "(II)I"⟩
abbrev cX6_takeOption : ByteArray := prog_8_method_9_code
def yX6_takeOption : MethodName := ⟨RX6, "takeOption", "(Ljava/lang/String;II)I"⟩
abbrev cX6_takeWord : ByteArray := prog_8_method_10_code
def yX6_takeWord : MethodName := ⟨RX6, "takeWord", "(Ljava/lang/String;)Z"⟩
abbrev cX6_atWord : ByteArray := prog_8_method_11_code
def yX6_atWord : MethodName := ⟨RX6, "atWord", "(Ljava/lang/String;)Z"⟩
abbrev cX6_numberAtHand : ByteArray := prog_8_method_12_code
def yX6_numberAtHand : MethodName := ⟨RX6, "numberAtHand", "()I"⟩
abbrev cX6_advance : ByteArray := prog_8_method_13_code
def yX6_advance : MethodName := ⟨RX6, "advance", "()V"⟩
abbrev cX6_skipRow : ByteArray := prog_8_method_14_code
def yX6_skipRow : MethodName := ⟨RX6, "skipRow", "(CC)V"⟩
abbrev cX6_isBetween : ByteArray := prog_8_method_15_code
def yX6_isBetween : MethodName := ⟨RX6, "isBetween", "(BCC)Z"⟩
def RX7 : String := "MudWalls$Turner"
def TX7 : u_T := fun k => match k with
  | 0 => ("MudWalls$Turner", "weather", "LMudWalls$Weather;", true)
  | 1 => ("MudWalls$Turner", "bench", "[LMudWalls$Wall;", true)
  | 2 => ("MudWalls$Turner", "weeks", "I", false)
  | 3 => ("MudWalls$Turner", "best", "I", false)
  | _ => ("MudWalls$Turner", "bestRow", "I", false)
def tyX7 : Nat → FieldType := fun k => match k with
  | 0 => .object "MudWalls$Weather"
  | 1 => .array (.object "MudWalls$Wall")
  | 2 => .int
  | 3 => .int
  | _ => .int
abbrev wsX70 : List Cond := u_ws RX7 TX7 5
theorem nmX7 : ∀ a, a < 5 → ∀ b, b < 5 → a ≠ b → (TX7 a).2.1 ≠ (TX7 b).2.1 := by decide +kernel
theorem tyX7_ok : ∀ k, k < 5 → parseFieldDescriptor (TX7 k).2.2.1 = some (tyX7 k) := by decide +kernel
abbrev cX7_init : ByteArray := prog_9_method_1_code
def yX7_init : MethodName := ⟨RX7, "<init>", "(LMudWalls$Weather;[LMudWalls$Wall;)V"⟩
abbrev cX7_search : ByteArray := prog_9_method_2_code
def yX7_search : MethodName := ⟨RX7, "search", "(LMudWalls$Wall;LMudWalls$Wall;I)V"⟩
abbrev cX7_seek : ByteArray := prog_9_method_3_code
def yX7_seek : MethodName := ⟨RX7, "seek", "(III)V"⟩
abbrev cX7_goOn : ByteArray := prog_9_method_4_code
def yX7_goOn : MethodName := ⟨RX7, "goOn", "(III)V"⟩
def RX8 : String := "MudWalls$Wall"
def TX8 : u_T := fun k => match k with
  | 0 => ("MudWalls$Wall", "yard", "LMudWalls$Yard;", true)
  | 1 => ("MudWalls$Wall", "water", "[I", true)
  | 2 => ("MudWalls$Wall", "marks", "[I", true)
  | 3 => ("MudWalls$Wall", "bulge", "[I", true)
  | 4 => ("MudWalls$Wall", "depth", "I", false)
  | 5 => ("MudWalls$Wall", "layers", "I", false)
  | 6 => ("MudWalls$Wall", "ground", "I", false)
  | 7 => ("MudWalls$Wall", "shoes", "I", false)
  | 8 => ("MudWalls$Wall", "hat", "Z", false)
  | 9 => ("MudWalls$Wall", "outer", "I", false)
  | 10 => ("MudWalls$Wall", "inner", "I", false)
  | 11 => ("MudWalls$Wall", "prop", "Z", false)
  | 12 => ("MudWalls$Wall", "past", "I", false)
  | 13 => ("MudWalls$Wall", "fell", "I", false)
  | 14 => ("MudWalls$Wall", "why", "I", false)
  | 15 => ("MudWalls$Wall", "come", "I", false)
  | _ => ("MudWalls$Wall", "gone", "I", false)
def tyX8 : Nat → FieldType := fun k => match k with
  | 0 => .object "MudWalls$Yard"
  | 1 => .array .int
  | 2 => .array .int
  | 3 => .array .int
  | 4 => .int
  | 5 => .int
  | 6 => .int
  | 7 => .int
  | 8 => .boolean
  | 9 => .int
  | 10 => .int
  | 11 => .boolean
  | 12 => .int
  | 13 => .int
  | 14 => .int
  | 15 => .int
  | _ => .int
abbrev wsX80 : List Cond := u_ws RX8 TX8 17
theorem nmX8 : ∀ a, a < 17 → ∀ b, b < 17 → a ≠ b → (TX8 a).2.1 ≠ (TX8 b).2.1 := by decide +kernel
theorem tyX8_ok : ∀ k, k < 17 → parseFieldDescriptor (TX8 k).2.2.1 = some (tyX8 k) := by decide +kernel
abbrev cX8_init : ByteArray := prog_10_method_1_code
def yX8_init : MethodName := ⟨RX8, "<init>", "(LMudWalls$Yard;)V"⟩
abbrev cX8_begin : ByteArray := prog_10_method_2_code
def yX8_begin : MethodName := ⟨RX8, "begin", "(I)V"⟩
abbrev cX8_become : ByteArray := prog_10_method_3_code
def yX8_become : MethodName := ⟨RX8, "become", "(LMudWalls$Wall;)V"⟩
abbrev cX8_standsLike : ByteArray := prog_10_method_4_code
def yX8_standsLike : MethodName := ⟨RX8, "standsLike", "(LMudWalls$Wall;)Z"⟩
abbrev cX8_raise : ByteArray := prog_10_method_5_code
def yX8_raise : MethodName := ⟨RX8, "raise", "(I)V"⟩
abbrev cX8_dropFrom : ByteArray := prog_10_method_6_code
def yX8_dropFrom : MethodName := ⟨RX8, "dropFrom", "(I)V"⟩
abbrev cX8_fallFrom : ByteArray := prog_10_method_7_code
def yX8_fallFrom : MethodName := ⟨RX8, "fallFrom", "(I)V"⟩
abbrev cX8_whyGivesWay : ByteArray := prog_10_method_8_code
def yX8_whyGivesWay : MethodName := ⟨RX8, "whyGivesWay", "(I)I"⟩
abbrev cX8_waterFrom : ByteArray := prog_10_method_9_code
def yX8_waterFrom : MethodName := ⟨RX8, "waterFrom", "(I)I"⟩
abbrev cX8_pour : ByteArray := prog_10_method_10_code
def yX8_pour : MethodName := ⟨RX8, "pour", "(II)V"⟩
abbrev cX8_evaporate : ByteArray := prog_10_method_11_code
def yX8_evaporate : MethodName := ⟨RX8, "evaporate", "(II)V"⟩
abbrev cX8_crack : ByteArray := prog_10_method_12_code
def yX8_crack : MethodName := ⟨RX8, "crack", "(I)V"⟩
abbrev cX8_makeHollow : ByteArray := prog_10_method_13_code
def yX8_makeHollow : MethodName := ⟨RX8, "makeHollow", "(I)V"⟩
abbrev cX8_isCracked : ByteArray := prog_10_method_14_code
def yX8_isCracked : MethodName := ⟨RX8, "isCracked", "(I)Z"⟩
abbrev cX8_isHollow : ByteArray := prog_10_method_15_code
def yX8_isHollow : MethodName := ⟨RX8, "isHollow", "(I)Z"⟩
abbrev cX8_stiffness : ByteArray := prog_10_method_16_code
def yX8_stiffness : MethodName := ⟨RX8, "stiffness", "(I)I"⟩
abbrev cX8_strength : ByteArray := prog_10_method_17_code
def yX8_strength : MethodName := ⟨RX8, "strength", "(I)I"⟩
abbrev cX8_load : ByteArray := prog_10_method_18_code
def yX8_load : MethodName := ⟨RX8, "load", "(I)I"⟩
abbrev cX8_propBears : ByteArray := prog_10_method_19_code
def yX8_propBears : MethodName := ⟨RX8, "propBears", "()I"⟩
abbrev cX8_bears : ByteArray := prog_10_method_20_code
def yX8_bears : MethodName := ⟨RX8, "bears", "(I)I"⟩
abbrev cX8_loads : ByteArray := prog_10_method_21_code
def yX8_loads : MethodName := ⟨RX8, "loads", "(I)I"⟩
abbrev cX8_presses : ByteArray := prog_10_method_22_code
def yX8_presses : MethodName := ⟨RX8, "presses", "(I)I"⟩
abbrev cX8_spare : ByteArray := prog_10_method_23_code
def yX8_spare : MethodName := ⟨RX8, "spare", "()I"⟩
abbrev cX8_anySits : ByteArray := prog_10_method_24_code
def yX8_anySits : MethodName := ⟨RX8, "anySits", "()Z"⟩
abbrev cX8_roomAbove : ByteArray := prog_10_method_25_code
def yX8_roomAbove : MethodName := ⟨RX8, "roomAbove", "()I"⟩
abbrev cX8_improve : ByteArray := prog_10_method_26_code
def yX8_improve : MethodName := ⟨RX8, "improve", "(I)V"⟩
abbrev cX8_footIsPaste : ByteArray := prog_10_method_27_code
def yX8_footIsPaste : MethodName := ⟨RX8, "footIsPaste", "()Z"⟩
abbrev cX8_bulges : ByteArray := prog_10_method_28_code
def yX8_bulges : MethodName := ⟨RX8, "bulges", "()I"⟩
def RX9 : String := "MudWalls$Weather"
def TX9 : u_T := fun k => match k with
  | 0 => ("MudWalls$Weather", "yard", "LMudWalls$Yard;", true)
  | 1 => ("MudWalls$Weather", "ahead", "[I", true)
  | _ => ("MudWalls$Weather", "still", "[I", true)
def tyX9 : Nat → FieldType := fun k => match k with
  | 0 => .object "MudWalls$Yard"
  | 1 => .array .int
  | _ => .array .int
abbrev wsX90 : List Cond := u_ws RX9 TX9 3
theorem nmX9 : ∀ a, a < 3 → ∀ b, b < 3 → a ≠ b → (TX9 a).2.1 ≠ (TX9 b).2.1 := by decide +kernel
theorem tyX9_ok : ∀ k, k < 3 → parseFieldDescriptor (TX9 k).2.2.1 = some (tyX9 k) := by decide +kernel
abbrev cX9_init : ByteArray := prog_11_method_1_code
def yX9_init : MethodName := ⟨RX9, "<init>", "(LMudWalls$Yard;)V"⟩
abbrev cX9_pass : ByteArray := prog_11_method_2_code
def yX9_pass : MethodName := ⟨RX9, "pass", "(LMudWalls$Wall;)Z"⟩
abbrev cX9_wet : ByteArray := prog_11_method_3_code
def yX9_wet : MethodName := ⟨RX9, "wet", "(LMudWalls$Wall;I)V"⟩
abbrev cX9_move : ByteArray := prog_11_method_4_code
def yX9_move : MethodName := ⟨RX9, "move", "(LMudWalls$Wall;)V"⟩
abbrev cX9_flow : ByteArray := prog_11_method_5_code
def yX9_flow : MethodName := ⟨RX9, "flow", "(LMudWalls$Wall;III)V"⟩
abbrev cX9_dry : ByteArray := prog_11_method_6_code
def yX9_dry : MethodName := ⟨RX9, "dry", "(LMudWalls$Wall;I)V"⟩
abbrev cX9_crackAll : ByteArray := prog_11_method_7_code
def yX9_crackAll : MethodName := ⟨RX9, "crackAll", "(LMudWalls$Wall;Z)V"⟩
abbrev cX9_settle : ByteArray := prog_11_method_8_code
def yX9_settle : MethodName := ⟨RX9, "settle", "(LMudWalls$Wall;)I"⟩
def RX10 : String := "MudWalls$Yard"
def TX10 : u_T := fun k => match k with
  | 0 => ("MudWalls$Yard", "earth", "[I", true)
  | 1 => ("MudWalls$Yard", "traits", "[I", true)
  | 2 => ("MudWalls$Yard", "told", "[I", true)
  | 3 => ("MudWalls$Yard", "earthTold", "Z", false)
  | 4 => ("MudWalls$Yard", "wallCount", "I", false)
  | 5 => ("MudWalls$Yard", "weekCount", "I", false)
  | 6 => ("MudWalls$Yard", "full", "I", false)
  | 7 => ("MudWalls$Yard", "shrink", "I", false)
  | _ => ("MudWalls$Yard", "green", "I", false)
def tyX10 : Nat → FieldType := fun k => match k with
  | 0 => .array .int
  | 1 => .array .int
  | 2 => .array .int
  | 3 => .boolean
  | 4 => .int
  | 5 => .int
  | 6 => .int
  | 7 => .int
  | _ => .int
abbrev wsX100 : List Cond := u_ws RX10 TX10 9
theorem nmX10 : ∀ a, a < 9 → ∀ b, b < 9 → a ≠ b → (TX10 a).2.1 ≠ (TX10 b).2.1 := by decide +kernel
theorem tyX10_ok : ∀ k, k < 9 → parseFieldDescriptor (TX10 k).2.2.1 = some (tyX10 k) := by decide +kernel
abbrev cX10_init : ByteArray := prog_12_method_1_code
def yX10_init : MethodName := ⟨RX10, "<init>", "()V"⟩
abbrev cX10_clear : ByteArray := prog_12_method_2_code
def yX10_clear : MethodName := ⟨RX10, "clear", "()V"⟩
abbrev cX10_setEarth : ByteArray := prog_12_method_3_code
def yX10_setEarth : MethodName := ⟨RX10, "setEarth", "(III)V"⟩
abbrev cX10_become : ByteArray := prog_12_method_4_code
def yX10_become : MethodName := ⟨RX10, "become", "(LMudWalls$Yard;)V"⟩
def RX11 : String := "MudWalls"
def TX11 : u_T := fun k => match k with
  | 0 => ("MudWalls", "tape", "[B", true)
  | 1 => ("MudWalls", "tapeLength", "I", false)
  | 2 => ("MudWalls", "faultPlace", "I", false)
  | 3 => ("MudWalls", "status", "[I", true)
  | 4 => ("MudWalls", "imageStatus", "[I", true)
  | 5 => ("MudWalls", "imageKept", "Z", false)
  | 6 => ("MudWalls", "reader", "LMudWalls$Reader;", true)
  | 7 => ("MudWalls", "draft", "LMudWalls$Yard;", true)
  | 8 => ("MudWalls", "ground", "LMudWalls$Yard;", true)
  | 9 => ("MudWalls", "walls", "[LMudWalls$Wall;", true)
  | 10 => ("MudWalls", "imageWalls", "[LMudWalls$Wall;", true)
  | 11 => ("MudWalls", "weather", "LMudWalls$Weather;", true)
  | 12 => ("MudWalls", "forecast", "LMudWalls$Forecast;", true)
  | 13 => ("MudWalls", "planner", "LMudWalls$Planner;", true)
  | 14 => ("MudWalls", "turner", "LMudWalls$Turner;", true)
  | 15 => ("MudWalls", "orderer", "LMudWalls$Orderer;", true)
  | 16 => ("MudWalls", "bricks", "LMudWalls$Bricks;", true)
  | 17 => ("MudWalls", "houses", "LMudWalls$Houses;", true)
  | _ => ("MudWalls", "guesses", "LMudWalls$Guesses;", true)
def tyX11 : Nat → FieldType := fun k => match k with
  | 0 => .array .byte
  | 1 => .int
  | 2 => .int
  | 3 => .array .int
  | 4 => .array .int
  | 5 => .boolean
  | 6 => .object "MudWalls$Reader"
  | 7 => .object "MudWalls$Yard"
  | 8 => .object "MudWalls$Yard"
  | 9 => .array (.object "MudWalls$Wall")
  | 10 => .array (.object "MudWalls$Wall")
  | 11 => .object "MudWalls$Weather"
  | 12 => .object "MudWalls$Forecast"
  | 13 => .object "MudWalls$Planner"
  | 14 => .object "MudWalls$Turner"
  | 15 => .object "MudWalls$Orderer"
  | 16 => .object "MudWalls$Bricks"
  | 17 => .object "MudWalls$Houses"
  | _ => .object "MudWalls$Guesses"
abbrev wsX110 : List Cond := u_ws RX11 TX11 19
theorem nmX11 : ∀ a, a < 19 → ∀ b, b < 19 → a ≠ b → (TX11 a).2.1 ≠ (TX11 b).2.1 := by decide +kernel
theorem tyX11_ok : ∀ k, k < 19 → parseFieldDescriptor (TX11 k).2.2.1 = some (tyX11 k) := by decide +kernel
abbrev cX11_init : ByteArray := prog_1_method_1_code
def yX11_init : MethodName := ⟨RX11, "<init>", "()V"⟩
abbrev cX11_manyWalls : ByteArray := prog_1_method_2_code
def yX11_manyWalls : MethodName := ⟨RX11, "manyWalls", "(ILMudWalls$Yard;)[LMudWalls$Wall;"⟩
abbrev cX11_feed : ByteArray := prog_1_method_3_code
def yX11_feed : MethodName := ⟨RX11, "feed", "(IIIII)I"⟩
abbrev cX11_putNumber : ByteArray := prog_1_method_4_code
def yX11_putNumber : MethodName := ⟨RX11, "putNumber", "(I)V"⟩
abbrev cX11_yard : ByteArray := prog_1_method_5_code
def yX11_yard : MethodName := ⟨RX11, "yard", "(I)I"⟩
abbrev cX11_beginAnew : ByteArray := prog_1_method_6_code
def yX11_beginAnew : MethodName := ⟨RX11, "beginAnew", "()V"⟩
abbrev cX11_fault : ByteArray := prog_1_method_7_code
def yX11_fault : MethodName := ⟨RX11, "fault", "()I"⟩
abbrev cX11_count : ByteArray := prog_1_method_8_code
def yX11_count : MethodName := ⟨RX11, "count", "(I)I"⟩
abbrev cX11_waterCome : ByteArray := prog_1_method_9_code
def yX11_waterCome : MethodName := ⟨RX11, "waterCome", "()I"⟩
abbrev cX11_waterGone : ByteArray := prog_1_method_10_code
def yX11_waterGone : MethodName := ⟨RX11, "waterGone", "()I"⟩
abbrev cX11_wallAt : ByteArray := prog_1_method_11_code
def yX11_wallAt : MethodName := ⟨RX11, "wallAt", "(I)LMudWalls$Wall;"⟩
abbrev cX11_wallWithLayer : ByteArray := prog_1_method_12_code
def yX11_wallWithLayer : MethodName := ⟨RX11, "wallWithLayer", "(II)LMudWalls$Wall;"⟩
abbrev cX11_wallWithCell : ByteArray := prog_1_method_13_code
def yX11_wallWithCell : MethodName := ⟨RX11, "wallWithCell", "(III)LMudWalls$Wall;"⟩
abbrev cX11_wall : ByteArray := prog_1_method_14_code
def yX11_wall : MethodName := ⟨RX11, "wall", "(II)I"⟩
abbrev cX11_cell : ByteArray := prog_1_method_15_code
def yX11_cell : MethodName := ⟨RX11, "cell", "(IIII)I"⟩
abbrev cX11_layer : ByteArray := prog_1_method_16_code
def yX11_layer : MethodName := ⟨RX11, "layer", "(III)I"⟩
abbrev cX11_lift : ByteArray := prog_1_method_17_code
def yX11_lift : MethodName := ⟨RX11, "lift", "(II)I"⟩
abbrev cX11_down : ByteArray := prog_1_method_18_code
def yX11_down : MethodName := ⟨RX11, "down", "(I)I"⟩
abbrev cX11_hollow : ByteArray := prog_1_method_19_code
def yX11_hollow : MethodName := ⟨RX11, "hollow", "(III)V"⟩
abbrev cX11_weeks : ByteArray := prog_1_method_20_code
def yX11_weeks : MethodName := ⟨RX11, "weeks", "(II)I"⟩
abbrev cX11_checkRange : ByteArray := prog_1_method_21_code
def yX11_checkRange : MethodName := ⟨RX11, "checkRange", "(III)V"⟩
abbrev cX11_checkWhat : ByteArray := prog_1_method_22_code
def yX11_checkWhat : MethodName := ⟨RX11, "checkWhat", "(II)V"⟩
abbrev cX11_high : ByteArray := prog_1_method_23_code
def yX11_high : MethodName := ⟨RX11, "high", "(I)I"⟩
abbrev cX11_when : ByteArray := prog_1_method_24_code
def yX11_when : MethodName := ⟨RX11, "when", "(II)I"⟩
abbrev cX11_plan : ByteArray := prog_1_method_25_code
def yX11_plan : MethodName := ⟨RX11, "plan", "(II)I"⟩
abbrev cX11_planned : ByteArray := prog_1_method_26_code
def yX11_planned : MethodName := ⟨RX11, "planned", "(I)I"⟩
abbrev cX11_turned : ByteArray := prog_1_method_27_code
def yX11_turned : MethodName := ⟨RX11, "turned", "(IIII)I"⟩
abbrev cX11_line : ByteArray := prog_1_method_28_code
def yX11_line : MethodName := ⟨RX11, "line", "(III)I"⟩
abbrev cX11_work : ByteArray := prog_1_method_29_code
def yX11_work : MethodName := ⟨RX11, "work", "(II)V"⟩
abbrev cX11_order : ByteArray := prog_1_method_30_code
def yX11_order : MethodName := ⟨RX11, "order", "(II)I"⟩
abbrev cX11_ordered : ByteArray := prog_1_method_31_code
def yX11_ordered : MethodName := ⟨RX11, "ordered", "(I)I"⟩
abbrev cX11_brick : ByteArray := prog_1_method_32_code
def yX11_brick : MethodName := ⟨RX11, "brick", "(IZ)I"⟩
abbrev cX11_mix : ByteArray := prog_1_method_33_code
def yX11_mix : MethodName := ⟨RX11, "mix", "(I)I"⟩
abbrev cX11_house : ByteArray := prog_1_method_34_code
def yX11_house : MethodName := ⟨RX11, "house", "(III)I"⟩
abbrev cX11_first : ByteArray := prog_1_method_35_code
def yX11_first : MethodName := ⟨RX11, "first", "(II)I"⟩
abbrev cX11_guess : ByteArray := prog_1_method_36_code
def yX11_guess : MethodName := ⟨RX11, "guess", "(II)V"⟩
abbrev cX11_stick : ByteArray := prog_1_method_37_code
def yX11_stick : MethodName := ⟨RX11, "stick", "(IIII)I"⟩
abbrev cX11_credit : ByteArray := prog_1_method_38_code
def yX11_credit : MethodName := ⟨RX11, "credit", "(I)I"⟩
abbrev cX11_where : ByteArray := prog_1_method_39_code
def yX11_where : MethodName := ⟨RX11, "where", "()I"⟩
abbrev cX11_image : ByteArray := prog_1_method_40_code
def yX11_image : MethodName := ⟨RX11, "image", "()V"⟩
abbrev cX11_restore : ByteArray := prog_1_method_41_code
def yX11_restore : MethodName := ⟨RX11, "restore", "()Z"⟩
abbrev cX11_copyWalls : ByteArray := prog_1_method_42_code
def yX11_copyWalls : MethodName := ⟨RX11, "copyWalls", "([LMudWalls$Wall;[LMudWalls$Wall;)V"⟩
def RX12 : String := "MudWallsModel"
def TX12 : u_T := fun k => match k with
  | 0 => ("MudWallsModel", "code", "I", false)
  | 1 => ("MudWallsModel", "rows", "[I", true)
  | 2 => ("MudWallsModel", "before", "[I", true)
  | 3 => ("MudWallsModel", "now", "[I", true)
  | 4 => ("MudWallsModel", "walls", "I", false)
  | 5 => ("MudWallsModel", "readWalls", "I", false)
  | 6 => ("MudWallsModel", "earth", "[I", true)
  | 7 => ("MudWallsModel", "rain", "[I", true)
  | 8 => ("MudWallsModel", "air", "[I", true)
  | 9 => ("MudWallsModel", "frost", "[I", true)
  | 10 => ("MudWallsModel", "weeksTold", "[I", true)
  | 11 => ("MudWallsModel", "status", "[I", true)
  | 12 => ("MudWallsModel", "tape", "[I", true)
  | 13 => ("MudWallsModel", "taped", "I", false)
  | 14 => ("MudWallsModel", "place", "I", false)
  | 15 => ("MudWallsModel", "size", "I", false)
  | 16 => ("MudWallsModel", "token", "I", false)
  | 17 => ("MudWallsModel", "number", "I", false)
  | 18 => ("MudWallsModel", "begins", "I", false)
  | 19 => ("MudWallsModel", "ends", "I", false)
  | 20 => ("MudWallsModel", "bad", "I", false)
  | 21 => ("MudWallsModel", "badPlace", "I", false)
  | 22 => ("MudWallsModel", "faultPlace", "I", false)
  | 23 => ("MudWallsModel", "plan", "[I", true)
  | 24 => ("MudWallsModel", "planTry", "[I", true)
  | 25 => ("MudWallsModel", "planMany", "I", false)
  | 26 => ("MudWallsModel", "order", "[I", true)
  | 27 => ("MudWallsModel", "orderTry", "[I", true)
  | 28 => ("MudWallsModel", "orderBest", "[I", true)
  | 29 => ("MudWallsModel", "orderMany", "I", false)
  | 30 => ("MudWallsModel", "orderLeast", "I", false)
  | 31 => ("MudWallsModel", "bricks", "I", false)
  | 32 => ("MudWallsModel", "cracked", "I", false)
  | 33 => ("MudWallsModel", "whole", "I", false)
  | 34 => ("MudWallsModel", "houses", "I", false)
  | 35 => ("MudWallsModel", "houseChance", "[I", true)
  | 36 => ("MudWallsModel", "housePeople", "[I", true)
  | 37 => ("MudWallsModel", "houseCost", "[I", true)
  | 38 => ("MudWallsModel", "isGuess", "[Z", true)
  | 39 => ("MudWallsModel", "credits", "[I", true)
  | 40 => ("MudWallsModel", "hasImage", "Z", false)
  | _ => ("MudWallsModel", "statusThen", "[I", true)
def tyX12 : Nat → FieldType := fun k => match k with
  | 0 => .int
  | 1 => .array .int
  | 2 => .array .int
  | 3 => .array .int
  | 4 => .int
  | 5 => .int
  | 6 => .array .int
  | 7 => .array .int
  | 8 => .array .int
  | 9 => .array .int
  | 10 => .array .int
  | 11 => .array .int
  | 12 => .array .int
  | 13 => .int
  | 14 => .int
  | 15 => .int
  | 16 => .int
  | 17 => .int
  | 18 => .int
  | 19 => .int
  | 20 => .int
  | 21 => .int
  | 22 => .int
  | 23 => .array .int
  | 24 => .array .int
  | 25 => .int
  | 26 => .array .int
  | 27 => .array .int
  | 28 => .array .int
  | 29 => .int
  | 30 => .int
  | 31 => .int
  | 32 => .int
  | 33 => .int
  | 34 => .int
  | 35 => .array .int
  | 36 => .array .int
  | 37 => .array .int
  | 38 => .array .boolean
  | 39 => .array .int
  | 40 => .boolean
  | _ => .array .int
abbrev wsX120 : List Cond := u_ws RX12 TX12 42
theorem nmX12 : ∀ a, a < 42 → ∀ b, b < 42 → a ≠ b → (TX12 a).2.1 ≠ (TX12 b).2.1 := by decide +kernel
theorem tyX12_ok : ∀ k, k < 42 → parseFieldDescriptor (TX12 k).2.2.1 = some (tyX12 k) := by decide +kernel
abbrev cX12_init : ByteArray := prog_14_method_1_code
def yX12_init : MethodName := ⟨RX12, "<init>", "()V"⟩
abbrev cX12_thrown : ByteArray := prog_14_method_2_code
def yX12_thrown : MethodName := ⟨RX12, "thrown", "()I"⟩
abbrev cX12_fail : ByteArray := prog_14_method_3_code
def yX12_fail : MethodName := ⟨RX12, "fail", "(I)I"⟩
abbrev cX12_isIn : ByteArray := prog_14_method_4_code
def yX12_isIn : MethodName := ⟨RX12, "isIn", "(III)Z"⟩
abbrev cX12_isWall : ByteArray := prog_14_method_5_code
def yX12_isWall : MethodName := ⟨RX12, "isWall", "(I)Z"⟩
abbrev cX12_of : ByteArray := prog_14_method_6_code
def yX12_of : MethodName := ⟨RX12, "of", "(II)I"⟩
abbrev cX12_put : ByteArray := prog_14_method_7_code
def yX12_put : MethodName := ⟨RX12, "put", "(III)V"⟩
abbrev cX12_copy : ByteArray := prog_14_method_8_code
def yX12_copy : MethodName := ⟨RX12, "copy", "(II)V"⟩
abbrev cX12_at : ByteArray := prog_14_method_9_code
def yX12_at : MethodName := ⟨RX12, "at", "(II)I"⟩
abbrev cX12_full : ByteArray := prog_14_method_10_code
def yX12_full : MethodName := ⟨RX12, "full", "()I"⟩
abbrev cX12_shrink : ByteArray := prog_14_method_11_code
def yX12_shrink : MethodName := ⟨RX12, "shrink", "()I"⟩
abbrev cX12_green : ByteArray := prog_14_method_12_code
def yX12_green : MethodName := ⟨RX12, "green", "()I"⟩
abbrev cX12_feed : ByteArray := prog_14_method_13_code
def yX12_feed : MethodName := ⟨RX12, "feed", "(IIIII)I"⟩
abbrev cX12_byteAt : ByteArray := prog_14_method_14_code
def yX12_byteAt : MethodName := ⟨RX12, "byteAt", "(I)I"⟩
abbrev cX12_isLetter : ByteArray := prog_14_method_15_code
def yX12_isLetter : MethodName := ⟨RX12, "isLetter", "(I)Z"⟩
abbrev cX12_isDigit : ByteArray := prog_14_method_16_code
def yX12_isDigit : MethodName := ⟨RX12, "isDigit", "(I)Z"⟩
abbrev cX12_stepOn : ByteArray := prog_14_method_17_code
def yX12_stepOn : MethodName := ⟨RX12, "stepOn", "()V"⟩
abbrev cX12_wrong : ByteArray := prog_14_method_18_code
def yX12_wrong : MethodName := ⟨RX12, "wrong", "(I)V"⟩
abbrev cX12_is : ByteArray := prog_14_method_19_code
def yX12_is : MethodName := ⟨RX12, "is", "(Ljava/lang/String;)Z"⟩
abbrev cX12_passes : ByteArray := prog_14_method_20_code
def yX12_passes : MethodName := ⟨RX12, "passes", "(Ljava/lang/String;)Z"⟩
abbrev cX12_readNumber : ByteArray := prog_14_method_21_code
def yX12_readNumber : MethodName := ⟨RX12, "readNumber", "(II)I"⟩
abbrev cX12_perhaps : ByteArray := prog_14_method_22_code
def yX12_perhaps : MethodName := ⟨RX12, "perhaps", "(Ljava/lang/String;II)I"⟩
abbrev cX12_semi : ByteArray := prog_14_method_23_code
def yX12_semi : MethodName := ⟨RX12, "semi", "()V"⟩
abbrev cX12_readWall : ByteArray := prog_14_method_24_code
def yX12_readWall : MethodName := ⟨RX12, "readWall", "()V"⟩
abbrev cX12_readWeek : ByteArray := prog_14_method_25_code
def yX12_readWeek : MethodName := ⟨RX12, "readWeek", "()V"⟩
abbrev cX12_readLine : ByteArray := prog_14_method_26_code
def yX12_readLine : MethodName := ⟨RX12, "readLine", "(Z)Z"⟩
abbrev cX12_yard : ByteArray := prog_14_method_27_code
def yX12_yard : MethodName := ⟨RX12, "yard", "(I)I"⟩
abbrev cX12_fault : ByteArray := prog_14_method_28_code
def yX12_fault : MethodName := ⟨RX12, "fault", "()I"⟩
abbrev cX12_count : ByteArray := prog_14_method_29_code
def yX12_count : MethodName := ⟨RX12, "count", "(I)I"⟩
abbrev cX12_waterIn : ByteArray := prog_14_method_30_code
def yX12_waterIn : MethodName := ⟨RX12, "waterIn", "(I)I"⟩
abbrev cX12_wall : ByteArray := prog_14_method_31_code
def yX12_wall : MethodName := ⟨RX12, "wall", "(II)I"⟩
abbrev cX12_isLayer : ByteArray := prog_14_method_32_code
def yX12_isLayer : MethodName := ⟨RX12, "isLayer", "(II)Z"⟩
abbrev cX12_isCell : ByteArray := prog_14_method_33_code
def yX12_isCell : MethodName := ⟨RX12, "isCell", "(III)Z"⟩
abbrev cX12_isCracked : ByteArray := prog_14_method_34_code
def yX12_isCracked : MethodName := ⟨RX12, "isCracked", "(III)Z"⟩
abbrev cX12_isHollow : ByteArray := prog_14_method_35_code
def yX12_isHollow : MethodName := ⟨RX12, "isHollow", "(III)Z"⟩
abbrev cX12_strength : ByteArray := prog_14_method_36_code
def yX12_strength : MethodName := ⟨RX12, "strength", "(III)I"⟩
abbrev cX12_load : ByteArray := prog_14_method_37_code
def yX12_load : MethodName := ⟨RX12, "load", "(III)I"⟩
abbrev cX12_bears : ByteArray := prog_14_method_38_code
def yX12_bears : MethodName := ⟨RX12, "bears", "(II)I"⟩
abbrev cX12_presses : ByteArray := prog_14_method_39_code
def yX12_presses : MethodName := ⟨RX12, "presses", "(II)I"⟩
abbrev cX12_sits : ByteArray := prog_14_method_40_code
def yX12_sits : MethodName := ⟨RX12, "sits", "(II)Z"⟩
abbrev cX12_someSits : ByteArray := prog_14_method_41_code
def yX12_someSits : MethodName := ⟨RX12, "someSits", "(I)Z"⟩
abbrev cX12_cell : ByteArray := prog_14_method_42_code
def yX12_cell : MethodName := ⟨RX12, "cell", "(IIII)I"⟩
abbrev cX12_layer : ByteArray := prog_14_method_43_code
def yX12_layer : MethodName := ⟨RX12, "layer", "(III)I"⟩
abbrev cX12_raise : ByteArray := prog_14_method_44_code
def yX12_raise : MethodName := ⟨RX12, "raise", "(II)V"⟩
abbrev cX12_cut : ByteArray := prog_14_method_45_code
def yX12_cut : MethodName := ⟨RX12, "cut", "(II)V"⟩
abbrev cX12_lift : ByteArray := prog_14_method_46_code
def yX12_lift : MethodName := ⟨RX12, "lift", "(II)I"⟩
abbrev cX12_down : ByteArray := prog_14_method_47_code
def yX12_down : MethodName := ⟨RX12, "down", "(I)I"⟩
abbrev cX12_hollow : ByteArray := prog_14_method_48_code
def yX12_hollow : MethodName := ⟨RX12, "hollow", "(III)V"⟩
abbrev cX12_wet : ByteArray := prog_14_method_49_code
def yX12_wet : MethodName := ⟨RX12, "wet", "(IIII)V"⟩
abbrev cX12_comeIn : ByteArray := prog_14_method_50_code
def yX12_comeIn : MethodName := ⟨RX12, "comeIn", "(II)V"⟩
abbrev cX12_flow : ByteArray := prog_14_method_51_code
def yX12_flow : MethodName := ⟨RX12, "flow", "(IIII)V"⟩
abbrev cX12_see : ByteArray := prog_14_method_52_code
def yX12_see : MethodName := ⟨RX12, "see", "(I)V"⟩
abbrev cX12_move : ByteArray := prog_14_method_53_code
def yX12_move : MethodName := ⟨RX12, "move", "(I)V"⟩
abbrev cX12_dry : ByteArray := prog_14_method_54_code
def yX12_dry : MethodName := ⟨RX12, "dry", "(II)V"⟩
abbrev cX12_crack : ByteArray := prog_14_method_55_code
def yX12_crack : MethodName := ⟨RX12, "crack", "(IZ)V"⟩
abbrev cX12_whyOf : ByteArray := prog_14_method_56_code
def yX12_whyOf : MethodName := ⟨RX12, "whyOf", "(II)I"⟩
abbrev cX12_sit : ByteArray := prog_14_method_57_code
def yX12_sit : MethodName := ⟨RX12, "sit", "(I)V"⟩
abbrev cX12_week : ByteArray := prog_14_method_58_code
def yX12_week : MethodName := ⟨RX12, "week", "(I)V"⟩
abbrev cX12_weeks : ByteArray := prog_14_method_59_code
def yX12_weeks : MethodName := ⟨RX12, "weeks", "(II)I"⟩
abbrev cX12_highOf : ByteArray := prog_14_method_60_code
def yX12_highOf : MethodName := ⟨RX12, "highOf", "(I)I"⟩
abbrev cX12_high : ByteArray := prog_14_method_61_code
def yX12_high : MethodName := ⟨RX12, "high", "(I)I"⟩
abbrev cX12_when : ByteArray := prog_14_method_62_code
def yX12_when : MethodName := ⟨RX12, "when", "(II)I"⟩
abbrev cX12_planOn : ByteArray := prog_14_method_63_code
def yX12_planOn : MethodName := ⟨RX12, "planOn", "(III)Z"⟩
abbrev cX12_plan : ByteArray := prog_14_method_64_code
def yX12_plan : MethodName := ⟨RX12, "plan", "(II)I"⟩
abbrev cX12_planned : ByteArray := prog_14_method_65_code
def yX12_planned : MethodName := ⟨RX12, "planned", "(I)I"⟩
abbrev cX12_turned : ByteArray := prog_14_method_66_code
def yX12_turned : MethodName := ⟨RX12, "turned", "(IIII)I"⟩
abbrev cX12_footOf : ByteArray := prog_14_method_67_code
def yX12_footOf : MethodName := ⟨RX12, "footOf", "(I)I"⟩
abbrev cX12_line : ByteArray := prog_14_method_68_code
def yX12_line : MethodName := ⟨RX12, "line", "(III)I"⟩
abbrev cX12_doWork : ByteArray := prog_14_method_69_code
def yX12_doWork : MethodName := ⟨RX12, "doWork", "(II)V"⟩
abbrev cX12_work : ByteArray := prog_14_method_70_code
def yX12_work : MethodName := ⟨RX12, "work", "(II)V"⟩
abbrev cX12_bulges : ByteArray := prog_14_method_71_code
def yX12_bulges : MethodName := ⟨RX12, "bulges", "(I)I"⟩
abbrev cX12_orderOn : ByteArray := prog_14_method_72_code
def yX12_orderOn : MethodName := ⟨RX12, "orderOn", "(II)V"⟩
abbrev cX12_order : ByteArray := prog_14_method_73_code
def yX12_order : MethodName := ⟨RX12, "order", "(II)I"⟩
abbrev cX12_ordered : ByteArray := prog_14_method_74_code
def yX12_ordered : MethodName := ⟨RX12, "ordered", "(I)I"⟩
abbrev cX12_brick : ByteArray := prog_14_method_75_code
def yX12_brick : MethodName := ⟨RX12, "brick", "(IZ)I"⟩
abbrev cX12_mix : ByteArray := prog_14_method_76_code
def yX12_mix : MethodName := ⟨RX12, "mix", "(I)I"⟩
abbrev cX12_house : ByteArray := prog_14_method_77_code
def yX12_house : MethodName := ⟨RX12, "house", "(III)I"⟩
abbrev cX12_first : ByteArray := prog_14_method_78_code
def yX12_first : MethodName := ⟨RX12, "first", "(II)I"⟩
abbrev cX12_guess : ByteArray := prog_14_method_79_code
def yX12_guess : MethodName := ⟨RX12, "guess", "(II)V"⟩
abbrev cX12_knows : ByteArray := prog_14_method_80_code
def yX12_knows : MethodName := ⟨RX12, "knows", "(III)Z"⟩
abbrev cX12_stick : ByteArray := prog_14_method_81_code
def yX12_stick : MethodName := ⟨RX12, "stick", "(IIII)I"⟩
abbrev cX12_credit : ByteArray := prog_14_method_82_code
def yX12_credit : MethodName := ⟨RX12, "credit", "(I)I"⟩
abbrev cX12_where : ByteArray := prog_14_method_83_code
def yX12_where : MethodName := ⟨RX12, "where", "()I"⟩
abbrev cX12_image : ByteArray := prog_14_method_84_code
def yX12_image : MethodName := ⟨RX12, "image", "()V"⟩
abbrev cX12_restore : ByteArray := prog_14_method_85_code
def yX12_restore : MethodName := ⟨RX12, "restore", "()Z"⟩
def RJx145de : String := "java/io/Serializable"
def RJx9f9b0 : String := "java/lang/CharSequence"
def RJxb160c : String := "java/lang/Comparable"
def RJ9 : String := "java/lang/Math"
def TJ9 : u_T := fun k => match k with
  | _ => ("", "", "", false)
def tyJ9 : Nat → FieldType := fun k => match k with
  | _ => .int
abbrev wsJ90 : List Cond := u_ws RJ9 TJ9 0
theorem nmJ9 : ∀ a, a < 0 → ∀ b, b < 0 → a ≠ b → (TJ9 a).2.1 ≠ (TJ9 b).2.1 := by decide +kernel
theorem tyJ9_ok : ∀ k, k < 0 → parseFieldDescriptor (TJ9 k).2.2.1 = some (tyJ9 k) := by decide +kernel
abbrev cJ9_floorMod_7cf53 : ByteArray := prog_20_method_50_code
def yJ9_floorMod_7cf53 : MethodName := ⟨RJ9, "floorMod", "(II)I"⟩
abbrev cJ9_abs_0f7a4 : ByteArray := prog_20_method_59_code
def yJ9_abs_0f7a4 : MethodName := ⟨RJ9, "abs", "(I)I"⟩
abbrev cJ9_max_7cf53 : ByteArray := prog_20_method_65_code
def yJ9_max_7cf53 : MethodName := ⟨RJ9, "max", "(II)I"⟩
abbrev cJ9_min_7cf53 : ByteArray := prog_20_method_69_code
def yJ9_min_7cf53 : MethodName := ⟨RJ9, "min", "(II)I"⟩
def RJ0 : String := "java/lang/String"
def TJ0 : u_T := fun k => match k with
  | _ => ("", "", "", false)
def tyJ0 : Nat → FieldType := fun k => match k with
  | _ => .int
abbrev wsJ00 : List Cond := u_ws RJ0 TJ0 0
theorem nmJ0 : ∀ a, a < 0 → ∀ b, b < 0 → a ≠ b → (TJ0 a).2.1 ≠ (TJ0 b).2.1 := by decide +kernel
theorem tyJ0_ok : ∀ k, k < 0 → parseFieldDescriptor (TJ0 k).2.2.1 = some (tyJ0 k) := by decide +kernel
abbrev cJ0_length_8abf5 : ByteArray := prog_22_method_54_code
def yJ0_length_8abf5 : MethodName := ⟨RJ0, "length", "()I"⟩
abbrev cJ0_charAt_5068e : ByteArray := prog_22_method_56_code
def yJ0_charAt_5068e : MethodName := ⟨RJ0, "charAt", "(I)C"⟩
abbrev cJ0_coder_7d493 : ByteArray := prog_22_method_152_code
def yJ0_coder_7d493 : MethodName := ⟨RJ0, "coder", "()B"⟩
abbrev cJ0_isLatin1_aae02 : ByteArray := prog_22_method_154_code
def yJ0_isLatin1_aae02 : MethodName := ⟨RJ0, "isLatin1", "()Z"⟩
abbrev cJ0_checkIndex_df160 : ByteArray := prog_22_method_155_code
def yJ0_checkIndex_df160 : MethodName := ⟨RJ0, "checkIndex", "(II)V"⟩
def RJ1 : String := "java/lang/StringLatin1"
def TJ1 : u_T := fun k => match k with
  | _ => ("", "", "", false)
def tyJ1 : Nat → FieldType := fun k => match k with
  | _ => .int
abbrev wsJ10 : List Cond := u_ws RJ1 TJ1 0
theorem nmJ1 : ∀ a, a < 0 → ∀ b, b < 0 → a ≠ b → (TJ1 a).2.1 ≠ (TJ1 b).2.1 := by decide +kernel
theorem tyJ1_ok : ∀ k, k < 0 → parseFieldDescriptor (TJ1 k).2.2.1 = some (tyJ1 k) := by decide +kernel
abbrev cJ1_charAt_3b067 : ByteArray := prog_23_method_2_code
def yJ1_charAt_3b067 : MethodName := ⟨RJ1, "charAt", "([BI)C"⟩
def RJ2 : String := "java/lang/StringUTF16"
def TJ2 : u_T := fun k => match k with
  | _ => ("", "", "", false)
def tyJ2 : Nat → FieldType := fun k => match k with
  | _ => .int
abbrev wsJ20 : List Cond := u_ws RJ2 TJ2 0
theorem nmJ2 : ∀ a, a < 0 → ∀ b, b < 0 → a ≠ b → (TJ2 a).2.1 ≠ (TJ2 b).2.1 := by decide +kernel
theorem tyJ2_ok : ∀ k, k < 0 → parseFieldDescriptor (TJ2 k).2.2.1 = some (tyJ2 k) := by decide +kernel
abbrev cJ2_getChar_3b067 : ByteArray := prog_24_method_5_code
def yJ2_getChar_3b067 : MethodName := ⟨RJ2, "getChar", "([BI)C"⟩
abbrev cJ2_length_9d52b : ByteArray := prog_24_method_6_code
def yJ2_length_9d52b : MethodName := ⟨RJ2, "length", "([B)I"⟩
abbrev cJ2_charAt_3b067 : ByteArray := prog_24_method_83_code
def yJ2_charAt_3b067 : MethodName := ⟨RJ2, "charAt", "([BI)C"⟩
abbrev cJ2_checkIndex_2214a : ByteArray := prog_24_method_91_code
def yJ2_checkIndex_2214a : MethodName := ⟨RJ2, "checkIndex", "(I[B)V"⟩
def RJ10 : String := "java/lang/System"
def TJ10 : u_T := fun k => match k with
  | _ => ("", "", "", false)
def tyJ10 : Nat → FieldType := fun k => match k with
  | _ => .int
abbrev wsJ100 : List Cond := u_ws RJ10 TJ10 0
theorem nmJ10 : ∀ a, a < 0 → ∀ b, b < 0 → a ≠ b → (TJ10 a).2.1 ≠ (TJ10 b).2.1 := by decide +kernel
theorem tyJ10_ok : ∀ k, k < 0 → parseFieldDescriptor (TJ10 k).2.2.1 = some (tyJ10 k) := by decide +kernel
def RJxfd54e : String := "java/lang/constant/Constable"
def RJx3cf43 : String := "java/lang/constant/ConstantDesc"
def RJ3 : String := "jdk/internal/util/Preconditions"
def TJ3 : u_T := fun k => match k with
  | _ => ("", "", "", false)
def tyJ3 : Nat → FieldType := fun k => match k with
  | _ => .int
abbrev wsJ30 : List Cond := u_ws RJ3 TJ3 0
theorem nmJ3 : ∀ a, a < 0 → ∀ b, b < 0 → a ≠ b → (TJ3 a).2.1 ≠ (TJ3 b).2.1 := by decide +kernel
theorem tyJ3_ok : ∀ k, k < 0 → parseFieldDescriptor (TJ3 k).2.2.1 = some (tyJ3 k) := by decide +kernel
abbrev cJ3_checkIndex_8e157 : ByteArray := prog_30_method_11_code
def yJ3_checkIndex_8e157 : MethodName := ⟨RJ3, "checkIndex", "(IILjava/util/function/BiFunction;)I"⟩
def RL : String := "MudWallsLaw"
abbrev cL_yard : ByteArray := method_3_code
def yL_yard : MethodName := ⟨RL, "yard", "(LMudWalls;I[J)I"⟩
abbrev cL_count : ByteArray := method_4_code
def yL_count : MethodName := ⟨RL, "count", "(LMudWalls;I[J)I"⟩
abbrev cL_wall : ByteArray := method_5_code
def yL_wall : MethodName := ⟨RL, "wall", "(LMudWalls;II[J)I"⟩
abbrev cL_cell : ByteArray := method_6_code
def yL_cell : MethodName := ⟨RL, "cell", "(LMudWalls;IIII[J)I"⟩
abbrev cL_layer : ByteArray := method_7_code
def yL_layer : MethodName := ⟨RL, "layer", "(LMudWalls;III[J)I"⟩
abbrev cL_lift : ByteArray := method_8_code
def yL_lift : MethodName := ⟨RL, "lift", "(LMudWalls;II[J)I"⟩
abbrev cL_down : ByteArray := method_9_code
def yL_down : MethodName := ⟨RL, "down", "(LMudWalls;I[J)I"⟩
abbrev cL_hollow : ByteArray := method_10_code
def yL_hollow : MethodName := ⟨RL, "hollow", "(LMudWalls;III)I"⟩
abbrev cL_weeks : ByteArray := method_11_code
def yL_weeks : MethodName := ⟨RL, "weeks", "(LMudWalls;II[J)I"⟩
abbrev cL_high : ByteArray := method_12_code
def yL_high : MethodName := ⟨RL, "high", "(LMudWalls;I[J)I"⟩
abbrev cL_when : ByteArray := method_13_code
def yL_when : MethodName := ⟨RL, "when", "(LMudWalls;II[J)I"⟩
abbrev cL_plan : ByteArray := method_14_code
def yL_plan : MethodName := ⟨RL, "plan", "(LMudWalls;II[J)I"⟩
abbrev cL_planned : ByteArray := method_15_code
def yL_planned : MethodName := ⟨RL, "planned", "(LMudWalls;I[J)I"⟩
abbrev cL_turned : ByteArray := method_16_code
def yL_turned : MethodName := ⟨RL, "turned", "(LMudWalls;IIII[J)I"⟩
abbrev cL_line : ByteArray := method_17_code
def yL_line : MethodName := ⟨RL, "line", "(LMudWalls;III[J)I"⟩
abbrev cL_work : ByteArray := method_18_code
def yL_work : MethodName := ⟨RL, "work", "(LMudWalls;II)I"⟩
abbrev cL_order : ByteArray := method_19_code
def yL_order : MethodName := ⟨RL, "order", "(LMudWalls;II[J)I"⟩
abbrev cL_ordered : ByteArray := method_20_code
def yL_ordered : MethodName := ⟨RL, "ordered", "(LMudWalls;I[J)I"⟩
abbrev cL_mix : ByteArray := method_21_code
def yL_mix : MethodName := ⟨RL, "mix", "(LMudWalls;I[J)I"⟩
abbrev cL_first : ByteArray := method_22_code
def yL_first : MethodName := ⟨RL, "first", "(LMudWalls;II[J)I"⟩
abbrev cL_guess : ByteArray := method_23_code
def yL_guess : MethodName := ⟨RL, "guess", "(LMudWalls;II)I"⟩
abbrev cL_stick : ByteArray := method_24_code
def yL_stick : MethodName := ⟨RL, "stick", "(LMudWalls;IIII[J)I"⟩
abbrev cL_credit : ByteArray := method_25_code
def yL_credit : MethodName := ⟨RL, "credit", "(LMudWalls;I[J)I"⟩
abbrev cL_law : ByteArray := code
def yL_law : MethodName := ⟨RL, "law", "([I)Z"⟩
abbrev vwCl : List vw_C := [(RX0, TX0, 3), (RX1, TX1, 4), (RX2, TX2, 2), (RX3, TX3, 6), (RX4, TX4, 6), (RX5, TX5, 5), (RX6, TX6, 7), (RX7, TX7, 5), (RX8, TX8, 17), (RX9, TX9, 3), (RX10, TX10, 9), (RX11, TX11, 19), (RX12, TX12, 42)]
end
section
def kdX0_init : List (Nat × Instr × Nat) := [(0, .aload_n 0, 1), (1, .invokespecial 3, 3), (4, .aload_n 0, 1), (5, .iconst (-1), 1), (6, .putfield 9, 3), (9, .aload_n 0, 1), (10, .iconst (-1), 1), (11, .putfield 15, 3), (14, .return_, 1)]
theorem kdX0_init_ok : ∀ q ∈ kdX0_init, decode cX0_init q.1 = .ok q.2 := by decide +kernel
def kdX0_forget : List (Nat × Instr × Nat) := [(0, .aload_n 0, 1), (1, .iconst 0, 1), (2, .putfield 18, 3), (5, .aload_n 0, 1), (6, .iconst (-1), 1), (7, .putfield 9, 3), (10, .aload_n 0, 1), (11, .iconst (-1), 1), (12, .putfield 15, 3), (15, .return_, 1)]
theorem kdX0_forget_ok : ∀ q ∈ kdX0_forget, decode cX0_forget q.1 = .ok q.2 := by decide +kernel
def kdX0_add : List (Nat × Instr × Nat) := [(0, .aload_n 0, 1), (1, .getfield 18, 3), (4, .bipush 40, 2), (6, .if_icmp .ge 22, 3), (9, .iload_n 1, 1), (10, .ifCond .lt 18, 3), (13, .iload_n 1, 1), (14, .bipush 100, 2), (16, .if_icmp .gt 12, 3), (19, .aload_n 0, 1), (20, .iload_n 1, 1), (21, .iload_n 2, 1), (22, .invokevirtual 21, 3), (25, .ifCond .eq 5, 3), (28, .iconst 0, 1), (29, .ireturn, 1), (30, .aload_n 0, 1), (31, .dup, 1), (32, .getfield 18, 3), (35, .iconst 1, 1), (36, .iadd, 1), (37, .putfield 18, 3), (40, .iload_n 2, 1), (41, .ifCond .eq 18, 3), (44, .aload_n 0, 1), (45, .aload_n 0, 1), (46, .getfield 9, 3), (49, .iload_n 1, 1), (50, .invokestatic 25, 3), (53, .putfield 9, 3), (56, .goto 27, 3), (59, .aload_n 0, 1), (60, .aload_n 0, 1), (61, .getfield 15, 3), (64, .iconst (-1), 1), (65, .if_icmp .ne 7, 3), (68, .iload_n 1, 1), (69, .goto 11, 3), (72, .aload_n 0, 1), (73, .getfield 15, 3), (76, .iload_n 1, 1), (77, .invokestatic 31, 3), (80, .putfield 15, 3), (83, .iconst 1, 1), (84, .ireturn, 1)]
theorem kdX0_add_ok : ∀ q ∈ kdX0_add, decode cX0_add q.1 = .ok q.2 := by decide +kernel
def kdX0_gainsays : List (Nat × Instr × Nat) := [(0, .iload_n 2, 1), (1, .ifCond .eq 27, 3), (4, .aload_n 0, 1), (5, .getfield 15, 3), (8, .iconst (-1), 1), (9, .if_icmp .eq 15, 3), (12, .iload_n 1, 1), (13, .aload_n 0, 1), (14, .getfield 15, 3), (17, .if_icmp .lt 7, 3), (20, .iconst 1, 1), (21, .goto 20, 3), (24, .iconst 0, 1), (25, .goto 16, 3), (28, .iload_n 1, 1), (29, .aload_n 0, 1), (30, .getfield 9, 3), (33, .if_icmp .gt 7, 3), (36, .iconst 1, 1), (37, .goto 4, 3), (40, .iconst 0, 1), (41, .ireturn, 1)]
theorem kdX0_gainsays_ok : ∀ q ∈ kdX0_gainsays, decode cX0_gainsays q.1 = .ok q.2 := by decide +kernel
def kdX0_lowEnd : List (Nat × Instr × Nat) := [(0, .aload_n 0, 1), (1, .getfield 9, 3), (4, .iconst (-1), 1), (5, .if_icmp .ne 7, 3), (8, .iconst 0, 1), (9, .goto 7, 3), (12, .aload_n 0, 1), (13, .getfield 9, 3), (16, .ireturn, 1)]
theorem kdX0_lowEnd_ok : ∀ q ∈ kdX0_lowEnd, decode cX0_lowEnd q.1 = .ok q.2 := by decide +kernel
def kdX0_highEnd : List (Nat × Instr × Nat) := [(0, .aload_n 0, 1), (1, .getfield 15, 3), (4, .iconst (-1), 1), (5, .if_icmp .ne 8, 3), (8, .bipush 100, 2), (10, .goto 7, 3), (13, .aload_n 0, 1), (14, .getfield 15, 3), (17, .ireturn, 1)]
theorem kdX0_highEnd_ok : ∀ q ∈ kdX0_highEnd, decode cX0_highEnd q.1 = .ok q.2 := by decide +kernel
def kdX0_nextShare : List (Nat × Instr × Nat) := [(0, .aload_n 0, 1), (1, .invokevirtual 34, 3), (4, .aload_n 0, 1), (5, .invokevirtual 38, 3), (8, .iadd, 1), (9, .iconst 2, 1), (10, .idiv, 1), (11, .ireturn, 1)]
theorem kdX0_nextShare_ok : ∀ q ∈ kdX0_nextShare, decode cX0_nextShare q.1 = .ok q.2 := by decide +kernel
def kdX0_fewestTrials : List (Nat × Instr × Nat) := [(0, .iconst 0, 1), (1, .istore_n 1, 1), (2, .aload_n 0, 1), (3, .invokevirtual 38, 3), (6, .aload_n 0, 1), (7, .invokevirtual 34, 3), (10, .isub, 1), (11, .istore_n 2, 1), (12, .iload_n 2, 1), (13, .iconst 1, 1), (14, .if_icmp .le 21, 3), (17, .iload_n 1, 1), (18, .bipush 100, 2), (20, .if_icmp .ge 15, 3), (23, .iinc 1 1, 3), (26, .iload_n 2, 1), (27, .iconst 1, 1), (28, .iadd, 1), (29, .iconst 2, 1), (30, .idiv, 1), (31, .istore_n 2, 1), (32, .goto (-20), 3), (35, .iload_n 1, 1), (36, .ireturn, 1)]
theorem kdX0_fewestTrials_ok : ∀ q ∈ kdX0_fewestTrials, decode cX0_fewestTrials q.1 = .ok q.2 := by decide +kernel
def kdX1_init : List (Nat × Instr × Nat) := [(0, .aload_n 0, 1), (1, .invokespecial 3, 3), (4, .aload_n 0, 1), (5, .aload_n 1, 1), (6, .putfield 9, 3), (9, .aload_n 0, 1), (10, .aload_n 2, 1), (11, .putfield 15, 3), (14, .aload_n 0, 1), (15, .aload_n 3, 1), (16, .iconst 0, 1), (17, .aaload, 1), (18, .putfield 19, 3), (21, .aload_n 0, 1), (22, .aload_n 3, 1), (23, .iconst 1, 1), (24, .aaload, 1), (25, .putfield 23, 3), (28, .return_, 1)]
theorem kdX1_init_ok : ∀ q ∈ kdX1_init, decode cX1_init q.1 = .ok q.2 := by decide +kernel
def kdX1_weeksUntil : List (Nat × Instr × Nat) := [(0, .aload_n 0, 1), (1, .getfield 19, 3), (4, .aload_n 1, 1), (5, .invokevirtual 26, 3), (8, .iconst 0, 1), (9, .istore_n 3, 1), (10, .iload_n 3, 1), (11, .bipush 52, 2), (13, .if_icmp .gt 38, 3), (16, .aload_n 0, 1), (17, .getfield 19, 3), (20, .invokevirtual 32, 3), (23, .iload_n 2, 1), (24, .if_icmp .lt 5, 3), (27, .iload_n 3, 1), (28, .ireturn, 1), (29, .aload_n 0, 1), (30, .getfield 15, 3), (33, .aload_n 0, 1), (34, .getfield 19, 3), (37, .invokevirtual 36, 3), (40, .ifCond .eq 5, 3), (43, .iconst (-1), 1), (44, .ireturn, 1), (45, .iinc 3 1, 3), (48, .goto (-38), 3), (51, .iconst (-1), 1), (52, .ireturn, 1)]
theorem kdX1_weeksUntil_ok : ∀ q ∈ kdX1_weeksUntil, decode cX1_weeksUntil q.1 = .ok q.2 := by decide +kernel
def kdX1_fewestShoes : List (Nat × Instr × Nat) := [(0, .iconst 0, 1), (1, .istore_n 3, 1), (2, .iload_n 3, 1), (3, .iconst 3, 1), (4, .if_icmp .gt 36, 3), (7, .aload_n 0, 1), (8, .getfield 19, 3), (11, .aload_n 1, 1), (12, .invokevirtual 26, 3), (15, .aload_n 0, 1), (16, .getfield 19, 3), (19, .iload_n 3, 1), (20, .putfield 42, 3), (23, .aload_n 0, 1), (24, .iload_n 2, 1), (25, .invokevirtual 46, 3), (28, .iconst (-1), 1), (29, .if_icmp .ne 5, 3), (32, .iload_n 3, 1), (33, .ireturn, 1), (34, .iinc 3 1, 3), (37, .goto (-35), 3), (40, .iconst (-1), 1), (41, .ireturn, 1)]
theorem kdX1_fewestShoes_ok : ∀ q ∈ kdX1_fewestShoes, decode cX1_fewestShoes q.1 = .ok q.2 := by decide +kernel
def kdX1_leastOuter : List (Nat × Instr × Nat) := [(0, .iconst 0, 1), (1, .istore_n 3, 1), (2, .iload_n 3, 1), (3, .bipush 100, 2), (5, .if_icmp .gt 36, 3), (8, .aload_n 0, 1), (9, .getfield 19, 3), (12, .aload_n 1, 1), (13, .invokevirtual 26, 3), (16, .aload_n 0, 1), (17, .getfield 19, 3), (20, .iload_n 3, 1), (21, .putfield 50, 3), (24, .aload_n 0, 1), (25, .iload_n 2, 1), (26, .invokevirtual 46, 3), (29, .iconst (-1), 1), (30, .if_icmp .ne 5, 3), (33, .iload_n 3, 1), (34, .ireturn, 1), (35, .iinc 3 10, 3), (38, .goto (-36), 3), (41, .iconst (-1), 1), (42, .ireturn, 1)]
theorem kdX1_leastOuter_ok : ∀ q ∈ kdX1_leastOuter, decode cX1_leastOuter q.1 = .ok q.2 := by decide +kernel
def kdX1_footPaste : List (Nat × Instr × Nat) := [(0, .aload_n 0, 1), (1, .getfield 19, 3), (4, .aload_n 1, 1), (5, .invokevirtual 26, 3), (8, .aload_n 0, 1), (9, .iload_n 2, 1), (10, .invokevirtual 46, 3), (13, .ireturn, 1)]
theorem kdX1_footPaste_ok : ∀ q ∈ kdX1_footPaste, decode cX1_footPaste q.1 = .ok q.2 := by decide +kernel
def kdX1_firstPaste : List (Nat × Instr × Nat) := [(0, .iconst 1, 1), (1, .aload_n 0, 1), (2, .getfield 9, 3), (5, .getfield 53, 3), (8, .invokestatic 58, 3), (11, .istore_n 2, 1), (12, .iconst 0, 1), (13, .istore_n 3, 1), (14, .aload_n 0, 1), (15, .getfield 23, 3), (18, .aload_n 0, 1), (19, .getfield 19, 3), (22, .invokevirtual 26, 3), (25, .iconst 1, 1), (26, .istore 4, 2), (28, .iload 4, 2), (30, .iload_n 1, 1), (31, .if_icmp .gt 71, 3), (34, .aload_n 0, 1), (35, .getfield 15, 3), (38, .aload_n 0, 1), (39, .getfield 19, 3), (42, .invokevirtual 36, 3), (45, .pop, 1), (46, .aload_n 0, 1), (47, .getfield 19, 3), (50, .invokevirtual 64, 3), (53, .ifCond .eq 6, 3), (56, .iload 4, 2), (58, .ireturn, 1), (59, .iinc 3 1, 3), (62, .iload_n 3, 1), (63, .iload_n 2, 1), (64, .if_icmp .ne 32, 3), (67, .aload_n 0, 1), (68, .getfield 19, 3), (71, .aload_n 0, 1), (72, .getfield 23, 3), (75, .invokevirtual 68, 3), (78, .ifCond .eq 5, 3), (81, .iconst (-1), 1), (82, .ireturn, 1), (83, .aload_n 0, 1), (84, .getfield 23, 3), (87, .aload_n 0, 1), (88, .getfield 19, 3), (91, .invokevirtual 26, 3), (94, .iconst 0, 1), (95, .istore_n 3, 1), (96, .iinc 4 1, 3), (99, .goto (-71), 3), (102, .iconst (-1), 1), (103, .ireturn, 1)]
theorem kdX1_firstPaste_ok : ∀ q ∈ kdX1_firstPaste, decode cX1_firstPaste q.1 = .ok q.2 := by decide +kernel
def kdX2_init : List (Nat × Instr × Nat) := [(0, .aload_n 0, 1), (1, .invokespecial 3, 3), (4, .aload_n 0, 1), (5, .sipush 576, 3), (8, .newarray .int, 2), (10, .putfield 11, 3), (13, .aload_n 0, 1), (14, .iconst 4, 1), (15, .newarray .int, 2), (17, .putfield 15, 3), (20, .aload_n 0, 1), (21, .invokevirtual 18, 3), (24, .return_, 1)]
theorem kdX2_init_ok : ∀ q ∈ kdX2_init, decode cX2_init q.1 = .ok q.2 := by decide +kernel
def kdX2_forget : List (Nat × Instr × Nat) := [(0, .iconst 0, 1), (1, .istore_n 1, 1), (2, .iload_n 1, 1), (3, .iconst 4, 1), (4, .if_icmp .ge 21, 3), (7, .aload_n 0, 1), (8, .iload_n 1, 1), (9, .invokevirtual 21, 3), (12, .aload_n 0, 1), (13, .getfield 15, 3), (16, .iload_n 1, 1), (17, .iconst (-1), 1), (18, .iastore, 1), (19, .iinc 1 1, 3), (22, .goto (-20), 3), (25, .return_, 1)]
theorem kdX2_forget_ok : ∀ q ∈ kdX2_forget, decode cX2_forget q.1 = .ok q.2 := by decide +kernel
def kdX2_clear : List (Nat × Instr × Nat) := [(0, .iconst 0, 1), (1, .istore_n 2, 1), (2, .iload_n 2, 1), (3, .sipush 144, 3), (6, .if_icmp .ge 22, 3), (9, .aload_n 0, 1), (10, .getfield 11, 3), (13, .iload_n 1, 1), (14, .sipush 144, 3), (17, .imul, 1), (18, .iload_n 2, 1), (19, .iadd, 1), (20, .iconst (-1), 1), (21, .iastore, 1), (22, .iinc 2 1, 3), (25, .goto (-23), 3), (28, .return_, 1)]
theorem kdX2_clear_ok : ∀ q ∈ kdX2_clear, decode cX2_clear q.1 = .ok q.2 := by decide +kernel
def kdX2_keep : List (Nat × Instr × Nat) := [(0, .aload_n 0, 1), (1, .iload_n 1, 1), (2, .invokevirtual 21, 3), (5, .aload_n 0, 1), (6, .getfield 15, 3), (9, .iload_n 1, 1), (10, .iconst 0, 1), (11, .iastore, 1), (12, .iload_n 1, 1), (13, .sipush 144, 3), (16, .imul, 1), (17, .istore_n 3, 1), (18, .iconst 0, 1), (19, .istore 4, 2), (21, .iload 4, 2), (23, .aload_n 2, 1), (24, .getfield 25, 3), (27, .if_icmp .ge 54, 3), (30, .iload 4, 2), (32, .bipush 6, 2), (34, .imul, 1), (35, .istore 5, 2), (37, .iload 5, 2), (39, .istore 6, 2), (41, .iload 6, 2), (43, .iload 5, 2), (45, .aload_n 2, 1), (46, .getfield 31, 3), (49, .iadd, 1), (50, .if_icmp .ge 25, 3), (53, .aload_n 0, 1), (54, .getfield 11, 3), (57, .iload_n 3, 1), (58, .iload 6, 2), (60, .iadd, 1), (61, .aload_n 2, 1), (62, .getfield 34, 3), (65, .iload 6, 2), (67, .iaload, 1), (68, .iastore, 1), (69, .iinc 6 1, 3), (72, .goto (-31), 3), (75, .iinc 4 1, 3), (78, .goto (-57), 3), (81, .return_, 1)]
theorem kdX2_keep_ok : ∀ q ∈ kdX2_keep, decode cX2_keep q.1 = .ok q.2 := by decide +kernel
def kdX2_reading : List (Nat × Instr × Nat) := [(0, .iconst 0, 1), (1, .istore 4, 2), (3, .iconst 0, 1), (4, .istore 5, 2), (6, .iload 5, 2), (8, .iconst 4, 1), (9, .if_icmp .ge 55, 3), (12, .aload_n 0, 1), (13, .getfield 11, 3), (16, .iload 5, 2), (18, .sipush 144, 3), (21, .imul, 1), (22, .iload_n 1, 1), (23, .iadd, 1), (24, .iaload, 1), (25, .istore 6, 2), (27, .iload 6, 2), (29, .iconst (-1), 1), (30, .if_icmp .eq 28, 3), (33, .iload 6, 2), (35, .iload_n 2, 1), (36, .isub, 1), (37, .invokestatic 35, 3), (40, .iload_n 3, 1), (41, .if_icmp .gt 17, 3), (44, .aload_n 0, 1), (45, .getfield 15, 3), (48, .iload 5, 2), (50, .dup2, 1), (51, .iaload, 1), (52, .iconst 1, 1), (53, .iadd, 1), (54, .iastore, 1), (55, .iinc 4 1, 3), (58, .iinc 5 1, 3), (61, .goto (-55), 3), (64, .iload 4, 2), (66, .ireturn, 1)]
theorem kdX2_reading_ok : ∀ q ∈ kdX2_reading, decode cX2_reading q.1 = .ok q.2 := by decide +kernel
def kdX2_farthestApart : List (Nat × Instr × Nat) := [(0, .iconst (-1), 1), (1, .istore_n 1, 1), (2, .iconst (-1), 1), (3, .istore_n 2, 1), (4, .iconst 0, 1), (5, .istore_n 3, 1), (6, .iload_n 3, 1), (7, .sipush 144, 3), (10, .if_icmp .ge 27, 3), (13, .aload_n 0, 1), (14, .iload_n 3, 1), (15, .invokevirtual 41, 3), (18, .istore 4, 2), (20, .iload 4, 2), (22, .iload_n 2, 1), (23, .if_icmp .le 8, 3), (26, .iload 4, 2), (28, .istore_n 2, 1), (29, .iload_n 3, 1), (30, .istore_n 1, 1), (31, .iinc 3 1, 3), (34, .goto (-28), 3), (37, .iload_n 1, 1), (38, .ireturn, 1)]
theorem kdX2_farthestApart_ok : ∀ q ∈ kdX2_farthestApart, decode cX2_farthestApart q.1 = .ok q.2 := by decide +kernel
def kdX2_apartAt : List (Nat × Instr × Nat) := [(0, .iconst 0, 1), (1, .istore_n 2, 1), (2, .sipush 400, 3), (5, .istore_n 3, 1), (6, .iconst 0, 1), (7, .istore 4, 2), (9, .iconst 0, 1), (10, .istore 5, 2), (12, .iload 5, 2), (14, .iconst 4, 1), (15, .if_icmp .ge 49, 3), (18, .aload_n 0, 1), (19, .getfield 11, 3), (22, .iload 5, 2), (24, .sipush 144, 3), (27, .imul, 1), (28, .iload_n 1, 1), (29, .iadd, 1), (30, .iaload, 1), (31, .istore 6, 2), (33, .iload 6, 2), (35, .iconst (-1), 1), (36, .if_icmp .eq 22, 3), (39, .iinc 2 1, 3), (42, .iload_n 3, 1), (43, .iload 6, 2), (45, .invokestatic 44, 3), (48, .istore_n 3, 1), (49, .iload 4, 2), (51, .iload 6, 2), (53, .invokestatic 48, 3), (56, .istore 4, 2), (58, .iinc 5 1, 3), (61, .goto (-49), 3), (64, .iload_n 2, 1), (65, .iconst 2, 1), (66, .if_icmp .ge 7, 3), (69, .iconst (-1), 1), (70, .goto 7, 3), (73, .iload 4, 2), (75, .iload_n 3, 1), (76, .isub, 1), (77, .ireturn, 1)]
theorem kdX2_apartAt_ok : ∀ q ∈ kdX2_apartAt, decode cX2_apartAt q.1 = .ok q.2 := by decide +kernel
def kdX3_init : List (Nat × Instr × Nat) := [(0, .aload_n 0, 1), (1, .invokespecial 1, 3), (4, .aload_n 0, 1), (5, .bipush 12, 2), (7, .newarray .int, 2), (9, .putfield 9, 3), (12, .aload_n 0, 1), (13, .bipush 12, 2), (15, .newarray .int, 2), (17, .putfield 13, 3), (20, .return_, 1)]
theorem kdX3_init_ok : ∀ q ∈ kdX3_init, decode cX3_init q.1 = .ok q.2 := by decide +kernel
def kdX3_forget : List (Nat × Instr × Nat) := [(0, .aload_n 0, 1), (1, .iconst 0, 1), (2, .putfield 16, 3), (5, .return_, 1)]
theorem kdX3_forget_ok : ∀ q ∈ kdX3_forget, decode cX3_forget q.1 = .ok q.2 := by decide +kernel
def kdX3_add : List (Nat × Instr × Nat) := [(0, .iload_n 1, 1), (1, .ifCond .lt 36, 3), (4, .iload_n 1, 1), (5, .sipush 1000, 3), (8, .if_icmp .gt 29, 3), (11, .iload_n 2, 1), (12, .ifCond .lt 25, 3), (15, .iload_n 2, 1), (16, .bipush 99, 2), (18, .if_icmp .gt 19, 3), (21, .iload_n 3, 1), (22, .iconst 1, 1), (23, .if_icmp .lt 14, 3), (26, .iload_n 3, 1), (27, .sipush 999, 3), (30, .if_icmp .gt 7, 3), (33, .iconst 1, 1), (34, .goto 4, 3), (37, .iconst 0, 1), (38, .istore 4, 2), (40, .aload_n 0, 1), (41, .getfield 16, 3), (44, .bipush 12, 2), (46, .if_icmp .ge 8, 3), (49, .iload 4, 2), (51, .ifCond .ne 5, 3), (54, .iconst 0, 1), (55, .ireturn, 1), (56, .aload_n 0, 1), (57, .getfield 9, 3), (60, .aload_n 0, 1), (61, .getfield 16, 3), (64, .iload_n 1, 1), (65, .iload_n 2, 1), (66, .imul, 1), (67, .iastore, 1), (68, .aload_n 0, 1), (69, .getfield 13, 3), (72, .aload_n 0, 1), (73, .getfield 16, 3), (76, .iload_n 3, 1), (77, .iastore, 1), (78, .aload_n 0, 1), (79, .dup, 1), (80, .getfield 16, 3), (83, .iconst 1, 1), (84, .iadd, 1), (85, .putfield 16, 3), (88, .iconst 1, 1), (89, .ireturn, 1)]
theorem kdX3_add_ok : ∀ q ∈ kdX3_add, decode cX3_add q.1 = .ok q.2 := by decide +kernel
def kdX3_choose : List (Nat × Instr × Nat) := [(0, .aload_n 0, 1), (1, .iconst 0, 1), (2, .putfield 20, 3), (5, .aload_n 0, 1), (6, .iconst 0, 1), (7, .putfield 23, 3), (10, .aload_n 0, 1), (11, .iconst 0, 1), (12, .putfield 26, 3), (15, .iconst 0, 1), (16, .istore_n 2, 1), (17, .iconst 0, 1), (18, .istore_n 3, 1), (19, .iconst 1, 1), (20, .istore 4, 2), (22, .iload 4, 2), (24, .iconst 1, 1), (25, .aload_n 0, 1), (26, .getfield 16, 3), (29, .ishl, 1), (30, .if_icmp .ge 136, 3), (33, .iconst 0, 1), (34, .istore 5, 2), (36, .iload 5, 2), (38, .aload_n 0, 1), (39, .getfield 16, 3), (42, .iconst 1, 1), (43, .isub, 1), (44, .if_icmp .ge 39, 3), (47, .iload 4, 2), (49, .iload 5, 2), (51, .ishr, 1), (52, .iconst 1, 1), (53, .iand, 1), (54, .ifCond .ne 29, 3), (57, .iload_n 2, 1), (58, .aload_n 0, 1), (59, .getfield 9, 3), (62, .iload 5, 2), (64, .iaload, 1), (65, .isub, 1), (66, .istore_n 2, 1), (67, .iload_n 3, 1), (68, .aload_n 0, 1), (69, .getfield 13, 3), (72, .iload 5, 2), (74, .iaload, 1), (75, .isub, 1), (76, .istore_n 3, 1), (77, .iinc 5 1, 3), (80, .goto (-44), 3), (83, .iload_n 2, 1), (84, .aload_n 0, 1), (85, .getfield 9, 3), (88, .iload 5, 2), (90, .iaload, 1), (91, .iadd, 1), (92, .istore_n 2, 1), (93, .iload_n 3, 1), (94, .aload_n 0, 1), (95, .getfield 13, 3), (98, .iload 5, 2), (100, .iaload, 1), (101, .iadd, 1), (102, .istore_n 3, 1), (103, .iload_n 2, 1), (104, .aload_n 0, 1), (105, .getfield 20, 3), (108, .if_icmp .gt 19, 3), (111, .iload_n 2, 1), (112, .aload_n 0, 1), (113, .getfield 20, 3), (116, .if_icmp .ne 15, 3), (119, .iload_n 3, 1), (120, .aload_n 0, 1), (121, .getfield 23, 3), (124, .if_icmp .ge 7, 3), (127, .iconst 1, 1), (128, .goto 4, 3), (131, .iconst 0, 1), (132, .istore 6, 2), (134, .iload_n 3, 1), (135, .iload_n 1, 1), (136, .if_icmp .gt 24, 3), (139, .iload 6, 2), (141, .ifCond .eq 19, 3), (144, .aload_n 0, 1), (145, .iload_n 2, 1), (146, .putfield 20, 3), (149, .aload_n 0, 1), (150, .iload_n 3, 1), (151, .putfield 23, 3), (154, .aload_n 0, 1), (155, .iload 4, 2), (157, .putfield 26, 3), (160, .iinc 4 1, 3), (163, .goto (-141), 3), (166, .return_, 1)]
theorem kdX3_choose_ok : ∀ q ∈ kdX3_choose, decode cX3_choose q.1 = .ok q.2 := by decide +kernel
def kdX4_init : List (Nat × Instr × Nat) := [(0, .aload_n 0, 1), (1, .invokespecial 3, 3), (4, .aload_n 0, 1), (5, .bipush 6, 2), (7, .newarray .int, 2), (9, .putfield 9, 3), (12, .aload_n 0, 1), (13, .bipush 6, 2), (15, .newarray .int, 2), (17, .putfield 15, 3), (20, .aload_n 0, 1), (21, .aload_n 1, 1), (22, .putfield 18, 3), (25, .aload_n 0, 1), (26, .aload_n 2, 1), (27, .putfield 22, 3), (30, .return_, 1)]
theorem kdX4_init_ok : ∀ q ∈ kdX4_init, decode cX4_init q.1 = .ok q.2 := by decide +kernel
def kdX4_forget : List (Nat × Instr × Nat) := [(0, .aload_n 0, 1), (1, .iconst 0, 1), (2, .putfield 26, 3), (5, .return_, 1)]
theorem kdX4_forget_ok : ∀ q ∈ kdX4_forget, decode cX4_forget q.1 = .ok q.2 := by decide +kernel
def kdX4_leastBulges : List (Nat × Instr × Nat) := [(0, .aload_n 0, 1), (1, .iconst (-1), 1), (2, .putfield 30, 3), (5, .aload_n 0, 1), (6, .getfield 22, 3), (9, .iconst 0, 1), (10, .aaload, 1), (11, .aload_n 1, 1), (12, .invokevirtual 33, 3), (15, .aload_n 0, 1), (16, .iconst 0, 1), (17, .iload_n 2, 1), (18, .invokevirtual 39, 3), (21, .aload_n 0, 1), (22, .getfield 30, 3), (25, .ireturn, 1)]
theorem kdX4_leastBulges_ok : ∀ q ∈ kdX4_leastBulges, decode cX4_leastBulges q.1 = .ok q.2 := by decide +kernel
def kdX4_seek : List (Nat × Instr × Nat) := [(0, .iload_n 1, 1), (1, .ifCond .lt 14, 3), (4, .iload_n 1, 1), (5, .iconst 1, 1), (6, .iadd, 1), (7, .aload_n 0, 1), (8, .getfield 22, 3), (11, .arraylength, 1), (12, .if_icmp .lt 4, 3), (15, .return_, 1), (16, .aload_n 0, 1), (17, .getfield 22, 3), (20, .iload_n 1, 1), (21, .aaload, 1), (22, .astore_n 3, 1), (23, .aload_n 3, 1), (24, .invokevirtual 43, 3), (27, .istore 4, 2), (29, .aload_n 0, 1), (30, .getfield 30, 3), (33, .iconst (-1), 1), (34, .if_icmp .eq 13, 3), (37, .iload 4, 2), (39, .aload_n 0, 1), (40, .getfield 30, 3), (43, .if_icmp .lt 4, 3), (46, .return_, 1), (47, .iload_n 2, 1), (48, .ifCond .eq 12, 3), (51, .iload_n 1, 1), (52, .aload_n 0, 1), (53, .getfield 9, 3), (56, .arraylength, 1), (57, .if_icmp .lt 29, 3), (60, .aload_n 0, 1), (61, .iload 4, 2), (63, .putfield 30, 3), (66, .aload_n 0, 1), (67, .iload_n 1, 1), (68, .putfield 26, 3), (71, .aload_n 0, 1), (72, .getfield 9, 3), (75, .iconst 0, 1), (76, .aload_n 0, 1), (77, .getfield 15, 3), (80, .iconst 0, 1), (81, .iload_n 1, 1), (82, .invokestatic 47, 3), (85, .return_, 1), (86, .aload_n 0, 1), (87, .getfield 22, 3), (90, .iload_n 1, 1), (91, .iconst 1, 1), (92, .iadd, 1), (93, .aaload, 1), (94, .astore 5, 2), (96, .iconst 0, 1), (97, .istore 6, 2), (99, .iload 6, 2), (101, .bipush 6, 2), (103, .if_icmp .ge 68, 3), (106, .iconst 1, 1), (107, .iload 6, 2), (109, .ishl, 1), (110, .istore 7, 2), (112, .iload_n 2, 1), (113, .iload 7, 2), (115, .iand, 1), (116, .ifCond .eq 49, 3), (119, .aload 5, 2), (121, .aload_n 3, 1), (122, .invokevirtual 33, 3), (125, .aload 5, 2), (127, .iload 6, 2), (129, .invokevirtual 53, 3), (132, .aload_n 0, 1), (133, .getfield 9, 3), (136, .iload_n 1, 1), (137, .iload 6, 2), (139, .iastore, 1), (140, .aload_n 0, 1), (141, .getfield 18, 3), (144, .aload 5, 2), (146, .invokevirtual 57, 3), (149, .ifCond .ne 16, 3), (152, .aload_n 0, 1), (153, .iload_n 1, 1), (154, .iconst 1, 1), (155, .iadd, 1), (156, .iload_n 2, 1), (157, .iload 7, 2), (159, .iconst (-1), 1), (160, .ixor, 1), (161, .iand, 1), (162, .invokevirtual 39, 3), (165, .iinc 6 1, 3), (168, .goto (-69), 3), (171, .return_, 1)]
theorem kdX4_seek_ok : ∀ q ∈ kdX4_seek, decode cX4_seek q.1 = .ok q.2 := by decide +kernel
def kdX5_init : List (Nat × Instr × Nat) := [(0, .aload_n 0, 1), (1, .invokespecial 3, 3), (4, .aload_n 0, 1), (5, .iconst 5, 1), (6, .newarray .int, 2), (8, .putfield 9, 3), (11, .aload_n 0, 1), (12, .iconst 5, 1), (13, .newarray .int, 2), (15, .putfield 15, 3), (18, .aload_n 0, 1), (19, .aload_n 1, 1), (20, .putfield 18, 3), (23, .aload_n 0, 1), (24, .aload_n 2, 1), (25, .putfield 22, 3), (28, .return_, 1)]
theorem kdX5_init_ok : ∀ q ∈ kdX5_init, decode cX5_init q.1 = .ok q.2 := by decide +kernel
def kdX5_forget : List (Nat × Instr × Nat) := [(0, .aload_n 0, 1), (1, .iconst 0, 1), (2, .putfield 26, 3), (5, .return_, 1)]
theorem kdX5_forget_ok : ∀ q ∈ kdX5_forget, decode cX5_forget q.1 = .ok q.2 := by decide +kernel
def kdX5_weeksTo : List (Nat × Instr × Nat) := [(0, .aload_n 1, 1), (1, .getfield 30, 3), (4, .iload_n 2, 1), (5, .if_icmp .lt 10, 3), (8, .aload_n 0, 1), (9, .iconst 0, 1), (10, .putfield 26, 3), (13, .iconst 0, 1), (14, .ireturn, 1), (15, .aload_n 0, 1), (16, .getfield 22, 3), (19, .iconst 0, 1), (20, .aaload, 1), (21, .aload_n 1, 1), (22, .invokevirtual 35, 3), (25, .iconst 1, 1), (26, .istore_n 3, 1), (27, .iload_n 3, 1), (28, .iconst 5, 1), (29, .if_icmp .gt 40, 3), (32, .aload_n 0, 1), (33, .iconst 0, 1), (34, .iload_n 3, 1), (35, .iload_n 2, 1), (36, .invokevirtual 39, 3), (39, .ifCond .eq 24, 3), (42, .aload_n 0, 1), (43, .getfield 9, 3), (46, .iconst 0, 1), (47, .aload_n 0, 1), (48, .getfield 15, 3), (51, .iconst 0, 1), (52, .iload_n 3, 1), (53, .invokestatic 43, 3), (56, .aload_n 0, 1), (57, .iload_n 3, 1), (58, .putfield 26, 3), (61, .iload_n 3, 1), (62, .ireturn, 1), (63, .iinc 3 1, 3), (66, .goto (-39), 3), (69, .iconst (-1), 1), (70, .ireturn, 1)]
theorem kdX5_weeksTo_ok : ∀ q ∈ kdX5_weeksTo, decode cX5_weeksTo q.1 = .ok q.2 := by decide +kernel
def kdX5_reaches : List (Nat × Instr × Nat) := [(0, .iload_n 1, 1), (1, .ifCond .lt 14, 3), (4, .iload_n 1, 1), (5, .iconst 1, 1), (6, .iadd, 1), (7, .aload_n 0, 1), (8, .getfield 22, 3), (11, .arraylength, 1), (12, .if_icmp .lt 5, 3), (15, .iconst 0, 1), (16, .ireturn, 1), (17, .aload_n 0, 1), (18, .getfield 22, 3), (21, .iload_n 1, 1), (22, .aaload, 1), (23, .astore 4, 2), (25, .iload_n 1, 1), (26, .iload_n 2, 1), (27, .if_icmp .ge 12, 3), (30, .iload_n 1, 1), (31, .aload_n 0, 1), (32, .getfield 9, 3), (35, .arraylength, 1), (36, .if_icmp .lt 18, 3), (39, .aload 4, 2), (41, .getfield 30, 3), (44, .iload_n 3, 1), (45, .if_icmp .lt 7, 3), (48, .iconst 1, 1), (49, .goto 4, 3), (52, .iconst 0, 1), (53, .ireturn, 1), (54, .aload 4, 2), (56, .getfield 30, 3), (59, .iconst 3, 1), (60, .iload_n 2, 1), (61, .iload_n 1, 1), (62, .isub, 1), (63, .imul, 1), (64, .iadd, 1), (65, .iload_n 3, 1), (66, .if_icmp .ge 5, 3), (69, .iconst 0, 1), (70, .ireturn, 1), (71, .iconst 0, 1), (72, .istore 5, 2), (74, .iload 5, 2), (76, .iconst 3, 1), (77, .if_icmp .gt 50, 3), (80, .aload_n 0, 1), (81, .getfield 9, 3), (84, .iload_n 1, 1), (85, .iload 5, 2), (87, .iastore, 1), (88, .aload_n 0, 1), (89, .aload 4, 2), (91, .aload_n 0, 1), (92, .getfield 22, 3), (95, .iload_n 1, 1), (96, .iconst 1, 1), (97, .iadd, 1), (98, .aaload, 1), (99, .iload 5, 2), (101, .invokevirtual 49, 3), (104, .ifCond .eq 17, 3), (107, .aload_n 0, 1), (108, .iload_n 1, 1), (109, .iconst 1, 1), (110, .iadd, 1), (111, .iload_n 2, 1), (112, .iload_n 3, 1), (113, .invokevirtual 39, 3), (116, .ifCond .eq 5, 3), (119, .iconst 1, 1), (120, .ireturn, 1), (121, .iinc 5 1, 3), (124, .goto (-50), 3), (127, .iconst 0, 1), (128, .ireturn, 1)]
theorem kdX5_reaches_ok : ∀ q ∈ kdX5_reaches, decode cX5_reaches q.1 = .ok q.2 := by decide +kernel
def kdX5_bearsLift : List (Nat × Instr × Nat) := [(0, .aload_n 1, 1), (1, .getfield 30, 3), (4, .iload_n 3, 1), (5, .iadd, 1), (6, .bipush 24, 2), (8, .if_icmp .le 5, 3), (11, .iconst 0, 1), (12, .ireturn, 1), (13, .aload_n 2, 1), (14, .aload_n 1, 1), (15, .invokevirtual 35, 3), (18, .aload_n 2, 1), (19, .iload_n 3, 1), (20, .invokevirtual 53, 3), (23, .aload_n 2, 1), (24, .invokevirtual 57, 3), (27, .ifCond .eq 5, 3), (30, .iconst 0, 1), (31, .ireturn, 1), (32, .aload_n 0, 1), (33, .getfield 18, 3), (36, .aload_n 2, 1), (37, .invokevirtual 61, 3), (40, .pop, 1), (41, .aload_n 2, 1), (42, .invokevirtual 57, 3), (45, .ifCond .ne 7, 3), (48, .iconst 1, 1), (49, .goto 4, 3), (52, .iconst 0, 1), (53, .ireturn, 1)]
theorem kdX5_bearsLift_ok : ∀ q ∈ kdX5_bearsLift, decode cX5_bearsLift q.1 = .ok q.2 := by decide +kernel
def kdX6_init : List (Nat × Instr × Nat) := [(0, .aload_n 0, 1), (1, .invokespecial 3, 3), (4, .aload_n 0, 1), (5, .iconst 0, 1), (6, .newarray .byte, 2), (8, .putfield 9, 3), (11, .aload_n 0, 1), (12, .iconst (-1), 1), (13, .putfield 15, 3), (16, .return_, 1)]
theorem kdX6_init_ok : ∀ q ∈ kdX6_init, decode cX6_init q.1 = .ok q.2 := by decide +kernel
def kdX6_read : List (Nat × Instr × Nat) := [(0, .aload_n 0, 1), (1, .aload_n 1, 1), (2, .putfield 9, 3), (5, .aload_n 0, 1), (6, .iconst 0, 1), (7, .iload_n 2, 1), (8, .aload_n 1, 1), (9, .arraylength, 1), (10, .invokestatic 19, 3), (13, .invokestatic 25, 3), (16, .putfield 28, 3), (19, .aload_n 0, 1), (20, .iconst 0, 1), (21, .putfield 31, 3), (24, .aload_n 0, 1), (25, .iconst 0, 1), (26, .putfield 34, 3), (29, .aload_n 0, 1), (30, .iconst (-1), 1), (31, .putfield 15, 3), (34, .aload_n 3, 1), (35, .invokevirtual 37, 3), (38, .aload_n 0, 1), (39, .invokevirtual 42, 3), (42, .iconst 0, 1), (43, .istore 4, 2), (45, .iload 4, 2), (47, .sipush 700, 3), (50, .if_icmp .gt 28, 3), (53, .aload_n 0, 1), (54, .getfield 34, 3), (57, .ifCond .ne 21, 3), (60, .aload_n 0, 1), (61, .getfield 45, 3), (64, .ifCond .eq 14, 3), (67, .aload_n 0, 1), (68, .aload_n 3, 1), (69, .invokevirtual 48, 3), (72, .iinc 4 1, 3), (75, .goto (-30), 3), (78, .aload_n 0, 1), (79, .getfield 34, 3), (82, .ireturn, 1)]
theorem kdX6_read_ok : ∀ q ∈ kdX6_read, decode cX6_read q.1 = .ok q.2 := by decide +kernel
def kdX6_readLine : List (Nat × Instr × Nat) := [(0, .aload_n 0, 1), (1, .ldc 52, 2), (3, .invokevirtual 54, 3), (6, .ifCond .eq 11, 3), (9, .aload_n 0, 1), (10, .aload_n 1, 1), (11, .invokevirtual 58, 3), (14, .goto 42, 3), (17, .aload_n 0, 1), (18, .ldc 61, 2), (20, .invokevirtual 54, 3), (23, .ifCond .eq 11, 3), (26, .aload_n 0, 1), (27, .aload_n 1, 1), (28, .invokevirtual 63, 3), (31, .goto 25, 3), (34, .aload_n 0, 1), (35, .ldc 66, 2), (37, .invokevirtual 54, 3), (40, .ifCond .eq 11, 3), (43, .aload_n 0, 1), (44, .aload_n 1, 1), (45, .invokevirtual 68, 3), (48, .goto 8, 3), (51, .aload_n 0, 1), (52, .iconst 1, 1), (53, .invokevirtual 71, 3), (56, .aload_n 0, 1), (57, .getfield 34, 3), (60, .ifCond .ne 18, 3), (63, .aload_n 0, 1), (64, .getfield 45, 3), (67, .iconst 3, 1), (68, .if_icmp .ne 10, 3), (71, .aload_n 0, 1), (72, .invokevirtual 42, 3), (75, .goto 8, 3), (78, .aload_n 0, 1), (79, .iconst 1, 1), (80, .invokevirtual 71, 3), (83, .return_, 1)]
theorem kdX6_readLine_ok : ∀ q ∈ kdX6_readLine, decode cX6_readLine q.1 = .ok q.2 := by decide +kernel
def kdX6_readEarth : List (Nat × Instr × Nat) := [(0, .aload_n 1, 1), (1, .getfield 75, 3), (4, .ifCond .eq 9, 3), (7, .aload_n 0, 1), (8, .iconst 3, 1), (9, .invokevirtual 71, 3), (12, .return_, 1), (13, .aload_n 1, 1), (14, .iconst 1, 1), (15, .putfield 75, 3), (18, .aload_n 0, 1), (19, .invokevirtual 42, 3), (22, .aload_n 0, 1), (23, .iconst 0, 1), (24, .bipush 99, 2), (26, .invokevirtual 79, 3), (29, .istore_n 2, 1), (30, .aload_n 0, 1), (31, .iconst 0, 1), (32, .bipush 99, 2), (34, .invokevirtual 79, 3), (37, .istore_n 3, 1), (38, .aload_n 0, 1), (39, .iconst 0, 1), (40, .bipush 99, 2), (42, .invokevirtual 79, 3), (45, .istore 4, 2), (47, .aload_n 1, 1), (48, .iload_n 2, 1), (49, .iload_n 3, 1), (50, .iload 4, 2), (52, .invokevirtual 82, 3), (55, .return_, 1)]
theorem kdX6_readEarth_ok : ∀ q ∈ kdX6_readEarth, decode cX6_readEarth q.1 = .ok q.2 := by decide +kernel
def kdX6_readWall : List (Nat × Instr × Nat) := [(0, .aload_n 1, 1), (1, .getfield 86, 3), (4, .iconst 4, 1), (5, .if_icmp .lt 9, 3), (8, .aload_n 0, 1), (9, .iconst 2, 1), (10, .invokevirtual 71, 3), (13, .return_, 1), (14, .aload_n 1, 1), (15, .getfield 86, 3), (18, .bipush 6, 2), (20, .imul, 1), (21, .istore_n 2, 1), (22, .aload_n 1, 1), (23, .dup, 1), (24, .getfield 86, 3), (27, .iconst 1, 1), (28, .iadd, 1), (29, .putfield 86, 3), (32, .aload_n 0, 1), (33, .invokevirtual 42, 3), (36, .aload_n 1, 1), (37, .getfield 89, 3), (40, .iload_n 2, 1), (41, .aload_n 0, 1), (42, .iconst 1, 1), (43, .bipush 6, 2), (45, .invokevirtual 79, 3), (48, .iastore, 1), (49, .aload_n 1, 1), (50, .getfield 89, 3), (53, .iload_n 2, 1), (54, .iconst 1, 1), (55, .iadd, 1), (56, .aload_n 0, 1), (57, .ldc 93, 2), (59, .bipush 20, 2), (61, .iconst 0, 1), (62, .invokevirtual 95, 3), (65, .iastore, 1), (66, .aload_n 1, 1), (67, .getfield 89, 3), (70, .iload_n 2, 1), (71, .iconst 2, 1), (72, .iadd, 1), (73, .aload_n 0, 1), (74, .ldc 99, 2), (76, .bipush 9, 2), (78, .iconst 0, 1), (79, .invokevirtual 95, 3), (82, .iastore, 1), (83, .aload_n 1, 1), (84, .getfield 89, 3), (87, .iload_n 2, 1), (88, .iconst 3, 1), (89, .iadd, 1), (90, .aload_n 0, 1), (91, .ldc 101, 2), (93, .invokevirtual 103, 3), (96, .ifCond .eq 7, 3), (99, .iconst 1, 1), (100, .goto 4, 3), (103, .iconst 0, 1), (104, .iastore, 1), (105, .aload_n 1, 1), (106, .getfield 89, 3), (109, .iload_n 2, 1), (110, .iconst 4, 1), (111, .iadd, 1), (112, .aload_n 0, 1), (113, .ldc 106, 2), (115, .bipush 100, 2), (117, .bipush 100, 2), (119, .invokevirtual 95, 3), (122, .iastore, 1), (123, .aload_n 1, 1), (124, .getfield 89, 3), (127, .iload_n 2, 1), (128, .iconst 5, 1), (129, .iadd, 1), (130, .aload_n 0, 1), (131, .ldc 108, 2), (133, .bipush 100, 2), (135, .bipush 100, 2), (137, .invokevirtual 95, 3), (140, .iastore, 1), (141, .return_, 1)]
theorem kdX6_readWall_ok : ∀ q ∈ kdX6_readWall, decode cX6_readWall q.1 = .ok q.2 := by decide +kernel
def kdX6_readWeek : List (Nat × Instr × Nat) := [(0, .aload_n 1, 1), (1, .getfield 110, 3), (4, .bipush 30, 2), (6, .if_icmp .lt 9, 3), (9, .aload_n 0, 1), (10, .iconst 2, 1), (11, .invokevirtual 71, 3), (14, .return_, 1), (15, .aload_n 1, 1), (16, .getfield 110, 3), (19, .iconst 3, 1), (20, .imul, 1), (21, .istore_n 2, 1), (22, .aload_n 1, 1), (23, .dup, 1), (24, .getfield 110, 3), (27, .iconst 1, 1), (28, .iadd, 1), (29, .putfield 110, 3), (32, .aload_n 0, 1), (33, .invokevirtual 42, 3), (36, .aload_n 1, 1), (37, .getfield 113, 3), (40, .iload_n 2, 1), (41, .aload_n 0, 1), (42, .iconst 0, 1), (43, .bipush 99, 2), (45, .invokevirtual 79, 3), (48, .iastore, 1), (49, .aload_n 1, 1), (50, .getfield 113, 3), (53, .iload_n 2, 1), (54, .iconst 1, 1), (55, .iadd, 1), (56, .aload_n 0, 1), (57, .iconst 0, 1), (58, .bipush 99, 2), (60, .invokevirtual 79, 3), (63, .iastore, 1), (64, .aload_n 1, 1), (65, .getfield 113, 3), (68, .iload_n 2, 1), (69, .iconst 2, 1), (70, .iadd, 1), (71, .aload_n 0, 1), (72, .ldc 116, 2), (74, .invokevirtual 103, 3), (77, .ifCond .eq 7, 3), (80, .iconst 1, 1), (81, .goto 4, 3), (84, .iconst 0, 1), (85, .iastore, 1), (86, .return_, 1)]
theorem kdX6_readWeek_ok : ∀ q ∈ kdX6_readWeek, decode cX6_readWeek q.1 = .ok q.2 := by decide +kernel
def kdX6_refuse : List (Nat × Instr × Nat) := [(0, .aload_n 0, 1), (1, .getfield 34, 3), (4, .ifCond .ne 16, 3), (7, .aload_n 0, 1), (8, .iload_n 1, 1), (9, .putfield 34, 3), (12, .aload_n 0, 1), (13, .aload_n 0, 1), (14, .getfield 118, 3), (17, .putfield 15, 3), (20, .return_, 1)]
theorem kdX6_refuse_ok : ∀ q ∈ kdX6_refuse, decode cX6_refuse q.1 = .ok q.2 := by decide +kernel
def kdX6_takeNumber : List (Nat × Instr × Nat) := [(0, .aload_n 0, 1), (1, .getfield 34, 3), (4, .ifCond .eq 5, 3), (7, .iload_n 1, 1), (8, .ireturn, 1), (9, .aload_n 0, 1), (10, .getfield 45, 3), (13, .iconst 2, 1), (14, .if_icmp .eq 10, 3), (17, .aload_n 0, 1), (18, .iconst 1, 1), (19, .invokevirtual 71, 3), (22, .iload_n 1, 1), (23, .ireturn, 1), (24, .aload_n 0, 1), (25, .invokevirtual 121, 3), (28, .istore_n 3, 1), (29, .iload_n 3, 1), (30, .iload_n 1, 1), (31, .if_icmp .lt 8, 3), (34, .iload_n 3, 1), (35, .iload_n 2, 1), (36, .if_icmp .le 10, 3), (39, .aload_n 0, 1), (40, .iconst 2, 1), (41, .invokevirtual 71, 3), (44, .iload_n 1, 1), (45, .ireturn, 1), (46, .aload_n 0, 1), (47, .invokevirtual 42, 3), (50, .iload_n 3, 1), (51, .ireturn, 1)]
theorem kdX6_takeNumber_ok : ∀ q ∈ kdX6_takeNumber, decode cX6_takeNumber q.1 = .ok q.2 := by decide +kernel
def kdX6_takeOption : List (Nat × Instr × Nat) := [(0, .aload_n 0, 1), (1, .aload_n 1, 1), (2, .invokevirtual 103, 3), (5, .ifCond .eq 12, 3), (8, .aload_n 0, 1), (9, .iconst 0, 1), (10, .iload_n 2, 1), (11, .invokevirtual 79, 3), (14, .goto 4, 3), (17, .iload_n 3, 1), (18, .ireturn, 1)]
theorem kdX6_takeOption_ok : ∀ q ∈ kdX6_takeOption, decode cX6_takeOption q.1 = .ok q.2 := by decide +kernel
def kdX6_takeWord : List (Nat × Instr × Nat) := [(0, .aload_n 0, 1), (1, .getfield 34, 3), (4, .ifCond .ne 11, 3), (7, .aload_n 0, 1), (8, .aload_n 1, 1), (9, .invokevirtual 54, 3), (12, .ifCond .ne 5, 3), (15, .iconst 0, 1), (16, .ireturn, 1), (17, .aload_n 0, 1), (18, .invokevirtual 42, 3), (21, .iconst 1, 1), (22, .ireturn, 1)]
theorem kdX6_takeWord_ok : ∀ q ∈ kdX6_takeWord, decode cX6_takeWord q.1 = .ok q.2 := by decide +kernel
def kdX6_atWord : List (Nat × Instr × Nat) := [(0, .aload_n 0, 1), (1, .getfield 45, 3), (4, .iconst 1, 1), (5, .if_icmp .ne 19, 3), (8, .aload_n 0, 1), (9, .getfield 31, 3), (12, .aload_n 0, 1), (13, .getfield 118, 3), (16, .isub, 1), (17, .aload_n 1, 1), (18, .invokevirtual 125, 3), (21, .if_icmp .eq 5, 3), (24, .iconst 0, 1), (25, .ireturn, 1), (26, .iconst 0, 1), (27, .istore_n 2, 1), (28, .iload_n 2, 1), (29, .aload_n 1, 1), (30, .invokevirtual 125, 3), (33, .if_icmp .ge 43, 3), (36, .aload_n 0, 1), (37, .getfield 118, 3), (40, .iload_n 2, 1), (41, .iadd, 1), (42, .aload_n 0, 1), (43, .getfield 28, 3), (46, .if_icmp .ge 30, 3), (49, .aload_n 0, 1), (50, .getfield 9, 3), (53, .aload_n 0, 1), (54, .getfield 118, 3), (57, .iload_n 2, 1), (58, .iadd, 1), (59, .baload, 1), (60, .aload_n 1, 1), (61, .iload_n 2, 1), (62, .invokevirtual 129, 3), (65, .if_icmp .eq 5, 3), (68, .iconst 0, 1), (69, .ireturn, 1), (70, .iinc 2 1, 3), (73, .goto (-45), 3), (76, .iconst 1, 1), (77, .ireturn, 1)]
theorem kdX6_atWord_ok : ∀ q ∈ kdX6_atWord, decode cX6_atWord q.1 = .ok q.2 := by decide +kernel
def kdX6_numberAtHand : List (Nat × Instr × Nat) := [(0, .aload_n 0, 1), (1, .getfield 31, 3), (4, .aload_n 0, 1), (5, .getfield 118, 3), (8, .isub, 1), (9, .iconst 4, 1), (10, .if_icmp .le 5, 3), (13, .iconst (-1), 1), (14, .ireturn, 1), (15, .iconst 0, 1), (16, .istore_n 1, 1), (17, .aload_n 0, 1), (18, .getfield 118, 3), (21, .istore_n 2, 1), (22, .iload_n 2, 1), (23, .aload_n 0, 1), (24, .getfield 31, 3), (27, .if_icmp .ge 32, 3), (30, .iload_n 2, 1), (31, .aload_n 0, 1), (32, .getfield 28, 3), (35, .if_icmp .ge 24, 3), (38, .iload_n 1, 1), (39, .bipush 10, 2), (41, .imul, 1), (42, .aload_n 0, 1), (43, .getfield 9, 3), (46, .iload_n 2, 1), (47, .baload, 1), (48, .bipush 48, 2), (50, .isub, 1), (51, .iadd, 1), (52, .istore_n 1, 1), (53, .iinc 2 1, 3), (56, .goto (-34), 3), (59, .iload_n 1, 1), (60, .ireturn, 1)]
theorem kdX6_numberAtHand_ok : ∀ q ∈ kdX6_numberAtHand, decode cX6_numberAtHand q.1 = .ok q.2 := by decide +kernel
def kdX6_advance : List (Nat × Instr × Nat) := [(0, .aload_n 0, 1), (1, .aload_n 0, 1), (2, .getfield 31, 3), (5, .putfield 118, 3), (8, .aload_n 0, 1), (9, .getfield 31, 3), (12, .istore_n 1, 1), (13, .iload_n 1, 1), (14, .aload_n 0, 1), (15, .getfield 28, 3), (18, .if_icmp .ge 38, 3), (21, .aload_n 0, 1), (22, .getfield 9, 3), (25, .iload_n 1, 1), (26, .baload, 1), (27, .bipush 32, 2), (29, .if_icmp .eq 14, 3), (32, .aload_n 0, 1), (33, .getfield 9, 3), (36, .iload_n 1, 1), (37, .baload, 1), (38, .bipush 10, 2), (40, .if_icmp .ne 16, 3), (43, .aload_n 0, 1), (44, .iload_n 1, 1), (45, .iconst 1, 1), (46, .iadd, 1), (47, .putfield 118, 3), (50, .iinc 1 1, 3), (53, .goto (-40), 3), (56, .aload_n 0, 1), (57, .aload_n 0, 1), (58, .getfield 118, 3), (61, .putfield 31, 3), (64, .aload_n 0, 1), (65, .getfield 118, 3), (68, .aload_n 0, 1), (69, .getfield 28, 3), (72, .if_icmp .lt 11, 3), (75, .aload_n 0, 1), (76, .iconst 0, 1), (77, .putfield 45, 3), (80, .goto 106, 3), (83, .aload_n 0, 1), (84, .getfield 9, 3), (87, .aload_n 0, 1), (88, .getfield 118, 3), (91, .baload, 1), (92, .bipush 97, 2), (94, .bipush 122, 2), (96, .invokestatic 133, 3), (99, .ifCond .eq 19, 3), (102, .aload_n 0, 1), (103, .iconst 1, 1), (104, .putfield 45, 3), (107, .aload_n 0, 1), (108, .bipush 97, 2), (110, .bipush 122, 2), (112, .invokevirtual 137, 3), (115, .goto 71, 3), (118, .aload_n 0, 1), (119, .getfield 9, 3), (122, .aload_n 0, 1), (123, .getfield 118, 3), (126, .baload, 1), (127, .bipush 48, 2), (129, .bipush 57, 2), (131, .invokestatic 133, 3), (134, .ifCond .eq 19, 3), (137, .aload_n 0, 1), (138, .iconst 2, 1), (139, .putfield 45, 3), (142, .aload_n 0, 1), (143, .bipush 48, 2), (145, .bipush 57, 2), (147, .invokevirtual 137, 3), (150, .goto 36, 3), (153, .aload_n 0, 1), (154, .aload_n 0, 1), (155, .getfield 9, 3), (158, .aload_n 0, 1), (159, .getfield 118, 3), (162, .baload, 1), (163, .bipush 59, 2), (165, .if_icmp .ne 7, 3), (168, .iconst 3, 1), (169, .goto 4, 3), (172, .iconst 4, 1), (173, .putfield 45, 3), (176, .aload_n 0, 1), (177, .aload_n 0, 1), (178, .getfield 118, 3), (181, .iconst 1, 1), (182, .iadd, 1), (183, .putfield 31, 3), (186, .return_, 1)]
theorem kdX6_advance_ok : ∀ q ∈ kdX6_advance, decode cX6_advance q.1 = .ok q.2 := by decide +kernel
def kdX6_skipRow : List (Nat × Instr × Nat) := [(0, .aload_n 0, 1), (1, .getfield 118, 3), (4, .istore_n 3, 1), (5, .iload_n 3, 1), (6, .aload_n 0, 1), (7, .getfield 28, 3), (10, .if_icmp .ge 30, 3), (13, .aload_n 0, 1), (14, .getfield 9, 3), (17, .iload_n 3, 1), (18, .baload, 1), (19, .iload_n 1, 1), (20, .iload_n 2, 1), (21, .invokestatic 133, 3), (24, .ifCond .eq 16, 3), (27, .aload_n 0, 1), (28, .iload_n 3, 1), (29, .iconst 1, 1), (30, .iadd, 1), (31, .putfield 31, 3), (34, .iinc 3 1, 3), (37, .goto (-32), 3), (40, .return_, 1)]
theorem kdX6_skipRow_ok : ∀ q ∈ kdX6_skipRow, decode cX6_skipRow q.1 = .ok q.2 := by decide +kernel
def kdX6_isBetween : List (Nat × Instr × Nat) := [(0, .iload_n 0, 1), (1, .iload_n 1, 1), (2, .if_icmp .lt 12, 3), (5, .iload_n 0, 1), (6, .iload_n 2, 1), (7, .if_icmp .gt 7, 3), (10, .iconst 1, 1), (11, .goto 4, 3), (14, .iconst 0, 1), (15, .ireturn, 1)]
theorem kdX6_isBetween_ok : ∀ q ∈ kdX6_isBetween, decode cX6_isBetween q.1 = .ok q.2 := by decide +kernel
def kdX7_init : List (Nat × Instr × Nat) := [(0, .aload_n 0, 1), (1, .invokespecial 3, 3), (4, .aload_n 0, 1), (5, .aload_n 1, 1), (6, .putfield 9, 3), (9, .aload_n 0, 1), (10, .aload_n 2, 1), (11, .putfield 15, 3), (14, .return_, 1)]
theorem kdX7_init_ok : ∀ q ∈ kdX7_init, decode cX7_init q.1 = .ok q.2 := by decide +kernel
def kdX7_search : List (Nat × Instr × Nat) := [(0, .aload_n 0, 1), (1, .iload_n 3, 1), (2, .putfield 19, 3), (5, .aload_n 0, 1), (6, .iconst (-1), 1), (7, .putfield 23, 3), (10, .aload_n 0, 1), (11, .iconst 0, 1), (12, .putfield 26, 3), (15, .aload_n 0, 1), (16, .getfield 15, 3), (19, .iconst 0, 1), (20, .aaload, 1), (21, .aload_n 1, 1), (22, .invokevirtual 29, 3), (25, .aload_n 0, 1), (26, .getfield 15, 3), (29, .iconst 1, 1), (30, .aaload, 1), (31, .aload_n 2, 1), (32, .invokevirtual 29, 3), (35, .aload_n 0, 1), (36, .iconst 0, 1), (37, .iconst 0, 1), (38, .iconst 0, 1), (39, .invokevirtual 35, 3), (42, .return_, 1)]
theorem kdX7_search_ok : ∀ q ∈ kdX7_search, decode cX7_search q.1 = .ok q.2 := by decide +kernel
def kdX7_seek : List (Nat × Instr × Nat) := [(0, .iload_n 2, 1), (1, .iconst 3, 1), (2, .aload_n 0, 1), (3, .getfield 19, 3), (6, .iload_n 1, 1), (7, .isub, 1), (8, .imul, 1), (9, .iadd, 1), (10, .aload_n 0, 1), (11, .getfield 23, 3), (14, .if_icmp .gt 4, 3), (17, .return_, 1), (18, .iload_n 1, 1), (19, .aload_n 0, 1), (20, .getfield 19, 3), (23, .if_icmp .ge 16, 3), (26, .iconst 2, 1), (27, .iload_n 1, 1), (28, .imul, 1), (29, .iconst 1, 1), (30, .iadd, 1), (31, .aload_n 0, 1), (32, .getfield 15, 3), (35, .arraylength, 1), (36, .if_icmp .lt 14, 3), (39, .aload_n 0, 1), (40, .iload_n 2, 1), (41, .putfield 23, 3), (44, .aload_n 0, 1), (45, .iload_n 3, 1), (46, .putfield 26, 3), (49, .return_, 1), (50, .iconst 0, 1), (51, .istore 4, 2), (53, .iload 4, 2), (55, .iconst 2, 1), (56, .if_icmp .ge 55, 3), (59, .iconst 3, 1), (60, .aload_n 0, 1), (61, .getfield 15, 3), (64, .iconst 2, 1), (65, .iload_n 1, 1), (66, .imul, 1), (67, .iload 4, 2), (69, .iadd, 1), (70, .aaload, 1), (71, .invokevirtual 39, 3), (74, .invokestatic 43, 3), (77, .istore 5, 2), (79, .aload_n 0, 1), (80, .iload_n 1, 1), (81, .iload 4, 2), (83, .iload 5, 2), (85, .invokevirtual 49, 3), (88, .aload_n 0, 1), (89, .iload_n 1, 1), (90, .iconst 1, 1), (91, .iadd, 1), (92, .iload_n 2, 1), (93, .iload 5, 2), (95, .iadd, 1), (96, .iload_n 3, 1), (97, .iload 4, 2), (99, .iload_n 1, 1), (100, .ishl, 1), (101, .ior, 1), (102, .invokevirtual 35, 3), (105, .iinc 4 1, 3), (108, .goto (-55), 3), (111, .return_, 1)]
theorem kdX7_seek_ok : ∀ q ∈ kdX7_seek, decode cX7_seek q.1 = .ok q.2 := by decide +kernel
def kdX7_goOn : List (Nat × Instr × Nat) := [(0, .iconst 2, 1), (1, .iload_n 1, 1), (2, .imul, 1), (3, .istore 4, 2), (5, .iload_n 1, 1), (6, .iconst 1, 1), (7, .iadd, 1), (8, .aload_n 0, 1), (9, .getfield 19, 3), (12, .if_icmp .ge 15, 3), (15, .iload 4, 2), (17, .iconst 3, 1), (18, .iadd, 1), (19, .aload_n 0, 1), (20, .getfield 15, 3), (23, .arraylength, 1), (24, .if_icmp .lt 4, 3), (27, .return_, 1), (28, .aload_n 0, 1), (29, .getfield 15, 3), (32, .iload 4, 2), (34, .iconst 2, 1), (35, .iadd, 1), (36, .aaload, 1), (37, .aload_n 0, 1), (38, .getfield 15, 3), (41, .iload 4, 2), (43, .aaload, 1), (44, .invokevirtual 29, 3), (47, .aload_n 0, 1), (48, .getfield 15, 3), (51, .iload 4, 2), (53, .iconst 3, 1), (54, .iadd, 1), (55, .aaload, 1), (56, .aload_n 0, 1), (57, .getfield 15, 3), (60, .iload 4, 2), (62, .iconst 1, 1), (63, .iadd, 1), (64, .aaload, 1), (65, .invokevirtual 29, 3), (68, .aload_n 0, 1), (69, .getfield 15, 3), (72, .iload 4, 2), (74, .iconst 2, 1), (75, .iadd, 1), (76, .iload_n 2, 1), (77, .iadd, 1), (78, .aaload, 1), (79, .iload_n 3, 1), (80, .invokevirtual 52, 3), (83, .aload_n 0, 1), (84, .getfield 9, 3), (87, .aload_n 0, 1), (88, .getfield 15, 3), (91, .iload 4, 2), (93, .iconst 2, 1), (94, .iadd, 1), (95, .aaload, 1), (96, .invokevirtual 56, 3), (99, .pop, 1), (100, .aload_n 0, 1), (101, .getfield 9, 3), (104, .aload_n 0, 1), (105, .getfield 15, 3), (108, .iload 4, 2), (110, .iconst 3, 1), (111, .iadd, 1), (112, .aaload, 1), (113, .invokevirtual 56, 3), (116, .pop, 1), (117, .return_, 1)]
theorem kdX7_goOn_ok : ∀ q ∈ kdX7_goOn, decode cX7_goOn q.1 = .ok q.2 := by decide +kernel
def kdX8_init : List (Nat × Instr × Nat) := [(0, .aload_n 0, 1), (1, .invokespecial 3, 3), (4, .aload_n 0, 1), (5, .sipush 144, 3), (8, .newarray .int, 2), (10, .putfield 9, 3), (13, .aload_n 0, 1), (14, .sipush 144, 3), (17, .newarray .int, 2), (19, .putfield 15, 3), (22, .aload_n 0, 1), (23, .bipush 24, 2), (25, .newarray .int, 2), (27, .putfield 18, 3), (30, .aload_n 0, 1), (31, .iconst 1, 1), (32, .putfield 21, 3), (35, .aload_n 0, 1), (36, .aload_n 1, 1), (37, .putfield 25, 3), (40, .return_, 1)]
theorem kdX8_init_ok : ∀ q ∈ kdX8_init, decode cX8_init q.1 = .ok q.2 := by decide +kernel
def kdX8_begin : List (Nat × Instr × Nat) := [(0, .iload_n 1, 1), (1, .bipush 6, 2), (3, .imul, 1), (4, .istore_n 2, 1), (5, .iload_n 2, 1), (6, .ifCond .lt 124, 3), (9, .iload_n 2, 1), (10, .bipush 6, 2), (12, .iadd, 1), (13, .aload_n 0, 1), (14, .getfield 25, 3), (17, .getfield 31, 3), (20, .arraylength, 1), (21, .if_icmp .gt 109, 3), (24, .aload_n 0, 1), (25, .iconst 1, 1), (26, .bipush 6, 2), (28, .aload_n 0, 1), (29, .getfield 25, 3), (32, .getfield 31, 3), (35, .iload_n 2, 1), (36, .iaload, 1), (37, .invokestatic 34, 3), (40, .invokestatic 40, 3), (43, .putfield 21, 3), (46, .aload_n 0, 1), (47, .aload_n 0, 1), (48, .getfield 25, 3), (51, .getfield 31, 3), (54, .iload_n 2, 1), (55, .iconst 1, 1), (56, .iadd, 1), (57, .iaload, 1), (58, .putfield 43, 3), (61, .aload_n 0, 1), (62, .aload_n 0, 1), (63, .getfield 25, 3), (66, .getfield 31, 3), (69, .iload_n 2, 1), (70, .iconst 2, 1), (71, .iadd, 1), (72, .iaload, 1), (73, .putfield 46, 3), (76, .aload_n 0, 1), (77, .aload_n 0, 1), (78, .getfield 25, 3), (81, .getfield 31, 3), (84, .iload_n 2, 1), (85, .iconst 3, 1), (86, .iadd, 1), (87, .iaload, 1), (88, .iconst 1, 1), (89, .if_icmp .ne 7, 3), (92, .iconst 1, 1), (93, .goto 4, 3), (96, .iconst 0, 1), (97, .putfield 49, 3), (100, .aload_n 0, 1), (101, .aload_n 0, 1), (102, .getfield 25, 3), (105, .getfield 31, 3), (108, .iload_n 2, 1), (109, .iconst 4, 1), (110, .iadd, 1), (111, .iaload, 1), (112, .putfield 53, 3), (115, .aload_n 0, 1), (116, .aload_n 0, 1), (117, .getfield 25, 3), (120, .getfield 31, 3), (123, .iload_n 2, 1), (124, .iconst 5, 1), (125, .iadd, 1), (126, .iaload, 1), (127, .putfield 56, 3), (130, .aload_n 0, 1), (131, .iconst 0, 1), (132, .putfield 59, 3), (135, .aload_n 0, 1), (136, .iconst 0, 1), (137, .putfield 62, 3), (140, .aload_n 0, 1), (141, .iconst 0, 1), (142, .putfield 65, 3), (145, .aload_n 0, 1), (146, .iconst 0, 1), (147, .putfield 68, 3), (150, .aload_n 0, 1), (151, .iconst 0, 1), (152, .putfield 71, 3), (155, .aload_n 0, 1), (156, .iconst 0, 1), (157, .putfield 74, 3), (160, .aload_n 0, 1), (161, .iconst 0, 1), (162, .putfield 77, 3), (165, .return_, 1)]
theorem kdX8_begin_ok : ∀ q ∈ kdX8_begin, decode cX8_begin q.1 = .ok q.2 := by decide +kernel
def kdX8_become : List (Nat × Instr × Nat) := [(0, .aload_n 0, 1), (1, .aload_n 1, 1), (2, .getfield 21, 3), (5, .putfield 21, 3), (8, .aload_n 0, 1), (9, .aload_n 1, 1), (10, .getfield 62, 3), (13, .putfield 62, 3), (16, .aload_n 0, 1), (17, .aload_n 1, 1), (18, .getfield 43, 3), (21, .putfield 43, 3), (24, .aload_n 0, 1), (25, .aload_n 1, 1), (26, .getfield 46, 3), (29, .putfield 46, 3), (32, .aload_n 0, 1), (33, .aload_n 1, 1), (34, .getfield 49, 3), (37, .putfield 49, 3), (40, .aload_n 0, 1), (41, .aload_n 1, 1), (42, .getfield 53, 3), (45, .putfield 53, 3), (48, .aload_n 0, 1), (49, .aload_n 1, 1), (50, .getfield 56, 3), (53, .putfield 56, 3), (56, .aload_n 0, 1), (57, .aload_n 1, 1), (58, .getfield 59, 3), (61, .putfield 59, 3), (64, .aload_n 0, 1), (65, .aload_n 1, 1), (66, .getfield 65, 3), (69, .putfield 65, 3), (72, .aload_n 0, 1), (73, .aload_n 1, 1), (74, .getfield 68, 3), (77, .putfield 68, 3), (80, .aload_n 0, 1), (81, .aload_n 1, 1), (82, .getfield 71, 3), (85, .putfield 71, 3), (88, .aload_n 0, 1), (89, .aload_n 1, 1), (90, .getfield 74, 3), (93, .putfield 74, 3), (96, .aload_n 0, 1), (97, .aload_n 1, 1), (98, .getfield 77, 3), (101, .putfield 77, 3), (104, .aload_n 1, 1), (105, .getfield 9, 3), (108, .iconst 0, 1), (109, .aload_n 0, 1), (110, .getfield 9, 3), (113, .iconst 0, 1), (114, .aload_n 0, 1), (115, .getfield 62, 3), (118, .bipush 6, 2), (120, .imul, 1), (121, .invokestatic 80, 3), (124, .aload_n 1, 1), (125, .getfield 15, 3), (128, .iconst 0, 1), (129, .aload_n 0, 1), (130, .getfield 15, 3), (133, .iconst 0, 1), (134, .aload_n 0, 1), (135, .getfield 62, 3), (138, .bipush 6, 2), (140, .imul, 1), (141, .invokestatic 80, 3), (144, .aload_n 1, 1), (145, .getfield 18, 3), (148, .iconst 0, 1), (149, .aload_n 0, 1), (150, .getfield 18, 3), (153, .iconst 0, 1), (154, .aload_n 0, 1), (155, .getfield 62, 3), (158, .invokestatic 80, 3), (161, .return_, 1)]
theorem kdX8_become_ok : ∀ q ∈ kdX8_become, decode cX8_become q.1 = .ok q.2 := by decide +kernel
def kdX8_standsLike : List (Nat × Instr × Nat) := [(0, .aload_n 0, 1), (1, .getfield 62, 3), (4, .aload_n 1, 1), (5, .getfield 62, 3), (8, .if_icmp .ne 14, 3), (11, .aload_n 0, 1), (12, .getfield 21, 3), (15, .aload_n 1, 1), (16, .getfield 21, 3), (19, .if_icmp .eq 5, 3), (22, .iconst 0, 1), (23, .ireturn, 1), (24, .iconst 0, 1), (25, .istore_n 2, 1), (26, .iload_n 2, 1), (27, .aload_n 0, 1), (28, .getfield 62, 3), (31, .if_icmp .ge 87, 3), (34, .aload_n 0, 1), (35, .getfield 18, 3), (38, .iload_n 2, 1), (39, .iaload, 1), (40, .aload_n 1, 1), (41, .getfield 18, 3), (44, .iload_n 2, 1), (45, .iaload, 1), (46, .if_icmp .eq 5, 3), (49, .iconst 0, 1), (50, .ireturn, 1), (51, .iload_n 2, 1), (52, .bipush 6, 2), (54, .imul, 1), (55, .istore_n 3, 1), (56, .iload_n 3, 1), (57, .istore 4, 2), (59, .iload 4, 2), (61, .iload_n 3, 1), (62, .aload_n 0, 1), (63, .getfield 21, 3), (66, .iadd, 1), (67, .if_icmp .ge 45, 3), (70, .aload_n 0, 1), (71, .getfield 9, 3), (74, .iload 4, 2), (76, .iaload, 1), (77, .aload_n 1, 1), (78, .getfield 9, 3), (81, .iload 4, 2), (83, .iaload, 1), (84, .if_icmp .ne 20, 3), (87, .aload_n 0, 1), (88, .getfield 15, 3), (91, .iload 4, 2), (93, .iaload, 1), (94, .aload_n 1, 1), (95, .getfield 15, 3), (98, .iload 4, 2), (100, .iaload, 1), (101, .if_icmp .eq 5, 3), (104, .iconst 0, 1), (105, .ireturn, 1), (106, .iinc 4 1, 3), (109, .goto (-50), 3), (112, .iinc 2 1, 3), (115, .goto (-89), 3), (118, .iconst 1, 1), (119, .ireturn, 1)]
theorem kdX8_standsLike_ok : ∀ q ∈ kdX8_standsLike, decode cX8_standsLike q.1 = .ok q.2 := by decide +kernel
def kdX8_raise : List (Nat × Instr × Nat) := [(0, .iconst 0, 1), (1, .istore_n 2, 1), (2, .iload_n 2, 1), (3, .iload_n 1, 1), (4, .if_icmp .ge 101, 3), (7, .aload_n 0, 1), (8, .getfield 62, 3), (11, .bipush 24, 2), (13, .if_icmp .ge 92, 3), (16, .aload_n 0, 1), (17, .getfield 62, 3), (20, .bipush 6, 2), (22, .imul, 1), (23, .istore_n 3, 1), (24, .iload_n 3, 1), (25, .istore 4, 2), (27, .iload 4, 2), (29, .iload_n 3, 1), (30, .aload_n 0, 1), (31, .getfield 21, 3), (34, .iadd, 1), (35, .if_icmp .ge 27, 3), (38, .aload_n 0, 1), (39, .getfield 9, 3), (42, .iload 4, 2), (44, .sipush 200, 3), (47, .iastore, 1), (48, .aload_n 0, 1), (49, .getfield 15, 3), (52, .iload 4, 2), (54, .iconst 0, 1), (55, .iastore, 1), (56, .iinc 4 1, 3), (59, .goto (-32), 3), (62, .aload_n 0, 1), (63, .getfield 18, 3), (66, .aload_n 0, 1), (67, .getfield 62, 3), (70, .iconst 0, 1), (71, .iastore, 1), (72, .aload_n 0, 1), (73, .dup, 1), (74, .getfield 74, 3), (77, .aload_n 0, 1), (78, .getfield 21, 3), (81, .sipush 200, 3), (84, .imul, 1), (85, .iadd, 1), (86, .putfield 74, 3), (89, .aload_n 0, 1), (90, .dup, 1), (91, .getfield 62, 3), (94, .iconst 1, 1), (95, .iadd, 1), (96, .putfield 62, 3), (99, .iinc 2 1, 3), (102, .goto (-100), 3), (105, .return_, 1)]
theorem kdX8_raise_ok : ∀ q ∈ kdX8_raise, decode cX8_raise q.1 = .ok q.2 := by decide +kernel
def kdX8_dropFrom : List (Nat × Instr × Nat) := [(0, .iload_n 1, 1), (1, .ifCond .lt 30, 3), (4, .iload_n 1, 1), (5, .aload_n 0, 1), (6, .getfield 62, 3), (9, .if_icmp .ge 22, 3), (12, .aload_n 0, 1), (13, .dup, 1), (14, .getfield 77, 3), (17, .aload_n 0, 1), (18, .iload_n 1, 1), (19, .invokevirtual 86, 3), (22, .iadd, 1), (23, .putfield 77, 3), (26, .aload_n 0, 1), (27, .iload_n 1, 1), (28, .putfield 62, 3), (31, .return_, 1)]
theorem kdX8_dropFrom_ok : ∀ q ∈ kdX8_dropFrom, decode cX8_dropFrom q.1 = .ok q.2 := by decide +kernel
def kdX8_fallFrom : List (Nat × Instr × Nat) := [(0, .iload_n 1, 1), (1, .ifCond .lt 35, 3), (4, .iload_n 1, 1), (5, .aload_n 0, 1), (6, .getfield 62, 3), (9, .if_icmp .ge 27, 3), (12, .aload_n 0, 1), (13, .aload_n 0, 1), (14, .iload_n 1, 1), (15, .invokevirtual 90, 3), (18, .putfield 71, 3), (21, .aload_n 0, 1), (22, .dup, 1), (23, .getfield 68, 3), (26, .iconst 1, 1), (27, .iadd, 1), (28, .putfield 68, 3), (31, .aload_n 0, 1), (32, .iload_n 1, 1), (33, .invokevirtual 93, 3), (36, .return_, 1)]
theorem kdX8_fallFrom_ok : ∀ q ∈ kdX8_fallFrom, decode cX8_fallFrom q.1 = .ok q.2 := by decide +kernel
def kdX8_whyGivesWay : List (Nat × Instr × Nat) := [(0, .iload_n 1, 1), (1, .bipush 6, 2), (3, .imul, 1), (4, .istore_n 2, 1), (5, .iconst 0, 1), (6, .istore_n 3, 1), (7, .iconst 1, 1), (8, .istore 4, 2), (10, .iload_n 2, 1), (11, .istore 5, 2), (13, .iload 5, 2), (15, .iload_n 2, 1), (16, .aload_n 0, 1), (17, .getfield 21, 3), (20, .iadd, 1), (21, .if_icmp .ge 44, 3), (24, .iload_n 3, 1), (25, .aload_n 0, 1), (26, .getfield 15, 3), (29, .iload 5, 2), (31, .iaload, 1), (32, .ior, 1), (33, .istore_n 3, 1), (34, .iload 4, 2), (36, .ifCond .eq 20, 3), (39, .aload_n 0, 1), (40, .getfield 9, 3), (43, .iload 5, 2), (45, .iaload, 1), (46, .sipush 180, 3), (49, .if_icmp .lt 7, 3), (52, .iconst 1, 1), (53, .goto 4, 3), (56, .iconst 0, 1), (57, .istore 4, 2), (59, .iinc 5 1, 3), (62, .goto (-49), 3), (65, .iload_n 3, 1), (66, .iconst 2, 1), (67, .iand, 1), (68, .ifCond .eq 5, 3), (71, .iconst 1, 1), (72, .ireturn, 1), (73, .iload 4, 2), (75, .ifCond .eq 5, 3), (78, .iconst 2, 1), (79, .ireturn, 1), (80, .iload_n 3, 1), (81, .iconst 1, 1), (82, .iand, 1), (83, .ifCond .eq 7, 3), (86, .iconst 3, 1), (87, .goto 4, 3), (90, .iconst 4, 1), (91, .ireturn, 1)]
theorem kdX8_whyGivesWay_ok : ∀ q ∈ kdX8_whyGivesWay, decode cX8_whyGivesWay q.1 = .ok q.2 := by decide +kernel
def kdX8_waterFrom : List (Nat × Instr × Nat) := [(0, .iconst 0, 1), (1, .istore_n 2, 1), (2, .iload_n 1, 1), (3, .istore_n 3, 1), (4, .iload_n 3, 1), (5, .ifCond .lt 55, 3), (8, .iload_n 3, 1), (9, .aload_n 0, 1), (10, .getfield 62, 3), (13, .if_icmp .ge 47, 3), (16, .iload_n 3, 1), (17, .bipush 6, 2), (19, .imul, 1), (20, .istore 4, 2), (22, .iload 4, 2), (24, .istore 5, 2), (26, .iload 5, 2), (28, .iload 4, 2), (30, .aload_n 0, 1), (31, .getfield 21, 3), (34, .iadd, 1), (35, .if_icmp .ge 19, 3), (38, .iload_n 2, 1), (39, .aload_n 0, 1), (40, .getfield 9, 3), (43, .iload 5, 2), (45, .iaload, 1), (46, .iadd, 1), (47, .istore_n 2, 1), (48, .iinc 5 1, 3), (51, .goto (-25), 3), (54, .iinc 3 1, 3), (57, .goto (-53), 3), (60, .iload_n 2, 1), (61, .ireturn, 1)]
theorem kdX8_waterFrom_ok : ∀ q ∈ kdX8_waterFrom, decode cX8_waterFrom q.1 = .ok q.2 := by decide +kernel
def kdX8_pour : List (Nat × Instr × Nat) := [(0, .iload_n 2, 1), (1, .sipush 400, 3), (4, .aload_n 0, 1), (5, .getfield 9, 3), (8, .iload_n 1, 1), (9, .iaload, 1), (10, .isub, 1), (11, .invokestatic 34, 3), (14, .istore_n 3, 1), (15, .aload_n 0, 1), (16, .getfield 9, 3), (19, .iload_n 1, 1), (20, .dup2, 1), (21, .iaload, 1), (22, .iload_n 3, 1), (23, .iadd, 1), (24, .iastore, 1), (25, .aload_n 0, 1), (26, .dup, 1), (27, .getfield 74, 3), (30, .iload_n 3, 1), (31, .iadd, 1), (32, .putfield 74, 3), (35, .return_, 1)]
theorem kdX8_pour_ok : ∀ q ∈ kdX8_pour, decode cX8_pour q.1 = .ok q.2 := by decide +kernel
def kdX8_evaporate : List (Nat × Instr × Nat) := [(0, .iload_n 2, 1), (1, .aload_n 0, 1), (2, .getfield 9, 3), (5, .iload_n 1, 1), (6, .iaload, 1), (7, .invokestatic 34, 3), (10, .istore_n 3, 1), (11, .aload_n 0, 1), (12, .getfield 9, 3), (15, .iload_n 1, 1), (16, .dup2, 1), (17, .iaload, 1), (18, .iload_n 3, 1), (19, .isub, 1), (20, .iastore, 1), (21, .aload_n 0, 1), (22, .dup, 1), (23, .getfield 77, 3), (26, .iload_n 3, 1), (27, .iadd, 1), (28, .putfield 77, 3), (31, .return_, 1)]
theorem kdX8_evaporate_ok : ∀ q ∈ kdX8_evaporate, decode cX8_evaporate q.1 = .ok q.2 := by decide +kernel
def kdX8_crack : List (Nat × Instr × Nat) := [(0, .aload_n 0, 1), (1, .getfield 15, 3), (4, .iload_n 1, 1), (5, .dup2, 1), (6, .iaload, 1), (7, .iconst 1, 1), (8, .ior, 1), (9, .iastore, 1), (10, .return_, 1)]
theorem kdX8_crack_ok : ∀ q ∈ kdX8_crack, decode cX8_crack q.1 = .ok q.2 := by decide +kernel
def kdX8_makeHollow : List (Nat × Instr × Nat) := [(0, .aload_n 0, 1), (1, .getfield 15, 3), (4, .iload_n 1, 1), (5, .dup2, 1), (6, .iaload, 1), (7, .iconst 2, 1), (8, .ior, 1), (9, .iastore, 1), (10, .return_, 1)]
theorem kdX8_makeHollow_ok : ∀ q ∈ kdX8_makeHollow, decode cX8_makeHollow q.1 = .ok q.2 := by decide +kernel
def kdX8_isCracked : List (Nat × Instr × Nat) := [(0, .aload_n 0, 1), (1, .getfield 15, 3), (4, .iload_n 1, 1), (5, .iaload, 1), (6, .iconst 1, 1), (7, .iand, 1), (8, .ifCond .eq 7, 3), (11, .iconst 1, 1), (12, .goto 4, 3), (15, .iconst 0, 1), (16, .ireturn, 1)]
theorem kdX8_isCracked_ok : ∀ q ∈ kdX8_isCracked, decode cX8_isCracked q.1 = .ok q.2 := by decide +kernel
def kdX8_isHollow : List (Nat × Instr × Nat) := [(0, .aload_n 0, 1), (1, .getfield 15, 3), (4, .iload_n 1, 1), (5, .iaload, 1), (6, .iconst 2, 1), (7, .iand, 1), (8, .ifCond .eq 7, 3), (11, .iconst 1, 1), (12, .goto 4, 3), (15, .iconst 0, 1), (16, .ireturn, 1)]
theorem kdX8_isHollow_ok : ∀ q ∈ kdX8_isHollow, decode cX8_isHollow q.1 = .ok q.2 := by decide +kernel
def kdX8_stiffness : List (Nat × Instr × Nat) := [(0, .aload_n 0, 1), (1, .getfield 9, 3), (4, .iload_n 1, 1), (5, .iaload, 1), (6, .sipush 180, 3), (9, .if_icmp .lt 5, 3), (12, .iconst 2, 1), (13, .ireturn, 1), (14, .aload_n 0, 1), (15, .getfield 9, 3), (18, .iload_n 1, 1), (19, .iaload, 1), (20, .bipush 120, 2), (22, .if_icmp .gt 7, 3), (25, .iconst 0, 1), (26, .goto 4, 3), (29, .iconst 1, 1), (30, .ireturn, 1)]
theorem kdX8_stiffness_ok : ∀ q ∈ kdX8_stiffness, decode cX8_stiffness q.1 = .ok q.2 := by decide +kernel
def kdX8_strength : List (Nat × Instr × Nat) := [(0, .aload_n 0, 1), (1, .getfield 15, 3), (4, .iload_n 1, 1), (5, .iaload, 1), (6, .iconst 2, 1), (7, .iand, 1), (8, .ifCond .eq 5, 3), (11, .iconst 0, 1), (12, .ireturn, 1), (13, .sipush 180, 3), (16, .aload_n 0, 1), (17, .getfield 9, 3), (20, .iload_n 1, 1), (21, .iaload, 1), (22, .isub, 1), (23, .istore_n 2, 1), (24, .iload_n 2, 1), (25, .ifCond .ge 7, 3), (28, .iconst 0, 1), (29, .goto 15, 3), (32, .iload_n 2, 1), (33, .bipush 60, 2), (35, .if_icmp .le 8, 3), (38, .bipush 60, 2), (40, .goto 4, 3), (43, .iload_n 2, 1), (44, .istore_n 3, 1), (45, .aload_n 0, 1), (46, .getfield 25, 3), (49, .getfield 97, 3), (52, .aload_n 0, 1), (53, .getfield 25, 3), (56, .getfield 100, 3), (59, .iload_n 3, 1), (60, .imul, 1), (61, .bipush 60, 2), (63, .idiv, 1), (64, .iadd, 1), (65, .istore 4, 2), (67, .aload_n 0, 1), (68, .getfield 15, 3), (71, .iload_n 1, 1), (72, .iaload, 1), (73, .iconst 1, 1), (74, .iand, 1), (75, .ifCond .eq 10, 3), (78, .iload 4, 2), (80, .iconst 2, 1), (81, .idiv, 1), (82, .goto 5, 3), (85, .iload 4, 2), (87, .ireturn, 1)]
theorem kdX8_strength_ok : ∀ q ∈ kdX8_strength, decode cX8_strength q.1 = .ok q.2 := by decide +kernel
def kdX8_load : List (Nat × Instr × Nat) := [(0, .aload_n 0, 1), (1, .getfield 15, 3), (4, .iload_n 1, 1), (5, .iaload, 1), (6, .iconst 2, 1), (7, .iand, 1), (8, .ifCond .eq 7, 3), (11, .iconst 0, 1), (12, .goto 15, 3), (15, .bipush 10, 2), (17, .aload_n 0, 1), (18, .getfield 9, 3), (21, .iload_n 1, 1), (22, .iaload, 1), (23, .bipush 50, 2), (25, .idiv, 1), (26, .iadd, 1), (27, .ireturn, 1)]
theorem kdX8_load_ok : ∀ q ∈ kdX8_load, decode cX8_load q.1 = .ok q.2 := by decide +kernel
def kdX8_propBears : List (Nat × Instr × Nat) := [(0, .aload_n 0, 1), (1, .getfield 59, 3), (4, .ifCond .eq 8, 3), (7, .bipush 50, 2), (9, .goto 4, 3), (12, .iconst 0, 1), (13, .ireturn, 1)]
theorem kdX8_propBears_ok : ∀ q ∈ kdX8_propBears, decode cX8_propBears q.1 = .ok q.2 := by decide +kernel
def kdX8_bears : List (Nat × Instr × Nat) := [(0, .iload_n 1, 1), (1, .bipush 6, 2), (3, .imul, 1), (4, .istore_n 2, 1), (5, .aload_n 0, 1), (6, .invokevirtual 103, 3), (9, .istore_n 3, 1), (10, .iload_n 2, 1), (11, .istore 4, 2), (13, .iload 4, 2), (15, .iload_n 2, 1), (16, .aload_n 0, 1), (17, .getfield 21, 3), (20, .iadd, 1), (21, .if_icmp .ge 18, 3), (24, .iload_n 3, 1), (25, .aload_n 0, 1), (26, .iload 4, 2), (28, .invokevirtual 107, 3), (31, .iadd, 1), (32, .istore_n 3, 1), (33, .iinc 4 1, 3), (36, .goto (-23), 3), (39, .iload_n 3, 1), (40, .ireturn, 1)]
theorem kdX8_bears_ok : ∀ q ∈ kdX8_bears, decode cX8_bears q.1 = .ok q.2 := by decide +kernel
def kdX8_loads : List (Nat × Instr × Nat) := [(0, .iload_n 1, 1), (1, .bipush 6, 2), (3, .imul, 1), (4, .istore_n 2, 1), (5, .iconst 0, 1), (6, .istore_n 3, 1), (7, .iload_n 2, 1), (8, .istore 4, 2), (10, .iload 4, 2), (12, .iload_n 2, 1), (13, .aload_n 0, 1), (14, .getfield 21, 3), (17, .iadd, 1), (18, .if_icmp .ge 18, 3), (21, .iload_n 3, 1), (22, .aload_n 0, 1), (23, .iload 4, 2), (25, .invokevirtual 110, 3), (28, .iadd, 1), (29, .istore_n 3, 1), (30, .iinc 4 1, 3), (33, .goto (-23), 3), (36, .iload_n 3, 1), (37, .ireturn, 1)]
theorem kdX8_loads_ok : ∀ q ∈ kdX8_loads, decode cX8_loads q.1 = .ok q.2 := by decide +kernel
def kdX8_presses : List (Nat × Instr × Nat) := [(0, .iconst 0, 1), (1, .istore_n 2, 1), (2, .iload_n 1, 1), (3, .iconst 1, 1), (4, .iadd, 1), (5, .istore_n 3, 1), (6, .iload_n 3, 1), (7, .aload_n 0, 1), (8, .getfield 62, 3), (11, .if_icmp .ge 17, 3), (14, .iload_n 2, 1), (15, .aload_n 0, 1), (16, .iload_n 3, 1), (17, .invokevirtual 113, 3), (20, .iadd, 1), (21, .istore_n 2, 1), (22, .iinc 3 1, 3), (25, .goto (-19), 3), (28, .iload_n 2, 1), (29, .ireturn, 1)]
theorem kdX8_presses_ok : ∀ q ∈ kdX8_presses, decode cX8_presses q.1 = .ok q.2 := by decide +kernel
def kdX8_spare : List (Nat × Instr × Nat) := [(0, .ldc 116, 2), (2, .istore_n 1, 1), (3, .iconst 0, 1), (4, .istore_n 2, 1), (5, .aload_n 0, 1), (6, .getfield 62, 3), (9, .iconst 1, 1), (10, .isub, 1), (11, .istore_n 3, 1), (12, .iload_n 3, 1), (13, .ifCond .lt 29, 3), (16, .iload_n 1, 1), (17, .aload_n 0, 1), (18, .iload_n 3, 1), (19, .invokevirtual 117, 3), (22, .iload_n 2, 1), (23, .isub, 1), (24, .invokestatic 34, 3), (27, .istore_n 1, 1), (28, .iload_n 2, 1), (29, .aload_n 0, 1), (30, .iload_n 3, 1), (31, .invokevirtual 113, 3), (34, .iadd, 1), (35, .istore_n 2, 1), (36, .iinc 3 (-1), 3), (39, .goto (-27), 3), (42, .iload_n 1, 1), (43, .ireturn, 1)]
theorem kdX8_spare_ok : ∀ q ∈ kdX8_spare, decode cX8_spare q.1 = .ok q.2 := by decide +kernel
def kdX8_anySits : List (Nat × Instr × Nat) := [(0, .aload_n 0, 1), (1, .invokevirtual 120, 3), (4, .ifCond .ge 7, 3), (7, .iconst 1, 1), (8, .goto 4, 3), (11, .iconst 0, 1), (12, .ireturn, 1)]
theorem kdX8_anySits_ok : ∀ q ∈ kdX8_anySits, decode cX8_anySits q.1 = .ok q.2 := by decide +kernel
def kdX8_roomAbove : List (Nat × Instr × Nat) := [(0, .aload_n 0, 1), (1, .invokevirtual 120, 3), (4, .istore_n 1, 1), (5, .aload_n 0, 1), (6, .getfield 21, 3), (9, .bipush 14, 2), (11, .imul, 1), (12, .istore_n 2, 1), (13, .aload_n 0, 1), (14, .getfield 21, 3), (17, .aload_n 0, 1), (18, .getfield 25, 3), (21, .getfield 97, 3), (24, .imul, 1), (25, .aload_n 0, 1), (26, .invokevirtual 103, 3), (29, .iadd, 1), (30, .istore_n 3, 1), (31, .iconst 0, 1), (32, .istore 4, 2), (34, .iconst 1, 1), (35, .istore 5, 2), (37, .iload 5, 2), (39, .bipush 9, 2), (41, .if_icmp .gt 43, 3), (44, .aload_n 0, 1), (45, .getfield 62, 3), (48, .iload 5, 2), (50, .iadd, 1), (51, .bipush 24, 2), (53, .if_icmp .gt 31, 3), (56, .iload 5, 2), (58, .iload_n 2, 1), (59, .imul, 1), (60, .iload_n 1, 1), (61, .if_icmp .gt 17, 3), (64, .iload 5, 2), (66, .iconst 1, 1), (67, .isub, 1), (68, .iload_n 2, 1), (69, .imul, 1), (70, .iload_n 3, 1), (71, .if_icmp .gt 7, 3), (74, .iload 5, 2), (76, .istore 4, 2), (78, .iinc 5 1, 3), (81, .goto (-44), 3), (84, .iload 4, 2), (86, .ireturn, 1)]
theorem kdX8_roomAbove_ok : ∀ q ∈ kdX8_roomAbove, decode cX8_roomAbove q.1 = .ok q.2 := by decide +kernel
def kdX8_improve : List (Nat × Instr × Nat) := [(0, .iload_n 1, 1), (1, .tableswitch 99 0 5 #[39, 48, 57, 65, 83, 91], 39), (40, .aload_n 0, 1), (41, .bipush 100, 2), (43, .putfield 53, 3), (46, .goto 54, 3), (49, .aload_n 0, 1), (50, .bipush 100, 2), (52, .putfield 56, 3), (55, .goto 45, 3), (58, .aload_n 0, 1), (59, .iconst 1, 1), (60, .putfield 49, 3), (63, .goto 37, 3), (66, .aload_n 0, 1), (67, .bipush 9, 2), (69, .aload_n 0, 1), (70, .getfield 46, 3), (73, .iconst 3, 1), (74, .iadd, 1), (75, .invokestatic 34, 3), (78, .putfield 46, 3), (81, .goto 19, 3), (84, .aload_n 0, 1), (85, .iconst 1, 1), (86, .putfield 59, 3), (89, .goto 11, 3), (92, .aload_n 0, 1), (93, .iconst 0, 1), (94, .putfield 43, 3), (97, .goto 3, 3), (100, .return_, 1)]
theorem kdX8_improve_ok : ∀ q ∈ kdX8_improve, decode cX8_improve q.1 = .ok q.2 := by decide +kernel
def kdX8_footIsPaste : List (Nat × Instr × Nat) := [(0, .iconst 0, 1), (1, .istore_n 1, 1), (2, .iload_n 1, 1), (3, .aload_n 0, 1), (4, .getfield 21, 3), (7, .if_icmp .ge 30, 3), (10, .aload_n 0, 1), (11, .getfield 62, 3), (14, .ifCond .le 23, 3), (17, .aload_n 0, 1), (18, .getfield 9, 3), (21, .iload_n 1, 1), (22, .iaload, 1), (23, .sipush 180, 3), (26, .if_icmp .lt 5, 3), (29, .iconst 1, 1), (30, .ireturn, 1), (31, .iinc 1 1, 3), (34, .goto (-32), 3), (37, .iconst 0, 1), (38, .ireturn, 1)]
theorem kdX8_footIsPaste_ok : ∀ q ∈ kdX8_footIsPaste, decode cX8_footIsPaste q.1 = .ok q.2 := by decide +kernel
def kdX8_bulges : List (Nat × Instr × Nat) := [(0, .iconst 0, 1), (1, .istore_n 1, 1), (2, .iconst 0, 1), (3, .istore_n 2, 1), (4, .iload_n 2, 1), (5, .aload_n 0, 1), (6, .getfield 62, 3), (9, .if_icmp .ge 18, 3), (12, .iload_n 1, 1), (13, .aload_n 0, 1), (14, .getfield 18, 3), (17, .iload_n 2, 1), (18, .iaload, 1), (19, .iadd, 1), (20, .istore_n 1, 1), (21, .iinc 2 1, 3), (24, .goto (-20), 3), (27, .iload_n 1, 1), (28, .ireturn, 1)]
theorem kdX8_bulges_ok : ∀ q ∈ kdX8_bulges, decode cX8_bulges q.1 = .ok q.2 := by decide +kernel
def kdX9_init : List (Nat × Instr × Nat) := [(0, .aload_n 0, 1), (1, .invokespecial 3, 3), (4, .aload_n 0, 1), (5, .sipush 144, 3), (8, .newarray .int, 2), (10, .putfield 9, 3), (13, .aload_n 0, 1), (14, .sipush 144, 3), (17, .newarray .int, 2), (19, .putfield 15, 3), (22, .aload_n 0, 1), (23, .aload_n 1, 1), (24, .putfield 18, 3), (27, .return_, 1)]
theorem kdX9_init_ok : ∀ q ∈ kdX9_init, decode cX9_init q.1 = .ok q.2 := by decide +kernel
def kdX9_pass : List (Nat × Instr × Nat) := [(0, .iconst 0, 1), (1, .istore_n 2, 1), (2, .bipush 20, 2), (4, .istore_n 3, 1), (5, .iconst 0, 1), (6, .istore 4, 2), (8, .aload_n 0, 1), (9, .getfield 18, 3), (12, .getfield 22, 3), (15, .ifCond .le 68, 3), (18, .aload_n 1, 1), (19, .getfield 28, 3), (22, .aload_n 0, 1), (23, .getfield 18, 3), (26, .getfield 22, 3), (29, .invokestatic 33, 3), (32, .iconst 3, 1), (33, .imul, 1), (34, .istore 5, 2), (36, .aload_n 0, 1), (37, .getfield 18, 3), (40, .getfield 39, 3), (43, .iload 5, 2), (45, .iaload, 1), (46, .istore_n 2, 1), (47, .aload_n 0, 1), (48, .getfield 18, 3), (51, .getfield 39, 3), (54, .iload 5, 2), (56, .iconst 1, 1), (57, .iadd, 1), (58, .iaload, 1), (59, .istore_n 3, 1), (60, .aload_n 0, 1), (61, .getfield 18, 3), (64, .getfield 39, 3), (67, .iload 5, 2), (69, .iconst 2, 1), (70, .iadd, 1), (71, .iaload, 1), (72, .iconst 1, 1), (73, .if_icmp .ne 7, 3), (76, .iconst 1, 1), (77, .goto 4, 3), (80, .iconst 0, 1), (81, .istore 4, 2), (83, .aload_n 1, 1), (84, .getfield 42, 3), (87, .iconst 0, 1), (88, .aload_n 0, 1), (89, .getfield 9, 3), (92, .iconst 0, 1), (93, .aload_n 1, 1), (94, .getfield 45, 3), (97, .bipush 6, 2), (99, .imul, 1), (100, .invokestatic 48, 3), (103, .aload_n 0, 1), (104, .aload_n 1, 1), (105, .iload_n 2, 1), (106, .invokevirtual 54, 3), (109, .aload_n 0, 1), (110, .aload_n 1, 1), (111, .invokevirtual 58, 3), (114, .aload_n 0, 1), (115, .aload_n 1, 1), (116, .iload_n 3, 1), (117, .invokevirtual 62, 3), (120, .aload_n 0, 1), (121, .aload_n 1, 1), (122, .iload 4, 2), (124, .invokevirtual 65, 3), (127, .aload_n 0, 1), (128, .aload_n 1, 1), (129, .invokevirtual 69, 3), (132, .istore 5, 2), (134, .aload_n 1, 1), (135, .dup, 1), (136, .getfield 28, 3), (139, .iconst 1, 1), (140, .iadd, 1), (141, .putfield 28, 3), (144, .iload 5, 2), (146, .iconst (-1), 1), (147, .if_icmp .ne 5, 3), (150, .iconst 0, 1), (151, .ireturn, 1), (152, .aload_n 1, 1), (153, .iload 5, 2), (155, .invokevirtual 73, 3), (158, .iconst 1, 1), (159, .ireturn, 1)]
theorem kdX9_pass_ok : ∀ q ∈ kdX9_pass, decode cX9_pass q.1 = .ok q.2 := by decide +kernel
def kdX9_wet : List (Nat × Instr × Nat) := [(0, .aload_n 1, 1), (1, .getfield 45, 3), (4, .ifCond .ne 4, 3), (7, .return_, 1), (8, .aload_n 1, 1), (9, .getfield 45, 3), (12, .iconst 1, 1), (13, .isub, 1), (14, .bipush 6, 2), (16, .imul, 1), (17, .istore_n 3, 1), (18, .iconst 0, 1), (19, .istore 4, 2), (21, .iload 4, 2), (23, .aload_n 1, 1), (24, .getfield 77, 3), (27, .if_icmp .ge 25, 3), (30, .aload_n 1, 1), (31, .getfield 80, 3), (34, .ifCond .ne 18, 3), (37, .aload_n 1, 1), (38, .iload_n 3, 1), (39, .iload 4, 2), (41, .iadd, 1), (42, .iload_n 2, 1), (43, .invokevirtual 84, 3), (46, .iinc 4 1, 3), (49, .goto (-28), 3), (52, .iload_n 2, 1), (53, .aload_n 1, 1), (54, .getfield 88, 3), (57, .imul, 1), (58, .sipush 200, 3), (61, .idiv, 1), (62, .istore 4, 2), (64, .iconst 0, 1), (65, .istore 5, 2), (67, .iload 5, 2), (69, .iconst 3, 1), (70, .aload_n 1, 1), (71, .getfield 91, 3), (74, .isub, 1), (75, .if_icmp .ge 29, 3), (78, .iload 5, 2), (80, .aload_n 1, 1), (81, .getfield 45, 3), (84, .if_icmp .ge 20, 3), (87, .aload_n 1, 1), (88, .iload 5, 2), (90, .bipush 6, 2), (92, .imul, 1), (93, .iload 4, 2), (95, .invokevirtual 84, 3), (98, .iinc 5 1, 3), (101, .goto (-34), 3), (104, .aload_n 1, 1), (105, .getfield 94, 3), (108, .iconst 0, 1), (109, .iconst 3, 1), (110, .aload_n 1, 1), (111, .getfield 91, 3), (114, .isub, 1), (115, .invokestatic 97, 3), (118, .imul, 1), (119, .iconst 3, 1), (120, .idiv, 1), (121, .istore 5, 2), (123, .iconst 0, 1), (124, .istore 6, 2), (126, .iload 6, 2), (128, .aload_n 1, 1), (129, .getfield 77, 3), (132, .if_icmp .ge 17, 3), (135, .aload_n 1, 1), (136, .iload 6, 2), (138, .iload 5, 2), (140, .invokevirtual 84, 3), (143, .iinc 6 1, 3), (146, .goto (-20), 3), (149, .return_, 1)]
theorem kdX9_wet_ok : ∀ q ∈ kdX9_wet, decode cX9_wet q.1 = .ok q.2 := by decide +kernel
def kdX9_move : List (Nat × Instr × Nat) := [(0, .aload_n 1, 1), (1, .getfield 42, 3), (4, .iconst 0, 1), (5, .aload_n 0, 1), (6, .getfield 15, 3), (9, .iconst 0, 1), (10, .aload_n 1, 1), (11, .getfield 45, 3), (14, .bipush 6, 2), (16, .imul, 1), (17, .invokestatic 48, 3), (20, .iconst 0, 1), (21, .istore_n 2, 1), (22, .iload_n 2, 1), (23, .aload_n 1, 1), (24, .getfield 45, 3), (27, .if_icmp .ge 85, 3), (30, .iload_n 2, 1), (31, .bipush 6, 2), (33, .imul, 1), (34, .istore_n 3, 1), (35, .iconst 0, 1), (36, .istore 4, 2), (38, .iload 4, 2), (40, .aload_n 1, 1), (41, .getfield 77, 3), (44, .if_icmp .ge 62, 3), (47, .iload_n 3, 1), (48, .iload 4, 2), (50, .iadd, 1), (51, .istore 5, 2), (53, .iload 4, 2), (55, .iconst 1, 1), (56, .iadd, 1), (57, .aload_n 1, 1), (58, .getfield 77, 3), (61, .if_icmp .ge 15, 3), (64, .aload_n 0, 1), (65, .aload_n 1, 1), (66, .iload 5, 2), (68, .iload 5, 2), (70, .iconst 1, 1), (71, .iadd, 1), (72, .iconst 4, 1), (73, .invokevirtual 100, 3), (76, .iload_n 2, 1), (77, .iconst 1, 1), (78, .iadd, 1), (79, .aload_n 1, 1), (80, .getfield 45, 3), (83, .if_icmp .ge 17, 3), (86, .aload_n 0, 1), (87, .aload_n 1, 1), (88, .iload 5, 2), (90, .iload 5, 2), (92, .bipush 6, 2), (94, .iadd, 1), (95, .bipush 8, 2), (97, .invokevirtual 100, 3), (100, .iinc 4 1, 3), (103, .goto (-65), 3), (106, .iinc 2 1, 3), (109, .goto (-87), 3), (112, .return_, 1)]
theorem kdX9_move_ok : ∀ q ∈ kdX9_move, decode cX9_move q.1 = .ok q.2 := by decide +kernel
def kdX9_flow : List (Nat × Instr × Nat) := [(0, .iload 4, 2), (2, .ifCond .gt 4, 3), (5, .return_, 1), (6, .aload_n 0, 1), (7, .getfield 15, 3), (10, .iload_n 2, 1), (11, .iaload, 1), (12, .aload_n 0, 1), (13, .getfield 15, 3), (16, .iload_n 3, 1), (17, .iaload, 1), (18, .isub, 1), (19, .iload 4, 2), (21, .idiv, 1), (22, .istore 5, 2), (24, .aload_n 1, 1), (25, .getfield 42, 3), (28, .iload_n 2, 1), (29, .dup2, 1), (30, .iaload, 1), (31, .iload 5, 2), (33, .isub, 1), (34, .iastore, 1), (35, .aload_n 1, 1), (36, .getfield 42, 3), (39, .iload_n 3, 1), (40, .dup2, 1), (41, .iaload, 1), (42, .iload 5, 2), (44, .iadd, 1), (45, .iastore, 1), (46, .return_, 1)]
theorem kdX9_flow_ok : ∀ q ∈ kdX9_flow, decode cX9_flow q.1 = .ok q.2 := by decide +kernel
def kdX9_dry : List (Nat × Instr × Nat) := [(0, .iconst 0, 1), (1, .istore_n 3, 1), (2, .iload_n 3, 1), (3, .aload_n 1, 1), (4, .getfield 45, 3), (7, .if_icmp .ge 138, 3), (10, .iload_n 3, 1), (11, .bipush 6, 2), (13, .imul, 1), (14, .istore 4, 2), (16, .iload_n 3, 1), (17, .aload_n 1, 1), (18, .getfield 45, 3), (21, .iconst 1, 1), (22, .isub, 1), (23, .if_icmp .ne 8, 3), (26, .bipush 50, 2), (28, .goto 4, 3), (31, .iconst 0, 1), (32, .istore 5, 2), (34, .iconst 0, 1), (35, .istore 6, 2), (37, .iload 6, 2), (39, .aload_n 1, 1), (40, .getfield 77, 3), (43, .if_icmp .ge 96, 3), (46, .iload 5, 2), (48, .istore 7, 2), (50, .iload 7, 2), (52, .iload 6, 2), (54, .ifCond .ne 10, 3), (57, .aload_n 1, 1), (58, .getfield 88, 3), (61, .goto 4, 3), (64, .iconst 0, 1), (65, .iadd, 1), (66, .istore 7, 2), (68, .iload 7, 2), (70, .iload 6, 2), (72, .aload_n 1, 1), (73, .getfield 77, 3), (76, .iconst 1, 1), (77, .isub, 1), (78, .if_icmp .ne 12, 3), (81, .aload_n 1, 1), (82, .getfield 104, 3), (85, .iconst 2, 1), (86, .idiv, 1), (87, .goto 4, 3), (90, .iconst 0, 1), (91, .iadd, 1), (92, .istore 7, 2), (94, .iconst 0, 1), (95, .aload_n 1, 1), (96, .getfield 42, 3), (99, .iload 4, 2), (101, .iload 6, 2), (103, .iadd, 1), (104, .iaload, 1), (105, .bipush 100, 2), (107, .isub, 1), (108, .invokestatic 97, 3), (111, .istore 8, 2), (113, .aload_n 1, 1), (114, .iload 4, 2), (116, .iload 6, 2), (118, .iadd, 1), (119, .iload 8, 2), (121, .iload_n 2, 1), (122, .imul, 1), (123, .iload 7, 2), (125, .imul, 1), (126, .sipush 20000, 3), (129, .idiv, 1), (130, .invokevirtual 107, 3), (133, .iinc 6 1, 3), (136, .goto (-99), 3), (139, .iinc 3 1, 3), (142, .goto (-140), 3), (145, .return_, 1)]
theorem kdX9_dry_ok : ∀ q ∈ kdX9_dry, decode cX9_dry q.1 = .ok q.2 := by decide +kernel
def kdX9_crackAll : List (Nat × Instr × Nat) := [(0, .aload_n 0, 1), (1, .getfield 18, 3), (4, .getfield 110, 3), (7, .bipush 60, 2), (9, .if_icmp .le 7, 3), (12, .iconst 1, 1), (13, .goto 4, 3), (16, .iconst 0, 1), (17, .istore_n 3, 1), (18, .iconst 0, 1), (19, .istore 4, 2), (21, .iload 4, 2), (23, .aload_n 1, 1), (24, .getfield 45, 3), (27, .if_icmp .ge 107, 3), (30, .iload 4, 2), (32, .bipush 6, 2), (34, .imul, 1), (35, .istore 5, 2), (37, .iload_n 2, 1), (38, .ifCond .eq 32, 3), (41, .aload_n 0, 1), (42, .getfield 9, 3), (45, .iload 5, 2), (47, .iaload, 1), (48, .aload_n 1, 1), (49, .getfield 42, 3), (52, .iload 5, 2), (54, .iaload, 1), (55, .invokestatic 97, 3), (58, .sipush 180, 3), (61, .if_icmp .lt 9, 3), (64, .aload_n 1, 1), (65, .iload 5, 2), (67, .invokevirtual 113, 3), (70, .iload 5, 2), (72, .istore 6, 2), (74, .iload_n 3, 1), (75, .ifCond .eq 53, 3), (78, .iload 6, 2), (80, .iload 5, 2), (82, .aload_n 1, 1), (83, .getfield 77, 3), (86, .iadd, 1), (87, .if_icmp .ge 41, 3), (90, .aload_n 0, 1), (91, .getfield 9, 3), (94, .iload 6, 2), (96, .iaload, 1), (97, .sipush 150, 3), (100, .if_icmp .lt 22, 3), (103, .aload_n 1, 1), (104, .getfield 42, 3), (107, .iload 6, 2), (109, .iaload, 1), (110, .sipush 150, 3), (113, .if_icmp .ge 9, 3), (116, .aload_n 1, 1), (117, .iload 6, 2), (119, .invokevirtual 113, 3), (122, .iinc 6 1, 3), (125, .goto (-51), 3), (128, .iinc 4 1, 3), (131, .goto (-110), 3), (134, .return_, 1)]
theorem kdX9_crackAll_ok : ∀ q ∈ kdX9_crackAll, decode cX9_crackAll q.1 = .ok q.2 := by decide +kernel
def kdX9_settle : List (Nat × Instr × Nat) := [(0, .iconst 0, 1), (1, .istore_n 2, 1), (2, .iconst (-1), 1), (3, .istore_n 3, 1), (4, .aload_n 1, 1), (5, .getfield 45, 3), (8, .iconst 1, 1), (9, .isub, 1), (10, .istore 4, 2), (12, .iload 4, 2), (14, .ifCond .lt 70, 3), (17, .aload_n 1, 1), (18, .iload 4, 2), (20, .invokevirtual 116, 3), (23, .istore 5, 2), (25, .iload_n 2, 1), (26, .iload 5, 2), (28, .if_icmp .le 26, 3), (31, .aload_n 1, 1), (32, .getfield 120, 3), (35, .iload 4, 2), (37, .dup2, 1), (38, .iaload, 1), (39, .iload_n 2, 1), (40, .iconst 2, 1), (41, .iload 5, 2), (43, .imul, 1), (44, .if_icmp .lt 7, 3), (47, .iconst 2, 1), (48, .goto 4, 3), (51, .iconst 1, 1), (52, .iadd, 1), (53, .iastore, 1), (54, .aload_n 1, 1), (55, .getfield 120, 3), (58, .iload 4, 2), (60, .iaload, 1), (61, .bipush 6, 2), (63, .if_icmp .lt 6, 3), (66, .iload 4, 2), (68, .istore_n 3, 1), (69, .iload_n 2, 1), (70, .aload_n 1, 1), (71, .iload 4, 2), (73, .invokevirtual 123, 3), (76, .iadd, 1), (77, .istore_n 2, 1), (78, .iinc 4 (-1), 3), (81, .goto (-69), 3), (84, .iload_n 3, 1), (85, .ireturn, 1)]
theorem kdX9_settle_ok : ∀ q ∈ kdX9_settle, decode cX9_settle q.1 = .ok q.2 := by decide +kernel
def kdX10_init : List (Nat × Instr × Nat) := [(0, .aload_n 0, 1), (1, .invokespecial 3, 3), (4, .aload_n 0, 1), (5, .iconst 3, 1), (6, .newarray .int, 2), (8, .putfield 9, 3), (11, .aload_n 0, 1), (12, .bipush 24, 2), (14, .newarray .int, 2), (16, .putfield 15, 3), (19, .aload_n 0, 1), (20, .bipush 90, 2), (22, .newarray .int, 2), (24, .putfield 18, 3), (27, .aload_n 0, 1), (28, .invokevirtual 21, 3), (31, .return_, 1)]
theorem kdX10_init_ok : ∀ q ∈ kdX10_init, decode cX10_init q.1 = .ok q.2 := by decide +kernel
def kdX10_clear : List (Nat × Instr × Nat) := [(0, .aload_n 0, 1), (1, .bipush 30, 2), (3, .bipush 50, 2), (5, .iconst 5, 1), (6, .invokevirtual 24, 3), (9, .aload_n 0, 1), (10, .iconst 0, 1), (11, .putfield 28, 3), (14, .aload_n 0, 1), (15, .iconst 0, 1), (16, .putfield 32, 3), (19, .aload_n 0, 1), (20, .iconst 0, 1), (21, .putfield 36, 3), (24, .return_, 1)]
theorem kdX10_clear_ok : ∀ q ∈ kdX10_clear, decode cX10_clear q.1 = .ok q.2 := by decide +kernel
def kdX10_setEarth : List (Nat × Instr × Nat) := [(0, .aload_n 0, 1), (1, .getfield 9, 3), (4, .iconst 0, 1), (5, .iload_n 1, 1), (6, .iastore, 1), (7, .aload_n 0, 1), (8, .getfield 9, 3), (11, .iconst 1, 1), (12, .iload_n 2, 1), (13, .iastore, 1), (14, .aload_n 0, 1), (15, .getfield 9, 3), (18, .iconst 2, 1), (19, .iload_n 3, 1), (20, .iastore, 1), (21, .aload_n 0, 1), (22, .bipush 40, 2), (24, .iconst 4, 1), (25, .iload_n 1, 1), (26, .imul, 1), (27, .iadd, 1), (28, .bipush 6, 2), (30, .iload_n 3, 1), (31, .imul, 1), (32, .iadd, 1), (33, .putfield 39, 3), (36, .aload_n 0, 1), (37, .iconst 3, 1), (38, .iload_n 1, 1), (39, .imul, 1), (40, .iload_n 2, 1), (41, .isub, 1), (42, .iconst 2, 1), (43, .iload_n 3, 1), (44, .imul, 1), (45, .isub, 1), (46, .putfield 42, 3), (49, .aload_n 0, 1), (50, .bipush 10, 2), (52, .iconst 2, 1), (53, .iload_n 3, 1), (54, .imul, 1), (55, .iadd, 1), (56, .putfield 45, 3), (59, .return_, 1)]
theorem kdX10_setEarth_ok : ∀ q ∈ kdX10_setEarth, decode cX10_setEarth q.1 = .ok q.2 := by decide +kernel
def kdX10_become : List (Nat × Instr × Nat) := [(0, .aload_n 0, 1), (1, .aload_n 1, 1), (2, .getfield 9, 3), (5, .iconst 0, 1), (6, .iaload, 1), (7, .aload_n 1, 1), (8, .getfield 9, 3), (11, .iconst 1, 1), (12, .iaload, 1), (13, .aload_n 1, 1), (14, .getfield 9, 3), (17, .iconst 2, 1), (18, .iaload, 1), (19, .invokevirtual 24, 3), (22, .aload_n 0, 1), (23, .aload_n 1, 1), (24, .getfield 28, 3), (27, .putfield 28, 3), (30, .aload_n 0, 1), (31, .aload_n 1, 1), (32, .getfield 32, 3), (35, .putfield 32, 3), (38, .aload_n 0, 1), (39, .aload_n 1, 1), (40, .getfield 36, 3), (43, .putfield 36, 3), (46, .aload_n 1, 1), (47, .getfield 15, 3), (50, .iconst 0, 1), (51, .aload_n 0, 1), (52, .getfield 15, 3), (55, .iconst 0, 1), (56, .aload_n 0, 1), (57, .getfield 15, 3), (60, .arraylength, 1), (61, .invokestatic 48, 3), (64, .aload_n 1, 1), (65, .getfield 18, 3), (68, .iconst 0, 1), (69, .aload_n 0, 1), (70, .getfield 18, 3), (73, .iconst 0, 1), (74, .aload_n 0, 1), (75, .getfield 18, 3), (78, .arraylength, 1), (79, .invokestatic 48, 3), (82, .return_, 1)]
theorem kdX10_become_ok : ∀ q ∈ kdX10_become, decode cX10_become q.1 = .ok q.2 := by decide +kernel
def kdX11_init : List (Nat × Instr × Nat) := [(0, .aload_n 0, 1), (1, .invokespecial 3, 3), (4, .aload_n 0, 1), (5, .sipush 700, 3), (8, .newarray .byte, 2), (10, .putfield 9, 3), (13, .aload_n 0, 1), (14, .iconst (-1), 1), (15, .putfield 13, 3), (18, .aload_n 0, 1), (19, .iconst 4, 1), (20, .newarray .int, 2), (22, .putfield 17, 3), (25, .aload_n 0, 1), (26, .iconst 4, 1), (27, .newarray .int, 2), (29, .putfield 21, 3), (32, .aload_n 0, 1), (33, .new 24, 3), (36, .dup, 1), (37, .invokespecial 26, 3), (40, .putfield 27, 3), (43, .aload_n 0, 1), (44, .new 31, 3), (47, .dup, 1), (48, .invokespecial 33, 3), (51, .putfield 34, 3), (54, .aload_n 0, 1), (55, .new 31, 3), (58, .dup, 1), (59, .invokespecial 33, 3), (62, .putfield 38, 3), (65, .aload_n 0, 1), (66, .iconst 4, 1), (67, .aload_n 0, 1), (68, .getfield 38, 3), (71, .invokestatic 41, 3), (74, .putfield 45, 3), (77, .aload_n 0, 1), (78, .iconst 4, 1), (79, .aload_n 0, 1), (80, .getfield 38, 3), (83, .invokestatic 41, 3), (86, .putfield 49, 3), (89, .aload_n 0, 1), (90, .new 52, 3), (93, .dup, 1), (94, .aload_n 0, 1), (95, .getfield 38, 3), (98, .invokespecial 54, 3), (101, .putfield 57, 3), (104, .bipush 16, 2), (106, .aload_n 0, 1), (107, .getfield 38, 3), (110, .invokestatic 41, 3), (113, .astore_n 1, 1), (114, .aload_n 0, 1), (115, .new 61, 3), (118, .dup, 1), (119, .aload_n 0, 1), (120, .getfield 38, 3), (123, .aload_n 0, 1), (124, .getfield 57, 3), (127, .aload_n 1, 1), (128, .invokespecial 63, 3), (131, .putfield 66, 3), (134, .aload_n 0, 1), (135, .new 70, 3), (138, .dup, 1), (139, .aload_n 0, 1), (140, .getfield 57, 3), (143, .aload_n 1, 1), (144, .invokespecial 72, 3), (147, .putfield 75, 3), (150, .aload_n 0, 1), (151, .new 79, 3), (154, .dup, 1), (155, .aload_n 0, 1), (156, .getfield 57, 3), (159, .aload_n 1, 1), (160, .invokespecial 81, 3), (163, .putfield 82, 3), (166, .aload_n 0, 1), (167, .new 86, 3), (170, .dup, 1), (171, .aload_n 0, 1), (172, .getfield 57, 3), (175, .aload_n 1, 1), (176, .invokespecial 88, 3), (179, .putfield 89, 3), (182, .aload_n 0, 1), (183, .new 93, 3), (186, .dup, 1), (187, .invokespecial 95, 3), (190, .putfield 96, 3), (193, .aload_n 0, 1), (194, .new 100, 3), (197, .dup, 1), (198, .invokespecial 102, 3), (201, .putfield 103, 3), (204, .aload_n 0, 1), (205, .new 107, 3), (208, .dup, 1), (209, .invokespecial 109, 3), (212, .putfield 110, 3), (215, .return_, 1)]
theorem kdX11_init_ok : ∀ q ∈ kdX11_init, decode cX11_init q.1 = .ok q.2 := by decide +kernel
def kdX11_manyWalls : List (Nat × Instr × Nat) := [(0, .iconst 0, 1), (1, .iload_n 0, 1), (2, .invokestatic 114, 3), (5, .anewarray 120, 3), (8, .astore_n 2, 1), (9, .iconst 0, 1), (10, .istore_n 3, 1), (11, .iload_n 3, 1), (12, .aload_n 2, 1), (13, .arraylength, 1), (14, .if_icmp .ge 20, 3), (17, .aload_n 2, 1), (18, .iload_n 3, 1), (19, .new 120, 3), (22, .dup, 1), (23, .aload_n 1, 1), (24, .invokespecial 122, 3), (27, .aastore, 1), (28, .iinc 3 1, 3), (31, .goto (-20), 3), (34, .aload_n 2, 1), (35, .areturn, 1)]
theorem kdX11_manyWalls_ok : ∀ q ∈ kdX11_manyWalls, decode cX11_manyWalls q.1 = .ok q.2 := by decide +kernel
def kdX11_feed : List (Nat × Instr × Nat) := [(0, .aload_n 0, 1), (1, .getfield 123, 3), (4, .bipush 20, 2), (6, .iadd, 1), (7, .sipush 700, 3), (10, .if_icmp .le 5, 3), (13, .iconst (-1), 1), (14, .ireturn, 1), (15, .aload_n 0, 1), (16, .iload_n 1, 1), (17, .invokevirtual 126, 3), (20, .aload_n 0, 1), (21, .iload_n 2, 1), (22, .invokevirtual 126, 3), (25, .aload_n 0, 1), (26, .iload_n 3, 1), (27, .invokevirtual 126, 3), (30, .aload_n 0, 1), (31, .iload 4, 2), (33, .invokevirtual 126, 3), (36, .aload_n 0, 1), (37, .iload 5, 2), (39, .invokevirtual 126, 3), (42, .aload_n 0, 1), (43, .getfield 123, 3), (46, .ireturn, 1)]
theorem kdX11_feed_ok : ∀ q ∈ kdX11_feed, decode cX11_feed q.1 = .ok q.2 := by decide +kernel
def kdX11_putNumber : List (Nat × Instr × Nat) := [(0, .bipush 24, 2), (2, .istore_n 2, 1), (3, .iload_n 2, 1), (4, .ifCond .lt 42, 3), (7, .aload_n 0, 1), (8, .getfield 123, 3), (11, .sipush 700, 3), (14, .if_icmp .ge 32, 3), (17, .aload_n 0, 1), (18, .getfield 9, 3), (21, .aload_n 0, 1), (22, .getfield 123, 3), (25, .iload_n 1, 1), (26, .iload_n 2, 1), (27, .ishr, 1), (28, .i2b, 1), (29, .bastore, 1), (30, .aload_n 0, 1), (31, .dup, 1), (32, .getfield 123, 3), (35, .iconst 1, 1), (36, .iadd, 1), (37, .putfield 123, 3), (40, .iinc 2 (-8), 3), (43, .goto (-40), 3), (46, .return_, 1)]
theorem kdX11_putNumber_ok : ∀ q ∈ kdX11_putNumber, decode cX11_putNumber q.1 = .ok q.2 := by decide +kernel
def kdX11_yard : List (Nat × Instr × Nat) := [(0, .iload_n 1, 1), (1, .ifCond .lt 11, 3), (4, .iload_n 1, 1), (5, .aload_n 0, 1), (6, .getfield 123, 3), (9, .if_icmp .le 13, 3), (12, .new 130, 3), (15, .dup, 1), (16, .ldc 132, 2), (18, .invokespecial 134, 3), (21, .athrow, 1), (22, .aload_n 0, 1), (23, .getfield 27, 3), (26, .aload_n 0, 1), (27, .getfield 9, 3), (30, .iload_n 1, 1), (31, .aload_n 0, 1), (32, .getfield 34, 3), (35, .invokevirtual 137, 3), (38, .istore_n 2, 1), (39, .aload_n 0, 1), (40, .iconst 0, 1), (41, .putfield 123, 3), (44, .aload_n 0, 1), (45, .aload_n 0, 1), (46, .getfield 27, 3), (49, .getfield 141, 3), (52, .putfield 13, 3), (55, .iload_n 2, 1), (56, .ifCond .eq 15, 3), (59, .aload_n 0, 1), (60, .getfield 17, 3), (63, .iconst 0, 1), (64, .dup2, 1), (65, .iaload, 1), (66, .iconst 1, 1), (67, .iadd, 1), (68, .iastore, 1), (69, .iload_n 2, 1), (70, .ireturn, 1), (71, .aload_n 0, 1), (72, .invokevirtual 142, 3), (75, .iconst 0, 1), (76, .ireturn, 1)]
theorem kdX11_yard_ok : ∀ q ∈ kdX11_yard, decode cX11_yard q.1 = .ok q.2 := by decide +kernel
def kdX11_beginAnew : List (Nat × Instr × Nat) := [(0, .aload_n 0, 1), (1, .getfield 38, 3), (4, .aload_n 0, 1), (5, .getfield 34, 3), (8, .invokevirtual 145, 3), (11, .iconst 0, 1), (12, .istore_n 1, 1), (13, .iload_n 1, 1), (14, .aload_n 0, 1), (15, .getfield 45, 3), (18, .arraylength, 1), (19, .if_icmp .ge 19, 3), (22, .aload_n 0, 1), (23, .getfield 45, 3), (26, .iload_n 1, 1), (27, .aaload, 1), (28, .iload_n 1, 1), (29, .invokevirtual 148, 3), (32, .iinc 1 1, 3), (35, .goto (-22), 3), (38, .aload_n 0, 1), (39, .iconst 0, 1), (40, .putfield 151, 3), (43, .aload_n 0, 1), (44, .getfield 75, 3), (47, .invokevirtual 155, 3), (50, .aload_n 0, 1), (51, .getfield 89, 3), (54, .invokevirtual 158, 3), (57, .aload_n 0, 1), (58, .getfield 96, 3), (61, .invokevirtual 159, 3), (64, .aload_n 0, 1), (65, .getfield 103, 3), (68, .invokevirtual 160, 3), (71, .aload_n 0, 1), (72, .getfield 110, 3), (75, .invokevirtual 161, 3), (78, .return_, 1)]
theorem kdX11_beginAnew_ok : ∀ q ∈ kdX11_beginAnew, decode cX11_beginAnew q.1 = .ok q.2 := by decide +kernel
def kdX11_fault : List (Nat × Instr × Nat) := [(0, .aload_n 0, 1), (1, .getfield 13, 3), (4, .ireturn, 1)]
theorem kdX11_fault_ok : ∀ q ∈ kdX11_fault, decode cX11_fault q.1 = .ok q.2 := by decide +kernel
def kdX11_count : List (Nat × Instr × Nat) := [(0, .iload_n 1, 1), (1, .tableswitch 102 0 7 #[47, 55, 63, 71, 79, 87, 92, 97], 47), (48, .aload_n 0, 1), (49, .getfield 38, 3), (52, .getfield 162, 3), (55, .ireturn, 1), (56, .aload_n 0, 1), (57, .getfield 38, 3), (60, .getfield 165, 3), (63, .ireturn, 1), (64, .aload_n 0, 1), (65, .getfield 38, 3), (68, .getfield 168, 3), (71, .ireturn, 1), (72, .aload_n 0, 1), (73, .getfield 38, 3), (76, .getfield 171, 3), (79, .ireturn, 1), (80, .aload_n 0, 1), (81, .getfield 38, 3), (84, .getfield 174, 3), (87, .ireturn, 1), (88, .aload_n 0, 1), (89, .getfield 123, 3), (92, .ireturn, 1), (93, .aload_n 0, 1), (94, .invokevirtual 177, 3), (97, .ireturn, 1), (98, .aload_n 0, 1), (99, .invokevirtual 181, 3), (102, .ireturn, 1), (103, .iload_n 1, 1), (104, .bipush 8, 2), (106, .if_icmp .lt 15, 3), (109, .iload_n 1, 1), (110, .bipush 8, 2), (112, .isub, 1), (113, .aload_n 0, 1), (114, .getfield 17, 3), (117, .arraylength, 1), (118, .if_icmp .lt 13, 3), (121, .new 184, 3), (124, .dup, 1), (125, .ldc 186, 2), (127, .invokespecial 188, 3), (130, .athrow, 1), (131, .aload_n 0, 1), (132, .getfield 17, 3), (135, .iload_n 1, 1), (136, .bipush 8, 2), (138, .isub, 1), (139, .iaload, 1), (140, .ireturn, 1)]
theorem kdX11_count_ok : ∀ q ∈ kdX11_count, decode cX11_count q.1 = .ok q.2 := by decide +kernel
def kdX11_waterCome : List (Nat × Instr × Nat) := [(0, .iconst 0, 1), (1, .istore_n 1, 1), (2, .iconst 0, 1), (3, .istore_n 2, 1), (4, .iload_n 2, 1), (5, .aload_n 0, 1), (6, .getfield 45, 3), (9, .arraylength, 1), (10, .if_icmp .ge 21, 3), (13, .iload_n 1, 1), (14, .aload_n 0, 1), (15, .getfield 45, 3), (18, .iload_n 2, 1), (19, .aaload, 1), (20, .getfield 189, 3), (23, .iadd, 1), (24, .istore_n 1, 1), (25, .iinc 2 1, 3), (28, .goto (-24), 3), (31, .iload_n 1, 1), (32, .ireturn, 1)]
theorem kdX11_waterCome_ok : ∀ q ∈ kdX11_waterCome, decode cX11_waterCome q.1 = .ok q.2 := by decide +kernel
def kdX11_waterGone : List (Nat × Instr × Nat) := [(0, .iconst 0, 1), (1, .istore_n 1, 1), (2, .iconst 0, 1), (3, .istore_n 2, 1), (4, .iload_n 2, 1), (5, .aload_n 0, 1), (6, .getfield 45, 3), (9, .arraylength, 1), (10, .if_icmp .ge 21, 3), (13, .iload_n 1, 1), (14, .aload_n 0, 1), (15, .getfield 45, 3), (18, .iload_n 2, 1), (19, .aaload, 1), (20, .getfield 192, 3), (23, .iadd, 1), (24, .istore_n 1, 1), (25, .iinc 2 1, 3), (28, .goto (-24), 3), (31, .iload_n 1, 1), (32, .ireturn, 1)]
theorem kdX11_waterGone_ok : ∀ q ∈ kdX11_waterGone, decode cX11_waterGone q.1 = .ok q.2 := by decide +kernel
def kdX11_wallAt : List (Nat × Instr × Nat) := [(0, .iload_n 1, 1), (1, .ifCond .lt 23, 3), (4, .iload_n 1, 1), (5, .aload_n 0, 1), (6, .getfield 38, 3), (9, .getfield 162, 3), (12, .if_icmp .ge 12, 3), (15, .iload_n 1, 1), (16, .aload_n 0, 1), (17, .getfield 45, 3), (20, .arraylength, 1), (21, .if_icmp .lt 13, 3), (24, .new 184, 3), (27, .dup, 1), (28, .ldc 195, 2), (30, .invokespecial 188, 3), (33, .athrow, 1), (34, .aload_n 0, 1), (35, .getfield 45, 3), (38, .iload_n 1, 1), (39, .aaload, 1), (40, .areturn, 1)]
theorem kdX11_wallAt_ok : ∀ q ∈ kdX11_wallAt, decode cX11_wallAt q.1 = .ok q.2 := by decide +kernel
def kdX11_wallWithLayer : List (Nat × Instr × Nat) := [(0, .aload_n 0, 1), (1, .iload_n 1, 1), (2, .invokevirtual 197, 3), (5, .astore_n 3, 1), (6, .iload_n 2, 1), (7, .ifCond .lt 11, 3), (10, .iload_n 2, 1), (11, .aload_n 3, 1), (12, .getfield 201, 3), (15, .if_icmp .lt 13, 3), (18, .new 184, 3), (21, .dup, 1), (22, .ldc 204, 2), (24, .invokespecial 188, 3), (27, .athrow, 1), (28, .aload_n 3, 1), (29, .areturn, 1)]
theorem kdX11_wallWithLayer_ok : ∀ q ∈ kdX11_wallWithLayer, decode cX11_wallWithLayer q.1 = .ok q.2 := by decide +kernel
def kdX11_wallWithCell : List (Nat × Instr × Nat) := [(0, .aload_n 0, 1), (1, .iload_n 1, 1), (2, .iload_n 2, 1), (3, .invokevirtual 206, 3), (6, .astore 4, 2), (8, .iload_n 3, 1), (9, .ifCond .lt 12, 3), (12, .iload_n 3, 1), (13, .aload 4, 2), (15, .getfield 210, 3), (18, .if_icmp .lt 13, 3), (21, .new 184, 3), (24, .dup, 1), (25, .ldc 213, 2), (27, .invokespecial 188, 3), (30, .athrow, 1), (31, .aload 4, 2), (33, .areturn, 1)]
theorem kdX11_wallWithCell_ok : ∀ q ∈ kdX11_wallWithCell, decode cX11_wallWithCell q.1 = .ok q.2 := by decide +kernel
def kdX11_wall : List (Nat × Instr × Nat) := [(0, .aload_n 0, 1), (1, .iload_n 1, 1), (2, .invokevirtual 197, 3), (5, .astore_n 3, 1), (6, .iload_n 2, 1), (7, .tableswitch 138 0 11 #[61, 66, 71, 76, 81, 94, 99, 104, 117, 122, 128, 133], 61), (68, .aload_n 3, 1), (69, .getfield 210, 3), (72, .ireturn, 1), (73, .aload_n 3, 1), (74, .getfield 201, 3), (77, .ireturn, 1), (78, .aload_n 3, 1), (79, .getfield 215, 3), (82, .ireturn, 1), (83, .aload_n 3, 1), (84, .getfield 217, 3), (87, .ireturn, 1), (88, .aload_n 3, 1), (89, .getfield 220, 3), (92, .ifCond .eq 7, 3), (95, .iconst 1, 1), (96, .goto 4, 3), (99, .iconst 0, 1), (100, .ireturn, 1), (101, .aload_n 3, 1), (102, .getfield 223, 3), (105, .ireturn, 1), (106, .aload_n 3, 1), (107, .getfield 226, 3), (110, .ireturn, 1), (111, .aload_n 3, 1), (112, .getfield 229, 3), (115, .ifCond .eq 7, 3), (118, .iconst 1, 1), (119, .goto 4, 3), (122, .iconst 0, 1), (123, .ireturn, 1), (124, .aload_n 3, 1), (125, .getfield 232, 3), (128, .ireturn, 1), (129, .aload_n 3, 1), (130, .iconst 0, 1), (131, .invokevirtual 235, 3), (134, .ireturn, 1), (135, .aload_n 3, 1), (136, .getfield 239, 3), (139, .ireturn, 1), (140, .aload_n 3, 1), (141, .getfield 242, 3), (144, .ireturn, 1), (145, .new 184, 3), (148, .dup, 1), (149, .ldc 245, 2), (151, .invokespecial 188, 3), (154, .athrow, 1)]
theorem kdX11_wall_ok : ∀ q ∈ kdX11_wall, decode cX11_wall q.1 = .ok q.2 := by decide +kernel
def kdX11_cell : List (Nat × Instr × Nat) := [(0, .aload_n 0, 1), (1, .iload_n 1, 1), (2, .iload_n 2, 1), (3, .iload_n 3, 1), (4, .invokevirtual 247, 3), (7, .astore 5, 2), (9, .iload_n 2, 1), (10, .bipush 6, 2), (12, .imul, 1), (13, .iload_n 3, 1), (14, .iadd, 1), (15, .istore 6, 2), (17, .iload 4, 2), (19, .tableswitch 102 0 5 #[37, 46, 62, 78, 86, 94], 37), (56, .aload 5, 2), (58, .getfield 251, 3), (61, .iload 6, 2), (63, .iaload, 1), (64, .ireturn, 1), (65, .aload 5, 2), (67, .iload 6, 2), (69, .invokevirtual 254, 3), (72, .ifCond .eq 7, 3), (75, .iconst 1, 1), (76, .goto 4, 3), (79, .iconst 0, 1), (80, .ireturn, 1), (81, .aload 5, 2), (83, .iload 6, 2), (85, .invokevirtual 258, 3), (88, .ifCond .eq 7, 3), (91, .iconst 1, 1), (92, .goto 4, 3), (95, .iconst 0, 1), (96, .ireturn, 1), (97, .aload 5, 2), (99, .iload 6, 2), (101, .invokevirtual 261, 3), (104, .ireturn, 1), (105, .aload 5, 2), (107, .iload 6, 2), (109, .invokevirtual 264, 3), (112, .ireturn, 1), (113, .aload 5, 2), (115, .iload 6, 2), (117, .invokevirtual 267, 3), (120, .ireturn, 1), (121, .new 184, 3), (124, .dup, 1), (125, .ldc_w 270, 3), (128, .invokespecial 188, 3), (131, .athrow, 1)]
theorem kdX11_cell_ok : ∀ q ∈ kdX11_cell, decode cX11_cell q.1 = .ok q.2 := by decide +kernel
def kdX11_layer : List (Nat × Instr × Nat) := [(0, .aload_n 0, 1), (1, .iload_n 1, 1), (2, .iload_n 2, 1), (3, .invokevirtual 206, 3), (6, .astore 4, 2), (8, .iload_n 3, 1), (9, .tableswitch 74 0 3 #[31, 38, 45, 53], 31), (40, .aload 4, 2), (42, .iload_n 2, 1), (43, .invokevirtual 272, 3), (46, .ireturn, 1), (47, .aload 4, 2), (49, .iload_n 2, 1), (50, .invokevirtual 275, 3), (53, .ireturn, 1), (54, .aload 4, 2), (56, .getfield 278, 3), (59, .iload_n 2, 1), (60, .iaload, 1), (61, .ireturn, 1), (62, .aload 4, 2), (64, .iload_n 2, 1), (65, .invokevirtual 275, 3), (68, .aload 4, 2), (70, .iload_n 2, 1), (71, .invokevirtual 272, 3), (74, .if_icmp .le 7, 3), (77, .iconst 1, 1), (78, .goto 4, 3), (81, .iconst 0, 1), (82, .ireturn, 1), (83, .new 184, 3), (86, .dup, 1), (87, .ldc_w 281, 3), (90, .invokespecial 188, 3), (93, .athrow, 1)]
theorem kdX11_layer_ok : ∀ q ∈ kdX11_layer, decode cX11_layer q.1 = .ok q.2 := by decide +kernel
def kdX11_lift : List (Nat × Instr × Nat) := [(0, .aload_n 0, 1), (1, .iload_n 1, 1), (2, .invokevirtual 197, 3), (5, .astore_n 3, 1), (6, .iload_n 2, 1), (7, .iconst 1, 1), (8, .if_icmp .lt 20, 3), (11, .iload_n 2, 1), (12, .bipush 9, 2), (14, .if_icmp .gt 14, 3), (17, .aload_n 3, 1), (18, .getfield 201, 3), (21, .iload_n 2, 1), (22, .iadd, 1), (23, .bipush 24, 2), (25, .if_icmp .le 15, 3), (28, .aload_n 0, 1), (29, .getfield 17, 3), (32, .iconst 1, 1), (33, .dup2, 1), (34, .iaload, 1), (35, .iconst 1, 1), (36, .iadd, 1), (37, .iastore, 1), (38, .iconst (-1), 1), (39, .ireturn, 1), (40, .aload_n 3, 1), (41, .iload_n 2, 1), (42, .invokevirtual 283, 3), (45, .aload_n 3, 1), (46, .getfield 201, 3), (49, .ireturn, 1)]
theorem kdX11_lift_ok : ∀ q ∈ kdX11_lift, decode cX11_lift q.1 = .ok q.2 := by decide +kernel
def kdX11_down : List (Nat × Instr × Nat) := [(0, .aload_n 0, 1), (1, .iload_n 1, 1), (2, .invokevirtual 197, 3), (5, .astore_n 2, 1), (6, .aload_n 2, 1), (7, .getfield 201, 3), (10, .ifCond .ne 5, 3), (13, .iconst (-1), 1), (14, .ireturn, 1), (15, .aload_n 2, 1), (16, .aload_n 2, 1), (17, .getfield 201, 3), (20, .iconst 1, 1), (21, .isub, 1), (22, .invokevirtual 286, 3), (25, .aload_n 2, 1), (26, .getfield 201, 3), (29, .ireturn, 1)]
theorem kdX11_down_ok : ∀ q ∈ kdX11_down, decode cX11_down q.1 = .ok q.2 := by decide +kernel
def kdX11_hollow : List (Nat × Instr × Nat) := [(0, .aload_n 0, 1), (1, .iload_n 1, 1), (2, .iload_n 2, 1), (3, .iload_n 3, 1), (4, .invokevirtual 247, 3), (7, .iload_n 2, 1), (8, .bipush 6, 2), (10, .imul, 1), (11, .iload_n 3, 1), (12, .iadd, 1), (13, .invokevirtual 289, 3), (16, .return_, 1)]
theorem kdX11_hollow_ok : ∀ q ∈ kdX11_hollow, decode cX11_hollow q.1 = .ok q.2 := by decide +kernel
def kdX11_weeks : List (Nat × Instr × Nat) := [(0, .aload_n 0, 1), (1, .iload_n 1, 1), (2, .invokevirtual 197, 3), (5, .astore_n 3, 1), (6, .iload_n 2, 1), (7, .iconst 0, 1), (8, .sipush 520, 3), (11, .invokestatic 292, 3), (14, .aload_n 3, 1), (15, .getfield 239, 3), (18, .istore 4, 2), (20, .iconst 0, 1), (21, .istore 5, 2), (23, .iload 5, 2), (25, .iload_n 2, 1), (26, .if_icmp .ge 18, 3), (29, .aload_n 0, 1), (30, .getfield 57, 3), (33, .aload_n 3, 1), (34, .invokevirtual 296, 3), (37, .pop, 1), (38, .iinc 5 1, 3), (41, .goto (-18), 3), (44, .aload_n 3, 1), (45, .getfield 239, 3), (48, .iload 4, 2), (50, .isub, 1), (51, .ireturn, 1)]
theorem kdX11_weeks_ok : ∀ q ∈ kdX11_weeks, decode cX11_weeks q.1 = .ok q.2 := by decide +kernel
def kdX11_checkRange : List (Nat × Instr × Nat) := [(0, .iload_n 0, 1), (1, .iload_n 1, 1), (2, .if_icmp .lt 8, 3), (5, .iload_n 0, 1), (6, .iload_n 2, 1), (7, .if_icmp .le 14, 3), (10, .new 130, 3), (13, .dup, 1), (14, .ldc_w 300, 3), (17, .invokespecial 134, 3), (20, .athrow, 1), (21, .return_, 1)]
theorem kdX11_checkRange_ok : ∀ q ∈ kdX11_checkRange, decode cX11_checkRange q.1 = .ok q.2 := by decide +kernel
def kdX11_checkWhat : List (Nat × Instr × Nat) := [(0, .iload_n 0, 1), (1, .ifCond .lt 8, 3), (4, .iload_n 0, 1), (5, .iload_n 1, 1), (6, .if_icmp .le 14, 3), (9, .new 184, 3), (12, .dup, 1), (13, .ldc_w 302, 3), (16, .invokespecial 188, 3), (19, .athrow, 1), (20, .return_, 1)]
theorem kdX11_checkWhat_ok : ∀ q ∈ kdX11_checkWhat, decode cX11_checkWhat q.1 = .ok q.2 := by decide +kernel
def kdX11_high : List (Nat × Instr × Nat) := [(0, .aload_n 0, 1), (1, .iload_n 1, 1), (2, .invokevirtual 197, 3), (5, .invokevirtual 304, 3), (8, .ireturn, 1)]
theorem kdX11_high_ok : ∀ q ∈ kdX11_high, decode cX11_high q.1 = .ok q.2 := by decide +kernel
def kdX11_when : List (Nat × Instr × Nat) := [(0, .aload_n 0, 1), (1, .iload_n 1, 1), (2, .invokevirtual 197, 3), (5, .astore_n 3, 1), (6, .iload_n 2, 1), (7, .iconst 1, 1), (8, .bipush 9, 2), (10, .invokestatic 292, 3), (13, .aload_n 0, 1), (14, .getfield 66, 3), (17, .aload_n 3, 1), (18, .iload_n 2, 1), (19, .invokevirtual 307, 3), (22, .ireturn, 1)]
theorem kdX11_when_ok : ∀ q ∈ kdX11_when, decode cX11_when q.1 = .ok q.2 := by decide +kernel
def kdX11_plan : List (Nat × Instr × Nat) := [(0, .aload_n 0, 1), (1, .iload_n 1, 1), (2, .invokevirtual 197, 3), (5, .astore_n 3, 1), (6, .iload_n 2, 1), (7, .iconst 1, 1), (8, .bipush 24, 2), (10, .invokestatic 292, 3), (13, .aload_n 0, 1), (14, .getfield 75, 3), (17, .aload_n 3, 1), (18, .iload_n 2, 1), (19, .invokevirtual 311, 3), (22, .ireturn, 1)]
theorem kdX11_plan_ok : ∀ q ∈ kdX11_plan, decode cX11_plan q.1 = .ok q.2 := by decide +kernel
def kdX11_planned : List (Nat × Instr × Nat) := [(0, .iload_n 1, 1), (1, .ifCond .lt 26, 3), (4, .iload_n 1, 1), (5, .aload_n 0, 1), (6, .getfield 75, 3), (9, .getfield 314, 3), (12, .if_icmp .ge 15, 3), (15, .iload_n 1, 1), (16, .aload_n 0, 1), (17, .getfield 75, 3), (20, .getfield 317, 3), (23, .arraylength, 1), (24, .if_icmp .lt 14, 3), (27, .new 184, 3), (30, .dup, 1), (31, .ldc_w 320, 3), (34, .invokespecial 188, 3), (37, .athrow, 1), (38, .aload_n 0, 1), (39, .getfield 75, 3), (42, .getfield 317, 3), (45, .iload_n 1, 1), (46, .iaload, 1), (47, .ireturn, 1)]
theorem kdX11_planned_ok : ∀ q ∈ kdX11_planned, decode cX11_planned q.1 = .ok q.2 := by decide +kernel
def kdX11_turned : List (Nat × Instr × Nat) := [(0, .aload_n 0, 1), (1, .iload_n 1, 1), (2, .invokevirtual 197, 3), (5, .astore 5, 2), (7, .aload_n 0, 1), (8, .iload_n 2, 1), (9, .invokevirtual 197, 3), (12, .astore 6, 2), (14, .iload 4, 2), (16, .iconst 1, 1), (17, .invokestatic 322, 3), (20, .iload_n 1, 1), (21, .iload_n 2, 1), (22, .if_icmp .ne 14, 3), (25, .new 184, 3), (28, .dup, 1), (29, .ldc_w 326, 3), (32, .invokespecial 188, 3), (35, .athrow, 1), (36, .iload_n 3, 1), (37, .iconst 1, 1), (38, .bipush 8, 2), (40, .invokestatic 292, 3), (43, .aload_n 0, 1), (44, .getfield 82, 3), (47, .aload 5, 2), (49, .aload 6, 2), (51, .iload_n 3, 1), (52, .invokevirtual 328, 3), (55, .iload 4, 2), (57, .ifCond .ne 13, 3), (60, .aload_n 0, 1), (61, .getfield 82, 3), (64, .getfield 332, 3), (67, .goto 10, 3), (70, .aload_n 0, 1), (71, .getfield 82, 3), (74, .getfield 335, 3), (77, .ireturn, 1)]
theorem kdX11_turned_ok : ∀ q ∈ kdX11_turned, decode cX11_turned q.1 = .ok q.2 := by decide +kernel
def kdX11_line : List (Nat × Instr × Nat) := [(0, .aload_n 0, 1), (1, .iload_n 1, 1), (2, .invokevirtual 197, 3), (5, .astore 4, 2), (7, .iload_n 3, 1), (8, .iconst 2, 1), (9, .invokestatic 322, 3), (12, .iload_n 2, 1), (13, .iconst 1, 1), (14, .sipush 520, 3), (17, .invokestatic 292, 3), (20, .iload_n 3, 1), (21, .lookupswitch 49 #[(0, 27), (1, 38)], 27), (48, .aload_n 0, 1), (49, .getfield 66, 3), (52, .aload 4, 2), (54, .iload_n 2, 1), (55, .invokevirtual 338, 3), (58, .ireturn, 1), (59, .aload_n 0, 1), (60, .getfield 66, 3), (63, .aload 4, 2), (65, .iload_n 2, 1), (66, .invokevirtual 341, 3), (69, .ireturn, 1), (70, .aload_n 0, 1), (71, .getfield 66, 3), (74, .aload 4, 2), (76, .iload_n 2, 1), (77, .invokevirtual 344, 3), (80, .ireturn, 1)]
theorem kdX11_line_ok : ∀ q ∈ kdX11_line, decode cX11_line q.1 = .ok q.2 := by decide +kernel
def kdX11_work : List (Nat × Instr × Nat) := [(0, .aload_n 0, 1), (1, .iload_n 1, 1), (2, .invokevirtual 197, 3), (5, .astore_n 3, 1), (6, .iload_n 2, 1), (7, .iconst 5, 1), (8, .invokestatic 322, 3), (11, .aload_n 3, 1), (12, .iload_n 2, 1), (13, .invokevirtual 347, 3), (16, .return_, 1)]
theorem kdX11_work_ok : ∀ q ∈ kdX11_work, decode cX11_work q.1 = .ok q.2 := by decide +kernel
def kdX11_order : List (Nat × Instr × Nat) := [(0, .aload_n 0, 1), (1, .iload_n 1, 1), (2, .invokevirtual 197, 3), (5, .astore_n 3, 1), (6, .iload_n 2, 1), (7, .iconst 0, 1), (8, .bipush 63, 2), (10, .invokestatic 292, 3), (13, .aload_n 0, 1), (14, .getfield 89, 3), (17, .aload_n 3, 1), (18, .iload_n 2, 1), (19, .invokevirtual 350, 3), (22, .ireturn, 1)]
theorem kdX11_order_ok : ∀ q ∈ kdX11_order, decode cX11_order q.1 = .ok q.2 := by decide +kernel
def kdX11_ordered : List (Nat × Instr × Nat) := [(0, .iload_n 1, 1), (1, .ifCond .lt 26, 3), (4, .iload_n 1, 1), (5, .aload_n 0, 1), (6, .getfield 89, 3), (9, .getfield 353, 3), (12, .if_icmp .ge 15, 3), (15, .iload_n 1, 1), (16, .aload_n 0, 1), (17, .getfield 89, 3), (20, .getfield 354, 3), (23, .arraylength, 1), (24, .if_icmp .lt 14, 3), (27, .new 184, 3), (30, .dup, 1), (31, .ldc_w 355, 3), (34, .invokespecial 188, 3), (37, .athrow, 1), (38, .aload_n 0, 1), (39, .getfield 89, 3), (42, .getfield 354, 3), (45, .iload_n 1, 1), (46, .iaload, 1), (47, .ireturn, 1)]
theorem kdX11_ordered_ok : ∀ q ∈ kdX11_ordered, decode cX11_ordered q.1 = .ok q.2 := by decide +kernel
def kdX11_brick : List (Nat × Instr × Nat) := [(0, .aload_n 0, 1), (1, .getfield 96, 3), (4, .iload_n 1, 1), (5, .iload_n 2, 1), (6, .invokevirtual 357, 3), (9, .ifCond .ne 15, 3), (12, .aload_n 0, 1), (13, .getfield 17, 3), (16, .iconst 2, 1), (17, .dup2, 1), (18, .iaload, 1), (19, .iconst 1, 1), (20, .iadd, 1), (21, .iastore, 1), (22, .iconst (-1), 1), (23, .ireturn, 1), (24, .aload_n 0, 1), (25, .getfield 96, 3), (28, .getfield 361, 3), (31, .ireturn, 1)]
theorem kdX11_brick_ok : ∀ q ∈ kdX11_brick, decode cX11_brick q.1 = .ok q.2 := by decide +kernel
def kdX11_mix : List (Nat × Instr × Nat) := [(0, .iload_n 1, 1), (1, .tableswitch 63 0 3 #[31, 39, 47, 55], 31), (32, .aload_n 0, 1), (33, .getfield 96, 3), (36, .getfield 364, 3), (39, .ireturn, 1), (40, .aload_n 0, 1), (41, .getfield 96, 3), (44, .getfield 367, 3), (47, .ireturn, 1), (48, .aload_n 0, 1), (49, .getfield 96, 3), (52, .invokevirtual 370, 3), (55, .ireturn, 1), (56, .aload_n 0, 1), (57, .getfield 96, 3), (60, .invokevirtual 373, 3), (63, .ireturn, 1), (64, .new 184, 3), (67, .dup, 1), (68, .ldc_w 376, 3), (71, .invokespecial 188, 3), (74, .athrow, 1)]
theorem kdX11_mix_ok : ∀ q ∈ kdX11_mix, decode cX11_mix q.1 = .ok q.2 := by decide +kernel
def kdX11_house : List (Nat × Instr × Nat) := [(0, .aload_n 0, 1), (1, .getfield 103, 3), (4, .iload_n 1, 1), (5, .iload_n 2, 1), (6, .iload_n 3, 1), (7, .invokevirtual 378, 3), (10, .ifCond .ne 15, 3), (13, .aload_n 0, 1), (14, .getfield 17, 3), (17, .iconst 3, 1), (18, .dup2, 1), (19, .iaload, 1), (20, .iconst 1, 1), (21, .iadd, 1), (22, .iastore, 1), (23, .iconst (-1), 1), (24, .ireturn, 1), (25, .aload_n 0, 1), (26, .getfield 103, 3), (29, .getfield 381, 3), (32, .ireturn, 1)]
theorem kdX11_house_ok : ∀ q ∈ kdX11_house, decode cX11_house q.1 = .ok q.2 := by decide +kernel
def kdX11_first : List (Nat × Instr × Nat) := [(0, .iload_n 2, 1), (1, .iconst 2, 1), (2, .invokestatic 322, 3), (5, .iload_n 1, 1), (6, .iconst 0, 1), (7, .sipush 9999, 3), (10, .invokestatic 292, 3), (13, .aload_n 0, 1), (14, .getfield 103, 3), (17, .iload_n 1, 1), (18, .invokevirtual 384, 3), (21, .iload_n 2, 1), (22, .lookupswitch 42 #[(0, 26), (1, 34)], 26), (48, .aload_n 0, 1), (49, .getfield 103, 3), (52, .getfield 387, 3), (55, .ireturn, 1), (56, .aload_n 0, 1), (57, .getfield 103, 3), (60, .getfield 390, 3), (63, .ireturn, 1), (64, .aload_n 0, 1), (65, .getfield 103, 3), (68, .getfield 393, 3), (71, .ireturn, 1)]
theorem kdX11_first_ok : ∀ q ∈ kdX11_first, decode cX11_first q.1 = .ok q.2 := by decide +kernel
def kdX11_guess : List (Nat × Instr × Nat) := [(0, .aload_n 0, 1), (1, .iload_n 2, 1), (2, .invokevirtual 197, 3), (5, .astore_n 3, 1), (6, .iload_n 1, 1), (7, .iconst 3, 1), (8, .invokestatic 322, 3), (11, .aload_n 0, 1), (12, .getfield 110, 3), (15, .iload_n 1, 1), (16, .aload_n 3, 1), (17, .invokevirtual 396, 3), (20, .return_, 1)]
theorem kdX11_guess_ok : ∀ q ∈ kdX11_guess, decode cX11_guess q.1 = .ok q.2 := by decide +kernel
def kdX11_stick : List (Nat × Instr × Nat) := [(0, .iload_n 1, 1), (1, .iconst 0, 1), (2, .bipush 23, 2), (4, .invokestatic 292, 3), (7, .iload_n 2, 1), (8, .iconst 0, 1), (9, .iconst 5, 1), (10, .invokestatic 292, 3), (13, .iload_n 3, 1), (14, .iconst 0, 1), (15, .sipush 400, 3), (18, .invokestatic 292, 3), (21, .iload 4, 2), (23, .iconst 0, 1), (24, .bipush 50, 2), (26, .invokestatic 292, 3), (29, .aload_n 0, 1), (30, .getfield 110, 3), (33, .iload_n 1, 1), (34, .bipush 6, 2), (36, .imul, 1), (37, .iload_n 2, 1), (38, .iadd, 1), (39, .iload_n 3, 1), (40, .iload 4, 2), (42, .invokevirtual 400, 3), (45, .ireturn, 1)]
theorem kdX11_stick_ok : ∀ q ∈ kdX11_stick, decode cX11_stick q.1 = .ok q.2 := by decide +kernel
def kdX11_credit : List (Nat × Instr × Nat) := [(0, .iload_n 1, 1), (1, .iconst 3, 1), (2, .invokestatic 322, 3), (5, .aload_n 0, 1), (6, .getfield 110, 3), (9, .getfield 404, 3), (12, .iload_n 1, 1), (13, .iaload, 1), (14, .ireturn, 1)]
theorem kdX11_credit_ok : ∀ q ∈ kdX11_credit, decode cX11_credit q.1 = .ok q.2 := by decide +kernel
def kdX11_where : List (Nat × Instr × Nat) := [(0, .aload_n 0, 1), (1, .getfield 110, 3), (4, .invokevirtual 407, 3), (7, .ireturn, 1)]
theorem kdX11_where_ok : ∀ q ∈ kdX11_where, decode cX11_where q.1 = .ok q.2 := by decide +kernel
def kdX11_image : List (Nat × Instr × Nat) := [(0, .aload_n 0, 1), (1, .iconst 1, 1), (2, .putfield 151, 3), (5, .aload_n 0, 1), (6, .getfield 45, 3), (9, .aload_n 0, 1), (10, .getfield 49, 3), (13, .invokestatic 410, 3), (16, .aload_n 0, 1), (17, .getfield 17, 3), (20, .iconst 0, 1), (21, .aload_n 0, 1), (22, .getfield 21, 3), (25, .iconst 0, 1), (26, .aload_n 0, 1), (27, .getfield 17, 3), (30, .arraylength, 1), (31, .invokestatic 414, 3), (34, .return_, 1)]
theorem kdX11_image_ok : ∀ q ∈ kdX11_image, decode cX11_image q.1 = .ok q.2 := by decide +kernel
def kdX11_restore : List (Nat × Instr × Nat) := [(0, .aload_n 0, 1), (1, .getfield 151, 3), (4, .ifCond .ne 5, 3), (7, .iconst 0, 1), (8, .ireturn, 1), (9, .aload_n 0, 1), (10, .getfield 49, 3), (13, .aload_n 0, 1), (14, .getfield 45, 3), (17, .invokestatic 410, 3), (20, .aload_n 0, 1), (21, .getfield 21, 3), (24, .iconst 0, 1), (25, .aload_n 0, 1), (26, .getfield 17, 3), (29, .iconst 0, 1), (30, .aload_n 0, 1), (31, .getfield 17, 3), (34, .arraylength, 1), (35, .invokestatic 414, 3), (38, .iconst 1, 1), (39, .ireturn, 1)]
theorem kdX11_restore_ok : ∀ q ∈ kdX11_restore, decode cX11_restore q.1 = .ok q.2 := by decide +kernel
def kdX11_copyWalls : List (Nat × Instr × Nat) := [(0, .iconst 0, 1), (1, .istore_n 2, 1), (2, .iload_n 2, 1), (3, .aload_n 0, 1), (4, .arraylength, 1), (5, .if_icmp .ge 24, 3), (8, .iload_n 2, 1), (9, .aload_n 1, 1), (10, .arraylength, 1), (11, .if_icmp .ge 18, 3), (14, .aload_n 1, 1), (15, .iload_n 2, 1), (16, .aaload, 1), (17, .aload_n 0, 1), (18, .iload_n 2, 1), (19, .aaload, 1), (20, .invokevirtual 420, 3), (23, .iinc 2 1, 3), (26, .goto (-24), 3), (29, .return_, 1)]
theorem kdX11_copyWalls_ok : ∀ q ∈ kdX11_copyWalls, decode cX11_copyWalls q.1 = .ok q.2 := by decide +kernel
def kdX12_init : List (Nat × Instr × Nat) := [(0, .aload_n 0, 1), (1, .invokespecial 1, 3), (4, .aload_n 0, 1), (5, .sipush 11700, 3), (8, .newarray .int, 2), (10, .putfield 9, 3), (13, .aload_n 0, 1), (14, .sipush 144, 3), (17, .newarray .int, 2), (19, .putfield 13, 3), (22, .aload_n 0, 1), (23, .sipush 144, 3), (26, .newarray .int, 2), (28, .putfield 16, 3), (31, .aload_n 0, 1), (32, .bipush 6, 2), (34, .newarray .int, 2), (36, .dup, 1), (37, .iconst 0, 1), (38, .bipush 30, 2), (40, .iastore, 1), (41, .dup, 1), (42, .iconst 1, 1), (43, .bipush 50, 2), (45, .iastore, 1), (46, .dup, 1), (47, .iconst 2, 1), (48, .iconst 5, 1), (49, .iastore, 1), (50, .dup, 1), (51, .iconst 3, 1), (52, .iconst 0, 1), (53, .iastore, 1), (54, .dup, 1), (55, .iconst 4, 1), (56, .iconst 0, 1), (57, .iastore, 1), (58, .dup, 1), (59, .iconst 5, 1), (60, .iconst 0, 1), (61, .iastore, 1), (62, .putfield 19, 3), (65, .aload_n 0, 1), (66, .bipush 60, 2), (68, .newarray .int, 2), (70, .putfield 22, 3), (73, .aload_n 0, 1), (74, .bipush 60, 2), (76, .newarray .int, 2), (78, .putfield 25, 3), (81, .aload_n 0, 1), (82, .bipush 60, 2), (84, .newarray .int, 2), (86, .putfield 28, 3), (89, .aload_n 0, 1), (90, .iconst 2, 1), (91, .newarray .int, 2), (93, .putfield 31, 3), (96, .aload_n 0, 1), (97, .iconst 4, 1), (98, .newarray .int, 2), (100, .putfield 34, 3), (103, .aload_n 0, 1), (104, .sipush 700, 3), (107, .newarray .int, 2), (109, .putfield 37, 3), (112, .aload_n 0, 1), (113, .iconst (-1), 1), (114, .putfield 40, 3), (117, .aload_n 0, 1), (118, .iconst 5, 1), (119, .newarray .int, 2), (121, .putfield 44, 3), (124, .aload_n 0, 1), (125, .iconst 5, 1), (126, .newarray .int, 2), (128, .putfield 47, 3), (131, .aload_n 0, 1), (132, .iconst (-1), 1), (133, .putfield 50, 3), (136, .aload_n 0, 1), (137, .bipush 6, 2), (139, .newarray .int, 2), (141, .putfield 53, 3), (144, .aload_n 0, 1), (145, .bipush 6, 2), (147, .newarray .int, 2), (149, .putfield 56, 3), (152, .aload_n 0, 1), (153, .bipush 6, 2), (155, .newarray .int, 2), (157, .putfield 59, 3), (160, .aload_n 0, 1), (161, .iconst (-1), 1), (162, .putfield 62, 3), (165, .aload_n 0, 1), (166, .iconst (-1), 1), (167, .putfield 65, 3), (170, .aload_n 0, 1), (171, .iconst (-1), 1), (172, .putfield 68, 3), (175, .aload_n 0, 1), (176, .bipush 12, 2), (178, .newarray .int, 2), (180, .putfield 71, 3), (183, .aload_n 0, 1), (184, .bipush 12, 2), (186, .newarray .int, 2), (188, .putfield 74, 3), (191, .aload_n 0, 1), (192, .bipush 12, 2), (194, .newarray .int, 2), (196, .putfield 77, 3), (199, .aload_n 0, 1), (200, .iconst 4, 1), (201, .newarray .boolean, 2), (203, .putfield 80, 3), (206, .aload_n 0, 1), (207, .iconst 4, 1), (208, .newarray .int, 2), (210, .putfield 84, 3), (213, .aload_n 0, 1), (214, .iconst 4, 1), (215, .newarray .int, 2), (217, .putfield 87, 3), (220, .return_, 1)]
theorem kdX12_init_ok : ∀ q ∈ kdX12_init, decode cX12_init q.1 = .ok q.2 := by decide +kernel
def kdX12_thrown : List (Nat × Instr × Nat) := [(0, .aload_n 0, 1), (1, .getfield 90, 3), (4, .ireturn, 1)]
theorem kdX12_thrown_ok : ∀ q ∈ kdX12_thrown, decode cX12_thrown q.1 = .ok q.2 := by decide +kernel
def kdX12_fail : List (Nat × Instr × Nat) := [(0, .aload_n 0, 1), (1, .iload_n 1, 1), (2, .putfield 90, 3), (5, .iconst 0, 1), (6, .ireturn, 1)]
theorem kdX12_fail_ok : ∀ q ∈ kdX12_fail, decode cX12_fail q.1 = .ok q.2 := by decide +kernel
def kdX12_isIn : List (Nat × Instr × Nat) := [(0, .iload_n 0, 1), (1, .iload_n 1, 1), (2, .if_icmp .lt 12, 3), (5, .iload_n 0, 1), (6, .iload_n 2, 1), (7, .if_icmp .gt 7, 3), (10, .iconst 1, 1), (11, .goto 4, 3), (14, .iconst 0, 1), (15, .ireturn, 1)]
theorem kdX12_isIn_ok : ∀ q ∈ kdX12_isIn, decode cX12_isIn q.1 = .ok q.2 := by decide +kernel
def kdX12_isWall : List (Nat × Instr × Nat) := [(0, .iload_n 1, 1), (1, .iconst 0, 1), (2, .aload_n 0, 1), (3, .getfield 93, 3), (6, .iconst 1, 1), (7, .isub, 1), (8, .invokestatic 96, 3), (11, .ireturn, 1)]
theorem kdX12_isWall_ok : ∀ q ∈ kdX12_isWall, decode cX12_isWall q.1 = .ok q.2 := by decide +kernel
def kdX12_of : List (Nat × Instr × Nat) := [(0, .aload_n 0, 1), (1, .getfield 9, 3), (4, .sipush 325, 3), (7, .iload_n 1, 1), (8, .imul, 1), (9, .iload_n 2, 1), (10, .iadd, 1), (11, .iaload, 1), (12, .ireturn, 1)]
theorem kdX12_of_ok : ∀ q ∈ kdX12_of, decode cX12_of q.1 = .ok q.2 := by decide +kernel
def kdX12_put : List (Nat × Instr × Nat) := [(0, .aload_n 0, 1), (1, .getfield 9, 3), (4, .sipush 325, 3), (7, .iload_n 1, 1), (8, .imul, 1), (9, .iload_n 2, 1), (10, .iadd, 1), (11, .iload_n 3, 1), (12, .iastore, 1), (13, .return_, 1)]
theorem kdX12_put_ok : ∀ q ∈ kdX12_put, decode cX12_put q.1 = .ok q.2 := by decide +kernel
def kdX12_copy : List (Nat × Instr × Nat) := [(0, .iconst 0, 1), (1, .istore_n 3, 1), (2, .iload_n 3, 1), (3, .sipush 325, 3), (6, .if_icmp .ge 33, 3), (9, .aload_n 0, 1), (10, .getfield 9, 3), (13, .sipush 325, 3), (16, .iload_n 2, 1), (17, .imul, 1), (18, .iload_n 3, 1), (19, .iadd, 1), (20, .aload_n 0, 1), (21, .getfield 9, 3), (24, .sipush 325, 3), (27, .iload_n 1, 1), (28, .imul, 1), (29, .iload_n 3, 1), (30, .iadd, 1), (31, .iaload, 1), (32, .iastore, 1), (33, .iinc 3 1, 3), (36, .goto (-34), 3), (39, .return_, 1)]
theorem kdX12_copy_ok : ∀ q ∈ kdX12_copy, decode cX12_copy q.1 = .ok q.2 := by decide +kernel
def kdX12_at : List (Nat × Instr × Nat) := [(0, .bipush 6, 2), (2, .iload_n 0, 1), (3, .imul, 1), (4, .iload_n 1, 1), (5, .iadd, 1), (6, .ireturn, 1)]
theorem kdX12_at_ok : ∀ q ∈ kdX12_at, decode cX12_at q.1 = .ok q.2 := by decide +kernel
def kdX12_full : List (Nat × Instr × Nat) := [(0, .bipush 40, 2), (2, .iconst 4, 1), (3, .aload_n 0, 1), (4, .getfield 19, 3), (7, .iconst 0, 1), (8, .iaload, 1), (9, .imul, 1), (10, .iadd, 1), (11, .bipush 6, 2), (13, .aload_n 0, 1), (14, .getfield 19, 3), (17, .iconst 2, 1), (18, .iaload, 1), (19, .imul, 1), (20, .iadd, 1), (21, .ireturn, 1)]
theorem kdX12_full_ok : ∀ q ∈ kdX12_full, decode cX12_full q.1 = .ok q.2 := by decide +kernel
def kdX12_shrink : List (Nat × Instr × Nat) := [(0, .iconst 3, 1), (1, .aload_n 0, 1), (2, .getfield 19, 3), (5, .iconst 0, 1), (6, .iaload, 1), (7, .imul, 1), (8, .aload_n 0, 1), (9, .getfield 19, 3), (12, .iconst 1, 1), (13, .iaload, 1), (14, .isub, 1), (15, .iconst 2, 1), (16, .aload_n 0, 1), (17, .getfield 19, 3), (20, .iconst 2, 1), (21, .iaload, 1), (22, .imul, 1), (23, .isub, 1), (24, .ireturn, 1)]
theorem kdX12_shrink_ok : ∀ q ∈ kdX12_shrink, decode cX12_shrink q.1 = .ok q.2 := by decide +kernel
def kdX12_green : List (Nat × Instr × Nat) := [(0, .bipush 10, 2), (2, .iconst 2, 1), (3, .aload_n 0, 1), (4, .getfield 19, 3), (7, .iconst 2, 1), (8, .iaload, 1), (9, .imul, 1), (10, .iadd, 1), (11, .ireturn, 1)]
theorem kdX12_green_ok : ∀ q ∈ kdX12_green, decode cX12_green q.1 = .ok q.2 := by decide +kernel
def kdX12_feed : List (Nat × Instr × Nat) := [(0, .aload_n 0, 1), (1, .iconst 0, 1), (2, .putfield 90, 3), (5, .aload_n 0, 1), (6, .getfield 100, 3), (9, .bipush 20, 2), (11, .iadd, 1), (12, .sipush 700, 3), (15, .if_icmp .le 5, 3), (18, .iconst (-1), 1), (19, .ireturn, 1), (20, .iconst 0, 1), (21, .istore 6, 2), (23, .iload 6, 2), (25, .bipush 20, 2), (27, .if_icmp .ge 93, 3), (30, .iload 6, 2), (32, .iconst 4, 1), (33, .if_icmp .ge 7, 3), (36, .iload_n 1, 1), (37, .goto 39, 3), (40, .iload 6, 2), (42, .bipush 8, 2), (44, .if_icmp .ge 7, 3), (47, .iload_n 2, 1), (48, .goto 28, 3), (51, .iload 6, 2), (53, .bipush 12, 2), (55, .if_icmp .ge 7, 3), (58, .iload_n 3, 1), (59, .goto 17, 3), (62, .iload 6, 2), (64, .bipush 16, 2), (66, .if_icmp .ge 8, 3), (69, .iload 4, 2), (71, .goto 5, 3), (74, .iload 5, 2), (76, .istore 7, 2), (78, .aload_n 0, 1), (79, .getfield 37, 3), (82, .aload_n 0, 1), (83, .getfield 100, 3), (86, .iload 7, 2), (88, .bipush 24, 2), (90, .bipush 8, 2), (92, .iload 6, 2), (94, .iconst 4, 1), (95, .irem, 1), (96, .imul, 1), (97, .isub, 1), (98, .ishr, 1), (99, .sipush 255, 3), (102, .iand, 1), (103, .iastore, 1), (104, .aload_n 0, 1), (105, .dup, 1), (106, .getfield 100, 3), (109, .iconst 1, 1), (110, .iadd, 1), (111, .putfield 100, 3), (114, .iinc 6 1, 3), (117, .goto (-94), 3), (120, .aload_n 0, 1), (121, .getfield 100, 3), (124, .ireturn, 1)]
theorem kdX12_feed_ok : ∀ q ∈ kdX12_feed, decode cX12_feed q.1 = .ok q.2 := by decide +kernel
def kdX12_byteAt : List (Nat × Instr × Nat) := [(0, .iload_n 1, 1), (1, .aload_n 0, 1), (2, .getfield 103, 3), (5, .if_icmp .ge 12, 3), (8, .aload_n 0, 1), (9, .getfield 37, 3), (12, .iload_n 1, 1), (13, .iaload, 1), (14, .goto 4, 3), (17, .iconst (-1), 1), (18, .ireturn, 1)]
theorem kdX12_byteAt_ok : ∀ q ∈ kdX12_byteAt, decode cX12_byteAt q.1 = .ok q.2 := by decide +kernel
def kdX12_isLetter : List (Nat × Instr × Nat) := [(0, .iload_n 0, 1), (1, .bipush 97, 2), (3, .if_icmp .lt 13, 3), (6, .iload_n 0, 1), (7, .bipush 122, 2), (9, .if_icmp .gt 7, 3), (12, .iconst 1, 1), (13, .goto 4, 3), (16, .iconst 0, 1), (17, .ireturn, 1)]
theorem kdX12_isLetter_ok : ∀ q ∈ kdX12_isLetter, decode cX12_isLetter q.1 = .ok q.2 := by decide +kernel
def kdX12_isDigit : List (Nat × Instr × Nat) := [(0, .iload_n 0, 1), (1, .bipush 48, 2), (3, .if_icmp .lt 13, 3), (6, .iload_n 0, 1), (7, .bipush 57, 2), (9, .if_icmp .gt 7, 3), (12, .iconst 1, 1), (13, .goto 4, 3), (16, .iconst 0, 1), (17, .ireturn, 1)]
theorem kdX12_isDigit_ok : ∀ q ∈ kdX12_isDigit, decode cX12_isDigit q.1 = .ok q.2 := by decide +kernel
def kdX12_stepOn : List (Nat × Instr × Nat) := [(0, .aload_n 0, 1), (1, .aload_n 0, 1), (2, .getfield 106, 3), (5, .invokevirtual 109, 3), (8, .bipush 32, 2), (10, .if_icmp .eq 16, 3), (13, .aload_n 0, 1), (14, .aload_n 0, 1), (15, .getfield 106, 3), (18, .invokevirtual 109, 3), (21, .bipush 10, 2), (23, .if_icmp .ne 16, 3), (26, .aload_n 0, 1), (27, .dup, 1), (28, .getfield 106, 3), (31, .iconst 1, 1), (32, .iadd, 1), (33, .putfield 106, 3), (36, .goto (-36), 3), (39, .aload_n 0, 1), (40, .aload_n 0, 1), (41, .getfield 106, 3), (44, .putfield 113, 3), (47, .aload_n 0, 1), (48, .aload_n 0, 1), (49, .getfield 106, 3), (52, .invokevirtual 109, 3), (55, .istore_n 1, 1), (56, .iload_n 1, 1), (57, .iconst (-1), 1), (58, .if_icmp .ne 11, 3), (61, .aload_n 0, 1), (62, .iconst 0, 1), (63, .putfield 116, 3), (66, .goto 145, 3), (69, .iload_n 1, 1), (70, .invokestatic 119, 3), (73, .ifCond .eq 38, 3), (76, .aload_n 0, 1), (77, .aload_n 0, 1), (78, .getfield 106, 3), (81, .invokevirtual 109, 3), (84, .invokestatic 119, 3), (87, .ifCond .eq 16, 3), (90, .aload_n 0, 1), (91, .dup, 1), (92, .getfield 106, 3), (95, .iconst 1, 1), (96, .iadd, 1), (97, .putfield 106, 3), (100, .goto (-24), 3), (103, .aload_n 0, 1), (104, .iconst 1, 1), (105, .putfield 116, 3), (108, .goto 103, 3), (111, .iload_n 1, 1), (112, .invokestatic 123, 3), (115, .ifCond .eq 71, 3), (118, .aload_n 0, 1), (119, .iconst 0, 1), (120, .putfield 126, 3), (123, .aload_n 0, 1), (124, .aload_n 0, 1), (125, .getfield 106, 3), (128, .invokevirtual 109, 3), (131, .invokestatic 123, 3), (134, .ifCond .eq 44, 3), (137, .aload_n 0, 1), (138, .ldc 129, 2), (140, .bipush 10, 2), (142, .aload_n 0, 1), (143, .getfield 126, 3), (146, .imul, 1), (147, .aload_n 0, 1), (148, .aload_n 0, 1), (149, .getfield 106, 3), (152, .invokevirtual 109, 3), (155, .iadd, 1), (156, .bipush 48, 2), (158, .isub, 1), (159, .invokestatic 130, 3), (162, .putfield 126, 3), (165, .aload_n 0, 1), (166, .dup, 1), (167, .getfield 106, 3), (170, .iconst 1, 1), (171, .iadd, 1), (172, .putfield 106, 3), (175, .goto (-52), 3), (178, .aload_n 0, 1), (179, .iconst 2, 1), (180, .putfield 116, 3), (183, .goto 28, 3), (186, .aload_n 0, 1), (187, .dup, 1), (188, .getfield 106, 3), (191, .iconst 1, 1), (192, .iadd, 1), (193, .putfield 106, 3), (196, .aload_n 0, 1), (197, .iload_n 1, 1), (198, .bipush 59, 2), (200, .if_icmp .ne 7, 3), (203, .iconst 3, 1), (204, .goto 4, 3), (207, .iconst 4, 1), (208, .putfield 116, 3), (211, .aload_n 0, 1), (212, .aload_n 0, 1), (213, .getfield 106, 3), (216, .putfield 136, 3), (219, .return_, 1)]
theorem kdX12_stepOn_ok : ∀ q ∈ kdX12_stepOn, decode cX12_stepOn q.1 = .ok q.2 := by decide +kernel
def kdX12_wrong : List (Nat × Instr × Nat) := [(0, .aload_n 0, 1), (1, .getfield 139, 3), (4, .ifCond .eq 4, 3), (7, .return_, 1), (8, .aload_n 0, 1), (9, .iload_n 1, 1), (10, .putfield 139, 3), (13, .aload_n 0, 1), (14, .aload_n 0, 1), (15, .getfield 113, 3), (18, .putfield 142, 3), (21, .return_, 1)]
theorem kdX12_wrong_ok : ∀ q ∈ kdX12_wrong, decode cX12_wrong q.1 = .ok q.2 := by decide +kernel
def kdX12_is : List (Nat × Instr × Nat) := [(0, .aload_n 0, 1), (1, .getfield 139, 3), (4, .ifCond .ne 31, 3), (7, .aload_n 0, 1), (8, .getfield 116, 3), (11, .iconst 1, 1), (12, .if_icmp .ne 23, 3), (15, .aload_n 1, 1), (16, .invokevirtual 145, 3), (19, .aload_n 0, 1), (20, .getfield 136, 3), (23, .aload_n 0, 1), (24, .getfield 113, 3), (27, .isub, 1), (28, .if_icmp .ne 7, 3), (31, .iconst 1, 1), (32, .goto 4, 3), (35, .iconst 0, 1), (36, .istore_n 2, 1), (37, .iconst 0, 1), (38, .istore_n 3, 1), (39, .iload_n 2, 1), (40, .ifCond .eq 42, 3), (43, .iload_n 3, 1), (44, .aload_n 1, 1), (45, .invokevirtual 145, 3), (48, .if_icmp .ge 34, 3), (51, .aload_n 1, 1), (52, .iload_n 3, 1), (53, .invokevirtual 151, 3), (56, .aload_n 0, 1), (57, .getfield 37, 3), (60, .aload_n 0, 1), (61, .getfield 113, 3), (64, .iload_n 3, 1), (65, .iadd, 1), (66, .iaload, 1), (67, .if_icmp .ne 7, 3), (70, .iconst 1, 1), (71, .goto 4, 3), (74, .iconst 0, 1), (75, .istore_n 2, 1), (76, .iinc 3 1, 3), (79, .goto (-40), 3), (82, .iload_n 2, 1), (83, .ireturn, 1)]
theorem kdX12_is_ok : ∀ q ∈ kdX12_is, decode cX12_is q.1 = .ok q.2 := by decide +kernel
def kdX12_passes : List (Nat × Instr × Nat) := [(0, .aload_n 0, 1), (1, .aload_n 1, 1), (2, .invokevirtual 155, 3), (5, .istore_n 2, 1), (6, .iload_n 2, 1), (7, .ifCond .eq 7, 3), (10, .aload_n 0, 1), (11, .invokevirtual 159, 3), (14, .iload_n 2, 1), (15, .ireturn, 1)]
theorem kdX12_passes_ok : ∀ q ∈ kdX12_passes, decode cX12_passes q.1 = .ok q.2 := by decide +kernel
def kdX12_readNumber : List (Nat × Instr × Nat) := [(0, .aload_n 0, 1), (1, .getfield 139, 3), (4, .ifCond .eq 5, 3), (7, .iconst 0, 1), (8, .ireturn, 1), (9, .aload_n 0, 1), (10, .getfield 116, 3), (13, .iconst 2, 1), (14, .if_icmp .eq 11, 3), (17, .aload_n 0, 1), (18, .iconst 1, 1), (19, .invokevirtual 162, 3), (22, .goto 37, 3), (25, .aload_n 0, 1), (26, .getfield 136, 3), (29, .aload_n 0, 1), (30, .getfield 113, 3), (33, .isub, 1), (34, .iconst 4, 1), (35, .if_icmp .gt 19, 3), (38, .aload_n 0, 1), (39, .getfield 126, 3), (42, .iload_n 1, 1), (43, .if_icmp .lt 11, 3), (46, .aload_n 0, 1), (47, .getfield 126, 3), (50, .iload_n 2, 1), (51, .if_icmp .le 8, 3), (54, .aload_n 0, 1), (55, .iconst 2, 1), (56, .invokevirtual 162, 3), (59, .aload_n 0, 1), (60, .getfield 126, 3), (63, .istore_n 3, 1), (64, .aload_n 0, 1), (65, .getfield 139, 3), (68, .ifCond .ne 7, 3), (71, .aload_n 0, 1), (72, .invokevirtual 159, 3), (75, .iload_n 3, 1), (76, .ireturn, 1)]
theorem kdX12_readNumber_ok : ∀ q ∈ kdX12_readNumber, decode cX12_readNumber q.1 = .ok q.2 := by decide +kernel
def kdX12_perhaps : List (Nat × Instr × Nat) := [(0, .aload_n 0, 1), (1, .aload_n 1, 1), (2, .invokevirtual 166, 3), (5, .ifCond .eq 12, 3), (8, .aload_n 0, 1), (9, .iconst 0, 1), (10, .iload_n 2, 1), (11, .invokevirtual 169, 3), (14, .goto 4, 3), (17, .iload_n 3, 1), (18, .ireturn, 1)]
theorem kdX12_perhaps_ok : ∀ q ∈ kdX12_perhaps, decode cX12_perhaps q.1 = .ok q.2 := by decide +kernel
def kdX12_semi : List (Nat × Instr × Nat) := [(0, .aload_n 0, 1), (1, .getfield 139, 3), (4, .ifCond .ne 16, 3), (7, .aload_n 0, 1), (8, .getfield 116, 3), (11, .iconst 3, 1), (12, .if_icmp .eq 8, 3), (15, .aload_n 0, 1), (16, .iconst 1, 1), (17, .invokevirtual 162, 3), (20, .aload_n 0, 1), (21, .getfield 139, 3), (24, .ifCond .ne 7, 3), (27, .aload_n 0, 1), (28, .invokevirtual 159, 3), (31, .return_, 1)]
theorem kdX12_semi_ok : ∀ q ∈ kdX12_semi, decode cX12_semi q.1 = .ok q.2 := by decide +kernel
def kdX12_readWall : List (Nat × Instr × Nat) := [(0, .aload_n 0, 1), (1, .getfield 172, 3), (4, .iconst 4, 1), (5, .if_icmp .ne 8, 3), (8, .aload_n 0, 1), (9, .iconst 2, 1), (10, .invokevirtual 162, 3), (13, .aload_n 0, 1), (14, .getfield 139, 3), (17, .ifCond .eq 4, 3), (20, .return_, 1), (21, .aload_n 0, 1), (22, .invokevirtual 159, 3), (25, .iconst 4, 1), (26, .aload_n 0, 1), (27, .getfield 172, 3), (30, .iadd, 1), (31, .istore_n 1, 1), (32, .iconst 0, 1), (33, .istore_n 2, 1), (34, .iload_n 2, 1), (35, .sipush 325, 3), (38, .if_icmp .ge 16, 3), (41, .aload_n 0, 1), (42, .iload_n 1, 1), (43, .iload_n 2, 1), (44, .iconst 0, 1), (45, .invokevirtual 175, 3), (48, .iinc 2 1, 3), (51, .goto (-17), 3), (54, .aload_n 0, 1), (55, .iload_n 1, 1), (56, .iconst 0, 1), (57, .aload_n 0, 1), (58, .iconst 1, 1), (59, .bipush 6, 2), (61, .invokevirtual 169, 3), (64, .invokevirtual 175, 3), (67, .aload_n 0, 1), (68, .iload_n 1, 1), (69, .iconst 2, 1), (70, .aload_n 0, 1), (71, .ldc 179, 2), (73, .bipush 20, 2), (75, .iconst 0, 1), (76, .invokevirtual 181, 3), (79, .invokevirtual 175, 3), (82, .aload_n 0, 1), (83, .iload_n 1, 1), (84, .iconst 3, 1), (85, .aload_n 0, 1), (86, .ldc 185, 2), (88, .bipush 9, 2), (90, .iconst 0, 1), (91, .invokevirtual 181, 3), (94, .invokevirtual 175, 3), (97, .aload_n 0, 1), (98, .iload_n 1, 1), (99, .iconst 4, 1), (100, .aload_n 0, 1), (101, .ldc 187, 2), (103, .invokevirtual 166, 3), (106, .ifCond .eq 7, 3), (109, .iconst 1, 1), (110, .goto 4, 3), (113, .iconst 0, 1), (114, .invokevirtual 175, 3), (117, .aload_n 0, 1), (118, .iload_n 1, 1), (119, .iconst 5, 1), (120, .aload_n 0, 1), (121, .ldc 189, 2), (123, .bipush 100, 2), (125, .bipush 100, 2), (127, .invokevirtual 181, 3), (130, .invokevirtual 175, 3), (133, .aload_n 0, 1), (134, .iload_n 1, 1), (135, .bipush 6, 2), (137, .aload_n 0, 1), (138, .ldc 191, 2), (140, .bipush 100, 2), (142, .bipush 100, 2), (144, .invokevirtual 181, 3), (147, .invokevirtual 175, 3), (150, .aload_n 0, 1), (151, .dup, 1), (152, .getfield 172, 3), (155, .iconst 1, 1), (156, .iadd, 1), (157, .putfield 172, 3), (160, .return_, 1)]
theorem kdX12_readWall_ok : ∀ q ∈ kdX12_readWall, decode cX12_readWall q.1 = .ok q.2 := by decide +kernel
def kdX12_readWeek : List (Nat × Instr × Nat) := [(0, .aload_n 0, 1), (1, .getfield 31, 3), (4, .iconst 1, 1), (5, .iaload, 1), (6, .istore_n 1, 1), (7, .iload_n 1, 1), (8, .bipush 30, 2), (10, .if_icmp .ne 8, 3), (13, .aload_n 0, 1), (14, .iconst 2, 1), (15, .invokevirtual 162, 3), (18, .aload_n 0, 1), (19, .getfield 139, 3), (22, .ifCond .eq 4, 3), (25, .return_, 1), (26, .aload_n 0, 1), (27, .invokevirtual 159, 3), (30, .aload_n 0, 1), (31, .getfield 22, 3), (34, .bipush 30, 2), (36, .iload_n 1, 1), (37, .iadd, 1), (38, .aload_n 0, 1), (39, .iconst 0, 1), (40, .bipush 99, 2), (42, .invokevirtual 169, 3), (45, .iastore, 1), (46, .aload_n 0, 1), (47, .getfield 25, 3), (50, .bipush 30, 2), (52, .iload_n 1, 1), (53, .iadd, 1), (54, .aload_n 0, 1), (55, .iconst 0, 1), (56, .bipush 99, 2), (58, .invokevirtual 169, 3), (61, .iastore, 1), (62, .aload_n 0, 1), (63, .getfield 28, 3), (66, .bipush 30, 2), (68, .iload_n 1, 1), (69, .iadd, 1), (70, .aload_n 0, 1), (71, .ldc 193, 2), (73, .invokevirtual 166, 3), (76, .ifCond .eq 7, 3), (79, .iconst 1, 1), (80, .goto 4, 3), (83, .iconst 0, 1), (84, .iastore, 1), (85, .aload_n 0, 1), (86, .getfield 31, 3), (89, .iconst 1, 1), (90, .dup2, 1), (91, .iaload, 1), (92, .iconst 1, 1), (93, .iadd, 1), (94, .iastore, 1), (95, .return_, 1)]
theorem kdX12_readWeek_ok : ∀ q ∈ kdX12_readWeek, decode cX12_readWeek q.1 = .ok q.2 := by decide +kernel
def kdX12_readLine : List (Nat × Instr × Nat) := [(0, .aload_n 0, 1), (1, .ldc 194, 2), (3, .invokevirtual 155, 3), (6, .istore_n 2, 1), (7, .iload_n 2, 1), (8, .ifCond .ne 29, 3), (11, .aload_n 0, 1), (12, .ldc 195, 2), (14, .invokevirtual 155, 3), (17, .ifCond .ne 20, 3), (20, .aload_n 0, 1), (21, .ldc 197, 2), (23, .invokevirtual 155, 3), (26, .ifCond .ne 11, 3), (29, .aload_n 0, 1), (30, .iconst 1, 1), (31, .invokevirtual 162, 3), (34, .goto 16, 3), (37, .iload_n 2, 1), (38, .ifCond .eq 12, 3), (41, .iload_n 1, 1), (42, .ifCond .eq 8, 3), (45, .aload_n 0, 1), (46, .iconst 3, 1), (47, .invokevirtual 162, 3), (50, .aload_n 0, 1), (51, .getfield 139, 3), (54, .ifCond .eq 5, 3), (57, .iload_n 1, 1), (58, .ireturn, 1), (59, .iload_n 2, 1), (60, .ifCond .eq 37, 3), (63, .aload_n 0, 1), (64, .invokevirtual 159, 3), (67, .iconst 3, 1), (68, .istore_n 3, 1), (69, .iload_n 3, 1), (70, .bipush 6, 2), (72, .if_icmp .ge 22, 3), (75, .aload_n 0, 1), (76, .getfield 19, 3), (79, .iload_n 3, 1), (80, .aload_n 0, 1), (81, .iconst 0, 1), (82, .bipush 99, 2), (84, .invokevirtual 169, 3), (87, .iastore, 1), (88, .iinc 3 1, 3), (91, .goto (-22), 3), (94, .goto 23, 3), (97, .aload_n 0, 1), (98, .ldc 195, 2), (100, .invokevirtual 155, 3), (103, .ifCond .eq 10, 3), (106, .aload_n 0, 1), (107, .invokevirtual 199, 3), (110, .goto 7, 3), (113, .aload_n 0, 1), (114, .invokevirtual 202, 3), (117, .aload_n 0, 1), (118, .invokevirtual 205, 3), (121, .iload_n 1, 1), (122, .ifCond .ne 7, 3), (125, .iload_n 2, 1), (126, .ifCond .eq 7, 3), (129, .iconst 1, 1), (130, .goto 4, 3), (133, .iconst 0, 1), (134, .ireturn, 1)]
theorem kdX12_readLine_ok : ∀ q ∈ kdX12_readLine, decode cX12_readLine q.1 = .ok q.2 := by decide +kernel
def kdX12_yard : List (Nat × Instr × Nat) := [(0, .aload_n 0, 1), (1, .iconst 0, 1), (2, .putfield 90, 3), (5, .iload_n 1, 1), (6, .ifCond .lt 11, 3), (9, .iload_n 1, 1), (10, .aload_n 0, 1), (11, .getfield 100, 3), (14, .if_icmp .le 9, 3), (17, .aload_n 0, 1), (18, .iconst 1, 1), (19, .invokevirtual 208, 3), (22, .ireturn, 1), (23, .aload_n 0, 1), (24, .iconst 0, 1), (25, .putfield 100, 3), (28, .aload_n 0, 1), (29, .iload_n 1, 1), (30, .putfield 103, 3), (33, .aload_n 0, 1), (34, .iconst 0, 1), (35, .putfield 106, 3), (38, .aload_n 0, 1), (39, .iconst 0, 1), (40, .putfield 139, 3), (43, .aload_n 0, 1), (44, .iconst (-1), 1), (45, .putfield 40, 3), (48, .aload_n 0, 1), (49, .iconst 0, 1), (50, .putfield 172, 3), (53, .aload_n 0, 1), (54, .getfield 31, 3), (57, .iconst 1, 1), (58, .iconst 0, 1), (59, .iastore, 1), (60, .aload_n 0, 1), (61, .getfield 19, 3), (64, .iconst 3, 1), (65, .bipush 30, 2), (67, .iastore, 1), (68, .aload_n 0, 1), (69, .getfield 19, 3), (72, .iconst 4, 1), (73, .bipush 50, 2), (75, .iastore, 1), (76, .aload_n 0, 1), (77, .getfield 19, 3), (80, .iconst 5, 1), (81, .iconst 5, 1), (82, .iastore, 1), (83, .aload_n 0, 1), (84, .invokevirtual 159, 3), (87, .iconst 0, 1), (88, .istore_n 2, 1), (89, .aload_n 0, 1), (90, .getfield 139, 3), (93, .ifCond .ne 19, 3), (96, .aload_n 0, 1), (97, .getfield 116, 3), (100, .ifCond .eq 12, 3), (103, .aload_n 0, 1), (104, .iload_n 2, 1), (105, .invokevirtual 211, 3), (108, .istore_n 2, 1), (109, .goto (-20), 3), (112, .aload_n 0, 1), (113, .getfield 139, 3), (116, .ifCond .eq 26, 3), (119, .aload_n 0, 1), (120, .aload_n 0, 1), (121, .getfield 142, 3), (124, .putfield 40, 3), (127, .aload_n 0, 1), (128, .getfield 34, 3), (131, .iconst 0, 1), (132, .dup2, 1), (133, .iaload, 1), (134, .iconst 1, 1), (135, .iadd, 1), (136, .iastore, 1), (137, .aload_n 0, 1), (138, .getfield 139, 3), (141, .ireturn, 1), (142, .aload_n 0, 1), (143, .aload_n 0, 1), (144, .getfield 172, 3), (147, .putfield 93, 3), (150, .aload_n 0, 1), (151, .getfield 31, 3), (154, .iconst 0, 1), (155, .aload_n 0, 1), (156, .getfield 31, 3), (159, .iconst 1, 1), (160, .iaload, 1), (161, .iastore, 1), (162, .iconst 0, 1), (163, .istore_n 3, 1), (164, .iload_n 3, 1), (165, .iconst 3, 1), (166, .if_icmp .ge 23, 3), (169, .aload_n 0, 1), (170, .getfield 19, 3), (173, .iload_n 3, 1), (174, .aload_n 0, 1), (175, .getfield 19, 3), (178, .iconst 3, 1), (179, .iload_n 3, 1), (180, .iadd, 1), (181, .iaload, 1), (182, .iastore, 1), (183, .iinc 3 1, 3), (186, .goto (-22), 3), (189, .iconst 0, 1), (190, .istore_n 3, 1), (191, .iload_n 3, 1), (192, .aload_n 0, 1), (193, .getfield 93, 3), (196, .if_icmp .ge 17, 3), (199, .aload_n 0, 1), (200, .iconst 4, 1), (201, .iload_n 3, 1), (202, .iadd, 1), (203, .iload_n 3, 1), (204, .invokevirtual 215, 3), (207, .iinc 3 1, 3), (210, .goto (-19), 3), (213, .iconst 0, 1), (214, .istore_n 3, 1), (215, .iload_n 3, 1), (216, .bipush 30, 2), (218, .if_icmp .ge 54, 3), (221, .aload_n 0, 1), (222, .getfield 22, 3), (225, .iload_n 3, 1), (226, .aload_n 0, 1), (227, .getfield 22, 3), (230, .bipush 30, 2), (232, .iload_n 3, 1), (233, .iadd, 1), (234, .iaload, 1), (235, .iastore, 1), (236, .aload_n 0, 1), (237, .getfield 25, 3), (240, .iload_n 3, 1), (241, .aload_n 0, 1), (242, .getfield 25, 3), (245, .bipush 30, 2), (247, .iload_n 3, 1), (248, .iadd, 1), (249, .iaload, 1), (250, .iastore, 1), (251, .aload_n 0, 1), (252, .getfield 28, 3), (255, .iload_n 3, 1), (256, .aload_n 0, 1), (257, .getfield 28, 3), (260, .bipush 30, 2), (262, .iload_n 3, 1), (263, .iadd, 1), (264, .iaload, 1), (265, .iastore, 1), (266, .iinc 3 1, 3), (269, .goto (-54), 3), (272, .aload_n 0, 1), (273, .iconst 0, 1), (274, .putfield 219, 3), (277, .aload_n 0, 1), (278, .iconst (-1), 1), (279, .putfield 65, 3), (282, .aload_n 0, 1), (283, .iconst (-1), 1), (284, .putfield 68, 3), (287, .aload_n 0, 1), (288, .iconst 0, 1), (289, .putfield 222, 3), (292, .iconst 0, 1), (293, .istore_n 3, 1), (294, .iload_n 3, 1), (295, .iconst 4, 1), (296, .if_icmp .ge 16, 3), (299, .aload_n 0, 1), (300, .getfield 80, 3), (303, .iload_n 3, 1), (304, .iconst 0, 1), (305, .bastore, 1), (306, .iinc 3 1, 3), (309, .goto (-15), 3), (312, .aload_n 0, 1), (313, .iconst 0, 1), (314, .putfield 225, 3), (317, .aload_n 0, 1), (318, .iconst (-1), 1), (319, .putfield 50, 3), (322, .aload_n 0, 1), (323, .iconst (-1), 1), (324, .putfield 62, 3), (327, .iconst 0, 1), (328, .ireturn, 1)]
theorem kdX12_yard_ok : ∀ q ∈ kdX12_yard, decode cX12_yard q.1 = .ok q.2 := by decide +kernel
def kdX12_fault : List (Nat × Instr × Nat) := [(0, .aload_n 0, 1), (1, .iconst 0, 1), (2, .putfield 90, 3), (5, .aload_n 0, 1), (6, .getfield 40, 3), (9, .ireturn, 1)]
theorem kdX12_fault_ok : ∀ q ∈ kdX12_fault, decode cX12_fault q.1 = .ok q.2 := by decide +kernel
def kdX12_count : List (Nat × Instr × Nat) := [(0, .aload_n 0, 1), (1, .iconst 0, 1), (2, .putfield 90, 3), (5, .iload_n 1, 1), (6, .bipush 8, 2), (8, .bipush 11, 2), (10, .invokestatic 96, 3), (13, .ifCond .eq 13, 3), (16, .aload_n 0, 1), (17, .getfield 34, 3), (20, .iload_n 1, 1), (21, .bipush 8, 2), (23, .isub, 1), (24, .iaload, 1), (25, .ireturn, 1), (26, .iconst 0, 1), (27, .istore_n 2, 1), (28, .iload_n 1, 1), (29, .tableswitch 118 0 7 #[47, 52, 59, 64, 69, 74, 79, 79], 47), (76, .aload_n 0, 1), (77, .getfield 93, 3), (80, .ireturn, 1), (81, .aload_n 0, 1), (82, .getfield 31, 3), (85, .iconst 0, 1), (86, .iaload, 1), (87, .ireturn, 1), (88, .aload_n 0, 1), (89, .invokevirtual 229, 3), (92, .ireturn, 1), (93, .aload_n 0, 1), (94, .invokevirtual 232, 3), (97, .ireturn, 1), (98, .aload_n 0, 1), (99, .invokevirtual 235, 3), (102, .ireturn, 1), (103, .aload_n 0, 1), (104, .getfield 100, 3), (107, .ireturn, 1), (108, .iconst 0, 1), (109, .istore_n 3, 1), (110, .iload_n 3, 1), (111, .aload_n 0, 1), (112, .getfield 93, 3), (115, .if_icmp .ge 30, 3), (118, .iload_n 2, 1), (119, .aload_n 0, 1), (120, .iload_n 3, 1), (121, .iload_n 1, 1), (122, .bipush 6, 2), (124, .if_icmp .ne 8, 3), (127, .bipush 11, 2), (129, .goto 5, 3), (132, .bipush 12, 2), (134, .invokevirtual 238, 3), (137, .iadd, 1), (138, .istore_n 2, 1), (139, .iinc 3 1, 3), (142, .goto (-32), 3), (145, .iload_n 2, 1), (146, .ireturn, 1), (147, .aload_n 0, 1), (148, .iconst 1, 1), (149, .invokevirtual 208, 3), (152, .ireturn, 1)]
theorem kdX12_count_ok : ∀ q ∈ kdX12_count, decode cX12_count q.1 = .ok q.2 := by decide +kernel
def kdX12_waterIn : List (Nat × Instr × Nat) := [(0, .iconst 0, 1), (1, .istore_n 2, 1), (2, .iconst 0, 1), (3, .istore_n 3, 1), (4, .iload_n 3, 1), (5, .aload_n 0, 1), (6, .iload_n 1, 1), (7, .iconst 1, 1), (8, .invokevirtual 238, 3), (11, .if_icmp .ge 46, 3), (14, .iconst 0, 1), (15, .istore 4, 2), (17, .iload 4, 2), (19, .aload_n 0, 1), (20, .iload_n 1, 1), (21, .iconst 0, 1), (22, .invokevirtual 238, 3), (25, .if_icmp .ge 26, 3), (28, .iload_n 2, 1), (29, .aload_n 0, 1), (30, .iload_n 1, 1), (31, .bipush 37, 2), (33, .iload_n 3, 1), (34, .iload 4, 2), (36, .invokestatic 241, 3), (39, .iadd, 1), (40, .invokevirtual 238, 3), (43, .iadd, 1), (44, .istore_n 2, 1), (45, .iinc 4 1, 3), (48, .goto (-31), 3), (51, .iinc 3 1, 3), (54, .goto (-50), 3), (57, .iload_n 2, 1), (58, .ireturn, 1)]
theorem kdX12_waterIn_ok : ∀ q ∈ kdX12_waterIn, decode cX12_waterIn q.1 = .ok q.2 := by decide +kernel
def kdX12_wall : List (Nat × Instr × Nat) := [(0, .aload_n 0, 1), (1, .iconst 0, 1), (2, .putfield 90, 3), (5, .aload_n 0, 1), (6, .iload_n 1, 1), (7, .invokevirtual 244, 3), (10, .ifCond .eq 13, 3), (13, .iload_n 2, 1), (14, .iconst 0, 1), (15, .bipush 11, 2), (17, .invokestatic 96, 3), (20, .ifCond .ne 9, 3), (23, .aload_n 0, 1), (24, .iconst 1, 1), (25, .invokevirtual 208, 3), (28, .ireturn, 1), (29, .iload_n 2, 1), (30, .bipush 9, 2), (32, .if_icmp .ne 11, 3), (35, .aload_n 0, 1), (36, .iload_n 1, 1), (37, .invokevirtual 247, 3), (40, .goto 26, 3), (43, .iload_n 2, 1), (44, .bipush 9, 2), (46, .if_icmp .ge 12, 3), (49, .aload_n 0, 1), (50, .iload_n 1, 1), (51, .iload_n 2, 1), (52, .invokevirtual 238, 3), (55, .goto 11, 3), (58, .aload_n 0, 1), (59, .iload_n 1, 1), (60, .iload_n 2, 1), (61, .iconst 1, 1), (62, .isub, 1), (63, .invokevirtual 238, 3), (66, .ireturn, 1)]
theorem kdX12_wall_ok : ∀ q ∈ kdX12_wall, decode cX12_wall q.1 = .ok q.2 := by decide +kernel
def kdX12_isLayer : List (Nat × Instr × Nat) := [(0, .aload_n 0, 1), (1, .iload_n 1, 1), (2, .invokevirtual 244, 3), (5, .ifCond .eq 23, 3), (8, .iload_n 2, 1), (9, .iconst 0, 1), (10, .aload_n 0, 1), (11, .iload_n 1, 1), (12, .iconst 1, 1), (13, .invokevirtual 238, 3), (16, .iconst 1, 1), (17, .isub, 1), (18, .invokestatic 96, 3), (21, .ifCond .eq 7, 3), (24, .iconst 1, 1), (25, .goto 4, 3), (28, .iconst 0, 1), (29, .ireturn, 1)]
theorem kdX12_isLayer_ok : ∀ q ∈ kdX12_isLayer, decode cX12_isLayer q.1 = .ok q.2 := by decide +kernel
def kdX12_isCell : List (Nat × Instr × Nat) := [(0, .aload_n 0, 1), (1, .iload_n 1, 1), (2, .iload_n 2, 1), (3, .invokevirtual 250, 3), (6, .ifCond .eq 23, 3), (9, .iload_n 3, 1), (10, .iconst 0, 1), (11, .aload_n 0, 1), (12, .iload_n 1, 1), (13, .iconst 0, 1), (14, .invokevirtual 238, 3), (17, .iconst 1, 1), (18, .isub, 1), (19, .invokestatic 96, 3), (22, .ifCond .eq 7, 3), (25, .iconst 1, 1), (26, .goto 4, 3), (29, .iconst 0, 1), (30, .ireturn, 1)]
theorem kdX12_isCell_ok : ∀ q ∈ kdX12_isCell, decode cX12_isCell q.1 = .ok q.2 := by decide +kernel
def kdX12_isCracked : List (Nat × Instr × Nat) := [(0, .aload_n 0, 1), (1, .iload_n 1, 1), (2, .sipush 181, 3), (5, .iload_n 2, 1), (6, .iload_n 3, 1), (7, .invokestatic 241, 3), (10, .iadd, 1), (11, .invokevirtual 238, 3), (14, .iconst 1, 1), (15, .iand, 1), (16, .iconst 1, 1), (17, .if_icmp .ne 7, 3), (20, .iconst 1, 1), (21, .goto 4, 3), (24, .iconst 0, 1), (25, .ireturn, 1)]
theorem kdX12_isCracked_ok : ∀ q ∈ kdX12_isCracked, decode cX12_isCracked q.1 = .ok q.2 := by decide +kernel
def kdX12_isHollow : List (Nat × Instr × Nat) := [(0, .aload_n 0, 1), (1, .iload_n 1, 1), (2, .sipush 181, 3), (5, .iload_n 2, 1), (6, .iload_n 3, 1), (7, .invokestatic 241, 3), (10, .iadd, 1), (11, .invokevirtual 238, 3), (14, .iconst 2, 1), (15, .iand, 1), (16, .iconst 2, 1), (17, .if_icmp .ne 7, 3), (20, .iconst 1, 1), (21, .goto 4, 3), (24, .iconst 0, 1), (25, .ireturn, 1)]
theorem kdX12_isHollow_ok : ∀ q ∈ kdX12_isHollow, decode cX12_isHollow q.1 = .ok q.2 := by decide +kernel
def kdX12_strength : List (Nat × Instr × Nat) := [(0, .aload_n 0, 1), (1, .iload_n 1, 1), (2, .iload_n 2, 1), (3, .iload_n 3, 1), (4, .invokevirtual 254, 3), (7, .ifCond .eq 5, 3), (10, .iconst 0, 1), (11, .ireturn, 1), (12, .aload_n 0, 1), (13, .invokevirtual 235, 3), (16, .aload_n 0, 1), (17, .invokevirtual 229, 3), (20, .iconst 0, 1), (21, .bipush 60, 2), (23, .sipush 180, 3), (26, .aload_n 0, 1), (27, .iload_n 1, 1), (28, .bipush 37, 2), (30, .iload_n 2, 1), (31, .iload_n 3, 1), (32, .invokestatic 241, 3), (35, .iadd, 1), (36, .invokevirtual 238, 3), (39, .isub, 1), (40, .invokestatic 130, 3), (43, .invokestatic 257, 3), (46, .imul, 1), (47, .bipush 60, 2), (49, .idiv, 1), (50, .iadd, 1), (51, .istore 4, 2), (53, .aload_n 0, 1), (54, .iload_n 1, 1), (55, .iload_n 2, 1), (56, .iload_n 3, 1), (57, .invokevirtual 260, 3), (60, .ifCond .eq 10, 3), (63, .iload 4, 2), (65, .iconst 2, 1), (66, .idiv, 1), (67, .goto 5, 3), (70, .iload 4, 2), (72, .ireturn, 1)]
theorem kdX12_strength_ok : ∀ q ∈ kdX12_strength, decode cX12_strength q.1 = .ok q.2 := by decide +kernel
def kdX12_load : List (Nat × Instr × Nat) := [(0, .aload_n 0, 1), (1, .iload_n 1, 1), (2, .iload_n 2, 1), (3, .iload_n 3, 1), (4, .invokevirtual 254, 3), (7, .ifCond .eq 7, 3), (10, .iconst 0, 1), (11, .goto 22, 3), (14, .bipush 10, 2), (16, .aload_n 0, 1), (17, .iload_n 1, 1), (18, .bipush 37, 2), (20, .iload_n 2, 1), (21, .iload_n 3, 1), (22, .invokestatic 241, 3), (25, .iadd, 1), (26, .invokevirtual 238, 3), (29, .bipush 50, 2), (31, .idiv, 1), (32, .iadd, 1), (33, .ireturn, 1)]
theorem kdX12_load_ok : ∀ q ∈ kdX12_load, decode cX12_load q.1 = .ok q.2 := by decide +kernel
def kdX12_bears : List (Nat × Instr × Nat) := [(0, .aload_n 0, 1), (1, .iload_n 1, 1), (2, .bipush 7, 2), (4, .invokevirtual 238, 3), (7, .bipush 50, 2), (9, .imul, 1), (10, .istore_n 3, 1), (11, .iconst 0, 1), (12, .istore 4, 2), (14, .iload 4, 2), (16, .aload_n 0, 1), (17, .iload_n 1, 1), (18, .iconst 0, 1), (19, .invokevirtual 238, 3), (22, .if_icmp .ge 20, 3), (25, .iload_n 3, 1), (26, .aload_n 0, 1), (27, .iload_n 1, 1), (28, .iload_n 2, 1), (29, .iload 4, 2), (31, .invokevirtual 263, 3), (34, .iadd, 1), (35, .istore_n 3, 1), (36, .iinc 4 1, 3), (39, .goto (-25), 3), (42, .iload_n 3, 1), (43, .ireturn, 1)]
theorem kdX12_bears_ok : ∀ q ∈ kdX12_bears, decode cX12_bears q.1 = .ok q.2 := by decide +kernel
def kdX12_presses : List (Nat × Instr × Nat) := [(0, .iconst 0, 1), (1, .istore_n 3, 1), (2, .iload_n 2, 1), (3, .iconst 1, 1), (4, .iadd, 1), (5, .istore 4, 2), (7, .iload 4, 2), (9, .aload_n 0, 1), (10, .iload_n 1, 1), (11, .iconst 1, 1), (12, .invokevirtual 238, 3), (15, .if_icmp .ge 41, 3), (18, .iconst 0, 1), (19, .istore 5, 2), (21, .iload 5, 2), (23, .aload_n 0, 1), (24, .iload_n 1, 1), (25, .iconst 0, 1), (26, .invokevirtual 238, 3), (29, .if_icmp .ge 21, 3), (32, .iload_n 3, 1), (33, .aload_n 0, 1), (34, .iload_n 1, 1), (35, .iload 4, 2), (37, .iload 5, 2), (39, .invokevirtual 267, 3), (42, .iadd, 1), (43, .istore_n 3, 1), (44, .iinc 5 1, 3), (47, .goto (-26), 3), (50, .iinc 4 1, 3), (53, .goto (-46), 3), (56, .iload_n 3, 1), (57, .ireturn, 1)]
theorem kdX12_presses_ok : ∀ q ∈ kdX12_presses, decode cX12_presses q.1 = .ok q.2 := by decide +kernel
def kdX12_sits : List (Nat × Instr × Nat) := [(0, .aload_n 0, 1), (1, .iload_n 1, 1), (2, .iload_n 2, 1), (3, .invokevirtual 270, 3), (6, .aload_n 0, 1), (7, .iload_n 1, 1), (8, .iload_n 2, 1), (9, .invokevirtual 273, 3), (12, .if_icmp .le 7, 3), (15, .iconst 1, 1), (16, .goto 4, 3), (19, .iconst 0, 1), (20, .ireturn, 1)]
theorem kdX12_sits_ok : ∀ q ∈ kdX12_sits, decode cX12_sits q.1 = .ok q.2 := by decide +kernel
def kdX12_someSits : List (Nat × Instr × Nat) := [(0, .iconst 0, 1), (1, .istore_n 2, 1), (2, .iload_n 2, 1), (3, .aload_n 0, 1), (4, .iload_n 1, 1), (5, .iconst 1, 1), (6, .invokevirtual 238, 3), (9, .if_icmp .ge 20, 3), (12, .aload_n 0, 1), (13, .iload_n 1, 1), (14, .iload_n 2, 1), (15, .invokevirtual 276, 3), (18, .ifCond .eq 5, 3), (21, .iconst 1, 1), (22, .ireturn, 1), (23, .iinc 2 1, 3), (26, .goto (-24), 3), (29, .iconst 0, 1), (30, .ireturn, 1)]
theorem kdX12_someSits_ok : ∀ q ∈ kdX12_someSits, decode cX12_someSits q.1 = .ok q.2 := by decide +kernel
def kdX12_cell : List (Nat × Instr × Nat) := [(0, .aload_n 0, 1), (1, .iconst 0, 1), (2, .putfield 90, 3), (5, .aload_n 0, 1), (6, .iload_n 1, 1), (7, .iload_n 2, 1), (8, .iload_n 3, 1), (9, .invokevirtual 279, 3), (12, .ifCond .ne 9, 3), (15, .aload_n 0, 1), (16, .iconst 1, 1), (17, .invokevirtual 208, 3), (20, .ireturn, 1), (21, .aload_n 0, 1), (22, .iload_n 1, 1), (23, .bipush 37, 2), (25, .iload_n 2, 1), (26, .iload_n 3, 1), (27, .invokestatic 241, 3), (30, .iadd, 1), (31, .invokevirtual 238, 3), (34, .istore 5, 2), (36, .iload 4, 2), (38, .tableswitch 114 0 5 #[38, 41, 57, 73, 81, 89], 38), (76, .iload 5, 2), (78, .ireturn, 1), (79, .aload_n 0, 1), (80, .iload_n 1, 1), (81, .iload_n 2, 1), (82, .iload_n 3, 1), (83, .invokevirtual 260, 3), (86, .ifCond .eq 7, 3), (89, .iconst 1, 1), (90, .goto 4, 3), (93, .iconst 0, 1), (94, .ireturn, 1), (95, .aload_n 0, 1), (96, .iload_n 1, 1), (97, .iload_n 2, 1), (98, .iload_n 3, 1), (99, .invokevirtual 254, 3), (102, .ifCond .eq 7, 3), (105, .iconst 1, 1), (106, .goto 4, 3), (109, .iconst 0, 1), (110, .ireturn, 1), (111, .aload_n 0, 1), (112, .iload_n 1, 1), (113, .iload_n 2, 1), (114, .iload_n 3, 1), (115, .invokevirtual 263, 3), (118, .ireturn, 1), (119, .aload_n 0, 1), (120, .iload_n 1, 1), (121, .iload_n 2, 1), (122, .iload_n 3, 1), (123, .invokevirtual 267, 3), (126, .ireturn, 1), (127, .iload 5, 2), (129, .sipush 180, 3), (132, .if_icmp .lt 7, 3), (135, .iconst 2, 1), (136, .goto 15, 3), (139, .iload 5, 2), (141, .bipush 120, 2), (143, .if_icmp .le 7, 3), (146, .iconst 1, 1), (147, .goto 4, 3), (150, .iconst 0, 1), (151, .ireturn, 1), (152, .aload_n 0, 1), (153, .iconst 1, 1), (154, .invokevirtual 208, 3), (157, .ireturn, 1)]
theorem kdX12_cell_ok : ∀ q ∈ kdX12_cell, decode cX12_cell q.1 = .ok q.2 := by decide +kernel
def kdX12_layer : List (Nat × Instr × Nat) := [(0, .aload_n 0, 1), (1, .iconst 0, 1), (2, .putfield 90, 3), (5, .aload_n 0, 1), (6, .iload_n 1, 1), (7, .iload_n 2, 1), (8, .invokevirtual 250, 3), (11, .ifCond .ne 9, 3), (14, .aload_n 0, 1), (15, .iconst 1, 1), (16, .invokevirtual 208, 3), (19, .ireturn, 1), (20, .iload_n 3, 1), (21, .tableswitch 70 0 3 #[31, 38, 45, 55], 31), (52, .aload_n 0, 1), (53, .iload_n 1, 1), (54, .iload_n 2, 1), (55, .invokevirtual 273, 3), (58, .ireturn, 1), (59, .aload_n 0, 1), (60, .iload_n 1, 1), (61, .iload_n 2, 1), (62, .invokevirtual 270, 3), (65, .ireturn, 1), (66, .aload_n 0, 1), (67, .iload_n 1, 1), (68, .bipush 13, 2), (70, .iload_n 2, 1), (71, .iadd, 1), (72, .invokevirtual 238, 3), (75, .ireturn, 1), (76, .aload_n 0, 1), (77, .iload_n 1, 1), (78, .iload_n 2, 1), (79, .invokevirtual 276, 3), (82, .ifCond .eq 7, 3), (85, .iconst 1, 1), (86, .goto 4, 3), (89, .iconst 0, 1), (90, .ireturn, 1), (91, .aload_n 0, 1), (92, .iconst 1, 1), (93, .invokevirtual 208, 3), (96, .ireturn, 1)]
theorem kdX12_layer_ok : ∀ q ∈ kdX12_layer, decode cX12_layer q.1 = .ok q.2 := by decide +kernel
def kdX12_raise : List (Nat × Instr × Nat) := [(0, .iconst 0, 1), (1, .istore_n 3, 1), (2, .iload_n 3, 1), (3, .iload_n 2, 1), (4, .if_icmp .ge 118, 3), (7, .aload_n 0, 1), (8, .iload_n 1, 1), (9, .iconst 1, 1), (10, .invokevirtual 238, 3), (13, .istore 4, 2), (15, .aload_n 0, 1), (16, .iload_n 1, 1), (17, .bipush 13, 2), (19, .iload 4, 2), (21, .iadd, 1), (22, .iconst 0, 1), (23, .invokevirtual 175, 3), (26, .iconst 0, 1), (27, .istore 5, 2), (29, .iload 5, 2), (31, .aload_n 0, 1), (32, .iload_n 1, 1), (33, .iconst 0, 1), (34, .invokevirtual 238, 3), (37, .if_icmp .ge 44, 3), (40, .aload_n 0, 1), (41, .iload_n 1, 1), (42, .bipush 37, 2), (44, .iload 4, 2), (46, .iload 5, 2), (48, .invokestatic 241, 3), (51, .iadd, 1), (52, .sipush 200, 3), (55, .invokevirtual 175, 3), (58, .aload_n 0, 1), (59, .iload_n 1, 1), (60, .sipush 181, 3), (63, .iload 4, 2), (65, .iload 5, 2), (67, .invokestatic 241, 3), (70, .iadd, 1), (71, .iconst 0, 1), (72, .invokevirtual 175, 3), (75, .iinc 5 1, 3), (78, .goto (-49), 3), (81, .aload_n 0, 1), (82, .iload_n 1, 1), (83, .bipush 11, 2), (85, .aload_n 0, 1), (86, .iload_n 1, 1), (87, .bipush 11, 2), (89, .invokevirtual 238, 3), (92, .sipush 200, 3), (95, .aload_n 0, 1), (96, .iload_n 1, 1), (97, .iconst 0, 1), (98, .invokevirtual 238, 3), (101, .imul, 1), (102, .iadd, 1), (103, .invokevirtual 175, 3), (106, .aload_n 0, 1), (107, .iload_n 1, 1), (108, .iconst 1, 1), (109, .iload 4, 2), (111, .iconst 1, 1), (112, .iadd, 1), (113, .invokevirtual 175, 3), (116, .iinc 3 1, 3), (119, .goto (-117), 3), (122, .return_, 1)]
theorem kdX12_raise_ok : ∀ q ∈ kdX12_raise, decode cX12_raise q.1 = .ok q.2 := by decide +kernel
def kdX12_cut : List (Nat × Instr × Nat) := [(0, .iconst 0, 1), (1, .istore_n 3, 1), (2, .iload_n 2, 1), (3, .istore 4, 2), (5, .iload 4, 2), (7, .aload_n 0, 1), (8, .iload_n 1, 1), (9, .iconst 1, 1), (10, .invokevirtual 238, 3), (13, .if_icmp .ge 47, 3), (16, .iconst 0, 1), (17, .istore 5, 2), (19, .iload 5, 2), (21, .aload_n 0, 1), (22, .iload_n 1, 1), (23, .iconst 0, 1), (24, .invokevirtual 238, 3), (27, .if_icmp .ge 27, 3), (30, .iload_n 3, 1), (31, .aload_n 0, 1), (32, .iload_n 1, 1), (33, .bipush 37, 2), (35, .iload 4, 2), (37, .iload 5, 2), (39, .invokestatic 241, 3), (42, .iadd, 1), (43, .invokevirtual 238, 3), (46, .iadd, 1), (47, .istore_n 3, 1), (48, .iinc 5 1, 3), (51, .goto (-32), 3), (54, .iinc 4 1, 3), (57, .goto (-52), 3), (60, .aload_n 0, 1), (61, .iload_n 1, 1), (62, .bipush 12, 2), (64, .aload_n 0, 1), (65, .iload_n 1, 1), (66, .bipush 12, 2), (68, .invokevirtual 238, 3), (71, .iload_n 3, 1), (72, .iadd, 1), (73, .invokevirtual 175, 3), (76, .aload_n 0, 1), (77, .iload_n 1, 1), (78, .iconst 1, 1), (79, .iload_n 2, 1), (80, .invokevirtual 175, 3), (83, .return_, 1)]
theorem kdX12_cut_ok : ∀ q ∈ kdX12_cut, decode cX12_cut q.1 = .ok q.2 := by decide +kernel
def kdX12_lift : List (Nat × Instr × Nat) := [(0, .aload_n 0, 1), (1, .iconst 0, 1), (2, .putfield 90, 3), (5, .aload_n 0, 1), (6, .iload_n 1, 1), (7, .invokevirtual 244, 3), (10, .ifCond .ne 9, 3), (13, .aload_n 0, 1), (14, .iconst 1, 1), (15, .invokevirtual 208, 3), (18, .ireturn, 1), (19, .iload_n 2, 1), (20, .iconst 1, 1), (21, .bipush 9, 2), (23, .invokestatic 96, 3), (26, .ifCond .eq 16, 3), (29, .aload_n 0, 1), (30, .iload_n 1, 1), (31, .iconst 1, 1), (32, .invokevirtual 238, 3), (35, .iload_n 2, 1), (36, .iadd, 1), (37, .bipush 24, 2), (39, .if_icmp .le 15, 3), (42, .aload_n 0, 1), (43, .getfield 34, 3), (46, .iconst 1, 1), (47, .dup2, 1), (48, .iaload, 1), (49, .iconst 1, 1), (50, .iadd, 1), (51, .iastore, 1), (52, .iconst (-1), 1), (53, .ireturn, 1), (54, .aload_n 0, 1), (55, .iload_n 1, 1), (56, .iload_n 2, 1), (57, .invokevirtual 282, 3), (60, .aload_n 0, 1), (61, .iload_n 1, 1), (62, .iconst 1, 1), (63, .invokevirtual 238, 3), (66, .ireturn, 1)]
theorem kdX12_lift_ok : ∀ q ∈ kdX12_lift, decode cX12_lift q.1 = .ok q.2 := by decide +kernel
def kdX12_down : List (Nat × Instr × Nat) := [(0, .aload_n 0, 1), (1, .iconst 0, 1), (2, .putfield 90, 3), (5, .aload_n 0, 1), (6, .iload_n 1, 1), (7, .invokevirtual 244, 3), (10, .ifCond .ne 9, 3), (13, .aload_n 0, 1), (14, .iconst 1, 1), (15, .invokevirtual 208, 3), (18, .ireturn, 1), (19, .aload_n 0, 1), (20, .iload_n 1, 1), (21, .iconst 1, 1), (22, .invokevirtual 238, 3), (25, .ifCond .ne 5, 3), (28, .iconst (-1), 1), (29, .ireturn, 1), (30, .aload_n 0, 1), (31, .iload_n 1, 1), (32, .aload_n 0, 1), (33, .iload_n 1, 1), (34, .iconst 1, 1), (35, .invokevirtual 238, 3), (38, .iconst 1, 1), (39, .isub, 1), (40, .invokevirtual 285, 3), (43, .aload_n 0, 1), (44, .iload_n 1, 1), (45, .iconst 1, 1), (46, .invokevirtual 238, 3), (49, .ireturn, 1)]
theorem kdX12_down_ok : ∀ q ∈ kdX12_down, decode cX12_down q.1 = .ok q.2 := by decide +kernel
def kdX12_hollow : List (Nat × Instr × Nat) := [(0, .aload_n 0, 1), (1, .iconst 0, 1), (2, .putfield 90, 3), (5, .aload_n 0, 1), (6, .iload_n 1, 1), (7, .iload_n 2, 1), (8, .iload_n 3, 1), (9, .invokevirtual 279, 3), (12, .ifCond .ne 9, 3), (15, .aload_n 0, 1), (16, .iconst 1, 1), (17, .putfield 90, 3), (20, .return_, 1), (21, .aload_n 0, 1), (22, .iload_n 1, 1), (23, .sipush 181, 3), (26, .iload_n 2, 1), (27, .iload_n 3, 1), (28, .invokestatic 241, 3), (31, .iadd, 1), (32, .aload_n 0, 1), (33, .iload_n 1, 1), (34, .sipush 181, 3), (37, .iload_n 2, 1), (38, .iload_n 3, 1), (39, .invokestatic 241, 3), (42, .iadd, 1), (43, .invokevirtual 238, 3), (46, .iconst 2, 1), (47, .ior, 1), (48, .invokevirtual 175, 3), (51, .return_, 1)]
theorem kdX12_hollow_ok : ∀ q ∈ kdX12_hollow, decode cX12_hollow q.1 = .ok q.2 := by decide +kernel
def kdX12_wet : List (Nat × Instr × Nat) := [(0, .bipush 37, 2), (2, .iload_n 2, 1), (3, .iload_n 3, 1), (4, .invokestatic 241, 3), (7, .iadd, 1), (8, .istore 5, 2), (10, .iload 4, 2), (12, .sipush 400, 3), (15, .aload_n 0, 1), (16, .iload_n 1, 1), (17, .iload 5, 2), (19, .invokevirtual 238, 3), (22, .isub, 1), (23, .invokestatic 130, 3), (26, .istore 6, 2), (28, .aload_n 0, 1), (29, .iload_n 1, 1), (30, .iload 5, 2), (32, .aload_n 0, 1), (33, .iload_n 1, 1), (34, .iload 5, 2), (36, .invokevirtual 238, 3), (39, .iload 6, 2), (41, .iadd, 1), (42, .invokevirtual 175, 3), (45, .aload_n 0, 1), (46, .iload_n 1, 1), (47, .bipush 11, 2), (49, .aload_n 0, 1), (50, .iload_n 1, 1), (51, .bipush 11, 2), (53, .invokevirtual 238, 3), (56, .iload 6, 2), (58, .iadd, 1), (59, .invokevirtual 175, 3), (62, .return_, 1)]
theorem kdX12_wet_ok : ∀ q ∈ kdX12_wet, decode cX12_wet q.1 = .ok q.2 := by decide +kernel
def kdX12_comeIn : List (Nat × Instr × Nat) := [(0, .aload_n 0, 1), (1, .iload_n 1, 1), (2, .iconst 1, 1), (3, .invokevirtual 238, 3), (6, .istore_n 3, 1), (7, .aload_n 0, 1), (8, .iload_n 1, 1), (9, .iconst 0, 1), (10, .invokevirtual 238, 3), (13, .istore 4, 2), (15, .iconst 3, 1), (16, .aload_n 0, 1), (17, .iload_n 1, 1), (18, .iconst 3, 1), (19, .invokevirtual 238, 3), (22, .isub, 1), (23, .istore 5, 2), (25, .iconst 0, 1), (26, .istore 6, 2), (28, .iload 6, 2), (30, .iload 4, 2), (32, .if_icmp .ge 29, 3), (35, .aload_n 0, 1), (36, .iload_n 1, 1), (37, .iconst 4, 1), (38, .invokevirtual 238, 3), (41, .ifCond .ne 20, 3), (44, .aload_n 0, 1), (45, .iload_n 1, 1), (46, .iload_n 3, 1), (47, .iconst 1, 1), (48, .isub, 1), (49, .iload 6, 2), (51, .iload_n 2, 1), (52, .invokevirtual 288, 3), (55, .iinc 6 1, 3), (58, .goto (-30), 3), (61, .iconst 0, 1), (62, .istore 6, 2), (64, .iload 6, 2), (66, .iload 5, 2), (68, .if_icmp .ge 35, 3), (71, .iload 6, 2), (73, .iload_n 3, 1), (74, .if_icmp .ge 29, 3), (77, .aload_n 0, 1), (78, .iload_n 1, 1), (79, .iload 6, 2), (81, .iconst 0, 1), (82, .iload_n 2, 1), (83, .aload_n 0, 1), (84, .iload_n 1, 1), (85, .iconst 5, 1), (86, .invokevirtual 238, 3), (89, .imul, 1), (90, .sipush 200, 3), (93, .idiv, 1), (94, .invokevirtual 288, 3), (97, .iinc 6 1, 3), (100, .goto (-36), 3), (103, .iconst 0, 1), (104, .istore 6, 2), (106, .iload 6, 2), (108, .iload 4, 2), (110, .if_icmp .ge 32, 3), (113, .aload_n 0, 1), (114, .iload_n 1, 1), (115, .iconst 0, 1), (116, .iload 6, 2), (118, .aload_n 0, 1), (119, .iload_n 1, 1), (120, .iconst 2, 1), (121, .invokevirtual 238, 3), (124, .iconst 0, 1), (125, .iload 5, 2), (127, .invokestatic 257, 3), (130, .imul, 1), (131, .iconst 3, 1), (132, .idiv, 1), (133, .invokevirtual 288, 3), (136, .iinc 6 1, 3), (139, .goto (-33), 3), (142, .return_, 1)]
theorem kdX12_comeIn_ok : ∀ q ∈ kdX12_comeIn, decode cX12_comeIn q.1 = .ok q.2 := by decide +kernel
def kdX12_flow : List (Nat × Instr × Nat) := [(0, .aload_n 0, 1), (1, .getfield 16, 3), (4, .iload_n 2, 1), (5, .iaload, 1), (6, .aload_n 0, 1), (7, .getfield 16, 3), (10, .iload_n 3, 1), (11, .iaload, 1), (12, .isub, 1), (13, .iload 4, 2), (15, .idiv, 1), (16, .istore 5, 2), (18, .aload_n 0, 1), (19, .iload_n 1, 1), (20, .bipush 37, 2), (22, .iload_n 2, 1), (23, .iadd, 1), (24, .aload_n 0, 1), (25, .iload_n 1, 1), (26, .bipush 37, 2), (28, .iload_n 2, 1), (29, .iadd, 1), (30, .invokevirtual 238, 3), (33, .iload 5, 2), (35, .isub, 1), (36, .invokevirtual 175, 3), (39, .aload_n 0, 1), (40, .iload_n 1, 1), (41, .bipush 37, 2), (43, .iload_n 3, 1), (44, .iadd, 1), (45, .aload_n 0, 1), (46, .iload_n 1, 1), (47, .bipush 37, 2), (49, .iload_n 3, 1), (50, .iadd, 1), (51, .invokevirtual 238, 3), (54, .iload 5, 2), (56, .iadd, 1), (57, .invokevirtual 175, 3), (60, .return_, 1)]
theorem kdX12_flow_ok : ∀ q ∈ kdX12_flow, decode cX12_flow q.1 = .ok q.2 := by decide +kernel
def kdX12_see : List (Nat × Instr × Nat) := [(0, .iconst 0, 1), (1, .istore_n 2, 1), (2, .iload_n 2, 1), (3, .sipush 144, 3), (6, .if_icmp .ge 24, 3), (9, .aload_n 0, 1), (10, .getfield 16, 3), (13, .iload_n 2, 1), (14, .aload_n 0, 1), (15, .iload_n 1, 1), (16, .bipush 37, 2), (18, .iload_n 2, 1), (19, .iadd, 1), (20, .invokevirtual 238, 3), (23, .iastore, 1), (24, .iinc 2 1, 3), (27, .goto (-25), 3), (30, .return_, 1)]
theorem kdX12_see_ok : ∀ q ∈ kdX12_see, decode cX12_see q.1 = .ok q.2 := by decide +kernel
def kdX12_move : List (Nat × Instr × Nat) := [(0, .aload_n 0, 1), (1, .iload_n 1, 1), (2, .invokevirtual 292, 3), (5, .iconst 0, 1), (6, .istore_n 2, 1), (7, .iload_n 2, 1), (8, .aload_n 0, 1), (9, .iload_n 1, 1), (10, .iconst 1, 1), (11, .invokevirtual 238, 3), (14, .if_icmp .ge 88, 3), (17, .iconst 0, 1), (18, .istore_n 3, 1), (19, .iload_n 3, 1), (20, .aload_n 0, 1), (21, .iload_n 1, 1), (22, .iconst 0, 1), (23, .invokevirtual 238, 3), (26, .if_icmp .ge 70, 3), (29, .iload_n 3, 1), (30, .iconst 1, 1), (31, .iadd, 1), (32, .aload_n 0, 1), (33, .iload_n 1, 1), (34, .iconst 0, 1), (35, .invokevirtual 238, 3), (38, .if_icmp .ge 21, 3), (41, .aload_n 0, 1), (42, .iload_n 1, 1), (43, .iload_n 2, 1), (44, .iload_n 3, 1), (45, .invokestatic 241, 3), (48, .iload_n 2, 1), (49, .iload_n 3, 1), (50, .iconst 1, 1), (51, .iadd, 1), (52, .invokestatic 241, 3), (55, .iconst 4, 1), (56, .invokevirtual 295, 3), (59, .iload_n 2, 1), (60, .iconst 1, 1), (61, .iadd, 1), (62, .aload_n 0, 1), (63, .iload_n 1, 1), (64, .iconst 1, 1), (65, .invokevirtual 238, 3), (68, .if_icmp .ge 22, 3), (71, .aload_n 0, 1), (72, .iload_n 1, 1), (73, .iload_n 2, 1), (74, .iload_n 3, 1), (75, .invokestatic 241, 3), (78, .iload_n 2, 1), (79, .iconst 1, 1), (80, .iadd, 1), (81, .iload_n 3, 1), (82, .invokestatic 241, 3), (85, .bipush 8, 2), (87, .invokevirtual 295, 3), (90, .iinc 3 1, 3), (93, .goto (-74), 3), (96, .iinc 2 1, 3), (99, .goto (-92), 3), (102, .return_, 1)]
theorem kdX12_move_ok : ∀ q ∈ kdX12_move, decode cX12_move q.1 = .ok q.2 := by decide +kernel
def kdX12_dry : List (Nat × Instr × Nat) := [(0, .iconst 0, 1), (1, .istore_n 3, 1), (2, .iload_n 3, 1), (3, .aload_n 0, 1), (4, .iload_n 1, 1), (5, .iconst 1, 1), (6, .invokevirtual 238, 3), (9, .if_icmp .ge 172, 3), (12, .iconst 0, 1), (13, .istore 4, 2), (15, .iload 4, 2), (17, .aload_n 0, 1), (18, .iload_n 1, 1), (19, .iconst 0, 1), (20, .invokevirtual 238, 3), (23, .if_icmp .ge 152, 3), (26, .iload 4, 2), (28, .ifCond .ne 12, 3), (31, .aload_n 0, 1), (32, .iload_n 1, 1), (33, .iconst 5, 1), (34, .invokevirtual 238, 3), (37, .goto 4, 3), (40, .iconst 0, 1), (41, .iload 4, 2), (43, .aload_n 0, 1), (44, .iload_n 1, 1), (45, .iconst 0, 1), (46, .invokevirtual 238, 3), (49, .iconst 1, 1), (50, .isub, 1), (51, .if_icmp .ne 15, 3), (54, .aload_n 0, 1), (55, .iload_n 1, 1), (56, .bipush 6, 2), (58, .invokevirtual 238, 3), (61, .iconst 2, 1), (62, .idiv, 1), (63, .goto 4, 3), (66, .iconst 0, 1), (67, .iadd, 1), (68, .iload_n 3, 1), (69, .aload_n 0, 1), (70, .iload_n 1, 1), (71, .iconst 1, 1), (72, .invokevirtual 238, 3), (75, .iconst 1, 1), (76, .isub, 1), (77, .if_icmp .ne 8, 3), (80, .bipush 50, 2), (82, .goto 4, 3), (85, .iconst 0, 1), (86, .iadd, 1), (87, .istore 5, 2), (89, .bipush 37, 2), (91, .iload_n 3, 1), (92, .iload 4, 2), (94, .invokestatic 241, 3), (97, .iadd, 1), (98, .istore 6, 2), (100, .aload_n 0, 1), (101, .iload_n 1, 1), (102, .iload 6, 2), (104, .invokevirtual 238, 3), (107, .iconst 0, 1), (108, .aload_n 0, 1), (109, .iload_n 1, 1), (110, .iload 6, 2), (112, .invokevirtual 238, 3), (115, .bipush 100, 2), (117, .isub, 1), (118, .invokestatic 257, 3), (121, .iload_n 2, 1), (122, .imul, 1), (123, .iload 5, 2), (125, .imul, 1), (126, .sipush 20000, 3), (129, .idiv, 1), (130, .invokestatic 130, 3), (133, .istore 7, 2), (135, .aload_n 0, 1), (136, .iload_n 1, 1), (137, .iload 6, 2), (139, .aload_n 0, 1), (140, .iload_n 1, 1), (141, .iload 6, 2), (143, .invokevirtual 238, 3), (146, .iload 7, 2), (148, .isub, 1), (149, .invokevirtual 175, 3), (152, .aload_n 0, 1), (153, .iload_n 1, 1), (154, .bipush 12, 2), (156, .aload_n 0, 1), (157, .iload_n 1, 1), (158, .bipush 12, 2), (160, .invokevirtual 238, 3), (163, .iload 7, 2), (165, .iadd, 1), (166, .invokevirtual 175, 3), (169, .iinc 4 1, 3), (172, .goto (-157), 3), (175, .iinc 3 1, 3), (178, .goto (-176), 3), (181, .return_, 1)]
theorem kdX12_dry_ok : ∀ q ∈ kdX12_dry, decode cX12_dry q.1 = .ok q.2 := by decide +kernel
def kdX12_crack : List (Nat × Instr × Nat) := [(0, .iconst 0, 1), (1, .istore_n 3, 1), (2, .iload_n 3, 1), (3, .aload_n 0, 1), (4, .iload_n 1, 1), (5, .iconst 1, 1), (6, .invokevirtual 238, 3), (9, .if_icmp .ge 157, 3), (12, .iconst 0, 1), (13, .istore 4, 2), (15, .iload 4, 2), (17, .aload_n 0, 1), (18, .iload_n 1, 1), (19, .iconst 0, 1), (20, .invokevirtual 238, 3), (23, .if_icmp .ge 137, 3), (26, .iload_n 3, 1), (27, .iload 4, 2), (29, .invokestatic 241, 3), (32, .istore 5, 2), (34, .aload_n 0, 1), (35, .iload_n 1, 1), (36, .bipush 37, 2), (38, .iload 5, 2), (40, .iadd, 1), (41, .invokevirtual 238, 3), (44, .istore 6, 2), (46, .iload_n 2, 1), (47, .ifCond .eq 33, 3), (50, .iload 4, 2), (52, .ifCond .ne 28, 3), (55, .aload_n 0, 1), (56, .getfield 13, 3), (59, .iload 5, 2), (61, .iaload, 1), (62, .sipush 180, 3), (65, .if_icmp .ge 11, 3), (68, .iload 6, 2), (70, .sipush 180, 3), (73, .if_icmp .lt 7, 3), (76, .iconst 1, 1), (77, .goto 4, 3), (80, .iconst 0, 1), (81, .istore 7, 2), (83, .aload_n 0, 1), (84, .invokevirtual 232, 3), (87, .bipush 60, 2), (89, .if_icmp .le 28, 3), (92, .aload_n 0, 1), (93, .getfield 13, 3), (96, .iload 5, 2), (98, .iaload, 1), (99, .sipush 150, 3), (102, .if_icmp .lt 15, 3), (105, .iload 6, 2), (107, .sipush 150, 3), (110, .if_icmp .ge 7, 3), (113, .iconst 1, 1), (114, .goto 4, 3), (117, .iconst 0, 1), (118, .istore 8, 2), (120, .iload 7, 2), (122, .ifCond .ne 8, 3), (125, .iload 8, 2), (127, .ifCond .eq 27, 3), (130, .aload_n 0, 1), (131, .iload_n 1, 1), (132, .sipush 181, 3), (135, .iload 5, 2), (137, .iadd, 1), (138, .aload_n 0, 1), (139, .iload_n 1, 1), (140, .sipush 181, 3), (143, .iload 5, 2), (145, .iadd, 1), (146, .invokevirtual 238, 3), (149, .iconst 1, 1), (150, .ior, 1), (151, .invokevirtual 175, 3), (154, .iinc 4 1, 3), (157, .goto (-142), 3), (160, .iinc 3 1, 3), (163, .goto (-161), 3), (166, .return_, 1)]
theorem kdX12_crack_ok : ∀ q ∈ kdX12_crack, decode cX12_crack q.1 = .ok q.2 := by decide +kernel
def kdX12_whyOf : List (Nat × Instr × Nat) := [(0, .iconst 0, 1), (1, .istore_n 3, 1), (2, .iconst 1, 1), (3, .istore 4, 2), (5, .iconst 0, 1), (6, .istore 5, 2), (8, .iconst 0, 1), (9, .istore 6, 2), (11, .iload 6, 2), (13, .aload_n 0, 1), (14, .iload_n 1, 1), (15, .iconst 0, 1), (16, .invokevirtual 238, 3), (19, .if_icmp .ge 63, 3), (22, .iload_n 3, 1), (23, .aload_n 0, 1), (24, .iload_n 1, 1), (25, .iload_n 2, 1), (26, .iload 6, 2), (28, .invokevirtual 254, 3), (31, .ior, 1), (32, .istore_n 3, 1), (33, .iload 4, 2), (35, .aload_n 0, 1), (36, .iload_n 1, 1), (37, .bipush 37, 2), (39, .iload_n 2, 1), (40, .iload 6, 2), (42, .invokestatic 241, 3), (45, .iadd, 1), (46, .invokevirtual 238, 3), (49, .sipush 180, 3), (52, .if_icmp .lt 7, 3), (55, .iconst 1, 1), (56, .goto 4, 3), (59, .iconst 0, 1), (60, .iand, 1), (61, .istore 4, 2), (63, .iload 5, 2), (65, .aload_n 0, 1), (66, .iload_n 1, 1), (67, .iload_n 2, 1), (68, .iload 6, 2), (70, .invokevirtual 260, 3), (73, .ior, 1), (74, .istore 5, 2), (76, .iinc 6 1, 3), (79, .goto (-68), 3), (82, .iload_n 3, 1), (83, .ifCond .eq 7, 3), (86, .iconst 1, 1), (87, .goto 22, 3), (90, .iload 4, 2), (92, .ifCond .eq 7, 3), (95, .iconst 2, 1), (96, .goto 13, 3), (99, .iload 5, 2), (101, .ifCond .eq 7, 3), (104, .iconst 3, 1), (105, .goto 4, 3), (108, .iconst 4, 1), (109, .ireturn, 1)]
theorem kdX12_whyOf_ok : ∀ q ∈ kdX12_whyOf, decode cX12_whyOf q.1 = .ok q.2 := by decide +kernel
def kdX12_sit : List (Nat × Instr × Nat) := [(0, .iconst (-1), 1), (1, .istore_n 2, 1), (2, .aload_n 0, 1), (3, .iload_n 1, 1), (4, .iconst 1, 1), (5, .invokevirtual 238, 3), (8, .iconst 1, 1), (9, .isub, 1), (10, .istore_n 3, 1), (11, .iload_n 3, 1), (12, .ifCond .lt 98, 3), (15, .aload_n 0, 1), (16, .iload_n 1, 1), (17, .iload_n 3, 1), (18, .invokevirtual 273, 3), (21, .istore 4, 2), (23, .aload_n 0, 1), (24, .iload_n 1, 1), (25, .iload_n 3, 1), (26, .invokevirtual 270, 3), (29, .istore 5, 2), (31, .iload 5, 2), (33, .iload 4, 2), (35, .if_icmp .le 7, 3), (38, .iconst 1, 1), (39, .goto 4, 3), (42, .iconst 0, 1), (43, .iload 5, 2), (45, .iload 4, 2), (47, .if_icmp .le 16, 3), (50, .iload 5, 2), (52, .iconst 2, 1), (53, .iload 4, 2), (55, .imul, 1), (56, .if_icmp .lt 7, 3), (59, .iconst 1, 1), (60, .goto 4, 3), (63, .iconst 0, 1), (64, .iadd, 1), (65, .istore 6, 2), (67, .aload_n 0, 1), (68, .iload_n 1, 1), (69, .bipush 13, 2), (71, .iload_n 3, 1), (72, .iadd, 1), (73, .aload_n 0, 1), (74, .iload_n 1, 1), (75, .bipush 13, 2), (77, .iload_n 3, 1), (78, .iadd, 1), (79, .invokevirtual 238, 3), (82, .iload 6, 2), (84, .iadd, 1), (85, .invokevirtual 175, 3), (88, .aload_n 0, 1), (89, .iload_n 1, 1), (90, .bipush 13, 2), (92, .iload_n 3, 1), (93, .iadd, 1), (94, .invokevirtual 238, 3), (97, .bipush 6, 2), (99, .if_icmp .lt 5, 3), (102, .iload_n 3, 1), (103, .istore_n 2, 1), (104, .iinc 3 (-1), 3), (107, .goto (-96), 3), (110, .iload_n 2, 1), (111, .iconst (-1), 1), (112, .if_icmp .ne 4, 3), (115, .return_, 1), (116, .aload_n 0, 1), (117, .iload_n 1, 1), (118, .bipush 10, 2), (120, .aload_n 0, 1), (121, .iload_n 1, 1), (122, .iload_n 2, 1), (123, .invokevirtual 298, 3), (126, .invokevirtual 175, 3), (129, .aload_n 0, 1), (130, .iload_n 1, 1), (131, .bipush 9, 2), (133, .aload_n 0, 1), (134, .iload_n 1, 1), (135, .bipush 9, 2), (137, .invokevirtual 238, 3), (140, .iconst 1, 1), (141, .iadd, 1), (142, .invokevirtual 175, 3), (145, .aload_n 0, 1), (146, .iload_n 1, 1), (147, .iload_n 2, 1), (148, .invokevirtual 285, 3), (151, .return_, 1)]
theorem kdX12_sit_ok : ∀ q ∈ kdX12_sit, decode cX12_sit q.1 = .ok q.2 := by decide +kernel
def kdX12_week : List (Nat × Instr × Nat) := [(0, .aload_n 0, 1), (1, .getfield 31, 3), (4, .iconst 0, 1), (5, .iaload, 1), (6, .ifCond .ne 7, 3), (9, .iconst (-1), 1), (10, .goto 17, 3), (13, .aload_n 0, 1), (14, .iload_n 1, 1), (15, .bipush 8, 2), (17, .invokevirtual 238, 3), (20, .aload_n 0, 1), (21, .getfield 31, 3), (24, .iconst 0, 1), (25, .iaload, 1), (26, .irem, 1), (27, .istore_n 2, 1), (28, .iconst 0, 1), (29, .istore_n 3, 1), (30, .iload_n 3, 1), (31, .sipush 144, 3), (34, .if_icmp .ge 24, 3), (37, .aload_n 0, 1), (38, .getfield 13, 3), (41, .iload_n 3, 1), (42, .aload_n 0, 1), (43, .iload_n 1, 1), (44, .bipush 37, 2), (46, .iload_n 3, 1), (47, .iadd, 1), (48, .invokevirtual 238, 3), (51, .iastore, 1), (52, .iinc 3 1, 3), (55, .goto (-25), 3), (58, .aload_n 0, 1), (59, .iload_n 1, 1), (60, .iconst 1, 1), (61, .invokevirtual 238, 3), (64, .ifCond .le 79, 3), (67, .aload_n 0, 1), (68, .iload_n 1, 1), (69, .iload_n 2, 1), (70, .iconst (-1), 1), (71, .if_icmp .ne 7, 3), (74, .iconst 0, 1), (75, .goto 9, 3), (78, .aload_n 0, 1), (79, .getfield 22, 3), (82, .iload_n 2, 1), (83, .iaload, 1), (84, .invokevirtual 301, 3), (87, .aload_n 0, 1), (88, .iload_n 1, 1), (89, .invokevirtual 304, 3), (92, .aload_n 0, 1), (93, .iload_n 1, 1), (94, .iload_n 2, 1), (95, .iconst (-1), 1), (96, .if_icmp .ne 8, 3), (99, .bipush 20, 2), (101, .goto 9, 3), (104, .aload_n 0, 1), (105, .getfield 25, 3), (108, .iload_n 2, 1), (109, .iaload, 1), (110, .invokevirtual 307, 3), (113, .aload_n 0, 1), (114, .iload_n 1, 1), (115, .iload_n 2, 1), (116, .iconst (-1), 1), (117, .if_icmp .eq 17, 3), (120, .aload_n 0, 1), (121, .getfield 28, 3), (124, .iload_n 2, 1), (125, .iaload, 1), (126, .iconst 1, 1), (127, .if_icmp .ne 7, 3), (130, .iconst 1, 1), (131, .goto 4, 3), (134, .iconst 0, 1), (135, .invokevirtual 310, 3), (138, .aload_n 0, 1), (139, .iload_n 1, 1), (140, .invokevirtual 314, 3), (143, .aload_n 0, 1), (144, .iload_n 1, 1), (145, .bipush 8, 2), (147, .aload_n 0, 1), (148, .iload_n 1, 1), (149, .bipush 8, 2), (151, .invokevirtual 238, 3), (154, .iconst 1, 1), (155, .iadd, 1), (156, .invokevirtual 175, 3), (159, .return_, 1)]
theorem kdX12_week_ok : ∀ q ∈ kdX12_week, decode cX12_week q.1 = .ok q.2 := by decide +kernel
def kdX12_weeks : List (Nat × Instr × Nat) := [(0, .aload_n 0, 1), (1, .iconst 0, 1), (2, .putfield 90, 3), (5, .aload_n 0, 1), (6, .iload_n 1, 1), (7, .invokevirtual 244, 3), (10, .ifCond .ne 9, 3), (13, .aload_n 0, 1), (14, .iconst 1, 1), (15, .invokevirtual 208, 3), (18, .ireturn, 1), (19, .iload_n 2, 1), (20, .iconst 0, 1), (21, .sipush 520, 3), (24, .invokestatic 96, 3), (27, .ifCond .ne 9, 3), (30, .aload_n 0, 1), (31, .iconst 2, 1), (32, .invokevirtual 208, 3), (35, .ireturn, 1), (36, .aload_n 0, 1), (37, .iload_n 1, 1), (38, .bipush 9, 2), (40, .invokevirtual 238, 3), (43, .istore_n 3, 1), (44, .iconst 0, 1), (45, .istore 4, 2), (47, .iload 4, 2), (49, .iload_n 2, 1), (50, .if_icmp .ge 14, 3), (53, .aload_n 0, 1), (54, .iload_n 1, 1), (55, .invokevirtual 317, 3), (58, .iinc 4 1, 3), (61, .goto (-14), 3), (64, .aload_n 0, 1), (65, .iload_n 1, 1), (66, .bipush 9, 2), (68, .invokevirtual 238, 3), (71, .iload_n 3, 1), (72, .isub, 1), (73, .ireturn, 1)]
theorem kdX12_weeks_ok : ∀ q ∈ kdX12_weeks, decode cX12_weeks q.1 = .ok q.2 := by decide +kernel
def kdX12_highOf : List (Nat × Instr × Nat) := [(0, .iconst 0, 1), (1, .istore_n 2, 1), (2, .aload_n 0, 1), (3, .iload_n 1, 1), (4, .bipush 31, 2), (6, .invokevirtual 215, 3), (9, .aload_n 0, 1), (10, .bipush 31, 2), (12, .invokevirtual 319, 3), (15, .ifCond .eq 5, 3), (18, .iconst 0, 1), (19, .ireturn, 1), (20, .iconst 1, 1), (21, .istore_n 3, 1), (22, .iload_n 3, 1), (23, .bipush 9, 2), (25, .if_icmp .gt 41, 3), (28, .aload_n 0, 1), (29, .bipush 31, 2), (31, .iconst 1, 1), (32, .invokevirtual 238, 3), (35, .bipush 24, 2), (37, .if_icmp .ge 29, 3), (40, .aload_n 0, 1), (41, .bipush 31, 2), (43, .iconst 1, 1), (44, .invokevirtual 282, 3), (47, .aload_n 0, 1), (48, .bipush 31, 2), (50, .invokevirtual 319, 3), (53, .ifCond .eq 5, 3), (56, .iload_n 2, 1), (57, .ireturn, 1), (58, .iload_n 3, 1), (59, .istore_n 2, 1), (60, .iinc 3 1, 3), (63, .goto (-41), 3), (66, .iload_n 2, 1), (67, .ireturn, 1)]
theorem kdX12_highOf_ok : ∀ q ∈ kdX12_highOf, decode cX12_highOf q.1 = .ok q.2 := by decide +kernel
def kdX12_high : List (Nat × Instr × Nat) := [(0, .aload_n 0, 1), (1, .iconst 0, 1), (2, .putfield 90, 3), (5, .aload_n 0, 1), (6, .iload_n 1, 1), (7, .invokevirtual 244, 3), (10, .ifCond .eq 11, 3), (13, .aload_n 0, 1), (14, .iload_n 1, 1), (15, .invokevirtual 322, 3), (18, .goto 8, 3), (21, .aload_n 0, 1), (22, .iconst 1, 1), (23, .invokevirtual 208, 3), (26, .ireturn, 1)]
theorem kdX12_high_ok : ∀ q ∈ kdX12_high, decode cX12_high q.1 = .ok q.2 := by decide +kernel
def kdX12_when : List (Nat × Instr × Nat) := [(0, .aload_n 0, 1), (1, .iconst 0, 1), (2, .putfield 90, 3), (5, .aload_n 0, 1), (6, .iload_n 1, 1), (7, .invokevirtual 244, 3), (10, .ifCond .ne 9, 3), (13, .aload_n 0, 1), (14, .iconst 1, 1), (15, .invokevirtual 208, 3), (18, .ireturn, 1), (19, .iload_n 2, 1), (20, .iconst 1, 1), (21, .bipush 9, 2), (23, .invokestatic 96, 3), (26, .ifCond .ne 9, 3), (29, .aload_n 0, 1), (30, .iconst 2, 1), (31, .invokevirtual 208, 3), (34, .ireturn, 1), (35, .aload_n 0, 1), (36, .iload_n 1, 1), (37, .bipush 12, 2), (39, .invokevirtual 215, 3), (42, .iconst 0, 1), (43, .istore_n 3, 1), (44, .iload_n 3, 1), (45, .bipush 52, 2), (47, .if_icmp .gt 47, 3), (50, .aload_n 0, 1), (51, .bipush 12, 2), (53, .bipush 9, 2), (55, .invokevirtual 238, 3), (58, .aload_n 0, 1), (59, .iload_n 1, 1), (60, .bipush 9, 2), (62, .invokevirtual 238, 3), (65, .if_icmp .le 5, 3), (68, .iconst (-1), 1), (69, .ireturn, 1), (70, .aload_n 0, 1), (71, .bipush 12, 2), (73, .invokevirtual 322, 3), (76, .iload_n 2, 1), (77, .if_icmp .lt 5, 3), (80, .iload_n 3, 1), (81, .ireturn, 1), (82, .aload_n 0, 1), (83, .bipush 12, 2), (85, .invokevirtual 317, 3), (88, .iinc 3 1, 3), (91, .goto (-47), 3), (94, .iconst (-1), 1), (95, .ireturn, 1)]
theorem kdX12_when_ok : ∀ q ∈ kdX12_when, decode cX12_when q.1 = .ok q.2 := by decide +kernel
def kdX12_planOn : List (Nat × Instr × Nat) := [(0, .iload_n 1, 1), (1, .iload_n 2, 1), (2, .if_icmp .ne 22, 3), (5, .aload_n 0, 1), (6, .bipush 12, 2), (8, .iload_n 1, 1), (9, .iadd, 1), (10, .iconst 1, 1), (11, .invokevirtual 238, 3), (14, .iload_n 3, 1), (15, .if_icmp .lt 7, 3), (18, .iconst 1, 1), (19, .goto 4, 3), (22, .iconst 0, 1), (23, .ireturn, 1), (24, .iconst 0, 1), (25, .istore 4, 2), (27, .iload 4, 2), (29, .iconst 3, 1), (30, .if_icmp .gt 100, 3), (33, .bipush 12, 2), (35, .iload_n 1, 1), (36, .iadd, 1), (37, .iconst 1, 1), (38, .iadd, 1), (39, .istore 5, 2), (41, .aload_n 0, 1), (42, .bipush 12, 2), (44, .iload_n 1, 1), (45, .iadd, 1), (46, .iload 5, 2), (48, .invokevirtual 215, 3), (51, .aload_n 0, 1), (52, .iload 5, 2), (54, .iconst 1, 1), (55, .invokevirtual 238, 3), (58, .iload 4, 2), (60, .iadd, 1), (61, .bipush 24, 2), (63, .if_icmp .le 5, 3), (66, .iconst 0, 1), (67, .ireturn, 1), (68, .aload_n 0, 1), (69, .iload 5, 2), (71, .iload 4, 2), (73, .invokevirtual 282, 3), (76, .aload_n 0, 1), (77, .iload 5, 2), (79, .invokevirtual 319, 3), (82, .ifCond .eq 5, 3), (85, .iconst 0, 1), (86, .ireturn, 1), (87, .aload_n 0, 1), (88, .getfield 47, 3), (91, .iload_n 1, 1), (92, .iload 4, 2), (94, .iastore, 1), (95, .aload_n 0, 1), (96, .iload 5, 2), (98, .invokevirtual 317, 3), (101, .aload_n 0, 1), (102, .iload 5, 2), (104, .invokevirtual 319, 3), (107, .ifCond .ne 17, 3), (110, .aload_n 0, 1), (111, .iload_n 1, 1), (112, .iconst 1, 1), (113, .iadd, 1), (114, .iload_n 2, 1), (115, .iload_n 3, 1), (116, .invokevirtual 325, 3), (119, .ifCond .eq 5, 3), (122, .iconst 1, 1), (123, .ireturn, 1), (124, .iinc 4 1, 3), (127, .goto (-100), 3), (130, .iconst 0, 1), (131, .ireturn, 1)]
theorem kdX12_planOn_ok : ∀ q ∈ kdX12_planOn, decode cX12_planOn q.1 = .ok q.2 := by decide +kernel
def kdX12_plan : List (Nat × Instr × Nat) := [(0, .aload_n 0, 1), (1, .iconst 0, 1), (2, .putfield 90, 3), (5, .aload_n 0, 1), (6, .iload_n 1, 1), (7, .invokevirtual 244, 3), (10, .ifCond .ne 9, 3), (13, .aload_n 0, 1), (14, .iconst 1, 1), (15, .invokevirtual 208, 3), (18, .ireturn, 1), (19, .iload_n 2, 1), (20, .iconst 1, 1), (21, .bipush 24, 2), (23, .invokestatic 96, 3), (26, .ifCond .ne 9, 3), (29, .aload_n 0, 1), (30, .iconst 2, 1), (31, .invokevirtual 208, 3), (34, .ireturn, 1), (35, .aload_n 0, 1), (36, .iload_n 1, 1), (37, .bipush 12, 2), (39, .invokevirtual 215, 3), (42, .iconst 0, 1), (43, .istore_n 3, 1), (44, .iload_n 3, 1), (45, .iconst 5, 1), (46, .if_icmp .gt 58, 3), (49, .aload_n 0, 1), (50, .iconst 0, 1), (51, .iload_n 3, 1), (52, .iload_n 2, 1), (53, .invokevirtual 325, 3), (56, .ifCond .ne 6, 3), (59, .goto 39, 3), (62, .aload_n 0, 1), (63, .iload_n 3, 1), (64, .putfield 50, 3), (67, .iconst 0, 1), (68, .istore 4, 2), (70, .iload 4, 2), (72, .iload_n 3, 1), (73, .if_icmp .ge 23, 3), (76, .aload_n 0, 1), (77, .getfield 44, 3), (80, .iload 4, 2), (82, .aload_n 0, 1), (83, .getfield 47, 3), (86, .iload 4, 2), (88, .iaload, 1), (89, .iastore, 1), (90, .iinc 4 1, 3), (93, .goto (-23), 3), (96, .iload_n 3, 1), (97, .ireturn, 1), (98, .iinc 3 1, 3), (101, .goto (-57), 3), (104, .iconst (-1), 1), (105, .ireturn, 1)]
theorem kdX12_plan_ok : ∀ q ∈ kdX12_plan, decode cX12_plan q.1 = .ok q.2 := by decide +kernel
def kdX12_planned : List (Nat × Instr × Nat) := [(0, .aload_n 0, 1), (1, .iconst 0, 1), (2, .putfield 90, 3), (5, .iload_n 1, 1), (6, .iconst 0, 1), (7, .aload_n 0, 1), (8, .getfield 50, 3), (11, .iconst 1, 1), (12, .isub, 1), (13, .invokestatic 96, 3), (16, .ifCond .eq 12, 3), (19, .aload_n 0, 1), (20, .getfield 44, 3), (23, .iload_n 1, 1), (24, .iaload, 1), (25, .goto 8, 3), (28, .aload_n 0, 1), (29, .iconst 1, 1), (30, .invokevirtual 208, 3), (33, .ireturn, 1)]
theorem kdX12_planned_ok : ∀ q ∈ kdX12_planned, decode cX12_planned q.1 = .ok q.2 := by decide +kernel
def kdX12_turned : List (Nat × Instr × Nat) := [(0, .aload_n 0, 1), (1, .iconst 0, 1), (2, .putfield 90, 3), (5, .aload_n 0, 1), (6, .iload_n 1, 1), (7, .invokevirtual 244, 3), (10, .ifCond .eq 27, 3), (13, .aload_n 0, 1), (14, .iload_n 2, 1), (15, .invokevirtual 244, 3), (18, .ifCond .eq 19, 3), (21, .iload_n 1, 1), (22, .iload_n 2, 1), (23, .if_icmp .eq 14, 3), (26, .iload 4, 2), (28, .ifCond .lt 9, 3), (31, .iload 4, 2), (33, .iconst 1, 1), (34, .if_icmp .le 9, 3), (37, .aload_n 0, 1), (38, .iconst 1, 1), (39, .invokevirtual 208, 3), (42, .ireturn, 1), (43, .iload_n 3, 1), (44, .iconst 1, 1), (45, .bipush 8, 2), (47, .invokestatic 96, 3), (50, .ifCond .ne 9, 3), (53, .aload_n 0, 1), (54, .iconst 2, 1), (55, .invokevirtual 208, 3), (58, .ireturn, 1), (59, .iconst 0, 1), (60, .istore 5, 2), (62, .iconst (-1), 1), (63, .istore 6, 2), (65, .iconst 0, 1), (66, .istore 7, 2), (68, .iload 7, 2), (70, .iconst 1, 1), (71, .iload_n 3, 1), (72, .ishl, 1), (73, .if_icmp .ge 147, 3), (76, .iconst 0, 1), (77, .istore 8, 2), (79, .iconst 0, 1), (80, .istore 9, 2), (82, .iload 9, 2), (84, .iload_n 3, 1), (85, .if_icmp .ge 28, 3), (88, .iload 8, 2), (90, .iload 7, 2), (92, .iload_n 3, 1), (93, .iconst 1, 1), (94, .isub, 1), (95, .iload 9, 2), (97, .isub, 1), (98, .ishr, 1), (99, .iconst 1, 1), (100, .iand, 1), (101, .iload 9, 2), (103, .ishl, 1), (104, .ior, 1), (105, .istore 8, 2), (107, .iinc 9 1, 3), (110, .goto (-28), 3), (113, .aload_n 0, 1), (114, .iload_n 1, 1), (115, .bipush 12, 2), (117, .invokevirtual 215, 3), (120, .aload_n 0, 1), (121, .iload_n 2, 1), (122, .bipush 13, 2), (124, .invokevirtual 215, 3), (127, .iconst 0, 1), (128, .istore 9, 2), (130, .iconst 0, 1), (131, .istore 10, 2), (133, .iload 10, 2), (135, .iload_n 3, 1), (136, .if_icmp .ge 60, 3), (139, .bipush 12, 2), (141, .iload 8, 2), (143, .iload 10, 2), (145, .ishr, 1), (146, .iconst 1, 1), (147, .iand, 1), (148, .iadd, 1), (149, .istore 11, 2), (151, .iconst 3, 1), (152, .aload_n 0, 1), (153, .iload 11, 2), (155, .invokevirtual 322, 3), (158, .invokestatic 130, 3), (161, .istore 12, 2), (163, .aload_n 0, 1), (164, .iload 11, 2), (166, .iload 12, 2), (168, .invokevirtual 282, 3), (171, .iload 9, 2), (173, .iload 12, 2), (175, .iadd, 1), (176, .istore 9, 2), (178, .aload_n 0, 1), (179, .bipush 12, 2), (181, .invokevirtual 317, 3), (184, .aload_n 0, 1), (185, .bipush 13, 2), (187, .invokevirtual 317, 3), (190, .iinc 10 1, 3), (193, .goto (-60), 3), (196, .iload 9, 2), (198, .iload 6, 2), (200, .if_icmp .gt 6, 3), (203, .goto 11, 3), (206, .iload 8, 2), (208, .istore 5, 2), (210, .iload 9, 2), (212, .istore 6, 2), (214, .iinc 7 1, 3), (217, .goto (-149), 3), (220, .iload 4, 2), (222, .ifCond .ne 8, 3), (225, .iload 6, 2), (227, .goto 5, 3), (230, .iload 5, 2), (232, .ireturn, 1)]
theorem kdX12_turned_ok : ∀ q ∈ kdX12_turned, decode cX12_turned q.1 = .ok q.2 := by decide +kernel
def kdX12_footOf : List (Nat × Instr × Nat) := [(0, .iconst 1, 1), (1, .istore_n 2, 1), (2, .iload_n 2, 1), (3, .iload_n 1, 1), (4, .if_icmp .gt 66, 3), (7, .aload_n 0, 1), (8, .bipush 12, 2), (10, .invokevirtual 317, 3), (13, .iconst 0, 1), (14, .istore_n 3, 1), (15, .iload_n 3, 1), (16, .aload_n 0, 1), (17, .bipush 12, 2), (19, .iconst 0, 1), (20, .invokevirtual 238, 3), (23, .if_icmp .ge 41, 3), (26, .aload_n 0, 1), (27, .bipush 12, 2), (29, .iconst 1, 1), (30, .invokevirtual 238, 3), (33, .ifCond .le 31, 3), (36, .aload_n 0, 1), (37, .bipush 12, 2), (39, .bipush 37, 2), (41, .iconst 0, 1), (42, .iload_n 3, 1), (43, .invokestatic 241, 3), (46, .iadd, 1), (47, .invokevirtual 238, 3), (50, .sipush 180, 3), (53, .if_icmp .lt 5, 3), (56, .iload_n 2, 1), (57, .ireturn, 1), (58, .iinc 3 1, 3), (61, .goto (-46), 3), (64, .iinc 2 1, 3), (67, .goto (-65), 3), (70, .iconst (-1), 1), (71, .ireturn, 1)]
theorem kdX12_footOf_ok : ∀ q ∈ kdX12_footOf, decode cX12_footOf q.1 = .ok q.2 := by decide +kernel
def kdX12_line : List (Nat × Instr × Nat) := [(0, .aload_n 0, 1), (1, .iconst 0, 1), (2, .putfield 90, 3), (5, .aload_n 0, 1), (6, .iload_n 1, 1), (7, .invokevirtual 244, 3), (10, .ifCond .eq 12, 3), (13, .iload_n 3, 1), (14, .iconst 0, 1), (15, .iconst 2, 1), (16, .invokestatic 96, 3), (19, .ifCond .ne 9, 3), (22, .aload_n 0, 1), (23, .iconst 1, 1), (24, .invokevirtual 208, 3), (27, .ireturn, 1), (28, .iload_n 2, 1), (29, .iconst 1, 1), (30, .sipush 520, 3), (33, .invokestatic 96, 3), (36, .ifCond .ne 9, 3), (39, .aload_n 0, 1), (40, .iconst 2, 1), (41, .invokevirtual 208, 3), (44, .ireturn, 1), (45, .iload_n 3, 1), (46, .ifCond .ne 8, 3), (49, .bipush 9, 2), (51, .goto 14, 3), (54, .iload_n 3, 1), (55, .iconst 1, 1), (56, .if_icmp .ne 8, 3), (59, .bipush 10, 2), (61, .goto 4, 3), (64, .iconst 0, 1), (65, .istore 4, 2), (67, .iconst 0, 1), (68, .istore 5, 2), (70, .iload 5, 2), (72, .iload 4, 2), (74, .if_icmp .gt 82, 3), (77, .aload_n 0, 1), (78, .iload_n 1, 1), (79, .bipush 12, 2), (81, .invokevirtual 215, 3), (84, .iload_n 3, 1), (85, .ifCond .ne 12, 3), (88, .aload_n 0, 1), (89, .bipush 12, 2), (91, .iconst 3, 1), (92, .iload 5, 2), (94, .invokevirtual 175, 3), (97, .iload_n 3, 1), (98, .iconst 1, 1), (99, .if_icmp .ne 15, 3), (102, .aload_n 0, 1), (103, .bipush 12, 2), (105, .iconst 5, 1), (106, .bipush 10, 2), (108, .iload 5, 2), (110, .imul, 1), (111, .invokevirtual 175, 3), (114, .aload_n 0, 1), (115, .iload_n 2, 1), (116, .invokevirtual 328, 3), (119, .istore 6, 2), (121, .iload_n 3, 1), (122, .iconst 2, 1), (123, .if_icmp .ne 6, 3), (126, .iload 6, 2), (128, .ireturn, 1), (129, .iload 6, 2), (131, .iconst (-1), 1), (132, .if_icmp .ne 18, 3), (135, .iload_n 3, 1), (136, .ifCond .ne 8, 3), (139, .iload 5, 2), (141, .goto 8, 3), (144, .bipush 10, 2), (146, .iload 5, 2), (148, .imul, 1), (149, .ireturn, 1), (150, .iinc 5 1, 3), (153, .goto (-83), 3), (156, .iconst (-1), 1), (157, .ireturn, 1)]
theorem kdX12_line_ok : ∀ q ∈ kdX12_line, decode cX12_line q.1 = .ok q.2 := by decide +kernel
def kdX12_doWork : List (Nat × Instr × Nat) := [(0, .iload_n 2, 1), (1, .tableswitch 101 0 4 #[35, 46, 58, 68, 90], 35), (36, .aload_n 0, 1), (37, .iload_n 1, 1), (38, .iconst 5, 1), (39, .bipush 100, 2), (41, .invokevirtual 175, 3), (44, .goto 65, 3), (47, .aload_n 0, 1), (48, .iload_n 1, 1), (49, .bipush 6, 2), (51, .bipush 100, 2), (53, .invokevirtual 175, 3), (56, .goto 53, 3), (59, .aload_n 0, 1), (60, .iload_n 1, 1), (61, .iconst 4, 1), (62, .iconst 1, 1), (63, .invokevirtual 175, 3), (66, .goto 43, 3), (69, .aload_n 0, 1), (70, .iload_n 1, 1), (71, .iconst 3, 1), (72, .bipush 9, 2), (74, .aload_n 0, 1), (75, .iload_n 1, 1), (76, .iconst 3, 1), (77, .invokevirtual 238, 3), (80, .iconst 3, 1), (81, .iadd, 1), (82, .invokestatic 130, 3), (85, .invokevirtual 175, 3), (88, .goto 21, 3), (91, .aload_n 0, 1), (92, .iload_n 1, 1), (93, .bipush 7, 2), (95, .iconst 1, 1), (96, .invokevirtual 175, 3), (99, .goto 10, 3), (102, .aload_n 0, 1), (103, .iload_n 1, 1), (104, .iconst 2, 1), (105, .iconst 0, 1), (106, .invokevirtual 175, 3), (109, .return_, 1)]
theorem kdX12_doWork_ok : ∀ q ∈ kdX12_doWork, decode cX12_doWork q.1 = .ok q.2 := by decide +kernel
def kdX12_work : List (Nat × Instr × Nat) := [(0, .aload_n 0, 1), (1, .iconst 0, 1), (2, .putfield 90, 3), (5, .aload_n 0, 1), (6, .iload_n 1, 1), (7, .invokevirtual 244, 3), (10, .ifCond .eq 12, 3), (13, .iload_n 2, 1), (14, .iconst 0, 1), (15, .iconst 5, 1), (16, .invokestatic 96, 3), (19, .ifCond .ne 9, 3), (22, .aload_n 0, 1), (23, .iconst 1, 1), (24, .putfield 90, 3), (27, .return_, 1), (28, .aload_n 0, 1), (29, .iload_n 1, 1), (30, .iload_n 2, 1), (31, .invokevirtual 331, 3), (34, .return_, 1)]
theorem kdX12_work_ok : ∀ q ∈ kdX12_work, decode cX12_work q.1 = .ok q.2 := by decide +kernel
def kdX12_bulges : List (Nat × Instr × Nat) := [(0, .iconst 0, 1), (1, .istore_n 2, 1), (2, .iconst 0, 1), (3, .istore_n 3, 1), (4, .iload_n 3, 1), (5, .aload_n 0, 1), (6, .iload_n 1, 1), (7, .iconst 1, 1), (8, .invokevirtual 238, 3), (11, .if_icmp .ge 21, 3), (14, .iload_n 2, 1), (15, .aload_n 0, 1), (16, .iload_n 1, 1), (17, .bipush 13, 2), (19, .iload_n 3, 1), (20, .iadd, 1), (21, .invokevirtual 238, 3), (24, .iadd, 1), (25, .istore_n 2, 1), (26, .iinc 3 1, 3), (29, .goto (-25), 3), (32, .iload_n 2, 1), (33, .ireturn, 1)]
theorem kdX12_bulges_ok : ∀ q ∈ kdX12_bulges, decode cX12_bulges q.1 = .ok q.2 := by decide +kernel
def kdX12_orderOn : List (Nat × Instr × Nat) := [(0, .iload_n 2, 1), (1, .ifCond .ne 64, 3), (4, .aload_n 0, 1), (5, .bipush 12, 2), (7, .iload_n 1, 1), (8, .iadd, 1), (9, .invokevirtual 334, 3), (12, .istore_n 3, 1), (13, .aload_n 0, 1), (14, .getfield 337, 3), (17, .iconst (-1), 1), (18, .if_icmp .eq 12, 3), (21, .iload_n 3, 1), (22, .aload_n 0, 1), (23, .getfield 337, 3), (26, .if_icmp .lt 4, 3), (29, .return_, 1), (30, .aload_n 0, 1), (31, .iload_n 3, 1), (32, .putfield 337, 3), (35, .iconst 0, 1), (36, .istore 4, 2), (38, .iload 4, 2), (40, .iload_n 1, 1), (41, .if_icmp .ge 23, 3), (44, .aload_n 0, 1), (45, .getfield 59, 3), (48, .iload 4, 2), (50, .aload_n 0, 1), (51, .getfield 56, 3), (54, .iload 4, 2), (56, .iaload, 1), (57, .iastore, 1), (58, .iinc 4 1, 3), (61, .goto (-23), 3), (64, .return_, 1), (65, .iconst 0, 1), (66, .istore_n 3, 1), (67, .iload_n 3, 1), (68, .bipush 6, 2), (70, .if_icmp .ge 91, 3), (73, .iload_n 2, 1), (74, .iload_n 3, 1), (75, .ishr, 1), (76, .iconst 1, 1), (77, .iand, 1), (78, .ifCond .ne 6, 3), (81, .goto 74, 3), (84, .bipush 12, 2), (86, .iload_n 1, 1), (87, .iadd, 1), (88, .iconst 1, 1), (89, .iadd, 1), (90, .istore 4, 2), (92, .aload_n 0, 1), (93, .bipush 12, 2), (95, .iload_n 1, 1), (96, .iadd, 1), (97, .iload 4, 2), (99, .invokevirtual 215, 3), (102, .aload_n 0, 1), (103, .iload 4, 2), (105, .iload_n 3, 1), (106, .invokevirtual 331, 3), (109, .aload_n 0, 1), (110, .getfield 56, 3), (113, .iload_n 1, 1), (114, .iload_n 3, 1), (115, .iastore, 1), (116, .aload_n 0, 1), (117, .iload 4, 2), (119, .invokevirtual 317, 3), (122, .aload_n 0, 1), (123, .iload 4, 2), (125, .bipush 9, 2), (127, .invokevirtual 238, 3), (130, .aload_n 0, 1), (131, .bipush 12, 2), (133, .bipush 9, 2), (135, .invokevirtual 238, 3), (138, .if_icmp .ne 17, 3), (141, .aload_n 0, 1), (142, .iload_n 1, 1), (143, .iconst 1, 1), (144, .iadd, 1), (145, .iload_n 2, 1), (146, .iconst 1, 1), (147, .iload_n 3, 1), (148, .ishl, 1), (149, .iconst (-1), 1), (150, .ixor, 1), (151, .iand, 1), (152, .invokevirtual 340, 3), (155, .iinc 3 1, 3), (158, .goto (-91), 3), (161, .return_, 1)]
theorem kdX12_orderOn_ok : ∀ q ∈ kdX12_orderOn, decode cX12_orderOn q.1 = .ok q.2 := by decide +kernel
def kdX12_order : List (Nat × Instr × Nat) := [(0, .aload_n 0, 1), (1, .iconst 0, 1), (2, .putfield 90, 3), (5, .aload_n 0, 1), (6, .iload_n 1, 1), (7, .invokevirtual 244, 3), (10, .ifCond .ne 9, 3), (13, .aload_n 0, 1), (14, .iconst 1, 1), (15, .invokevirtual 208, 3), (18, .ireturn, 1), (19, .iload_n 2, 1), (20, .iconst 0, 1), (21, .bipush 63, 2), (23, .invokestatic 96, 3), (26, .ifCond .ne 9, 3), (29, .aload_n 0, 1), (30, .iconst 2, 1), (31, .invokevirtual 208, 3), (34, .ireturn, 1), (35, .aload_n 0, 1), (36, .iload_n 1, 1), (37, .bipush 12, 2), (39, .invokevirtual 215, 3), (42, .aload_n 0, 1), (43, .iconst (-1), 1), (44, .putfield 337, 3), (47, .aload_n 0, 1), (48, .iconst 0, 1), (49, .iload_n 2, 1), (50, .invokevirtual 340, 3), (53, .aload_n 0, 1), (54, .getfield 337, 3), (57, .iconst (-1), 1), (58, .if_icmp .ne 5, 3), (61, .iconst (-1), 1), (62, .ireturn, 1), (63, .aload_n 0, 1), (64, .iconst 0, 1), (65, .putfield 62, 3), (68, .iconst 0, 1), (69, .istore_n 3, 1), (70, .iload_n 3, 1), (71, .bipush 6, 2), (73, .if_icmp .ge 23, 3), (76, .aload_n 0, 1), (77, .dup, 1), (78, .getfield 62, 3), (81, .iload_n 2, 1), (82, .iload_n 3, 1), (83, .ishr, 1), (84, .iconst 1, 1), (85, .iand, 1), (86, .iadd, 1), (87, .putfield 62, 3), (90, .iinc 3 1, 3), (93, .goto (-23), 3), (96, .iconst 0, 1), (97, .istore_n 3, 1), (98, .iload_n 3, 1), (99, .aload_n 0, 1), (100, .getfield 62, 3), (103, .if_icmp .ge 21, 3), (106, .aload_n 0, 1), (107, .getfield 53, 3), (110, .iload_n 3, 1), (111, .aload_n 0, 1), (112, .getfield 59, 3), (115, .iload_n 3, 1), (116, .iaload, 1), (117, .iastore, 1), (118, .iinc 3 1, 3), (121, .goto (-23), 3), (124, .aload_n 0, 1), (125, .getfield 337, 3), (128, .ireturn, 1)]
theorem kdX12_order_ok : ∀ q ∈ kdX12_order, decode cX12_order q.1 = .ok q.2 := by decide +kernel
def kdX12_ordered : List (Nat × Instr × Nat) := [(0, .aload_n 0, 1), (1, .iconst 0, 1), (2, .putfield 90, 3), (5, .iload_n 1, 1), (6, .iconst 0, 1), (7, .aload_n 0, 1), (8, .getfield 62, 3), (11, .iconst 1, 1), (12, .isub, 1), (13, .invokestatic 96, 3), (16, .ifCond .eq 12, 3), (19, .aload_n 0, 1), (20, .getfield 53, 3), (23, .iload_n 1, 1), (24, .iaload, 1), (25, .goto 8, 3), (28, .aload_n 0, 1), (29, .iconst 1, 1), (30, .invokevirtual 208, 3), (33, .ireturn, 1)]
theorem kdX12_ordered_ok : ∀ q ∈ kdX12_ordered, decode cX12_ordered q.1 = .ok q.2 := by decide +kernel
def kdX12_brick : List (Nat × Instr × Nat) := [(0, .aload_n 0, 1), (1, .iconst 0, 1), (2, .putfield 90, 3), (5, .iload_n 2, 1), (6, .ifCond .eq 27, 3), (9, .aload_n 0, 1), (10, .getfield 68, 3), (13, .iconst (-1), 1), (14, .if_icmp .eq 15, 3), (17, .iload_n 1, 1), (18, .aload_n 0, 1), (19, .getfield 68, 3), (22, .if_icmp .lt 7, 3), (25, .iconst 1, 1), (26, .goto 28, 3), (29, .iconst 0, 1), (30, .goto 24, 3), (33, .aload_n 0, 1), (34, .getfield 65, 3), (37, .iconst (-1), 1), (38, .if_icmp .eq 15, 3), (41, .iload_n 1, 1), (42, .aload_n 0, 1), (43, .getfield 65, 3), (46, .if_icmp .gt 7, 3), (49, .iconst 1, 1), (50, .goto 4, 3), (53, .iconst 0, 1), (54, .istore_n 3, 1), (55, .aload_n 0, 1), (56, .getfield 219, 3), (59, .bipush 40, 2), (61, .if_icmp .eq 17, 3), (64, .iload_n 1, 1), (65, .iconst 0, 1), (66, .bipush 100, 2), (68, .invokestatic 96, 3), (71, .ifCond .eq 7, 3), (74, .iload_n 3, 1), (75, .ifCond .eq 15, 3), (78, .aload_n 0, 1), (79, .getfield 34, 3), (82, .iconst 2, 1), (83, .dup2, 1), (84, .iaload, 1), (85, .iconst 1, 1), (86, .iadd, 1), (87, .iastore, 1), (88, .iconst (-1), 1), (89, .ireturn, 1), (90, .iload_n 2, 1), (91, .ifCond .eq 18, 3), (94, .aload_n 0, 1), (95, .aload_n 0, 1), (96, .getfield 65, 3), (99, .iload_n 1, 1), (100, .invokestatic 257, 3), (103, .putfield 65, 3), (106, .goto 27, 3), (109, .aload_n 0, 1), (110, .aload_n 0, 1), (111, .getfield 68, 3), (114, .iconst (-1), 1), (115, .if_icmp .ne 7, 3), (118, .iload_n 1, 1), (119, .goto 11, 3), (122, .aload_n 0, 1), (123, .getfield 68, 3), (126, .iload_n 1, 1), (127, .invokestatic 130, 3), (130, .putfield 68, 3), (133, .aload_n 0, 1), (134, .dup, 1), (135, .getfield 219, 3), (138, .iconst 1, 1), (139, .iadd, 1), (140, .putfield 219, 3), (143, .aload_n 0, 1), (144, .getfield 219, 3), (147, .ireturn, 1)]
theorem kdX12_brick_ok : ∀ q ∈ kdX12_brick, decode cX12_brick q.1 = .ok q.2 := by decide +kernel
def kdX12_mix : List (Nat × Instr × Nat) := [(0, .aload_n 0, 1), (1, .iconst 0, 1), (2, .putfield 90, 3), (5, .iconst 0, 1), (6, .aload_n 0, 1), (7, .getfield 65, 3), (10, .invokestatic 257, 3), (13, .istore_n 2, 1), (14, .aload_n 0, 1), (15, .getfield 68, 3), (18, .iconst (-1), 1), (19, .if_icmp .ne 8, 3), (22, .bipush 100, 2), (24, .goto 7, 3), (27, .aload_n 0, 1), (28, .getfield 68, 3), (31, .istore_n 3, 1), (32, .iconst 0, 1), (33, .istore 4, 2), (35, .iload_n 1, 1), (36, .tableswitch 76 0 3 #[32, 37, 42, 48], 32), (68, .aload_n 0, 1), (69, .getfield 65, 3), (72, .ireturn, 1), (73, .aload_n 0, 1), (74, .getfield 68, 3), (77, .ireturn, 1), (78, .iload_n 2, 1), (79, .iload_n 3, 1), (80, .iadd, 1), (81, .iconst 2, 1), (82, .idiv, 1), (83, .ireturn, 1), (84, .iload_n 3, 1), (85, .iload_n 2, 1), (86, .isub, 1), (87, .istore 5, 2), (89, .iload 5, 2), (91, .iconst 1, 1), (92, .if_icmp .le 17, 3), (95, .iinc 4 1, 3), (98, .iload 5, 2), (100, .iconst 1, 1), (101, .iadd, 1), (102, .iconst 2, 1), (103, .idiv, 1), (104, .istore 5, 2), (106, .goto (-17), 3), (109, .iload 4, 2), (111, .ireturn, 1), (112, .aload_n 0, 1), (113, .iconst 1, 1), (114, .invokevirtual 208, 3), (117, .ireturn, 1)]
theorem kdX12_mix_ok : ∀ q ∈ kdX12_mix, decode cX12_mix q.1 = .ok q.2 := by decide +kernel
def kdX12_house : List (Nat × Instr × Nat) := [(0, .aload_n 0, 1), (1, .iconst 0, 1), (2, .putfield 90, 3), (5, .aload_n 0, 1), (6, .getfield 222, 3), (9, .bipush 12, 2), (11, .if_icmp .eq 35, 3), (14, .iload_n 1, 1), (15, .iconst 0, 1), (16, .sipush 1000, 3), (19, .invokestatic 96, 3), (22, .ifCond .eq 24, 3), (25, .iload_n 2, 1), (26, .iconst 0, 1), (27, .bipush 99, 2), (29, .invokestatic 96, 3), (32, .ifCond .eq 14, 3), (35, .iload_n 3, 1), (36, .iconst 1, 1), (37, .sipush 999, 3), (40, .invokestatic 96, 3), (43, .ifCond .ne 15, 3), (46, .aload_n 0, 1), (47, .getfield 34, 3), (50, .iconst 3, 1), (51, .dup2, 1), (52, .iaload, 1), (53, .iconst 1, 1), (54, .iadd, 1), (55, .iastore, 1), (56, .iconst (-1), 1), (57, .ireturn, 1), (58, .aload_n 0, 1), (59, .getfield 71, 3), (62, .aload_n 0, 1), (63, .getfield 222, 3), (66, .iload_n 1, 1), (67, .iastore, 1), (68, .aload_n 0, 1), (69, .getfield 74, 3), (72, .aload_n 0, 1), (73, .getfield 222, 3), (76, .iload_n 2, 1), (77, .iastore, 1), (78, .aload_n 0, 1), (79, .getfield 77, 3), (82, .aload_n 0, 1), (83, .getfield 222, 3), (86, .iload_n 3, 1), (87, .iastore, 1), (88, .aload_n 0, 1), (89, .dup, 1), (90, .getfield 222, 3), (93, .iconst 1, 1), (94, .iadd, 1), (95, .putfield 222, 3), (98, .aload_n 0, 1), (99, .getfield 222, 3), (102, .ireturn, 1)]
theorem kdX12_house_ok : ∀ q ∈ kdX12_house, decode cX12_house q.1 = .ok q.2 := by decide +kernel
def kdX12_first : List (Nat × Instr × Nat) := [(0, .aload_n 0, 1), (1, .iconst 0, 1), (2, .putfield 90, 3), (5, .iload_n 2, 1), (6, .iconst 0, 1), (7, .iconst 2, 1), (8, .invokestatic 96, 3), (11, .ifCond .ne 9, 3), (14, .aload_n 0, 1), (15, .iconst 1, 1), (16, .invokevirtual 208, 3), (19, .ireturn, 1), (20, .iload_n 1, 1), (21, .iconst 0, 1), (22, .sipush 9999, 3), (25, .invokestatic 96, 3), (28, .ifCond .ne 9, 3), (31, .aload_n 0, 1), (32, .iconst 2, 1), (33, .invokevirtual 208, 3), (36, .ireturn, 1), (37, .iconst 0, 1), (38, .istore_n 3, 1), (39, .iconst 0, 1), (40, .istore 4, 2), (42, .iconst 0, 1), (43, .istore 5, 2), (45, .iconst 1, 1), (46, .istore 6, 2), (48, .iload 6, 2), (50, .iconst 1, 1), (51, .aload_n 0, 1), (52, .getfield 222, 3), (55, .ishl, 1), (56, .if_icmp .ge 122, 3), (59, .iconst 0, 1), (60, .istore 7, 2), (62, .iconst 0, 1), (63, .istore 8, 2), (65, .iconst 0, 1), (66, .istore 9, 2), (68, .iload 9, 2), (70, .aload_n 0, 1), (71, .getfield 222, 3), (74, .if_icmp .ge 57, 3), (77, .iload 7, 2), (79, .iload 6, 2), (81, .iload 9, 2), (83, .ishr, 1), (84, .iconst 1, 1), (85, .iand, 1), (86, .aload_n 0, 1), (87, .getfield 77, 3), (90, .iload 9, 2), (92, .iaload, 1), (93, .imul, 1), (94, .iadd, 1), (95, .istore 7, 2), (97, .iload 8, 2), (99, .iload 6, 2), (101, .iload 9, 2), (103, .ishr, 1), (104, .iconst 1, 1), (105, .iand, 1), (106, .aload_n 0, 1), (107, .getfield 71, 3), (110, .iload 9, 2), (112, .iaload, 1), (113, .imul, 1), (114, .aload_n 0, 1), (115, .getfield 74, 3), (118, .iload 9, 2), (120, .iaload, 1), (121, .imul, 1), (122, .iadd, 1), (123, .istore 8, 2), (125, .iinc 9 1, 3), (128, .goto (-60), 3), (131, .iload 7, 2), (133, .iload_n 1, 1), (134, .if_icmp .gt 38, 3), (137, .iload 8, 2), (139, .iload 4, 2), (141, .if_icmp .lt 31, 3), (144, .iload 8, 2), (146, .iload 4, 2), (148, .if_icmp .ne 13, 3), (151, .iload 7, 2), (153, .iload 5, 2), (155, .if_icmp .lt 6, 3), (158, .goto 14, 3), (161, .iload 6, 2), (163, .istore_n 3, 1), (164, .iload 8, 2), (166, .istore 4, 2), (168, .iload 7, 2), (170, .istore 5, 2), (172, .iinc 6 1, 3), (175, .goto (-127), 3), (178, .iload_n 2, 1), (179, .ifCond .ne 8, 3), (182, .iload 4, 2), (184, .goto 14, 3), (187, .iload_n 2, 1), (188, .iconst 1, 1), (189, .if_icmp .ne 8, 3), (192, .iload 5, 2), (194, .goto 4, 3), (197, .iload_n 3, 1), (198, .ireturn, 1)]
theorem kdX12_first_ok : ∀ q ∈ kdX12_first, decode cX12_first q.1 = .ok q.2 := by decide +kernel
def kdX12_guess : List (Nat × Instr × Nat) := [(0, .aload_n 0, 1), (1, .iconst 0, 1), (2, .putfield 90, 3), (5, .iload_n 1, 1), (6, .iconst 0, 1), (7, .iconst 3, 1), (8, .invokestatic 96, 3), (11, .ifCond .eq 11, 3), (14, .aload_n 0, 1), (15, .iload_n 2, 1), (16, .invokevirtual 244, 3), (19, .ifCond .ne 9, 3), (22, .aload_n 0, 1), (23, .iconst 1, 1), (24, .putfield 90, 3), (27, .return_, 1), (28, .aload_n 0, 1), (29, .iload_n 2, 1), (30, .bipush 32, 2), (32, .iload_n 1, 1), (33, .iadd, 1), (34, .invokevirtual 215, 3), (37, .aload_n 0, 1), (38, .getfield 80, 3), (41, .iload_n 1, 1), (42, .iconst 1, 1), (43, .bastore, 1), (44, .aload_n 0, 1), (45, .getfield 84, 3), (48, .iload_n 1, 1), (49, .iconst 0, 1), (50, .iastore, 1), (51, .return_, 1)]
theorem kdX12_guess_ok : ∀ q ∈ kdX12_guess, decode cX12_guess q.1 = .ok q.2 := by decide +kernel
def kdX12_knows : List (Nat × Instr × Nat) := [(0, .aload_n 0, 1), (1, .getfield 80, 3), (4, .iload_n 1, 1), (5, .baload, 1), (6, .ifCond .eq 33, 3), (9, .iload_n 2, 1), (10, .aload_n 0, 1), (11, .bipush 32, 2), (13, .iload_n 1, 1), (14, .iadd, 1), (15, .iconst 1, 1), (16, .invokevirtual 238, 3), (19, .if_icmp .ge 20, 3), (22, .iload_n 3, 1), (23, .aload_n 0, 1), (24, .bipush 32, 2), (26, .iload_n 1, 1), (27, .iadd, 1), (28, .iconst 0, 1), (29, .invokevirtual 238, 3), (32, .if_icmp .ge 7, 3), (35, .iconst 1, 1), (36, .goto 4, 3), (39, .iconst 0, 1), (40, .ireturn, 1)]
theorem kdX12_knows_ok : ∀ q ∈ kdX12_knows, decode cX12_knows q.1 = .ok q.2 := by decide +kernel
def kdX12_stick : List (Nat × Instr × Nat) := [(0, .aload_n 0, 1), (1, .iconst 0, 1), (2, .putfield 90, 3), (5, .iload_n 1, 1), (6, .iconst 0, 1), (7, .bipush 23, 2), (9, .invokestatic 96, 3), (12, .ifCond .eq 34, 3), (15, .iload_n 2, 1), (16, .iconst 0, 1), (17, .iconst 5, 1), (18, .invokestatic 96, 3), (21, .ifCond .eq 25, 3), (24, .iload_n 3, 1), (25, .iconst 0, 1), (26, .sipush 400, 3), (29, .invokestatic 96, 3), (32, .ifCond .eq 14, 3), (35, .iload 4, 2), (37, .iconst 0, 1), (38, .bipush 50, 2), (40, .invokestatic 96, 3), (43, .ifCond .ne 9, 3), (46, .aload_n 0, 1), (47, .iconst 1, 1), (48, .invokevirtual 208, 3), (51, .ireturn, 1), (52, .iconst 0, 1), (53, .istore 5, 2), (55, .iconst 0, 1), (56, .istore 6, 2), (58, .iload 6, 2), (60, .iconst 4, 1), (61, .if_icmp .ge 64, 3), (64, .aload_n 0, 1), (65, .iload 6, 2), (67, .iload_n 1, 1), (68, .iload_n 2, 1), (69, .invokevirtual 343, 3), (72, .ifCond .eq 47, 3), (75, .aload_n 0, 1), (76, .bipush 32, 2), (78, .iload 6, 2), (80, .iadd, 1), (81, .bipush 37, 2), (83, .iload_n 1, 1), (84, .iload_n 2, 1), (85, .invokestatic 241, 3), (88, .iadd, 1), (89, .invokevirtual 238, 3), (92, .iload_n 3, 1), (93, .isub, 1), (94, .invokestatic 346, 3), (97, .iload 4, 2), (99, .if_icmp .le 6, 3), (102, .goto 17, 3), (105, .aload_n 0, 1), (106, .getfield 84, 3), (109, .iload 6, 2), (111, .dup2, 1), (112, .iaload, 1), (113, .iconst 1, 1), (114, .iadd, 1), (115, .iastore, 1), (116, .iinc 5 1, 3), (119, .iinc 6 1, 3), (122, .goto (-64), 3), (125, .iload 5, 2), (127, .ireturn, 1)]
theorem kdX12_stick_ok : ∀ q ∈ kdX12_stick, decode cX12_stick q.1 = .ok q.2 := by decide +kernel
def kdX12_credit : List (Nat × Instr × Nat) := [(0, .aload_n 0, 1), (1, .iconst 0, 1), (2, .putfield 90, 3), (5, .iload_n 1, 1), (6, .iconst 0, 1), (7, .iconst 3, 1), (8, .invokestatic 96, 3), (11, .ifCond .eq 25, 3), (14, .aload_n 0, 1), (15, .getfield 80, 3), (18, .iload_n 1, 1), (19, .baload, 1), (20, .ifCond .eq 12, 3), (23, .aload_n 0, 1), (24, .getfield 84, 3), (27, .iload_n 1, 1), (28, .iaload, 1), (29, .goto 12, 3), (32, .iconst (-1), 1), (33, .goto 8, 3), (36, .aload_n 0, 1), (37, .iconst 1, 1), (38, .invokevirtual 208, 3), (41, .ireturn, 1)]
theorem kdX12_credit_ok : ∀ q ∈ kdX12_credit, decode cX12_credit q.1 = .ok q.2 := by decide +kernel
def kdX12_where : List (Nat × Instr × Nat) := [(0, .aload_n 0, 1), (1, .iconst 0, 1), (2, .putfield 90, 3), (5, .iconst (-1), 1), (6, .istore_n 1, 1), (7, .iconst (-1), 1), (8, .istore_n 2, 1), (9, .iconst 0, 1), (10, .istore_n 3, 1), (11, .iload_n 3, 1), (12, .sipush 144, 3), (15, .if_icmp .ge 123, 3), (18, .iconst 0, 1), (19, .istore 4, 2), (21, .iload 4, 2), (23, .iconst 4, 1), (24, .if_icmp .ge 108, 3), (27, .iconst 0, 1), (28, .istore 5, 2), (30, .iload 5, 2), (32, .iload 4, 2), (34, .if_icmp .ge 92, 3), (37, .aload_n 0, 1), (38, .iload 4, 2), (40, .iload_n 3, 1), (41, .bipush 6, 2), (43, .idiv, 1), (44, .iload_n 3, 1), (45, .bipush 6, 2), (47, .irem, 1), (48, .invokevirtual 343, 3), (51, .ifCond .eq 69, 3), (54, .aload_n 0, 1), (55, .iload 5, 2), (57, .iload_n 3, 1), (58, .bipush 6, 2), (60, .idiv, 1), (61, .iload_n 3, 1), (62, .bipush 6, 2), (64, .irem, 1), (65, .invokevirtual 343, 3), (68, .ifCond .ne 6, 3), (71, .goto 49, 3), (74, .aload_n 0, 1), (75, .bipush 32, 2), (77, .iload 4, 2), (79, .iadd, 1), (80, .bipush 37, 2), (82, .iload_n 3, 1), (83, .iadd, 1), (84, .invokevirtual 238, 3), (87, .aload_n 0, 1), (88, .bipush 32, 2), (90, .iload 5, 2), (92, .iadd, 1), (93, .bipush 37, 2), (95, .iload_n 3, 1), (96, .iadd, 1), (97, .invokevirtual 238, 3), (100, .isub, 1), (101, .invokestatic 346, 3), (104, .istore 6, 2), (106, .iload 6, 2), (108, .iload_n 2, 1), (109, .if_icmp .gt 6, 3), (112, .goto 8, 3), (115, .iload_n 3, 1), (116, .istore_n 1, 1), (117, .iload 6, 2), (119, .istore_n 2, 1), (120, .iinc 5 1, 3), (123, .goto (-93), 3), (126, .iinc 4 1, 3), (129, .goto (-108), 3), (132, .iinc 3 1, 3), (135, .goto (-124), 3), (138, .iload_n 1, 1), (139, .ireturn, 1)]
theorem kdX12_where_ok : ∀ q ∈ kdX12_where, decode cX12_where q.1 = .ok q.2 := by decide +kernel
def kdX12_image : List (Nat × Instr × Nat) := [(0, .aload_n 0, 1), (1, .iconst 0, 1), (2, .putfield 90, 3), (5, .aload_n 0, 1), (6, .iconst 1, 1), (7, .putfield 225, 3), (10, .iconst 0, 1), (11, .istore_n 1, 1), (12, .iload_n 1, 1), (13, .aload_n 0, 1), (14, .getfield 93, 3), (17, .if_icmp .ge 18, 3), (20, .aload_n 0, 1), (21, .iload_n 1, 1), (22, .bipush 8, 2), (24, .iload_n 1, 1), (25, .iadd, 1), (26, .invokevirtual 215, 3), (29, .iinc 1 1, 3), (32, .goto (-20), 3), (35, .iconst 0, 1), (36, .istore_n 1, 1), (37, .iload_n 1, 1), (38, .iconst 4, 1), (39, .if_icmp .ge 21, 3), (42, .aload_n 0, 1), (43, .getfield 87, 3), (46, .iload_n 1, 1), (47, .aload_n 0, 1), (48, .getfield 34, 3), (51, .iload_n 1, 1), (52, .iaload, 1), (53, .iastore, 1), (54, .iinc 1 1, 3), (57, .goto (-20), 3), (60, .return_, 1)]
theorem kdX12_image_ok : ∀ q ∈ kdX12_image, decode cX12_image q.1 = .ok q.2 := by decide +kernel
def kdX12_restore : List (Nat × Instr × Nat) := [(0, .aload_n 0, 1), (1, .iconst 0, 1), (2, .putfield 90, 3), (5, .aload_n 0, 1), (6, .getfield 225, 3), (9, .ifCond .ne 5, 3), (12, .iconst 0, 1), (13, .ireturn, 1), (14, .iconst 0, 1), (15, .istore_n 1, 1), (16, .iload_n 1, 1), (17, .aload_n 0, 1), (18, .getfield 93, 3), (21, .if_icmp .ge 18, 3), (24, .aload_n 0, 1), (25, .bipush 8, 2), (27, .iload_n 1, 1), (28, .iadd, 1), (29, .iload_n 1, 1), (30, .invokevirtual 215, 3), (33, .iinc 1 1, 3), (36, .goto (-20), 3), (39, .iconst 0, 1), (40, .istore_n 1, 1), (41, .iload_n 1, 1), (42, .iconst 4, 1), (43, .if_icmp .ge 21, 3), (46, .aload_n 0, 1), (47, .getfield 34, 3), (50, .iload_n 1, 1), (51, .aload_n 0, 1), (52, .getfield 87, 3), (55, .iload_n 1, 1), (56, .iaload, 1), (57, .iastore, 1), (58, .iinc 1 1, 3), (61, .goto (-20), 3), (64, .iconst 1, 1), (65, .ireturn, 1)]
theorem kdX12_restore_ok : ∀ q ∈ kdX12_restore, decode cX12_restore q.1 = .ok q.2 := by decide +kernel
def kdL_yard : List (Nat × Instr × Nat) := [(0, .aload_n 2, 1), (1, .iconst 0, 1), (2, .aload_n 0, 1), (3, .iload_n 1, 1), (4, .invokevirtual 7, 3), (7, .i2l, 1), (8, .lastore, 1), (9, .goto 6, 3), (12, .astore_n 3, 1), (13, .iconst 1, 1), (14, .ireturn, 1), (15, .iconst 0, 1), (16, .ireturn, 1)]
theorem kdL_yard_ok : ∀ q ∈ kdL_yard, decode cL_yard q.1 = .ok q.2 := by decide +kernel
def kdL_count : List (Nat × Instr × Nat) := [(0, .aload_n 2, 1), (1, .iconst 0, 1), (2, .aload_n 0, 1), (3, .iload_n 1, 1), (4, .invokevirtual 15, 3), (7, .i2l, 1), (8, .lastore, 1), (9, .goto 6, 3), (12, .astore_n 3, 1), (13, .iconst 1, 1), (14, .ireturn, 1), (15, .iconst 0, 1), (16, .ireturn, 1)]
theorem kdL_count_ok : ∀ q ∈ kdL_count, decode cL_count q.1 = .ok q.2 := by decide +kernel
def kdL_wall : List (Nat × Instr × Nat) := [(0, .aload_n 3, 1), (1, .iconst 0, 1), (2, .aload_n 0, 1), (3, .iload_n 1, 1), (4, .iload_n 2, 1), (5, .invokevirtual 20, 3), (8, .i2l, 1), (9, .lastore, 1), (10, .goto 7, 3), (13, .astore 4, 2), (15, .iconst 1, 1), (16, .ireturn, 1), (17, .iconst 0, 1), (18, .ireturn, 1)]
theorem kdL_wall_ok : ∀ q ∈ kdL_wall, decode cL_wall q.1 = .ok q.2 := by decide +kernel
def kdL_cell : List (Nat × Instr × Nat) := [(0, .aload 5, 2), (2, .iconst 0, 1), (3, .aload_n 0, 1), (4, .iload_n 1, 1), (5, .iload_n 2, 1), (6, .iload_n 3, 1), (7, .iload 4, 2), (9, .invokevirtual 24, 3), (12, .i2l, 1), (13, .lastore, 1), (14, .goto 7, 3), (17, .astore 6, 2), (19, .iconst 1, 1), (20, .ireturn, 1), (21, .iconst 0, 1), (22, .ireturn, 1)]
theorem kdL_cell_ok : ∀ q ∈ kdL_cell, decode cL_cell q.1 = .ok q.2 := by decide +kernel
def kdL_layer : List (Nat × Instr × Nat) := [(0, .aload 4, 2), (2, .iconst 0, 1), (3, .aload_n 0, 1), (4, .iload_n 1, 1), (5, .iload_n 2, 1), (6, .iload_n 3, 1), (7, .invokevirtual 28, 3), (10, .i2l, 1), (11, .lastore, 1), (12, .goto 7, 3), (15, .astore 5, 2), (17, .iconst 1, 1), (18, .ireturn, 1), (19, .iconst 0, 1), (20, .ireturn, 1)]
theorem kdL_layer_ok : ∀ q ∈ kdL_layer, decode cL_layer q.1 = .ok q.2 := by decide +kernel
def kdL_lift : List (Nat × Instr × Nat) := [(0, .aload_n 3, 1), (1, .iconst 0, 1), (2, .aload_n 0, 1), (3, .iload_n 1, 1), (4, .iload_n 2, 1), (5, .invokevirtual 32, 3), (8, .i2l, 1), (9, .lastore, 1), (10, .goto 7, 3), (13, .astore 4, 2), (15, .iconst 1, 1), (16, .ireturn, 1), (17, .iconst 0, 1), (18, .ireturn, 1)]
theorem kdL_lift_ok : ∀ q ∈ kdL_lift, decode cL_lift q.1 = .ok q.2 := by decide +kernel
def kdL_down : List (Nat × Instr × Nat) := [(0, .aload_n 2, 1), (1, .iconst 0, 1), (2, .aload_n 0, 1), (3, .iload_n 1, 1), (4, .invokevirtual 35, 3), (7, .i2l, 1), (8, .lastore, 1), (9, .goto 6, 3), (12, .astore_n 3, 1), (13, .iconst 1, 1), (14, .ireturn, 1), (15, .iconst 0, 1), (16, .ireturn, 1)]
theorem kdL_down_ok : ∀ q ∈ kdL_down, decode cL_down q.1 = .ok q.2 := by decide +kernel
def kdL_hollow : List (Nat × Instr × Nat) := [(0, .aload_n 0, 1), (1, .iload_n 1, 1), (2, .iload_n 2, 1), (3, .iload_n 3, 1), (4, .invokevirtual 38, 3), (7, .goto 7, 3), (10, .astore 4, 2), (12, .iconst 1, 1), (13, .ireturn, 1), (14, .iconst 0, 1), (15, .ireturn, 1)]
theorem kdL_hollow_ok : ∀ q ∈ kdL_hollow, decode cL_hollow q.1 = .ok q.2 := by decide +kernel
def kdL_weeks : List (Nat × Instr × Nat) := [(0, .aload_n 3, 1), (1, .iconst 0, 1), (2, .aload_n 0, 1), (3, .iload_n 1, 1), (4, .iload_n 2, 1), (5, .invokevirtual 42, 3), (8, .i2l, 1), (9, .lastore, 1), (10, .goto 11, 3), (13, .astore 4, 2), (15, .iconst 1, 1), (16, .ireturn, 1), (17, .astore 4, 2), (19, .iconst 2, 1), (20, .ireturn, 1), (21, .iconst 0, 1), (22, .ireturn, 1)]
theorem kdL_weeks_ok : ∀ q ∈ kdL_weeks, decode cL_weeks q.1 = .ok q.2 := by decide +kernel
def kdL_high : List (Nat × Instr × Nat) := [(0, .aload_n 2, 1), (1, .iconst 0, 1), (2, .aload_n 0, 1), (3, .iload_n 1, 1), (4, .invokevirtual 45, 3), (7, .i2l, 1), (8, .lastore, 1), (9, .goto 6, 3), (12, .astore_n 3, 1), (13, .iconst 1, 1), (14, .ireturn, 1), (15, .iconst 0, 1), (16, .ireturn, 1)]
theorem kdL_high_ok : ∀ q ∈ kdL_high, decode cL_high q.1 = .ok q.2 := by decide +kernel
def kdL_when : List (Nat × Instr × Nat) := [(0, .aload_n 3, 1), (1, .iconst 0, 1), (2, .aload_n 0, 1), (3, .iload_n 1, 1), (4, .iload_n 2, 1), (5, .invokevirtual 48, 3), (8, .i2l, 1), (9, .lastore, 1), (10, .goto 11, 3), (13, .astore 4, 2), (15, .iconst 1, 1), (16, .ireturn, 1), (17, .astore 4, 2), (19, .iconst 2, 1), (20, .ireturn, 1), (21, .iconst 0, 1), (22, .ireturn, 1)]
theorem kdL_when_ok : ∀ q ∈ kdL_when, decode cL_when q.1 = .ok q.2 := by decide +kernel
def kdL_plan : List (Nat × Instr × Nat) := [(0, .aload_n 3, 1), (1, .iconst 0, 1), (2, .aload_n 0, 1), (3, .iload_n 1, 1), (4, .iload_n 2, 1), (5, .invokevirtual 51, 3), (8, .i2l, 1), (9, .lastore, 1), (10, .goto 11, 3), (13, .astore 4, 2), (15, .iconst 1, 1), (16, .ireturn, 1), (17, .astore 4, 2), (19, .iconst 2, 1), (20, .ireturn, 1), (21, .iconst 0, 1), (22, .ireturn, 1)]
theorem kdL_plan_ok : ∀ q ∈ kdL_plan, decode cL_plan q.1 = .ok q.2 := by decide +kernel
def kdL_planned : List (Nat × Instr × Nat) := [(0, .aload_n 2, 1), (1, .iconst 0, 1), (2, .aload_n 0, 1), (3, .iload_n 1, 1), (4, .invokevirtual 54, 3), (7, .i2l, 1), (8, .lastore, 1), (9, .goto 6, 3), (12, .astore_n 3, 1), (13, .iconst 1, 1), (14, .ireturn, 1), (15, .iconst 0, 1), (16, .ireturn, 1)]
theorem kdL_planned_ok : ∀ q ∈ kdL_planned, decode cL_planned q.1 = .ok q.2 := by decide +kernel
def kdL_turned : List (Nat × Instr × Nat) := [(0, .aload 5, 2), (2, .iconst 0, 1), (3, .aload_n 0, 1), (4, .iload_n 1, 1), (5, .iload_n 2, 1), (6, .iload_n 3, 1), (7, .iload 4, 2), (9, .invokevirtual 57, 3), (12, .i2l, 1), (13, .lastore, 1), (14, .goto 11, 3), (17, .astore 6, 2), (19, .iconst 1, 1), (20, .ireturn, 1), (21, .astore 6, 2), (23, .iconst 2, 1), (24, .ireturn, 1), (25, .iconst 0, 1), (26, .ireturn, 1)]
theorem kdL_turned_ok : ∀ q ∈ kdL_turned, decode cL_turned q.1 = .ok q.2 := by decide +kernel
def kdL_line : List (Nat × Instr × Nat) := [(0, .aload 4, 2), (2, .iconst 0, 1), (3, .aload_n 0, 1), (4, .iload_n 1, 1), (5, .iload_n 2, 1), (6, .iload_n 3, 1), (7, .invokevirtual 60, 3), (10, .i2l, 1), (11, .lastore, 1), (12, .goto 11, 3), (15, .astore 5, 2), (17, .iconst 1, 1), (18, .ireturn, 1), (19, .astore 5, 2), (21, .iconst 2, 1), (22, .ireturn, 1), (23, .iconst 0, 1), (24, .ireturn, 1)]
theorem kdL_line_ok : ∀ q ∈ kdL_line, decode cL_line q.1 = .ok q.2 := by decide +kernel
def kdL_work : List (Nat × Instr × Nat) := [(0, .aload_n 0, 1), (1, .iload_n 1, 1), (2, .iload_n 2, 1), (3, .invokevirtual 63, 3), (6, .goto 6, 3), (9, .astore_n 3, 1), (10, .iconst 1, 1), (11, .ireturn, 1), (12, .iconst 0, 1), (13, .ireturn, 1)]
theorem kdL_work_ok : ∀ q ∈ kdL_work, decode cL_work q.1 = .ok q.2 := by decide +kernel
def kdL_order : List (Nat × Instr × Nat) := [(0, .aload_n 3, 1), (1, .iconst 0, 1), (2, .aload_n 0, 1), (3, .iload_n 1, 1), (4, .iload_n 2, 1), (5, .invokevirtual 67, 3), (8, .i2l, 1), (9, .lastore, 1), (10, .goto 11, 3), (13, .astore 4, 2), (15, .iconst 1, 1), (16, .ireturn, 1), (17, .astore 4, 2), (19, .iconst 2, 1), (20, .ireturn, 1), (21, .iconst 0, 1), (22, .ireturn, 1)]
theorem kdL_order_ok : ∀ q ∈ kdL_order, decode cL_order q.1 = .ok q.2 := by decide +kernel
def kdL_ordered : List (Nat × Instr × Nat) := [(0, .aload_n 2, 1), (1, .iconst 0, 1), (2, .aload_n 0, 1), (3, .iload_n 1, 1), (4, .invokevirtual 70, 3), (7, .i2l, 1), (8, .lastore, 1), (9, .goto 6, 3), (12, .astore_n 3, 1), (13, .iconst 1, 1), (14, .ireturn, 1), (15, .iconst 0, 1), (16, .ireturn, 1)]
theorem kdL_ordered_ok : ∀ q ∈ kdL_ordered, decode cL_ordered q.1 = .ok q.2 := by decide +kernel
def kdL_mix : List (Nat × Instr × Nat) := [(0, .aload_n 2, 1), (1, .iconst 0, 1), (2, .aload_n 0, 1), (3, .iload_n 1, 1), (4, .invokevirtual 73, 3), (7, .i2l, 1), (8, .lastore, 1), (9, .goto 6, 3), (12, .astore_n 3, 1), (13, .iconst 1, 1), (14, .ireturn, 1), (15, .iconst 0, 1), (16, .ireturn, 1)]
theorem kdL_mix_ok : ∀ q ∈ kdL_mix, decode cL_mix q.1 = .ok q.2 := by decide +kernel
def kdL_first : List (Nat × Instr × Nat) := [(0, .aload_n 3, 1), (1, .iconst 0, 1), (2, .aload_n 0, 1), (3, .iload_n 1, 1), (4, .iload_n 2, 1), (5, .invokevirtual 76, 3), (8, .i2l, 1), (9, .lastore, 1), (10, .goto 11, 3), (13, .astore 4, 2), (15, .iconst 1, 1), (16, .ireturn, 1), (17, .astore 4, 2), (19, .iconst 2, 1), (20, .ireturn, 1), (21, .iconst 0, 1), (22, .ireturn, 1)]
theorem kdL_first_ok : ∀ q ∈ kdL_first, decode cL_first q.1 = .ok q.2 := by decide +kernel
def kdL_guess : List (Nat × Instr × Nat) := [(0, .aload_n 0, 1), (1, .iload_n 1, 1), (2, .iload_n 2, 1), (3, .invokevirtual 79, 3), (6, .goto 6, 3), (9, .astore_n 3, 1), (10, .iconst 1, 1), (11, .ireturn, 1), (12, .iconst 0, 1), (13, .ireturn, 1)]
theorem kdL_guess_ok : ∀ q ∈ kdL_guess, decode cL_guess q.1 = .ok q.2 := by decide +kernel
def kdL_stick : List (Nat × Instr × Nat) := [(0, .aload 5, 2), (2, .iconst 0, 1), (3, .aload_n 0, 1), (4, .iload_n 1, 1), (5, .iload_n 2, 1), (6, .iload_n 3, 1), (7, .iload 4, 2), (9, .invokevirtual 82, 3), (12, .i2l, 1), (13, .lastore, 1), (14, .goto 7, 3), (17, .astore 6, 2), (19, .iconst 1, 1), (20, .ireturn, 1), (21, .iconst 0, 1), (22, .ireturn, 1)]
theorem kdL_stick_ok : ∀ q ∈ kdL_stick, decode cL_stick q.1 = .ok q.2 := by decide +kernel
def kdL_credit : List (Nat × Instr × Nat) := [(0, .aload_n 2, 1), (1, .iconst 0, 1), (2, .aload_n 0, 1), (3, .iload_n 1, 1), (4, .invokevirtual 85, 3), (7, .i2l, 1), (8, .lastore, 1), (9, .goto 6, 3), (12, .astore_n 3, 1), (13, .iconst 1, 1), (14, .ireturn, 1), (15, .iconst 0, 1), (16, .ireturn, 1)]
theorem kdL_credit_ok : ∀ q ∈ kdL_credit, decode cL_credit q.1 = .ok q.2 := by decide +kernel
end
section
section BASE
/-- the machine that walks a method: program, launch, environment, room, start, method, arguments, frames below, method, code -/
abbrev MC : Type := Program × Launch × Env × Room × State × MethodId × Array Value × List Frame × Method × Code
abbrev kR (k : MC) : Room := k.2.2.2.1
abbrev kS (k : MC) : State := k.2.2.2.2.1
abbrev kM (k : MC) : MethodId := k.2.2.2.2.2.1
abbrev kA (k : MC) : Array Value := k.2.2.2.2.2.2.1
abbrev kB (k : MC) : List Frame := k.2.2.2.2.2.2.2.1
abbrev kMe (k : MC) : Method := k.2.2.2.2.2.2.2.2.1
abbrev kC (k : MC) : Code := k.2.2.2.2.2.2.2.2.2
/-- what a cell is: an array (kind, length, references or numbers), or an object (number, fields: a fixed value or a number) -/
abbrev SE : Type := (Nat × Nat × Option (Nat → Option Nat)) ⊕ (Nat × List (Option Value))
/-- the numbers of all cells -/
abbrev MM : Type := Nat → Nat → Int32
/-- slots of the kinds, the first address, the addresses of constants, the array kinds -/
abbrev VE : Type := va_G × Nat × (Nat → Nat) × (Nat → ClassId)
def cv (E : VE) : Value → Value
  | .ref k => .ref (E.2.1 + k)
  | .retAddr i => .ref (E.2.2.1 i)
  | .int x => .int x
  | .long x => .long x
  | .float x => .float x
  | .double x => .double x
  | .null => .null
def fv (E : VE) (m : Nat → Int32) (j : Nat) (o : Option Value) : Value := match o with
  | some v => cv E v
  | none => .int (m j)
def repF (E : VE) (m : Nat → Int32) : Nat → List (Option Value) → List Value
  | _, [] => []
  | j, o :: t => fv E m j o :: repF E m (j + 1) t
def repE (E : VE) (e : SE) (m : Nat → Int32) : va_E := match e with
  | .inl (t, n, none) => if t = 3 then .inl (E.2.2.2 3, n, .inr (.inl (fun j => (m j).toInt64))) else .inl (E.2.2.2 t, n, .inl m)
  | .inl (t, n, some f) => .inl (E.2.2.2 t, n, .inr (.inr (.inr (.inr (fun j => (f j).map (fun x => E.2.1 + x))))))
  | .inr (ci, fl) => .inr (ci, repF E m 0 fl)
def tyA (t : Nat) : FieldType := match t with
  | 0 => .int
  | 1 => .byte
  | 2 => .boolean
  | 3 => .long
  | _ => .object "MudWalls$Wall"
def tysOf (E : VE) : List (ClassId × FieldType) := [(E.2.2.2 0, .int), (E.2.2.2 1, .byte), (E.2.2.2 2, .boolean), (E.2.2.2 3, .long), (E.2.2.2 4, .object "MudWalls$Wall")]
def HR (E : VE) (Sh : Nat → SE) (N : Nat) (G : Bool) (M : MM) (H : Heap) : Prop :=
  E.2.1 + N ≤ H.size ∧ (G = true → H.size = E.2.1 + N) ∧ ∀ k, k < N → va_at E.1 vwCl (E.2.1 + k, repE E (Sh k) (M k)) H
def LR (E : VE) (L : List (Option Value)) (ls : Array Slot) : Prop :=
  ls.size = L.length ∧ lv_wf ls ∧ ∀ (i : Nat) (v : Value), L[i]? = some (some v) → v.category = 1 ∧ ls[i]? = some (.val (cv E v))
/-- what is outside of the world, and never changes -/
abbrev AE (E : VE) : Nat → Prop := fun q => E.2.1 ≤ q
/-- two updates of the numbers -/
def up (M : MM) (k j : Nat) (v : Int32) : MM := fun a b => if a = k ∧ b = j then v else M a b
theorem up_same (M : MM) (k j : Nat) (v : Int32) : up M k j v k j = v := by simp [up]
theorem up_ne (M : MM) {k j a b : Nat} (v : Int32) (h : ¬ (a = k ∧ b = j)) : up M k j v a b = M a b := by simp [up, h]
theorem up_row (M : MM) {k j a : Nat} (v : Int32) (h : a ≠ k) : up M k j v a = M a := by funext b; simp [up, h]
theorem up_own (M : MM) (k j : Nat) (v : Int32) : up M k j v k = upd (M k) j v := by
  funext b
  by_cases h : b = j <;> simp [up, upd, h]
theorem cv_cat (E : VE) (v : Value) : (cv E v).category = v.category := by cases v <;> rfl
theorem repF_get (E : VE) (m : Nat → Int32) : ∀ (fl : List (Option Value)) (i j : Nat), (repF E m i fl)[j]? = (fl[j]?).map (fv E m (i + j))
  | [], i, j => by simp [repF]
  | o :: t, i, 0 => by simp [repF]
  | o :: t, i, j + 1 => by
    have h := repF_get E m t (i + 1) j
    rw [show i + 1 + j = i + (j + 1) by omega] at h
    simpa [repF] using h
theorem repF_len (E : VE) (m : Nat → Int32) : ∀ (fl : List (Option Value)) (i : Nat), (repF E m i fl).length = fl.length
  | [], _ => rfl
  | _ :: t, i => by simp [repF, repF_len E m t (i + 1)]
theorem repF_ext {E : VE} {m m' : Nat → Int32} : ∀ {fl fl' : List (Option Value)} {i : Nat}, fl.length = fl'.length → (∀ j, j < fl.length → (fl[j]?).map (fv E m (i + j)) = (fl'[j]?).map (fv E m' (i + j))) → repF E m i fl = repF E m' i fl' := by
  intro fl fl' i hl h
  apply List.ext_getElem?
  intro j
  rw [repF_get, repF_get]
  by_cases hj : j < fl.length
  · exact h j hj
  · rw [List.getElem?_eq_none (by omega), List.getElem?_eq_none (by omega)]
    rfl
/-- writing a number's field -/
theorem repF_setI (E : VE) (m : Nat → Int32) (fl : List (Option Value)) {j : Nat} (v : Int32) (h : fl[j]? = some none) : (repF E m 0 fl).set j (.int v) = repF E (upd m j v) 0 fl := by
  apply List.ext_getElem?
  intro i
  rw [repF_get, List.getElem?_set]
  have hj : j < fl.length := (List.getElem?_eq_some_iff.mp h).1
  by_cases e : j = i
  · subst e
    rw [h]
    simp [fv, upd, repF_len, hj]
  · rw [if_neg e, repF_get]
    cases hi : fl[i]? with
    | none => rfl
    | some o => cases o <;> simp [fv, upd, Ne.symm e]
/-- writing a field that holds a fixed value -/
theorem repF_setV (E : VE) (m : Nat → Int32) (fl : List (Option Value)) {j : Nat} (w : Value) (hj : j < fl.length) : (repF E m 0 fl).set j (cv E w) = repF E m 0 (fl.set j (some w)) := by
  apply List.ext_getElem?
  intro i
  rw [repF_get, List.getElem?_set, List.getElem?_set]
  by_cases e : j = i
  · subst e
    simp [fv, repF_len, hj]
  · rw [if_neg e, if_neg e, repF_get]
theorem HR.at {E : VE} {Sh : Nat → SE} {N : Nat} {G : Bool} {M : MM} {H : Heap} (h : HR E Sh N G M H) {k : Nat} (hk : k < N) : va_at E.1 vwCl (E.2.1 + k, repE E (Sh k) (M k)) H := h.2.2 k hk
/-- one cell was written -/
theorem HR.put {E : VE} {Sh Sh' : Nat → SE} {N : Nat} {G : Bool} {M M' : MM} {H H1 : Heap} (h : HR E Sh N G M H) (k : Nat) (hc : va_at E.1 vwCl (E.2.1 + k, repE E (Sh' k) (M' k)) H1) (hs : ∀ i, i ≠ k → Sh' i = Sh i) (hm : ∀ i, i ≠ k → M' i = M i) (z : H1.size = H.size) (o : ∀ q : Nat, q ≠ E.2.1 + k → H1[q]? = H[q]?) : HR E Sh' N G M' H1 := by
  refine ⟨by rw [z]; exact h.1, fun g => by rw [z]; exact h.2.1 g, fun i hi => ?_⟩
  by_cases e : i = k
  · rw [e]; exact hc
  · rw [hs i e, hm i e]
    exact (h.2.2 i hi).kept (o _ (by omega))
/-- cells that the world doesn't know of may come -/
theorem HR.grow {E : VE} {Sh : Nat → SE} {N : Nat} {G : Bool} {M : MM} {H H1 : Heap} (h : HR E Sh N G M H) (z : H.size ≤ H1.size) (o : ∀ q : Nat, q < H.size → H1[q]? = H[q]?) : HR E Sh N false M H1 :=
  ⟨Nat.le_trans h.1 z, fun g => (by cases g), fun i hi => (h.2.2 i hi).kept (o _ ((h.2.2 i hi).lt))⟩
theorem HR.loose {E : VE} {Sh : Nat → SE} {N : Nat} {G : Bool} {M : MM} {H : Heap} (h : HR E Sh N G M H) : HR E Sh N false M H := h.grow (Nat.le_refl _) (fun _ _ => rfl)
end BASE
end
section
section DEFS
/-- the words that every method may use -/
def TB : List Cond := lw_tbl.filter goodWord
theorem TB_of {w : Cond} (h : w ∈ lw_tbl) (g : goodWord w = true) : w ∈ TB := List.mem_filter.mpr ⟨h, g⟩
theorem TB_good {w : Cond} (h : w ∈ TB) : goodWord w = true := (List.mem_filter.mp h).2
theorem TB_in {w : Cond} (h : w ∈ TB) : w ∈ lw_tbl := (List.mem_filter.mp h).1
/-- a method: its name, its bytes, its locals, what it returns -/
abbrev MD : Type := MethodName × ByteArray × Nat × Option FieldType
/-- a kind of object: its name and fields, their types, its words -/
def CF (ci : Nat) (q : vw_C) (ty : Nat → FieldType) : Prop := vwCl[ci]? = some q ∧ (∀ w ∈ u_ws q.1 q.2.1 q.2.2, w ∈ TB) ∧ (∀ k, k < q.2.2 → parseFieldDescriptor (q.2.1 k).2.2.1 = some (ty k)) ∧ ∀ a, a < q.2.2 → ∀ b, b < q.2.2 → a ≠ b → (q.2.1 a).2.1 ≠ (q.2.1 b).2.1
/-- a field: the owner's entry idx is the field j of the kind ci; its type; whether it is final (none: not asked) -/
def FL (own : String) (idx ci j : Nat) (t : FieldType) (fin : Option Bool) : Prop := ∃ (q : vw_C) (ty : Nat → FieldType), CF ci q ty ∧ j < q.2.2 ∧ ty j = t ∧ (∀ b, fin = some b → (q.2.1 j).2.2.2 = b) ∧ (fin = some true → (q.2.1 j).1 = own) ∧ Cond.fieldLink own idx (q.2.1 j).1 (q.2.1 j).2.1 (q.2.1 j).2.2.1 ∈ TB
/-- a method's words: its code, its owner made ready, its name and how many it takes -/
def MF (md : MD) (n : Nat) : Prop := Cond.code md.1 md.2.1 md.2.2.1 md.2.2.2 ∈ TB ∧ Cond.initialized md.1.cls ∈ TB ∧ (md.1.cls ≠ "java/lang/invoke/MethodHandle" ∧ md.1.cls ≠ "java/lang/invoke/VarHandle" ∧ (parseMethodDescriptor md.1.desc).map (fun d => d.parameters.length) = some n) ∧ md.2.2.1 ≤ 20
/-- .. of one that is called by an object -/
def MI (md : MD) (n : Nat) : Prop := MF md n ∧ Cond.instanceMethod md.1 ∈ TB ∧ Cond.selects md.1.cls md.1 md.1 ∈ TB
/-- .. of a static one -/
def MS (md : MD) (n : Nat) : Prop := MF md n ∧ Cond.static md.1 ∈ TB
/-- .. of a maker -/
def MN (md : MD) (n : Nat) : Prop := MF md n ∧ Cond.instanceMethod md.1 ∈ TB ∧ md.1.name = "<init>" ∧ md.2.2.2 = none
end DEFS
end
section
theorem tb1 (i : Nat) {w : Cond} (h : tables_1_1[i]? = some w) (g : goodWord w = true) : w ∈ TB := TB_of (List.mem_append_right _ (show w ∈ tables_1 from by
  have h := List.mem_of_getElem? h
  exact List.mem_append_left _ h)) g
theorem tb2 (i : Nat) {w : Cond} (h : tables_1_2[i]? = some w) (g : goodWord w = true) : w ∈ TB := TB_of (List.mem_append_right _ (show w ∈ tables_1 from by
  have h := List.mem_of_getElem? h
  exact List.mem_append_right _ (List.mem_append_left _ h))) g
theorem tb3 (i : Nat) {w : Cond} (h : tables_1_3[i]? = some w) (g : goodWord w = true) : w ∈ TB := TB_of (List.mem_append_right _ (show w ∈ tables_1 from by
  have h := List.mem_of_getElem? h
  exact List.mem_append_right _ (List.mem_append_right _ (List.mem_append_left _ h)))) g
theorem tb4 (i : Nat) {w : Cond} (h : tables_1_4[i]? = some w) (g : goodWord w = true) : w ∈ TB := TB_of (List.mem_append_right _ (show w ∈ tables_1 from by
  have h := List.mem_of_getElem? h
  exact List.mem_append_right _ (List.mem_append_right _ (List.mem_append_right _ (List.mem_append_left _ h))))) g
theorem tb5 (i : Nat) {w : Cond} (h : tables_1_5[i]? = some w) (g : goodWord w = true) : w ∈ TB := TB_of (List.mem_append_right _ (show w ∈ tables_1 from by
  have h := List.mem_of_getElem? h
  exact List.mem_append_right _ (List.mem_append_right _ (List.mem_append_right _ (List.mem_append_right _ (List.mem_append_left _ h)))))) g
theorem tb6 (i : Nat) {w : Cond} (h : tables_1_6[i]? = some w) (g : goodWord w = true) : w ∈ TB := TB_of (List.mem_append_right _ (show w ∈ tables_1 from by
  have h := List.mem_of_getElem? h
  exact List.mem_append_right _ (List.mem_append_right _ (List.mem_append_right _ (List.mem_append_right _ (List.mem_append_right _ (List.mem_append_left _ h))))))) g
theorem tb7 (i : Nat) {w : Cond} (h : tables_1_7[i]? = some w) (g : goodWord w = true) : w ∈ TB := TB_of (List.mem_append_right _ (show w ∈ tables_1 from by
  have h := List.mem_of_getElem? h
  exact List.mem_append_right _ (List.mem_append_right _ (List.mem_append_right _ (List.mem_append_right _ (List.mem_append_right _ (List.mem_append_right _ (List.mem_append_left _ h)))))))) g
theorem tb8 (i : Nat) {w : Cond} (h : tables_1_8[i]? = some w) (g : goodWord w = true) : w ∈ TB := TB_of (List.mem_append_right _ (show w ∈ tables_1 from by
  have h := List.mem_of_getElem? h
  exact List.mem_append_right _ (List.mem_append_right _ (List.mem_append_right _ (List.mem_append_right _ (List.mem_append_right _ (List.mem_append_right _ (List.mem_append_right _ (h))))))))) g
theorem tbp (i : Nat) {w : Cond} (h : (k2_sels lw_privs)[i]? = some w) (g : goodWord w = true) : w ∈ TB := TB_of (List.mem_append_left _ (List.mem_of_getElem? h)) g
theorem cw_X0 : ∀ w ∈ u_ws RX0 TX0 3, w ∈ TB := by
  intro w hw
  obtain ⟨j, hj, rfl⟩ := List.mem_map.mp hw
  rw [List.mem_range] at hj
  match j, hj with
  | 0, _ => exact tb2 101 (by decide +kernel) (by decide +kernel)
  | 1, _ => exact tb2 103 (by decide +kernel) (by decide +kernel)
  | 2, _ => exact tb2 105 (by decide +kernel) (by decide +kernel)
  | j + 3, hj => omega
theorem cf_X0 : CF 0 (RX0, TX0, 3) tyX0 := ⟨rfl, cw_X0, tyX0_ok, nmX0⟩
theorem cw_X1 : ∀ w ∈ u_ws RX1 TX1 4, w ∈ TB := by
  intro w hw
  obtain ⟨j, hj, rfl⟩ := List.mem_map.mp hw
  rw [List.mem_range] at hj
  match j, hj with
  | 0, _ => exact tb2 5 (by decide +kernel) (by decide +kernel)
  | 1, _ => exact tb2 7 (by decide +kernel) (by decide +kernel)
  | 2, _ => exact tb2 9 (by decide +kernel) (by decide +kernel)
  | 3, _ => exact tb2 11 (by decide +kernel) (by decide +kernel)
  | j + 4, hj => omega
theorem cf_X1 : CF 1 (RX1, TX1, 4) tyX1 := ⟨rfl, cw_X1, tyX1_ok, nmX1⟩
theorem cw_X2 : ∀ w ∈ u_ws RX2 TX2 2, w ∈ TB := by
  intro w hw
  obtain ⟨j, hj, rfl⟩ := List.mem_map.mp hw
  rw [List.mem_range] at hj
  match j, hj with
  | 0, _ => exact tb2 154 (by decide +kernel) (by decide +kernel)
  | 1, _ => exact tb2 156 (by decide +kernel) (by decide +kernel)
  | j + 2, hj => omega
theorem cf_X2 : CF 2 (RX2, TX2, 2) tyX2 := ⟨rfl, cw_X2, tyX2_ok, nmX2⟩
theorem cw_X3 : ∀ w ∈ u_ws RX3 TX3 6, w ∈ TB := by
  intro w hw
  obtain ⟨j, hj, rfl⟩ := List.mem_map.mp hw
  rw [List.mem_range] at hj
  match j, hj with
  | 0, _ => exact tb2 124 (by decide +kernel) (by decide +kernel)
  | 1, _ => exact tb2 126 (by decide +kernel) (by decide +kernel)
  | 2, _ => exact tb2 128 (by decide +kernel) (by decide +kernel)
  | 3, _ => exact tb2 130 (by decide +kernel) (by decide +kernel)
  | 4, _ => exact tb2 132 (by decide +kernel) (by decide +kernel)
  | 5, _ => exact tb2 134 (by decide +kernel) (by decide +kernel)
  | j + 6, hj => omega
theorem cf_X3 : CF 3 (RX3, TX3, 6) tyX3 := ⟨rfl, cw_X3, tyX3_ok, nmX3⟩
theorem cw_X4 : ∀ w ∈ u_ws RX4 TX4 6, w ∈ TB := by
  intro w hw
  obtain ⟨j, hj, rfl⟩ := List.mem_map.mp hw
  rw [List.mem_range] at hj
  match j, hj with
  | 0, _ => exact tb2 76 (by decide +kernel) (by decide +kernel)
  | 1, _ => exact tb2 78 (by decide +kernel) (by decide +kernel)
  | 2, _ => exact tb2 80 (by decide +kernel) (by decide +kernel)
  | 3, _ => exact tb2 82 (by decide +kernel) (by decide +kernel)
  | 4, _ => exact tb2 84 (by decide +kernel) (by decide +kernel)
  | 5, _ => exact tb2 86 (by decide +kernel) (by decide +kernel)
  | j + 6, hj => omega
theorem cf_X4 : CF 4 (RX4, TX4, 6) tyX4 := ⟨rfl, cw_X4, tyX4_ok, nmX4⟩
theorem cw_X5 : ∀ w ∈ u_ws RX5 TX5 5, w ∈ TB := by
  intro w hw
  obtain ⟨j, hj, rfl⟩ := List.mem_map.mp hw
  rw [List.mem_range] at hj
  match j, hj with
  | 0, _ => exact tb2 27 (by decide +kernel) (by decide +kernel)
  | 1, _ => exact tb2 29 (by decide +kernel) (by decide +kernel)
  | 2, _ => exact tb2 31 (by decide +kernel) (by decide +kernel)
  | 3, _ => exact tb2 33 (by decide +kernel) (by decide +kernel)
  | 4, _ => exact tb2 35 (by decide +kernel) (by decide +kernel)
  | j + 5, hj => omega
theorem cf_X5 : CF 5 (RX5, TX5, 5) tyX5 := ⟨rfl, cw_X5, tyX5_ok, nmX5⟩
theorem cw_X6 : ∀ w ∈ u_ws RX6 TX6 7, w ∈ TB := by
  intro w hw
  obtain ⟨j, hj, rfl⟩ := List.mem_map.mp hw
  rw [List.mem_range] at hj
  match j, hj with
  | 0, _ => exact tb1 47 (by decide +kernel) (by decide +kernel)
  | 1, _ => exact tb1 49 (by decide +kernel) (by decide +kernel)
  | 2, _ => exact tb1 51 (by decide +kernel) (by decide +kernel)
  | 3, _ => exact tb1 53 (by decide +kernel) (by decide +kernel)
  | 4, _ => exact tb1 55 (by decide +kernel) (by decide +kernel)
  | 5, _ => exact tb1 57 (by decide +kernel) (by decide +kernel)
  | 6, _ => exact tb1 59 (by decide +kernel) (by decide +kernel)
  | j + 7, hj => omega
theorem cf_X6 : CF 6 (RX6, TX6, 7) tyX6 := ⟨rfl, cw_X6, tyX6_ok, nmX6⟩
theorem cw_X7 : ∀ w ∈ u_ws RX7 TX7 5, w ∈ TB := by
  intro w hw
  obtain ⟨j, hj, rfl⟩ := List.mem_map.mp hw
  rw [List.mem_range] at hj
  match j, hj with
  | 0, _ => exact tb2 51 (by decide +kernel) (by decide +kernel)
  | 1, _ => exact tb2 53 (by decide +kernel) (by decide +kernel)
  | 2, _ => exact tb2 55 (by decide +kernel) (by decide +kernel)
  | 3, _ => exact tb2 57 (by decide +kernel) (by decide +kernel)
  | 4, _ => exact tb2 59 (by decide +kernel) (by decide +kernel)
  | j + 5, hj => omega
theorem cf_X7 : CF 7 (RX7, TX7, 5) tyX7 := ⟨rfl, cw_X7, tyX7_ok, nmX7⟩
theorem cw_X8 : ∀ w ∈ u_ws RX8 TX8 17, w ∈ TB := by
  intro w hw
  obtain ⟨j, hj, rfl⟩ := List.mem_map.mp hw
  rw [List.mem_range] at hj
  match j, hj with
  | 0, _ => exact tb1 184 (by decide +kernel) (by decide +kernel)
  | 1, _ => exact tb1 186 (by decide +kernel) (by decide +kernel)
  | 2, _ => exact tb1 188 (by decide +kernel) (by decide +kernel)
  | 3, _ => exact tb1 190 (by decide +kernel) (by decide +kernel)
  | 4, _ => exact tb1 192 (by decide +kernel) (by decide +kernel)
  | 5, _ => exact tb1 194 (by decide +kernel) (by decide +kernel)
  | 6, _ => exact tb1 196 (by decide +kernel) (by decide +kernel)
  | 7, _ => exact tb1 198 (by decide +kernel) (by decide +kernel)
  | 8, _ => exact tb1 200 (by decide +kernel) (by decide +kernel)
  | 9, _ => exact tb1 202 (by decide +kernel) (by decide +kernel)
  | 10, _ => exact tb1 204 (by decide +kernel) (by decide +kernel)
  | 11, _ => exact tb1 206 (by decide +kernel) (by decide +kernel)
  | 12, _ => exact tb1 208 (by decide +kernel) (by decide +kernel)
  | 13, _ => exact tb1 210 (by decide +kernel) (by decide +kernel)
  | 14, _ => exact tb1 212 (by decide +kernel) (by decide +kernel)
  | 15, _ => exact tb1 214 (by decide +kernel) (by decide +kernel)
  | 16, _ => exact tb1 216 (by decide +kernel) (by decide +kernel)
  | j + 17, hj => omega
theorem cf_X8 : CF 8 (RX8, TX8, 17) tyX8 := ⟨rfl, cw_X8, tyX8_ok, nmX8⟩
theorem cw_X9 : ∀ w ∈ u_ws RX9 TX9 3, w ∈ TB := by
  intro w hw
  obtain ⟨j, hj, rfl⟩ := List.mem_map.mp hw
  rw [List.mem_range] at hj
  match j, hj with
  | 0, _ => exact tb1 228 (by decide +kernel) (by decide +kernel)
  | 1, _ => exact tb1 230 (by decide +kernel) (by decide +kernel)
  | 2, _ => exact tb1 232 (by decide +kernel) (by decide +kernel)
  | j + 3, hj => omega
theorem cf_X9 : CF 9 (RX9, TX9, 3) tyX9 := ⟨rfl, cw_X9, tyX9_ok, nmX9⟩
theorem cw_X10 : ∀ w ∈ u_ws RX10 TX10 9, w ∈ TB := by
  intro w hw
  obtain ⟨j, hj, rfl⟩ := List.mem_map.mp hw
  rw [List.mem_range] at hj
  match j, hj with
  | 0, _ => exact tb1 104 (by decide +kernel) (by decide +kernel)
  | 1, _ => exact tb1 106 (by decide +kernel) (by decide +kernel)
  | 2, _ => exact tb1 108 (by decide +kernel) (by decide +kernel)
  | 3, _ => exact tb1 110 (by decide +kernel) (by decide +kernel)
  | 4, _ => exact tb1 112 (by decide +kernel) (by decide +kernel)
  | 5, _ => exact tb1 114 (by decide +kernel) (by decide +kernel)
  | 6, _ => exact tb1 116 (by decide +kernel) (by decide +kernel)
  | 7, _ => exact tb1 118 (by decide +kernel) (by decide +kernel)
  | 8, _ => exact tb1 120 (by decide +kernel) (by decide +kernel)
  | j + 9, hj => omega
theorem cf_X10 : CF 10 (RX10, TX10, 9) tyX10 := ⟨rfl, cw_X10, tyX10_ok, nmX10⟩
theorem cw_X11 : ∀ w ∈ u_ws RX11 TX11 19, w ∈ TB := by
  intro w hw
  obtain ⟨j, hj, rfl⟩ := List.mem_map.mp hw
  rw [List.mem_range] at hj
  match j, hj with
  | 0, _ => exact tb2 178 (by decide +kernel) (by decide +kernel)
  | 1, _ => exact tb2 180 (by decide +kernel) (by decide +kernel)
  | 2, _ => exact tb2 182 (by decide +kernel) (by decide +kernel)
  | 3, _ => exact tb2 184 (by decide +kernel) (by decide +kernel)
  | 4, _ => exact tb2 186 (by decide +kernel) (by decide +kernel)
  | 5, _ => exact tb2 188 (by decide +kernel) (by decide +kernel)
  | 6, _ => exact tb2 190 (by decide +kernel) (by decide +kernel)
  | 7, _ => exact tb2 192 (by decide +kernel) (by decide +kernel)
  | 8, _ => exact tb2 194 (by decide +kernel) (by decide +kernel)
  | 9, _ => exact tb2 196 (by decide +kernel) (by decide +kernel)
  | 10, _ => exact tb2 198 (by decide +kernel) (by decide +kernel)
  | 11, _ => exact tb2 200 (by decide +kernel) (by decide +kernel)
  | 12, _ => exact tb2 202 (by decide +kernel) (by decide +kernel)
  | 13, _ => exact tb2 204 (by decide +kernel) (by decide +kernel)
  | 14, _ => exact tb2 206 (by decide +kernel) (by decide +kernel)
  | 15, _ => exact tb2 208 (by decide +kernel) (by decide +kernel)
  | 16, _ => exact tb2 210 (by decide +kernel) (by decide +kernel)
  | 17, _ => exact tb2 212 (by decide +kernel) (by decide +kernel)
  | 18, _ => exact tb2 214 (by decide +kernel) (by decide +kernel)
  | j + 19, hj => omega
theorem cf_X11 : CF 11 (RX11, TX11, 19) tyX11 := ⟨rfl, cw_X11, tyX11_ok, nmX11⟩
theorem cw_X12 : ∀ w ∈ u_ws RX12 TX12 42, w ∈ TB := by
  intro w hw
  obtain ⟨j, hj, rfl⟩ := List.mem_map.mp hw
  rw [List.mem_range] at hj
  match j, hj with
  | 0, _ => exact tb6 46 (by decide +kernel) (by decide +kernel)
  | 1, _ => exact tb6 48 (by decide +kernel) (by decide +kernel)
  | 2, _ => exact tb6 50 (by decide +kernel) (by decide +kernel)
  | 3, _ => exact tb6 52 (by decide +kernel) (by decide +kernel)
  | 4, _ => exact tb6 54 (by decide +kernel) (by decide +kernel)
  | 5, _ => exact tb6 56 (by decide +kernel) (by decide +kernel)
  | 6, _ => exact tb6 58 (by decide +kernel) (by decide +kernel)
  | 7, _ => exact tb6 60 (by decide +kernel) (by decide +kernel)
  | 8, _ => exact tb6 62 (by decide +kernel) (by decide +kernel)
  | 9, _ => exact tb6 64 (by decide +kernel) (by decide +kernel)
  | 10, _ => exact tb6 66 (by decide +kernel) (by decide +kernel)
  | 11, _ => exact tb6 68 (by decide +kernel) (by decide +kernel)
  | 12, _ => exact tb6 70 (by decide +kernel) (by decide +kernel)
  | 13, _ => exact tb6 72 (by decide +kernel) (by decide +kernel)
  | 14, _ => exact tb6 74 (by decide +kernel) (by decide +kernel)
  | 15, _ => exact tb6 76 (by decide +kernel) (by decide +kernel)
  | 16, _ => exact tb6 78 (by decide +kernel) (by decide +kernel)
  | 17, _ => exact tb6 80 (by decide +kernel) (by decide +kernel)
  | 18, _ => exact tb6 82 (by decide +kernel) (by decide +kernel)
  | 19, _ => exact tb6 84 (by decide +kernel) (by decide +kernel)
  | 20, _ => exact tb6 86 (by decide +kernel) (by decide +kernel)
  | 21, _ => exact tb6 88 (by decide +kernel) (by decide +kernel)
  | 22, _ => exact tb6 90 (by decide +kernel) (by decide +kernel)
  | 23, _ => exact tb6 92 (by decide +kernel) (by decide +kernel)
  | 24, _ => exact tb6 94 (by decide +kernel) (by decide +kernel)
  | 25, _ => exact tb6 96 (by decide +kernel) (by decide +kernel)
  | 26, _ => exact tb6 98 (by decide +kernel) (by decide +kernel)
  | 27, _ => exact tb6 100 (by decide +kernel) (by decide +kernel)
  | 28, _ => exact tb6 102 (by decide +kernel) (by decide +kernel)
  | 29, _ => exact tb6 104 (by decide +kernel) (by decide +kernel)
  | 30, _ => exact tb6 106 (by decide +kernel) (by decide +kernel)
  | 31, _ => exact tb6 108 (by decide +kernel) (by decide +kernel)
  | 32, _ => exact tb6 110 (by decide +kernel) (by decide +kernel)
  | 33, _ => exact tb6 112 (by decide +kernel) (by decide +kernel)
  | 34, _ => exact tb6 114 (by decide +kernel) (by decide +kernel)
  | 35, _ => exact tb6 116 (by decide +kernel) (by decide +kernel)
  | 36, _ => exact tb6 118 (by decide +kernel) (by decide +kernel)
  | 37, _ => exact tb6 120 (by decide +kernel) (by decide +kernel)
  | 38, _ => exact tb6 122 (by decide +kernel) (by decide +kernel)
  | 39, _ => exact tb6 124 (by decide +kernel) (by decide +kernel)
  | 40, _ => exact tb6 126 (by decide +kernel) (by decide +kernel)
  | 41, _ => exact tb6 128 (by decide +kernel) (by decide +kernel)
  | j + 42, hj => omega
theorem cf_X12 : CF 12 (RX12, TX12, 42) tyX12 := ⟨rfl, cw_X12, tyX12_ok, nmX12⟩
def mX0_init : MD := (yX0_init, cX0_init, 1, none)
theorem mnX0_init : MN mX0_init 0 := ⟨⟨tb2 93 (by decide +kernel) (by decide +kernel), tb1 11 (by decide +kernel) (by decide +kernel), by decide +kernel, by decide +kernel⟩, tb2 92 (by decide +kernel) (by decide +kernel), by decide +kernel, rfl⟩
def mX0_forget : MD := (yX0_forget, cX0_forget, 1, none)
theorem mfX0_forget : MI mX0_forget 0 := ⟨⟨tb4 22 (by decide +kernel) (by decide +kernel), tb1 11 (by decide +kernel) (by decide +kernel), by decide +kernel, by decide +kernel⟩, tb4 20 (by decide +kernel) (by decide +kernel), tb4 21 (by decide +kernel) (by decide +kernel)⟩
def mX0_add : MD := (yX0_add, cX0_add, 3, (some .boolean))
theorem mfX0_add : MI mX0_add 2 := ⟨⟨tb2 236 (by decide +kernel) (by decide +kernel), tb1 11 (by decide +kernel) (by decide +kernel), by decide +kernel, by decide +kernel⟩, tb2 234 (by decide +kernel) (by decide +kernel), tb2 235 (by decide +kernel) (by decide +kernel)⟩
def mX0_gainsays : MD := (yX0_gainsays, cX0_gainsays, 3, (some .boolean))
theorem mfX0_gainsays : MI mX0_gainsays 2 := ⟨⟨tb3 0 (by decide +kernel) (by decide +kernel), tb1 11 (by decide +kernel) (by decide +kernel), by decide +kernel, by decide +kernel⟩, tb2 239 (by decide +kernel) (by decide +kernel), tbp 2 (by decide +kernel) (by decide +kernel)⟩
def mX0_lowEnd : MD := (yX0_lowEnd, cX0_lowEnd, 1, (some .int))
theorem mfX0_lowEnd : MI mX0_lowEnd 0 := ⟨⟨tb5 185 (by decide +kernel) (by decide +kernel), tb1 11 (by decide +kernel) (by decide +kernel), by decide +kernel, by decide +kernel⟩, tb5 184 (by decide +kernel) (by decide +kernel), tbp 38 (by decide +kernel) (by decide +kernel)⟩
def mX0_highEnd : MD := (yX0_highEnd, cX0_highEnd, 1, (some .int))
theorem mfX0_highEnd : MI mX0_highEnd 0 := ⟨⟨tb5 189 (by decide +kernel) (by decide +kernel), tb1 11 (by decide +kernel) (by decide +kernel), by decide +kernel, by decide +kernel⟩, tb5 188 (by decide +kernel) (by decide +kernel), tbp 39 (by decide +kernel) (by decide +kernel)⟩
def mX0_nextShare : MD := (yX0_nextShare, cX0_nextShare, 1, (some .int))
theorem mfX0_nextShare : MI mX0_nextShare 0 := ⟨⟨tb5 181 (by decide +kernel) (by decide +kernel), tb1 11 (by decide +kernel) (by decide +kernel), by decide +kernel, by decide +kernel⟩, tb5 179 (by decide +kernel) (by decide +kernel), tb5 180 (by decide +kernel) (by decide +kernel)⟩
def mX0_fewestTrials : MD := (yX0_fewestTrials, cX0_fewestTrials, 3, (some .int))
theorem mfX0_fewestTrials : MI mX0_fewestTrials 0 := ⟨⟨tb5 193 (by decide +kernel) (by decide +kernel), tb1 11 (by decide +kernel) (by decide +kernel), by decide +kernel, by decide +kernel⟩, tb5 191 (by decide +kernel) (by decide +kernel), tb5 192 (by decide +kernel) (by decide +kernel)⟩
def mX1_init : MD := (yX1_init, cX1_init, 4, none)
theorem mnX1_init : MN mX1_init 3 := ⟨⟨tb1 239 (by decide +kernel) (by decide +kernel), tb1 7 (by decide +kernel) (by decide +kernel), by decide +kernel, by decide +kernel⟩, tb1 238 (by decide +kernel) (by decide +kernel), by decide +kernel, rfl⟩
def mX1_weeksUntil : MD := (yX1_weeksUntil, cX1_weeksUntil, 4, (some .int))
theorem mfX1_weeksUntil : MI mX1_weeksUntil 2 := ⟨⟨tb5 29 (by decide +kernel) (by decide +kernel), tb1 7 (by decide +kernel) (by decide +kernel), by decide +kernel, by decide +kernel⟩, tb5 27 (by decide +kernel) (by decide +kernel), tb5 28 (by decide +kernel) (by decide +kernel)⟩
def mX1_fewestShoes : MD := (yX1_fewestShoes, cX1_fewestShoes, 4, (some .int))
theorem mfX1_fewestShoes : MI mX1_fewestShoes 2 := ⟨⟨tb5 107 (by decide +kernel) (by decide +kernel), tb1 7 (by decide +kernel) (by decide +kernel), by decide +kernel, by decide +kernel⟩, tb5 105 (by decide +kernel) (by decide +kernel), tb5 106 (by decide +kernel) (by decide +kernel)⟩
def mX1_leastOuter : MD := (yX1_leastOuter, cX1_leastOuter, 4, (some .int))
theorem mfX1_leastOuter : MI mX1_leastOuter 2 := ⟨⟨tb5 124 (by decide +kernel) (by decide +kernel), tb1 7 (by decide +kernel) (by decide +kernel), by decide +kernel, by decide +kernel⟩, tb5 122 (by decide +kernel) (by decide +kernel), tb5 123 (by decide +kernel) (by decide +kernel)⟩
def mX1_footPaste : MD := (yX1_footPaste, cX1_footPaste, 3, (some .int))
theorem mfX1_footPaste : MI mX1_footPaste 2 := ⟨⟨tb5 128 (by decide +kernel) (by decide +kernel), tb1 7 (by decide +kernel) (by decide +kernel), by decide +kernel, by decide +kernel⟩, tb5 126 (by decide +kernel) (by decide +kernel), tb5 127 (by decide +kernel) (by decide +kernel)⟩
def mX1_firstPaste : MD := (yX1_firstPaste, cX1_firstPaste, 5, (some .int))
theorem mfX1_firstPaste : MI mX1_firstPaste 1 := ⟨⟨tb5 111 (by decide +kernel) (by decide +kernel), tb1 7 (by decide +kernel) (by decide +kernel), by decide +kernel, by decide +kernel⟩, tb5 110 (by decide +kernel) (by decide +kernel), tbp 36 (by decide +kernel) (by decide +kernel)⟩
def mX2_init : MD := (yX2_init, cX2_init, 1, none)
theorem mnX2_init : MN mX2_init 0 := ⟨⟨tb2 141 (by decide +kernel) (by decide +kernel), tb1 13 (by decide +kernel) (by decide +kernel), by decide +kernel, by decide +kernel⟩, tb2 140 (by decide +kernel) (by decide +kernel), by decide +kernel, rfl⟩
def mX2_forget : MD := (yX2_forget, cX2_forget, 2, none)
theorem mfX2_forget : MI mX2_forget 0 := ⟨⟨tb2 146 (by decide +kernel) (by decide +kernel), tb1 13 (by decide +kernel) (by decide +kernel), by decide +kernel, by decide +kernel⟩, tb2 144 (by decide +kernel) (by decide +kernel), tb2 145 (by decide +kernel) (by decide +kernel)⟩
def mX2_clear : MD := (yX2_clear, cX2_clear, 3, none)
theorem mfX2_clear : MI mX2_clear 1 := ⟨⟨tb2 150 (by decide +kernel) (by decide +kernel), tb1 13 (by decide +kernel) (by decide +kernel), by decide +kernel, by decide +kernel⟩, tb2 149 (by decide +kernel) (by decide +kernel), tbp 0 (by decide +kernel) (by decide +kernel)⟩
def mX2_keep : MD := (yX2_keep, cX2_keep, 7, none)
theorem mfX2_keep : MI mX2_keep 2 := ⟨⟨tb5 216 (by decide +kernel) (by decide +kernel), tb1 13 (by decide +kernel) (by decide +kernel), by decide +kernel, by decide +kernel⟩, tb5 214 (by decide +kernel) (by decide +kernel), tb5 215 (by decide +kernel) (by decide +kernel)⟩
def mX2_reading : MD := (yX2_reading, cX2_reading, 7, (some .int))
theorem mfX2_reading : MI mX2_reading 3 := ⟨⟨tb5 227 (by decide +kernel) (by decide +kernel), tb1 13 (by decide +kernel) (by decide +kernel), by decide +kernel, by decide +kernel⟩, tb5 225 (by decide +kernel) (by decide +kernel), tb5 226 (by decide +kernel) (by decide +kernel)⟩
def mX2_farthestApart : MD := (yX2_farthestApart, cX2_farthestApart, 5, (some .int))
theorem mfX2_farthestApart : MI mX2_farthestApart 0 := ⟨⟨tb3 20 (by decide +kernel) (by decide +kernel), tb1 13 (by decide +kernel) (by decide +kernel), by decide +kernel, by decide +kernel⟩, tb3 18 (by decide +kernel) (by decide +kernel), tb3 19 (by decide +kernel) (by decide +kernel)⟩
def mX2_apartAt : MD := (yX2_apartAt, cX2_apartAt, 7, (some .int))
theorem mfX2_apartAt : MI mX2_apartAt 1 := ⟨⟨tb3 24 (by decide +kernel) (by decide +kernel), tb1 13 (by decide +kernel) (by decide +kernel), by decide +kernel, by decide +kernel⟩, tb3 23 (by decide +kernel) (by decide +kernel), tbp 3 (by decide +kernel) (by decide +kernel)⟩
def mX3_init : MD := (yX3_init, cX3_init, 1, none)
theorem mnX3_init : MN mX3_init 0 := ⟨⟨tb2 112 (by decide +kernel) (by decide +kernel), tb1 12 (by decide +kernel) (by decide +kernel), by decide +kernel, by decide +kernel⟩, tb2 111 (by decide +kernel) (by decide +kernel), by decide +kernel, rfl⟩
def mX3_forget : MD := (yX3_forget, cX3_forget, 1, none)
theorem mfX3_forget : MI mX3_forget 0 := ⟨⟨tb4 26 (by decide +kernel) (by decide +kernel), tb1 12 (by decide +kernel) (by decide +kernel), by decide +kernel, by decide +kernel⟩, tb4 24 (by decide +kernel) (by decide +kernel), tb4 25 (by decide +kernel) (by decide +kernel)⟩
def mX3_add : MD := (yX3_add, cX3_add, 5, (some .boolean))
theorem mfX3_add : MI mX3_add 3 := ⟨⟨tb3 12 (by decide +kernel) (by decide +kernel), tb1 12 (by decide +kernel) (by decide +kernel), by decide +kernel, by decide +kernel⟩, tb3 10 (by decide +kernel) (by decide +kernel), tb3 11 (by decide +kernel) (by decide +kernel)⟩
def mX3_choose : MD := (yX3_choose, cX3_choose, 7, none)
theorem mfX3_choose : MI mX3_choose 1 := ⟨⟨tb5 205 (by decide +kernel) (by decide +kernel), tb1 12 (by decide +kernel) (by decide +kernel), by decide +kernel, by decide +kernel⟩, tb5 203 (by decide +kernel) (by decide +kernel), tb5 204 (by decide +kernel) (by decide +kernel)⟩
def mX4_init : MD := (yX4_init, cX4_init, 3, none)
theorem mnX4_init : MN mX4_init 2 := ⟨⟨tb2 66 (by decide +kernel) (by decide +kernel), tb1 10 (by decide +kernel) (by decide +kernel), by decide +kernel, by decide +kernel⟩, tb2 65 (by decide +kernel) (by decide +kernel), by decide +kernel, rfl⟩
def mX4_forget : MD := (yX4_forget, cX4_forget, 1, none)
theorem mfX4_forget : MI mX4_forget 0 := ⟨⟨tb4 18 (by decide +kernel) (by decide +kernel), tb1 10 (by decide +kernel) (by decide +kernel), by decide +kernel, by decide +kernel⟩, tb4 16 (by decide +kernel) (by decide +kernel), tb4 17 (by decide +kernel) (by decide +kernel)⟩
def mX4_leastBulges : MD := (yX4_leastBulges, cX4_leastBulges, 3, (some .int))
theorem mfX4_leastBulges : MI mX4_leastBulges 2 := ⟨⟨tb5 150 (by decide +kernel) (by decide +kernel), tb1 10 (by decide +kernel) (by decide +kernel), by decide +kernel, by decide +kernel⟩, tb5 148 (by decide +kernel) (by decide +kernel), tb5 149 (by decide +kernel) (by decide +kernel)⟩
def mX4_seek : MD := (yX4_seek, cX4_seek, 8, none)
theorem mfX4_seek : MI mX4_seek 2 := ⟨⟨tb5 155 (by decide +kernel) (by decide +kernel), tb1 10 (by decide +kernel) (by decide +kernel), by decide +kernel, by decide +kernel⟩, tb5 154 (by decide +kernel) (by decide +kernel), tbp 37 (by decide +kernel) (by decide +kernel)⟩
def mX5_init : MD := (yX5_init, cX5_init, 3, none)
theorem mnX5_init : MN mX5_init 2 := ⟨⟨tb2 18 (by decide +kernel) (by decide +kernel), tb1 8 (by decide +kernel) (by decide +kernel), by decide +kernel, by decide +kernel⟩, tb2 17 (by decide +kernel) (by decide +kernel), by decide +kernel, rfl⟩
def mX5_forget : MD := (yX5_forget, cX5_forget, 1, none)
theorem mfX5_forget : MI mX5_forget 0 := ⟨⟨tb4 14 (by decide +kernel) (by decide +kernel), tb1 8 (by decide +kernel) (by decide +kernel), by decide +kernel, by decide +kernel⟩, tb4 12 (by decide +kernel) (by decide +kernel), tb4 13 (by decide +kernel) (by decide +kernel)⟩
def mX5_weeksTo : MD := (yX5_weeksTo, cX5_weeksTo, 4, (some .int))
theorem mfX5_weeksTo : MI mX5_weeksTo 2 := ⟨⟨tb5 43 (by decide +kernel) (by decide +kernel), tb1 8 (by decide +kernel) (by decide +kernel), by decide +kernel, by decide +kernel⟩, tb5 41 (by decide +kernel) (by decide +kernel), tb5 42 (by decide +kernel) (by decide +kernel)⟩
def mX5_reaches : MD := (yX5_reaches, cX5_reaches, 6, (some .boolean))
theorem mfX5_reaches : MI mX5_reaches 3 := ⟨⟨tb5 48 (by decide +kernel) (by decide +kernel), tb1 8 (by decide +kernel) (by decide +kernel), by decide +kernel, by decide +kernel⟩, tb5 47 (by decide +kernel) (by decide +kernel), tbp 32 (by decide +kernel) (by decide +kernel)⟩
def mX5_bearsLift : MD := (yX5_bearsLift, cX5_bearsLift, 4, (some .boolean))
theorem mfX5_bearsLift : MI mX5_bearsLift 3 := ⟨⟨tb5 52 (by decide +kernel) (by decide +kernel), tb1 8 (by decide +kernel) (by decide +kernel), by decide +kernel, by decide +kernel⟩, tb5 51 (by decide +kernel) (by decide +kernel), tbp 33 (by decide +kernel) (by decide +kernel)⟩
def mX6_init : MD := (yX6_init, cX6_init, 1, none)
theorem mnX6_init : MN mX6_init 0 := ⟨⟨tb1 37 (by decide +kernel) (by decide +kernel), tb1 2 (by decide +kernel) (by decide +kernel), by decide +kernel, by decide +kernel⟩, tb1 36 (by decide +kernel) (by decide +kernel), by decide +kernel, rfl⟩
def mX6_read : MD := (yX6_read, cX6_read, 5, (some .int))
theorem mfX6_read : MI mX6_read 3 := ⟨⟨tb3 123 (by decide +kernel) (by decide +kernel), tb1 2 (by decide +kernel) (by decide +kernel), by decide +kernel, by decide +kernel⟩, tb3 121 (by decide +kernel) (by decide +kernel), tb3 122 (by decide +kernel) (by decide +kernel)⟩
def mX6_readLine : MD := (yX6_readLine, cX6_readLine, 2, none)
theorem mfX6_readLine : MI mX6_readLine 1 := ⟨⟨tb3 141 (by decide +kernel) (by decide +kernel), tb1 2 (by decide +kernel) (by decide +kernel), by decide +kernel, by decide +kernel⟩, tb3 140 (by decide +kernel) (by decide +kernel), tbp 7 (by decide +kernel) (by decide +kernel)⟩
def mX6_readEarth : MD := (yX6_readEarth, cX6_readEarth, 5, none)
theorem mfX6_readEarth : MI mX6_readEarth 1 := ⟨⟨tb3 198 (by decide +kernel) (by decide +kernel), tb1 2 (by decide +kernel) (by decide +kernel), by decide +kernel, by decide +kernel⟩, tb3 197 (by decide +kernel) (by decide +kernel), tbp 9 (by decide +kernel) (by decide +kernel)⟩
def mX6_readWall : MD := (yX6_readWall, cX6_readWall, 3, none)
theorem mfX6_readWall : MI mX6_readWall 1 := ⟨⟨tb3 216 (by decide +kernel) (by decide +kernel), tb1 2 (by decide +kernel) (by decide +kernel), by decide +kernel, by decide +kernel⟩, tb3 215 (by decide +kernel) (by decide +kernel), tbp 13 (by decide +kernel) (by decide +kernel)⟩
def mX6_readWeek : MD := (yX6_readWeek, cX6_readWeek, 3, none)
theorem mfX6_readWeek : MI mX6_readWeek 1 := ⟨⟨tb3 234 (by decide +kernel) (by decide +kernel), tb1 2 (by decide +kernel) (by decide +kernel), by decide +kernel, by decide +kernel⟩, tb3 233 (by decide +kernel) (by decide +kernel), tbp 16 (by decide +kernel) (by decide +kernel)⟩
def mX6_refuse : MD := (yX6_refuse, cX6_refuse, 2, none)
theorem mfX6_refuse : MI mX6_refuse 1 := ⟨⟨tb3 202 (by decide +kernel) (by decide +kernel), tb1 2 (by decide +kernel) (by decide +kernel), by decide +kernel, by decide +kernel⟩, tb3 201 (by decide +kernel) (by decide +kernel), tbp 10 (by decide +kernel) (by decide +kernel)⟩
def mX6_takeNumber : MD := (yX6_takeNumber, cX6_takeNumber, 4, (some .int))
theorem mfX6_takeNumber : MI mX6_takeNumber 2 := ⟨⟨tb3 206 (by decide +kernel) (by decide +kernel), tb1 2 (by decide +kernel) (by decide +kernel), by decide +kernel, by decide +kernel⟩, tb3 205 (by decide +kernel) (by decide +kernel), tbp 11 (by decide +kernel) (by decide +kernel)⟩
def mX6_takeOption : MD := (yX6_takeOption, cX6_takeOption, 4, (some .int))
theorem mfX6_takeOption : MI mX6_takeOption 3 := ⟨⟨tb3 221 (by decide +kernel) (by decide +kernel), tb1 2 (by decide +kernel) (by decide +kernel), by decide +kernel, by decide +kernel⟩, tb3 220 (by decide +kernel) (by decide +kernel), tbp 14 (by decide +kernel) (by decide +kernel)⟩
def mX6_takeWord : MD := (yX6_takeWord, cX6_takeWord, 2, (some .boolean))
theorem mfX6_takeWord : MI mX6_takeWord 1 := ⟨⟨tb3 225 (by decide +kernel) (by decide +kernel), tb1 2 (by decide +kernel) (by decide +kernel), by decide +kernel, by decide +kernel⟩, tb3 224 (by decide +kernel) (by decide +kernel), tbp 15 (by decide +kernel) (by decide +kernel)⟩
def mX6_atWord : MD := (yX6_atWord, cX6_atWord, 3, (some .boolean))
theorem mfX6_atWord : MI mX6_atWord 1 := ⟨⟨tb3 146 (by decide +kernel) (by decide +kernel), tb1 2 (by decide +kernel) (by decide +kernel), by decide +kernel, by decide +kernel⟩, tb3 145 (by decide +kernel) (by decide +kernel), tbp 8 (by decide +kernel) (by decide +kernel)⟩
def mX6_numberAtHand : MD := (yX6_numberAtHand, cX6_numberAtHand, 3, (some .int))
theorem mfX6_numberAtHand : MI mX6_numberAtHand 0 := ⟨⟨tb3 210 (by decide +kernel) (by decide +kernel), tb1 2 (by decide +kernel) (by decide +kernel), by decide +kernel, by decide +kernel⟩, tb3 209 (by decide +kernel) (by decide +kernel), tbp 12 (by decide +kernel) (by decide +kernel)⟩
def mX6_advance : MD := (yX6_advance, cX6_advance, 2, none)
theorem mfX6_advance : MI mX6_advance 0 := ⟨⟨tb3 130 (by decide +kernel) (by decide +kernel), tb1 2 (by decide +kernel) (by decide +kernel), by decide +kernel, by decide +kernel⟩, tb3 129 (by decide +kernel) (by decide +kernel), tbp 5 (by decide +kernel) (by decide +kernel)⟩
def mX6_skipRow : MD := (yX6_skipRow, cX6_skipRow, 4, none)
theorem mfX6_skipRow : MI mX6_skipRow 2 := ⟨⟨tb3 137 (by decide +kernel) (by decide +kernel), tb1 2 (by decide +kernel) (by decide +kernel), by decide +kernel, by decide +kernel⟩, tb3 136 (by decide +kernel) (by decide +kernel), tbp 6 (by decide +kernel) (by decide +kernel)⟩
def mX6_isBetween : MD := (yX6_isBetween, cX6_isBetween, 3, (some .boolean))
theorem mfX6_isBetween : MS mX6_isBetween 3 := ⟨⟨tb3 133 (by decide +kernel) (by decide +kernel), tb1 2 (by decide +kernel) (by decide +kernel), by decide +kernel, by decide +kernel⟩, tb3 132 (by decide +kernel) (by decide +kernel)⟩
def mX7_init : MD := (yX7_init, cX7_init, 3, none)
theorem mnX7_init : MN mX7_init 2 := ⟨⟨tb2 42 (by decide +kernel) (by decide +kernel), tb1 9 (by decide +kernel) (by decide +kernel), by decide +kernel, by decide +kernel⟩, tb2 41 (by decide +kernel) (by decide +kernel), by decide +kernel, rfl⟩
def mX7_search : MD := (yX7_search, cX7_search, 4, none)
theorem mfX7_search : MI mX7_search 3 := ⟨⟨tb5 83 (by decide +kernel) (by decide +kernel), tb1 9 (by decide +kernel) (by decide +kernel), by decide +kernel, by decide +kernel⟩, tb5 81 (by decide +kernel) (by decide +kernel), tb5 82 (by decide +kernel) (by decide +kernel)⟩
def mX7_seek : MD := (yX7_seek, cX7_seek, 6, none)
theorem mfX7_seek : MI mX7_seek 3 := ⟨⟨tb5 88 (by decide +kernel) (by decide +kernel), tb1 9 (by decide +kernel) (by decide +kernel), by decide +kernel, by decide +kernel⟩, tb5 87 (by decide +kernel) (by decide +kernel), tbp 34 (by decide +kernel) (by decide +kernel)⟩
def mX7_goOn : MD := (yX7_goOn, cX7_goOn, 5, none)
theorem mfX7_goOn : MI mX7_goOn 3 := ⟨⟨tb5 94 (by decide +kernel) (by decide +kernel), tb1 9 (by decide +kernel) (by decide +kernel), by decide +kernel, by decide +kernel⟩, tb5 93 (by decide +kernel) (by decide +kernel), tbp 35 (by decide +kernel) (by decide +kernel)⟩
def mX8_init : MD := (yX8_init, cX8_init, 2, none)
theorem mnX8_init : MN mX8_init 1 := ⟨⟨tb1 134 (by decide +kernel) (by decide +kernel), tb1 5 (by decide +kernel) (by decide +kernel), by decide +kernel, by decide +kernel⟩, tb1 133 (by decide +kernel) (by decide +kernel), by decide +kernel, rfl⟩
def mX8_begin : MD := (yX8_begin, cX8_begin, 3, none)
theorem mfX8_begin : MI mX8_begin 1 := ⟨⟨tb4 8 (by decide +kernel) (by decide +kernel), tb1 5 (by decide +kernel) (by decide +kernel), by decide +kernel, by decide +kernel⟩, tb4 6 (by decide +kernel) (by decide +kernel), tb4 7 (by decide +kernel) (by decide +kernel)⟩
def mX8_become : MD := (yX8_become, cX8_become, 2, none)
theorem mfX8_become : MI mX8_become 1 := ⟨⟨tb3 37 (by decide +kernel) (by decide +kernel), tb1 5 (by decide +kernel) (by decide +kernel), by decide +kernel, by decide +kernel⟩, tb3 35 (by decide +kernel) (by decide +kernel), tb3 36 (by decide +kernel) (by decide +kernel)⟩
def mX8_standsLike : MD := (yX8_standsLike, cX8_standsLike, 5, (some .boolean))
theorem mfX8_standsLike : MI mX8_standsLike 1 := ⟨⟨tb5 120 (by decide +kernel) (by decide +kernel), tb1 5 (by decide +kernel) (by decide +kernel), by decide +kernel, by decide +kernel⟩, tb5 118 (by decide +kernel) (by decide +kernel), tb5 119 (by decide +kernel) (by decide +kernel)⟩
def mX8_raise : MD := (yX8_raise, cX8_raise, 5, none)
theorem mfX8_raise : MI mX8_raise 1 := ⟨⟨tb4 151 (by decide +kernel) (by decide +kernel), tb1 5 (by decide +kernel) (by decide +kernel), by decide +kernel, by decide +kernel⟩, tb4 149 (by decide +kernel) (by decide +kernel), tb4 150 (by decide +kernel) (by decide +kernel)⟩
def mX8_dropFrom : MD := (yX8_dropFrom, cX8_dropFrom, 2, none)
theorem mfX8_dropFrom : MI mX8_dropFrom 1 := ⟨⟨tb4 162 (by decide +kernel) (by decide +kernel), tb1 5 (by decide +kernel) (by decide +kernel), by decide +kernel, by decide +kernel⟩, tb4 160 (by decide +kernel) (by decide +kernel), tb4 161 (by decide +kernel) (by decide +kernel)⟩
def mX8_fallFrom : MD := (yX8_fallFrom, cX8_fallFrom, 2, none)
theorem mfX8_fallFrom : MI mX8_fallFrom 1 := ⟨⟨tb4 236 (by decide +kernel) (by decide +kernel), tb1 5 (by decide +kernel) (by decide +kernel), by decide +kernel, by decide +kernel⟩, tb4 234 (by decide +kernel) (by decide +kernel), tb4 235 (by decide +kernel) (by decide +kernel)⟩
def mX8_whyGivesWay : MD := (yX8_whyGivesWay, cX8_whyGivesWay, 6, (some .int))
theorem mfX8_whyGivesWay : MI mX8_whyGivesWay 1 := ⟨⟨tb5 0 (by decide +kernel) (by decide +kernel), tb1 5 (by decide +kernel) (by decide +kernel), by decide +kernel, by decide +kernel⟩, tb4 239 (by decide +kernel) (by decide +kernel), tbp 30 (by decide +kernel) (by decide +kernel)⟩
def mX8_waterFrom : MD := (yX8_waterFrom, cX8_waterFrom, 6, (some .int))
theorem mfX8_waterFrom : MI mX8_waterFrom 1 := ⟨⟨tb4 75 (by decide +kernel) (by decide +kernel), tb1 5 (by decide +kernel) (by decide +kernel), by decide +kernel, by decide +kernel⟩, tb4 73 (by decide +kernel) (by decide +kernel), tb4 74 (by decide +kernel) (by decide +kernel)⟩
def mX8_pour : MD := (yX8_pour, cX8_pour, 4, none)
theorem mfX8_pour : MI mX8_pour 2 := ⟨⟨tb4 201 (by decide +kernel) (by decide +kernel), tb1 5 (by decide +kernel) (by decide +kernel), by decide +kernel, by decide +kernel⟩, tb4 199 (by decide +kernel) (by decide +kernel), tb4 200 (by decide +kernel) (by decide +kernel)⟩
def mX8_evaporate : MD := (yX8_evaporate, cX8_evaporate, 4, none)
theorem mfX8_evaporate : MI mX8_evaporate 2 := ⟨⟨tb4 218 (by decide +kernel) (by decide +kernel), tb1 5 (by decide +kernel) (by decide +kernel), by decide +kernel, by decide +kernel⟩, tb4 216 (by decide +kernel) (by decide +kernel), tb4 217 (by decide +kernel) (by decide +kernel)⟩
def mX8_crack : MD := (yX8_crack, cX8_crack, 2, none)
theorem mfX8_crack : MI mX8_crack 1 := ⟨⟨tb4 226 (by decide +kernel) (by decide +kernel), tb1 5 (by decide +kernel) (by decide +kernel), by decide +kernel, by decide +kernel⟩, tb4 224 (by decide +kernel) (by decide +kernel), tb4 225 (by decide +kernel) (by decide +kernel)⟩
def mX8_makeHollow : MD := (yX8_makeHollow, cX8_makeHollow, 2, none)
theorem mfX8_makeHollow : MI mX8_makeHollow 1 := ⟨⟨tb4 174 (by decide +kernel) (by decide +kernel), tb1 5 (by decide +kernel) (by decide +kernel), by decide +kernel, by decide +kernel⟩, tb4 172 (by decide +kernel) (by decide +kernel), tb4 173 (by decide +kernel) (by decide +kernel)⟩
def mX8_isCracked : MD := (yX8_isCracked, cX8_isCracked, 2, (some .boolean))
theorem mfX8_isCracked : MI mX8_isCracked 1 := ⟨⟨tb4 97 (by decide +kernel) (by decide +kernel), tb1 5 (by decide +kernel) (by decide +kernel), by decide +kernel, by decide +kernel⟩, tb4 95 (by decide +kernel) (by decide +kernel), tb4 96 (by decide +kernel) (by decide +kernel)⟩
def mX8_isHollow : MD := (yX8_isHollow, cX8_isHollow, 2, (some .boolean))
theorem mfX8_isHollow : MI mX8_isHollow 1 := ⟨⟨tb4 101 (by decide +kernel) (by decide +kernel), tb1 5 (by decide +kernel) (by decide +kernel), by decide +kernel, by decide +kernel⟩, tb4 99 (by decide +kernel) (by decide +kernel), tb4 100 (by decide +kernel) (by decide +kernel)⟩
def mX8_stiffness : MD := (yX8_stiffness, cX8_stiffness, 2, (some .int))
theorem mfX8_stiffness : MI mX8_stiffness 1 := ⟨⟨tb4 113 (by decide +kernel) (by decide +kernel), tb1 5 (by decide +kernel) (by decide +kernel), by decide +kernel, by decide +kernel⟩, tb4 111 (by decide +kernel) (by decide +kernel), tb4 112 (by decide +kernel) (by decide +kernel)⟩
def mX8_strength : MD := (yX8_strength, cX8_strength, 5, (some .int))
theorem mfX8_strength : MI mX8_strength 1 := ⟨⟨tb4 105 (by decide +kernel) (by decide +kernel), tb1 5 (by decide +kernel) (by decide +kernel), by decide +kernel, by decide +kernel⟩, tb4 103 (by decide +kernel) (by decide +kernel), tb4 104 (by decide +kernel) (by decide +kernel)⟩
def mX8_load : MD := (yX8_load, cX8_load, 2, (some .int))
theorem mfX8_load : MI mX8_load 1 := ⟨⟨tb4 109 (by decide +kernel) (by decide +kernel), tb1 5 (by decide +kernel) (by decide +kernel), by decide +kernel, by decide +kernel⟩, tb4 107 (by decide +kernel) (by decide +kernel), tb4 108 (by decide +kernel) (by decide +kernel)⟩
def mX8_propBears : MD := (yX8_propBears, cX8_propBears, 1, (some .int))
theorem mfX8_propBears : MI mX8_propBears 0 := ⟨⟨tb4 129 (by decide +kernel) (by decide +kernel), tb1 5 (by decide +kernel) (by decide +kernel), by decide +kernel, by decide +kernel⟩, tb4 128 (by decide +kernel) (by decide +kernel), tbp 23 (by decide +kernel) (by decide +kernel)⟩
def mX8_bears : MD := (yX8_bears, cX8_bears, 5, (some .int))
theorem mfX8_bears : MI mX8_bears 1 := ⟨⟨tb4 125 (by decide +kernel) (by decide +kernel), tb1 5 (by decide +kernel) (by decide +kernel), by decide +kernel, by decide +kernel⟩, tb4 123 (by decide +kernel) (by decide +kernel), tb4 124 (by decide +kernel) (by decide +kernel)⟩
def mX8_loads : MD := (yX8_loads, cX8_loads, 5, (some .int))
theorem mfX8_loads : MI mX8_loads 1 := ⟨⟨tb4 138 (by decide +kernel) (by decide +kernel), tb1 5 (by decide +kernel) (by decide +kernel), by decide +kernel, by decide +kernel⟩, tb4 136 (by decide +kernel) (by decide +kernel), tb4 137 (by decide +kernel) (by decide +kernel)⟩
def mX8_presses : MD := (yX8_presses, cX8_presses, 4, (some .int))
theorem mfX8_presses : MI mX8_presses 1 := ⟨⟨tb4 134 (by decide +kernel) (by decide +kernel), tb1 5 (by decide +kernel) (by decide +kernel), by decide +kernel, by decide +kernel⟩, tb4 132 (by decide +kernel) (by decide +kernel), tb4 133 (by decide +kernel) (by decide +kernel)⟩
def mX8_spare : MD := (yX8_spare, cX8_spare, 4, (some .int))
theorem mfX8_spare : MI mX8_spare 0 := ⟨⟨tb5 16 (by decide +kernel) (by decide +kernel), tb1 5 (by decide +kernel) (by decide +kernel), by decide +kernel, by decide +kernel⟩, tb5 15 (by decide +kernel) (by decide +kernel), tbp 31 (by decide +kernel) (by decide +kernel)⟩
def mX8_anySits : MD := (yX8_anySits, cX8_anySits, 1, (some .boolean))
theorem mfX8_anySits : MI mX8_anySits 0 := ⟨⟨tb5 57 (by decide +kernel) (by decide +kernel), tb1 5 (by decide +kernel) (by decide +kernel), by decide +kernel, by decide +kernel⟩, tb5 55 (by decide +kernel) (by decide +kernel), tb5 56 (by decide +kernel) (by decide +kernel)⟩
def mX8_roomAbove : MD := (yX8_roomAbove, cX8_roomAbove, 6, (some .int))
theorem mfX8_roomAbove : MI mX8_roomAbove 0 := ⟨⟨tb5 12 (by decide +kernel) (by decide +kernel), tb1 5 (by decide +kernel) (by decide +kernel), by decide +kernel, by decide +kernel⟩, tb5 10 (by decide +kernel) (by decide +kernel), tb5 11 (by decide +kernel) (by decide +kernel)⟩
def mX8_improve : MD := (yX8_improve, cX8_improve, 2, none)
theorem mfX8_improve : MI mX8_improve 1 := ⟨⟨tb5 139 (by decide +kernel) (by decide +kernel), tb1 5 (by decide +kernel) (by decide +kernel), by decide +kernel, by decide +kernel⟩, tb5 137 (by decide +kernel) (by decide +kernel), tb5 138 (by decide +kernel) (by decide +kernel)⟩
def mX8_footIsPaste : MD := (yX8_footIsPaste, cX8_footIsPaste, 2, (some .boolean))
theorem mfX8_footIsPaste : MI mX8_footIsPaste 0 := ⟨⟨tb5 116 (by decide +kernel) (by decide +kernel), tb1 5 (by decide +kernel) (by decide +kernel), by decide +kernel, by decide +kernel⟩, tb5 114 (by decide +kernel) (by decide +kernel), tb5 115 (by decide +kernel) (by decide +kernel)⟩
def mX8_bulges : MD := (yX8_bulges, cX8_bulges, 3, (some .int))
theorem mfX8_bulges : MI mX8_bulges 0 := ⟨⟨tb5 159 (by decide +kernel) (by decide +kernel), tb1 5 (by decide +kernel) (by decide +kernel), by decide +kernel, by decide +kernel⟩, tb5 157 (by decide +kernel) (by decide +kernel), tb5 158 (by decide +kernel) (by decide +kernel)⟩
def mX9_init : MD := (yX9_init, cX9_init, 2, none)
theorem mnX9_init : MN mX9_init 1 := ⟨⟨tb1 223 (by decide +kernel) (by decide +kernel), tb1 6 (by decide +kernel) (by decide +kernel), by decide +kernel, by decide +kernel⟩, tb1 222 (by decide +kernel) (by decide +kernel), by decide +kernel, rfl⟩
def mX9_pass : MD := (yX9_pass, cX9_pass, 6, (some .boolean))
theorem mfX9_pass : MI mX9_pass 1 := ⟨⟨tb4 189 (by decide +kernel) (by decide +kernel), tb1 6 (by decide +kernel) (by decide +kernel), by decide +kernel, by decide +kernel⟩, tb4 187 (by decide +kernel) (by decide +kernel), tb4 188 (by decide +kernel) (by decide +kernel)⟩
def mX9_wet : MD := (yX9_wet, cX9_wet, 7, none)
theorem mfX9_wet : MI mX9_wet 2 := ⟨⟨tb4 197 (by decide +kernel) (by decide +kernel), tb1 6 (by decide +kernel) (by decide +kernel), by decide +kernel, by decide +kernel⟩, tb4 196 (by decide +kernel) (by decide +kernel), tbp 24 (by decide +kernel) (by decide +kernel)⟩
def mX9_move : MD := (yX9_move, cX9_move, 6, none)
theorem mfX9_move : MI mX9_move 1 := ⟨⟨tb4 206 (by decide +kernel) (by decide +kernel), tb1 6 (by decide +kernel) (by decide +kernel), by decide +kernel, by decide +kernel⟩, tb4 205 (by decide +kernel) (by decide +kernel), tbp 25 (by decide +kernel) (by decide +kernel)⟩
def mX9_flow : MD := (yX9_flow, cX9_flow, 6, none)
theorem mfX9_flow : MI mX9_flow 4 := ⟨⟨tb4 210 (by decide +kernel) (by decide +kernel), tb1 6 (by decide +kernel) (by decide +kernel), by decide +kernel, by decide +kernel⟩, tb4 209 (by decide +kernel) (by decide +kernel), tbp 26 (by decide +kernel) (by decide +kernel)⟩
def mX9_dry : MD := (yX9_dry, cX9_dry, 9, none)
theorem mfX9_dry : MI mX9_dry 2 := ⟨⟨tb4 214 (by decide +kernel) (by decide +kernel), tb1 6 (by decide +kernel) (by decide +kernel), by decide +kernel, by decide +kernel⟩, tb4 213 (by decide +kernel) (by decide +kernel), tbp 27 (by decide +kernel) (by decide +kernel)⟩
def mX9_crackAll : MD := (yX9_crackAll, cX9_crackAll, 7, none)
theorem mfX9_crackAll : MI mX9_crackAll 2 := ⟨⟨tb4 222 (by decide +kernel) (by decide +kernel), tb1 6 (by decide +kernel) (by decide +kernel), by decide +kernel, by decide +kernel⟩, tb4 221 (by decide +kernel) (by decide +kernel), tbp 28 (by decide +kernel) (by decide +kernel)⟩
def mX9_settle : MD := (yX9_settle, cX9_settle, 6, (some .int))
theorem mfX9_settle : MI mX9_settle 1 := ⟨⟨tb4 230 (by decide +kernel) (by decide +kernel), tb1 6 (by decide +kernel) (by decide +kernel), by decide +kernel, by decide +kernel⟩, tb4 229 (by decide +kernel) (by decide +kernel), tbp 29 (by decide +kernel) (by decide +kernel)⟩
def mX10_init : MD := (yX10_init, cX10_init, 1, none)
theorem mnX10_init : MN mX10_init 0 := ⟨⟨tb1 68 (by decide +kernel) (by decide +kernel), tb1 3 (by decide +kernel) (by decide +kernel), by decide +kernel, by decide +kernel⟩, tb1 67 (by decide +kernel) (by decide +kernel), by decide +kernel, rfl⟩
def mX10_clear : MD := (yX10_clear, cX10_clear, 1, none)
theorem mfX10_clear : MI mX10_clear 0 := ⟨⟨tb1 73 (by decide +kernel) (by decide +kernel), tb1 3 (by decide +kernel) (by decide +kernel), by decide +kernel, by decide +kernel⟩, tb1 71 (by decide +kernel) (by decide +kernel), tb1 72 (by decide +kernel) (by decide +kernel)⟩
def mX10_setEarth : MD := (yX10_setEarth, cX10_setEarth, 4, none)
theorem mfX10_setEarth : MI mX10_setEarth 3 := ⟨⟨tb1 77 (by decide +kernel) (by decide +kernel), tb1 3 (by decide +kernel) (by decide +kernel), by decide +kernel, by decide +kernel⟩, tb1 75 (by decide +kernel) (by decide +kernel), tb1 76 (by decide +kernel) (by decide +kernel)⟩
def mX10_become : MD := (yX10_become, cX10_become, 2, none)
theorem mfX10_become : MI mX10_become 1 := ⟨⟨tb4 3 (by decide +kernel) (by decide +kernel), tb1 3 (by decide +kernel) (by decide +kernel), by decide +kernel, by decide +kernel⟩, tb4 1 (by decide +kernel) (by decide +kernel), tb4 2 (by decide +kernel) (by decide +kernel)⟩
def mX11_init : MD := (yX11_init, cX11_init, 2, none)
theorem mnX11_init : MN mX11_init 0 := ⟨⟨tb1 29 (by decide +kernel) (by decide +kernel), tb1 1 (by decide +kernel) (by decide +kernel), by decide +kernel, by decide +kernel⟩, tb1 28 (by decide +kernel) (by decide +kernel), by decide +kernel, rfl⟩
def mX11_manyWalls : MD := (yX11_manyWalls, cX11_manyWalls, 4, (some (.array (.object "MudWalls$Wall"))))
theorem mfX11_manyWalls : MS mX11_manyWalls 2 := ⟨⟨tb1 125 (by decide +kernel) (by decide +kernel), tb1 1 (by decide +kernel) (by decide +kernel), by decide +kernel, by decide +kernel⟩, tb1 124 (by decide +kernel) (by decide +kernel)⟩
def mX11_feed : MD := (yX11_feed, cX11_feed, 6, (some .int))
theorem mfX11_feed : MI mX11_feed 5 := ⟨⟨tb2 220 (by decide +kernel) (by decide +kernel), tb1 1 (by decide +kernel) (by decide +kernel), by decide +kernel, by decide +kernel⟩, tb2 218 (by decide +kernel) (by decide +kernel), tb2 219 (by decide +kernel) (by decide +kernel)⟩
def mX11_putNumber : MD := (yX11_putNumber, cX11_putNumber, 3, none)
theorem mfX11_putNumber : MI mX11_putNumber 1 := ⟨⟨tb2 224 (by decide +kernel) (by decide +kernel), tb1 1 (by decide +kernel) (by decide +kernel), by decide +kernel, by decide +kernel⟩, tb2 223 (by decide +kernel) (by decide +kernel), tbp 1 (by decide +kernel) (by decide +kernel)⟩
def mX11_yard : MD := (yX11_yard, cX11_yard, 3, (some .int))
theorem mfX11_yard : MI mX11_yard 1 := ⟨⟨tb3 53 (by decide +kernel) (by decide +kernel), tb1 1 (by decide +kernel) (by decide +kernel), by decide +kernel, by decide +kernel⟩, tb3 51 (by decide +kernel) (by decide +kernel), tb3 52 (by decide +kernel) (by decide +kernel)⟩
def mX11_beginAnew : MD := (yX11_beginAnew, cX11_beginAnew, 2, none)
theorem mfX11_beginAnew : MI mX11_beginAnew 0 := ⟨⟨tb3 239 (by decide +kernel) (by decide +kernel), tb1 1 (by decide +kernel) (by decide +kernel), by decide +kernel, by decide +kernel⟩, tb3 238 (by decide +kernel) (by decide +kernel), tbp 17 (by decide +kernel) (by decide +kernel)⟩
def mX11_fault : MD := (yX11_fault, cX11_fault, 1, (some .int))
theorem mfX11_fault : MI mX11_fault 0 := ⟨⟨tb2 228 (by decide +kernel) (by decide +kernel), tb1 1 (by decide +kernel) (by decide +kernel), by decide +kernel, by decide +kernel⟩, tb2 226 (by decide +kernel) (by decide +kernel), tb2 227 (by decide +kernel) (by decide +kernel)⟩
def mX11_count : MD := (yX11_count, cX11_count, 2, (some .int))
theorem mfX11_count : MI mX11_count 1 := ⟨⟨tb4 35 (by decide +kernel) (by decide +kernel), tb1 1 (by decide +kernel) (by decide +kernel), by decide +kernel, by decide +kernel⟩, tb4 33 (by decide +kernel) (by decide +kernel), tb4 34 (by decide +kernel) (by decide +kernel)⟩
def mX11_waterCome : MD := (yX11_waterCome, cX11_waterCome, 3, (some .int))
theorem mfX11_waterCome : MI mX11_waterCome 0 := ⟨⟨tb4 39 (by decide +kernel) (by decide +kernel), tb1 1 (by decide +kernel) (by decide +kernel), by decide +kernel, by decide +kernel⟩, tb4 38 (by decide +kernel) (by decide +kernel), tbp 18 (by decide +kernel) (by decide +kernel)⟩
def mX11_waterGone : MD := (yX11_waterGone, cX11_waterGone, 3, (some .int))
theorem mfX11_waterGone : MI mX11_waterGone 0 := ⟨⟨tb4 43 (by decide +kernel) (by decide +kernel), tb1 1 (by decide +kernel) (by decide +kernel), by decide +kernel, by decide +kernel⟩, tb4 42 (by decide +kernel) (by decide +kernel), tbp 19 (by decide +kernel) (by decide +kernel)⟩
def mX11_wallAt : MD := (yX11_wallAt, cX11_wallAt, 2, (some (.object "MudWalls$Wall")))
theorem mfX11_wallAt : MI mX11_wallAt 1 := ⟨⟨tb4 70 (by decide +kernel) (by decide +kernel), tb1 1 (by decide +kernel) (by decide +kernel), by decide +kernel, by decide +kernel⟩, tb4 69 (by decide +kernel) (by decide +kernel), tbp 20 (by decide +kernel) (by decide +kernel)⟩
def mX11_wallWithLayer : MD := (yX11_wallWithLayer, cX11_wallWithLayer, 4, (some (.object "MudWalls$Wall")))
theorem mfX11_wallWithLayer : MI mX11_wallWithLayer 2 := ⟨⟨tb4 91 (by decide +kernel) (by decide +kernel), tb1 1 (by decide +kernel) (by decide +kernel), by decide +kernel, by decide +kernel⟩, tb4 90 (by decide +kernel) (by decide +kernel), tbp 22 (by decide +kernel) (by decide +kernel)⟩
def mX11_wallWithCell : MD := (yX11_wallWithCell, cX11_wallWithCell, 5, (some (.object "MudWalls$Wall")))
theorem mfX11_wallWithCell : MI mX11_wallWithCell 3 := ⟨⟨tb4 87 (by decide +kernel) (by decide +kernel), tb1 1 (by decide +kernel) (by decide +kernel), by decide +kernel, by decide +kernel⟩, tb4 86 (by decide +kernel) (by decide +kernel), tbp 21 (by decide +kernel) (by decide +kernel)⟩
def mX11_wall : MD := (yX11_wall, cX11_wall, 4, (some .int))
theorem mfX11_wall : MI mX11_wall 2 := ⟨⟨tb4 66 (by decide +kernel) (by decide +kernel), tb1 1 (by decide +kernel) (by decide +kernel), by decide +kernel, by decide +kernel⟩, tb4 64 (by decide +kernel) (by decide +kernel), tb4 65 (by decide +kernel) (by decide +kernel)⟩
def mX11_cell : MD := (yX11_cell, cX11_cell, 7, (some .int))
theorem mfX11_cell : MI mX11_cell 4 := ⟨⟨tb4 83 (by decide +kernel) (by decide +kernel), tb1 1 (by decide +kernel) (by decide +kernel), by decide +kernel, by decide +kernel⟩, tb4 81 (by decide +kernel) (by decide +kernel), tb4 82 (by decide +kernel) (by decide +kernel)⟩
def mX11_layer : MD := (yX11_layer, cX11_layer, 5, (some .int))
theorem mfX11_layer : MI mX11_layer 3 := ⟨⟨tb4 121 (by decide +kernel) (by decide +kernel), tb1 1 (by decide +kernel) (by decide +kernel), by decide +kernel, by decide +kernel⟩, tb4 119 (by decide +kernel) (by decide +kernel), tb4 120 (by decide +kernel) (by decide +kernel)⟩
def mX11_lift : MD := (yX11_lift, cX11_lift, 4, (some .int))
theorem mfX11_lift : MI mX11_lift 2 := ⟨⟨tb4 147 (by decide +kernel) (by decide +kernel), tb1 1 (by decide +kernel) (by decide +kernel), by decide +kernel, by decide +kernel⟩, tb4 145 (by decide +kernel) (by decide +kernel), tb4 146 (by decide +kernel) (by decide +kernel)⟩
def mX11_down : MD := (yX11_down, cX11_down, 3, (some .int))
theorem mfX11_down : MI mX11_down 1 := ⟨⟨tb4 158 (by decide +kernel) (by decide +kernel), tb1 1 (by decide +kernel) (by decide +kernel), by decide +kernel, by decide +kernel⟩, tb4 156 (by decide +kernel) (by decide +kernel), tb4 157 (by decide +kernel) (by decide +kernel)⟩
def mX11_hollow : MD := (yX11_hollow, cX11_hollow, 4, none)
theorem mfX11_hollow : MI mX11_hollow 3 := ⟨⟨tb4 170 (by decide +kernel) (by decide +kernel), tb1 1 (by decide +kernel) (by decide +kernel), by decide +kernel, by decide +kernel⟩, tb4 168 (by decide +kernel) (by decide +kernel), tb4 169 (by decide +kernel) (by decide +kernel)⟩
def mX11_weeks : MD := (yX11_weeks, cX11_weeks, 6, (some .int))
theorem mfX11_weeks : MI mX11_weeks 2 := ⟨⟨tb4 181 (by decide +kernel) (by decide +kernel), tb1 1 (by decide +kernel) (by decide +kernel), by decide +kernel, by decide +kernel⟩, tb4 179 (by decide +kernel) (by decide +kernel), tb4 180 (by decide +kernel) (by decide +kernel)⟩
def mX11_checkRange : MD := (yX11_checkRange, cX11_checkRange, 3, none)
theorem mfX11_checkRange : MS mX11_checkRange 3 := ⟨⟨tb4 184 (by decide +kernel) (by decide +kernel), tb1 1 (by decide +kernel) (by decide +kernel), by decide +kernel, by decide +kernel⟩, tb4 183 (by decide +kernel) (by decide +kernel)⟩
def mX11_checkWhat : MD := (yX11_checkWhat, cX11_checkWhat, 2, none)
theorem mfX11_checkWhat : MS mX11_checkWhat 2 := ⟨⟨tb5 77 (by decide +kernel) (by decide +kernel), tb1 1 (by decide +kernel) (by decide +kernel), by decide +kernel, by decide +kernel⟩, tb5 76 (by decide +kernel) (by decide +kernel)⟩
def mX11_high : MD := (yX11_high, cX11_high, 2, (some .int))
theorem mfX11_high : MI mX11_high 1 := ⟨⟨tb5 8 (by decide +kernel) (by decide +kernel), tb1 1 (by decide +kernel) (by decide +kernel), by decide +kernel, by decide +kernel⟩, tb5 6 (by decide +kernel) (by decide +kernel), tb5 7 (by decide +kernel) (by decide +kernel)⟩
def mX11_when : MD := (yX11_when, cX11_when, 4, (some .int))
theorem mfX11_when : MI mX11_when 2 := ⟨⟨tb5 25 (by decide +kernel) (by decide +kernel), tb1 1 (by decide +kernel) (by decide +kernel), by decide +kernel, by decide +kernel⟩, tb5 23 (by decide +kernel) (by decide +kernel), tb5 24 (by decide +kernel) (by decide +kernel)⟩
def mX11_plan : MD := (yX11_plan, cX11_plan, 4, (some .int))
theorem mfX11_plan : MI mX11_plan 2 := ⟨⟨tb5 39 (by decide +kernel) (by decide +kernel), tb1 1 (by decide +kernel) (by decide +kernel), by decide +kernel, by decide +kernel⟩, tb5 37 (by decide +kernel) (by decide +kernel), tb5 38 (by decide +kernel) (by decide +kernel)⟩
def mX11_planned : MD := (yX11_planned, cX11_planned, 2, (some .int))
theorem mfX11_planned : MI mX11_planned 1 := ⟨⟨tb5 66 (by decide +kernel) (by decide +kernel), tb1 1 (by decide +kernel) (by decide +kernel), by decide +kernel, by decide +kernel⟩, tb5 64 (by decide +kernel) (by decide +kernel), tb5 65 (by decide +kernel) (by decide +kernel)⟩
def mX11_turned : MD := (yX11_turned, cX11_turned, 7, (some .int))
theorem mfX11_turned : MI mX11_turned 4 := ⟨⟨tb5 74 (by decide +kernel) (by decide +kernel), tb1 1 (by decide +kernel) (by decide +kernel), by decide +kernel, by decide +kernel⟩, tb5 72 (by decide +kernel) (by decide +kernel), tb5 73 (by decide +kernel) (by decide +kernel)⟩
def mX11_line : MD := (yX11_line, cX11_line, 5, (some .int))
theorem mfX11_line : MI mX11_line 3 := ⟨⟨tb5 103 (by decide +kernel) (by decide +kernel), tb1 1 (by decide +kernel) (by decide +kernel), by decide +kernel, by decide +kernel⟩, tb5 101 (by decide +kernel) (by decide +kernel), tb5 102 (by decide +kernel) (by decide +kernel)⟩
def mX11_work : MD := (yX11_work, cX11_work, 4, none)
theorem mfX11_work : MI mX11_work 2 := ⟨⟨tb5 135 (by decide +kernel) (by decide +kernel), tb1 1 (by decide +kernel) (by decide +kernel), by decide +kernel, by decide +kernel⟩, tb5 133 (by decide +kernel) (by decide +kernel), tb5 134 (by decide +kernel) (by decide +kernel)⟩
def mX11_order : MD := (yX11_order, cX11_order, 4, (some .int))
theorem mfX11_order : MI mX11_order 2 := ⟨⟨tb5 146 (by decide +kernel) (by decide +kernel), tb1 1 (by decide +kernel) (by decide +kernel), by decide +kernel, by decide +kernel⟩, tb5 144 (by decide +kernel) (by decide +kernel), tb5 145 (by decide +kernel) (by decide +kernel)⟩
def mX11_ordered : MD := (yX11_ordered, cX11_ordered, 2, (some .int))
theorem mfX11_ordered : MI mX11_ordered 1 := ⟨⟨tb5 169 (by decide +kernel) (by decide +kernel), tb1 1 (by decide +kernel) (by decide +kernel), by decide +kernel, by decide +kernel⟩, tb5 167 (by decide +kernel) (by decide +kernel), tb5 168 (by decide +kernel) (by decide +kernel)⟩
def mX11_brick : MD := (yX11_brick, cX11_brick, 3, (some .int))
theorem mfX11_brick : MI mX11_brick 2 := ⟨⟨tb2 232 (by decide +kernel) (by decide +kernel), tb1 1 (by decide +kernel) (by decide +kernel), by decide +kernel, by decide +kernel⟩, tb2 230 (by decide +kernel) (by decide +kernel), tb2 231 (by decide +kernel) (by decide +kernel)⟩
def mX11_mix : MD := (yX11_mix, cX11_mix, 2, (some .int))
theorem mfX11_mix : MI mX11_mix 1 := ⟨⟨tb5 177 (by decide +kernel) (by decide +kernel), tb1 1 (by decide +kernel) (by decide +kernel), by decide +kernel, by decide +kernel⟩, tb5 175 (by decide +kernel) (by decide +kernel), tb5 176 (by decide +kernel) (by decide +kernel)⟩
def mX11_house : MD := (yX11_house, cX11_house, 4, (some .int))
theorem mfX11_house : MI mX11_house 3 := ⟨⟨tb3 8 (by decide +kernel) (by decide +kernel), tb1 1 (by decide +kernel) (by decide +kernel), by decide +kernel, by decide +kernel⟩, tb3 6 (by decide +kernel) (by decide +kernel), tb3 7 (by decide +kernel) (by decide +kernel)⟩
def mX11_first : MD := (yX11_first, cX11_first, 3, (some .int))
theorem mfX11_first : MI mX11_first 2 := ⟨⟨tb5 201 (by decide +kernel) (by decide +kernel), tb1 1 (by decide +kernel) (by decide +kernel), by decide +kernel, by decide +kernel⟩, tb5 199 (by decide +kernel) (by decide +kernel), tb5 200 (by decide +kernel) (by decide +kernel)⟩
def mX11_guess : MD := (yX11_guess, cX11_guess, 4, none)
theorem mfX11_guess : MI mX11_guess 2 := ⟨⟨tb5 212 (by decide +kernel) (by decide +kernel), tb1 1 (by decide +kernel) (by decide +kernel), by decide +kernel, by decide +kernel⟩, tb5 210 (by decide +kernel) (by decide +kernel), tb5 211 (by decide +kernel) (by decide +kernel)⟩
def mX11_stick : MD := (yX11_stick, cX11_stick, 5, (some .int))
theorem mfX11_stick : MI mX11_stick 4 := ⟨⟨tb5 223 (by decide +kernel) (by decide +kernel), tb1 1 (by decide +kernel) (by decide +kernel), by decide +kernel, by decide +kernel⟩, tb5 221 (by decide +kernel) (by decide +kernel), tb5 222 (by decide +kernel) (by decide +kernel)⟩
def mX11_credit : MD := (yX11_credit, cX11_credit, 2, (some .int))
theorem mfX11_credit : MI mX11_credit 1 := ⟨⟨tb5 237 (by decide +kernel) (by decide +kernel), tb1 1 (by decide +kernel) (by decide +kernel), by decide +kernel, by decide +kernel⟩, tb5 235 (by decide +kernel) (by decide +kernel), tb5 236 (by decide +kernel) (by decide +kernel)⟩
def mX11_where : MD := (yX11_where, cX11_where, 1, (some .int))
theorem mfX11_where : MI mX11_where 0 := ⟨⟨tb3 16 (by decide +kernel) (by decide +kernel), tb1 1 (by decide +kernel) (by decide +kernel), by decide +kernel, by decide +kernel⟩, tb3 14 (by decide +kernel) (by decide +kernel), tb3 15 (by decide +kernel) (by decide +kernel)⟩
def mX11_image : MD := (yX11_image, cX11_image, 1, none)
theorem mfX11_image : MI mX11_image 0 := ⟨⟨tb3 30 (by decide +kernel) (by decide +kernel), tb1 1 (by decide +kernel) (by decide +kernel), by decide +kernel, by decide +kernel⟩, tb3 28 (by decide +kernel) (by decide +kernel), tb3 29 (by decide +kernel) (by decide +kernel)⟩
def mX11_restore : MD := (yX11_restore, cX11_restore, 1, (some .boolean))
theorem mfX11_restore : MI mX11_restore 0 := ⟨⟨tb3 45 (by decide +kernel) (by decide +kernel), tb1 1 (by decide +kernel) (by decide +kernel), by decide +kernel, by decide +kernel⟩, tb3 43 (by decide +kernel) (by decide +kernel), tb3 44 (by decide +kernel) (by decide +kernel)⟩
def mX11_copyWalls : MD := (yX11_copyWalls, cX11_copyWalls, 3, none)
theorem mfX11_copyWalls : MS mX11_copyWalls 2 := ⟨⟨tb3 33 (by decide +kernel) (by decide +kernel), tb1 1 (by decide +kernel) (by decide +kernel), by decide +kernel, by decide +kernel⟩, tb3 32 (by decide +kernel) (by decide +kernel)⟩
def mX12_init : MD := (yX12_init, cX12_init, 1, none)
theorem mnX12_init : MN mX12_init 0 := ⟨⟨tb6 2 (by decide +kernel) (by decide +kernel), tb1 14 (by decide +kernel) (by decide +kernel), by decide +kernel, by decide +kernel⟩, tb6 1 (by decide +kernel) (by decide +kernel), by decide +kernel, rfl⟩
def mX12_thrown : MD := (yX12_thrown, cX12_thrown, 1, (some .int))
theorem mfX12_thrown : MI mX12_thrown 0 := ⟨⟨tb6 135 (by decide +kernel) (by decide +kernel), tb1 14 (by decide +kernel) (by decide +kernel), by decide +kernel, by decide +kernel⟩, tb6 133 (by decide +kernel) (by decide +kernel), tb6 134 (by decide +kernel) (by decide +kernel)⟩
def mX12_fail : MD := (yX12_fail, cX12_fail, 2, (some .int))
theorem mfX12_fail : MI mX12_fail 1 := ⟨⟨tb6 147 (by decide +kernel) (by decide +kernel), tb1 14 (by decide +kernel) (by decide +kernel), by decide +kernel, by decide +kernel⟩, tb6 146 (by decide +kernel) (by decide +kernel), tbp 40 (by decide +kernel) (by decide +kernel)⟩
def mX12_isIn : MD := (yX12_isIn, cX12_isIn, 3, (some .boolean))
theorem mfX12_isIn : MS mX12_isIn 3 := ⟨⟨tb6 229 (by decide +kernel) (by decide +kernel), tb1 14 (by decide +kernel) (by decide +kernel), by decide +kernel, by decide +kernel⟩, tb6 228 (by decide +kernel) (by decide +kernel)⟩
def mX12_isWall : MD := (yX12_isWall, cX12_isWall, 2, (some .boolean))
theorem mfX12_isWall : MI mX12_isWall 1 := ⟨⟨tb7 13 (by decide +kernel) (by decide +kernel), tb1 14 (by decide +kernel) (by decide +kernel), by decide +kernel, by decide +kernel⟩, tb7 12 (by decide +kernel) (by decide +kernel), tbp 58 (by decide +kernel) (by decide +kernel)⟩
def mX12_of : MD := (yX12_of, cX12_of, 3, (some .int))
theorem mfX12_of : MI mX12_of 2 := ⟨⟨tb7 5 (by decide +kernel) (by decide +kernel), tb1 14 (by decide +kernel) (by decide +kernel), by decide +kernel, by decide +kernel⟩, tb7 4 (by decide +kernel) (by decide +kernel), tbp 57 (by decide +kernel) (by decide +kernel)⟩
def mX12_put : MD := (yX12_put, cX12_put, 4, none)
theorem mfX12_put : MI mX12_put 3 := ⟨⟨tb6 192 (by decide +kernel) (by decide +kernel), tb1 14 (by decide +kernel) (by decide +kernel), by decide +kernel, by decide +kernel⟩, tb6 191 (by decide +kernel) (by decide +kernel), tbp 48 (by decide +kernel) (by decide +kernel)⟩
def mX12_copy : MD := (yX12_copy, cX12_copy, 4, none)
theorem mfX12_copy : MI mX12_copy 2 := ⟨⟨tb6 218 (by decide +kernel) (by decide +kernel), tb1 14 (by decide +kernel) (by decide +kernel), by decide +kernel, by decide +kernel⟩, tb6 217 (by decide +kernel) (by decide +kernel), tbp 53 (by decide +kernel) (by decide +kernel)⟩
def mX12_at : MD := (yX12_at, cX12_at, 2, (some .int))
theorem mfX12_at : MS mX12_at 2 := ⟨⟨tb7 20 (by decide +kernel) (by decide +kernel), tb1 14 (by decide +kernel) (by decide +kernel), by decide +kernel, by decide +kernel⟩, tb7 19 (by decide +kernel) (by decide +kernel)⟩
def mX12_full : MD := (yX12_full, cX12_full, 1, (some .int))
theorem mfX12_full : MI mX12_full 0 := ⟨⟨tb6 233 (by decide +kernel) (by decide +kernel), tb1 14 (by decide +kernel) (by decide +kernel), by decide +kernel, by decide +kernel⟩, tb6 232 (by decide +kernel) (by decide +kernel), tbp 54 (by decide +kernel) (by decide +kernel)⟩
def mX12_shrink : MD := (yX12_shrink, cX12_shrink, 1, (some .int))
theorem mfX12_shrink : MI mX12_shrink 0 := ⟨⟨tb6 237 (by decide +kernel) (by decide +kernel), tb1 14 (by decide +kernel) (by decide +kernel), by decide +kernel, by decide +kernel⟩, tb6 236 (by decide +kernel) (by decide +kernel), tbp 55 (by decide +kernel) (by decide +kernel)⟩
def mX12_green : MD := (yX12_green, cX12_green, 1, (some .int))
theorem mfX12_green : MI mX12_green 0 := ⟨⟨tb7 1 (by decide +kernel) (by decide +kernel), tb1 14 (by decide +kernel) (by decide +kernel), by decide +kernel, by decide +kernel⟩, tb7 0 (by decide +kernel) (by decide +kernel), tbp 56 (by decide +kernel) (by decide +kernel)⟩
def mX12_feed : MD := (yX12_feed, cX12_feed, 8, (some .int))
theorem mfX12_feed : MI mX12_feed 5 := ⟨⟨tb6 139 (by decide +kernel) (by decide +kernel), tb1 14 (by decide +kernel) (by decide +kernel), by decide +kernel, by decide +kernel⟩, tb6 137 (by decide +kernel) (by decide +kernel), tb6 138 (by decide +kernel) (by decide +kernel)⟩
def mX12_byteAt : MD := (yX12_byteAt, cX12_byteAt, 2, (some .int))
theorem mfX12_byteAt : MI mX12_byteAt 1 := ⟨⟨tb6 155 (by decide +kernel) (by decide +kernel), tb1 14 (by decide +kernel) (by decide +kernel), by decide +kernel, by decide +kernel⟩, tb6 154 (by decide +kernel) (by decide +kernel), tbp 42 (by decide +kernel) (by decide +kernel)⟩
def mX12_isLetter : MD := (yX12_isLetter, cX12_isLetter, 1, (some .boolean))
theorem mfX12_isLetter : MS mX12_isLetter 1 := ⟨⟨tb6 158 (by decide +kernel) (by decide +kernel), tb1 14 (by decide +kernel) (by decide +kernel), by decide +kernel, by decide +kernel⟩, tb6 157 (by decide +kernel) (by decide +kernel)⟩
def mX12_isDigit : MD := (yX12_isDigit, cX12_isDigit, 1, (some .boolean))
theorem mfX12_isDigit : MS mX12_isDigit 1 := ⟨⟨tb6 161 (by decide +kernel) (by decide +kernel), tb1 14 (by decide +kernel) (by decide +kernel), by decide +kernel, by decide +kernel⟩, tb6 160 (by decide +kernel) (by decide +kernel)⟩
def mX12_stepOn : MD := (yX12_stepOn, cX12_stepOn, 2, none)
theorem mfX12_stepOn : MI mX12_stepOn 0 := ⟨⟨tb6 151 (by decide +kernel) (by decide +kernel), tb1 14 (by decide +kernel) (by decide +kernel), by decide +kernel, by decide +kernel⟩, tb6 150 (by decide +kernel) (by decide +kernel), tbp 41 (by decide +kernel) (by decide +kernel)⟩
def mX12_wrong : MD := (yX12_wrong, cX12_wrong, 2, none)
theorem mfX12_wrong : MI mX12_wrong 1 := ⟨⟨tb6 180 (by decide +kernel) (by decide +kernel), tb1 14 (by decide +kernel) (by decide +kernel), by decide +kernel, by decide +kernel⟩, tb6 179 (by decide +kernel) (by decide +kernel), tbp 45 (by decide +kernel) (by decide +kernel)⟩
def mX12_is : MD := (yX12_is, cX12_is, 4, (some .boolean))
theorem mfX12_is : MI mX12_is 1 := ⟨⟨tb6 172 (by decide +kernel) (by decide +kernel), tb1 14 (by decide +kernel) (by decide +kernel), by decide +kernel, by decide +kernel⟩, tb6 171 (by decide +kernel) (by decide +kernel), tbp 44 (by decide +kernel) (by decide +kernel)⟩
def mX12_passes : MD := (yX12_passes, cX12_passes, 3, (some .boolean))
theorem mfX12_passes : MI mX12_passes 1 := ⟨⟨tb6 201 (by decide +kernel) (by decide +kernel), tb1 14 (by decide +kernel) (by decide +kernel), by decide +kernel, by decide +kernel⟩, tb6 200 (by decide +kernel) (by decide +kernel), tbp 50 (by decide +kernel) (by decide +kernel)⟩
def mX12_readNumber : MD := (yX12_readNumber, cX12_readNumber, 4, (some .int))
theorem mfX12_readNumber : MI mX12_readNumber 2 := ⟨⟨tb6 184 (by decide +kernel) (by decide +kernel), tb1 14 (by decide +kernel) (by decide +kernel), by decide +kernel, by decide +kernel⟩, tb6 183 (by decide +kernel) (by decide +kernel), tbp 46 (by decide +kernel) (by decide +kernel)⟩
def mX12_perhaps : MD := (yX12_perhaps, cX12_perhaps, 4, (some .int))
theorem mfX12_perhaps : MI mX12_perhaps 3 := ⟨⟨tb6 197 (by decide +kernel) (by decide +kernel), tb1 14 (by decide +kernel) (by decide +kernel), by decide +kernel, by decide +kernel⟩, tb6 196 (by decide +kernel) (by decide +kernel), tbp 49 (by decide +kernel) (by decide +kernel)⟩
def mX12_semi : MD := (yX12_semi, cX12_semi, 1, none)
theorem mfX12_semi : MI mX12_semi 0 := ⟨⟨tb6 214 (by decide +kernel) (by decide +kernel), tb1 14 (by decide +kernel) (by decide +kernel), by decide +kernel, by decide +kernel⟩, tb6 213 (by decide +kernel) (by decide +kernel), tbp 52 (by decide +kernel) (by decide +kernel)⟩
def mX12_readWall : MD := (yX12_readWall, cX12_readWall, 3, none)
theorem mfX12_readWall : MI mX12_readWall 0 := ⟨⟨tb6 188 (by decide +kernel) (by decide +kernel), tb1 14 (by decide +kernel) (by decide +kernel), by decide +kernel, by decide +kernel⟩, tb6 187 (by decide +kernel) (by decide +kernel), tbp 47 (by decide +kernel) (by decide +kernel)⟩
def mX12_readWeek : MD := (yX12_readWeek, cX12_readWeek, 2, none)
theorem mfX12_readWeek : MI mX12_readWeek 0 := ⟨⟨tb6 209 (by decide +kernel) (by decide +kernel), tb1 14 (by decide +kernel) (by decide +kernel), by decide +kernel, by decide +kernel⟩, tb6 208 (by decide +kernel) (by decide +kernel), tbp 51 (by decide +kernel) (by decide +kernel)⟩
def mX12_readLine : MD := (yX12_readLine, cX12_readLine, 4, (some .boolean))
theorem mfX12_readLine : MI mX12_readLine 1 := ⟨⟨tb6 167 (by decide +kernel) (by decide +kernel), tb1 14 (by decide +kernel) (by decide +kernel), by decide +kernel, by decide +kernel⟩, tb6 166 (by decide +kernel) (by decide +kernel), tbp 43 (by decide +kernel) (by decide +kernel)⟩
def mX12_yard : MD := (yX12_yard, cX12_yard, 4, (some .int))
theorem mfX12_yard : MI mX12_yard 1 := ⟨⟨tb6 143 (by decide +kernel) (by decide +kernel), tb1 14 (by decide +kernel) (by decide +kernel), by decide +kernel, by decide +kernel⟩, tb6 141 (by decide +kernel) (by decide +kernel), tb6 142 (by decide +kernel) (by decide +kernel)⟩
def mX12_fault : MD := (yX12_fault, cX12_fault, 1, (some .int))
theorem mfX12_fault : MI mX12_fault 0 := ⟨⟨tb6 222 (by decide +kernel) (by decide +kernel), tb1 14 (by decide +kernel) (by decide +kernel), by decide +kernel, by decide +kernel⟩, tb6 220 (by decide +kernel) (by decide +kernel), tb6 221 (by decide +kernel) (by decide +kernel)⟩
def mX12_count : MD := (yX12_count, cX12_count, 4, (some .int))
theorem mfX12_count : MI mX12_count 1 := ⟨⟨tb6 226 (by decide +kernel) (by decide +kernel), tb1 14 (by decide +kernel) (by decide +kernel), by decide +kernel, by decide +kernel⟩, tb6 224 (by decide +kernel) (by decide +kernel), tb6 225 (by decide +kernel) (by decide +kernel)⟩
def mX12_waterIn : MD := (yX12_waterIn, cX12_waterIn, 5, (some .int))
theorem mfX12_waterIn : MI mX12_waterIn 1 := ⟨⟨tb7 17 (by decide +kernel) (by decide +kernel), tb1 14 (by decide +kernel) (by decide +kernel), by decide +kernel, by decide +kernel⟩, tb7 16 (by decide +kernel) (by decide +kernel), tbp 59 (by decide +kernel) (by decide +kernel)⟩
def mX12_wall : MD := (yX12_wall, cX12_wall, 3, (some .int))
theorem mfX12_wall : MI mX12_wall 2 := ⟨⟨tb7 9 (by decide +kernel) (by decide +kernel), tb1 14 (by decide +kernel) (by decide +kernel), by decide +kernel, by decide +kernel⟩, tb7 7 (by decide +kernel) (by decide +kernel), tb7 8 (by decide +kernel) (by decide +kernel)⟩
def mX12_isLayer : MD := (yX12_isLayer, cX12_isLayer, 3, (some .boolean))
theorem mfX12_isLayer : MI mX12_isLayer 2 := ⟨⟨tb7 32 (by decide +kernel) (by decide +kernel), tb1 14 (by decide +kernel) (by decide +kernel), by decide +kernel, by decide +kernel⟩, tb7 31 (by decide +kernel) (by decide +kernel), tbp 61 (by decide +kernel) (by decide +kernel)⟩
def mX12_isCell : MD := (yX12_isCell, cX12_isCell, 4, (some .boolean))
theorem mfX12_isCell : MI mX12_isCell 3 := ⟨⟨tb7 28 (by decide +kernel) (by decide +kernel), tb1 14 (by decide +kernel) (by decide +kernel), by decide +kernel, by decide +kernel⟩, tb7 27 (by decide +kernel) (by decide +kernel), tbp 60 (by decide +kernel) (by decide +kernel)⟩
def mX12_isCracked : MD := (yX12_isCracked, cX12_isCracked, 4, (some .boolean))
theorem mfX12_isCracked : MI mX12_isCracked 3 := ⟨⟨tb7 36 (by decide +kernel) (by decide +kernel), tb1 14 (by decide +kernel) (by decide +kernel), by decide +kernel, by decide +kernel⟩, tb7 35 (by decide +kernel) (by decide +kernel), tbp 62 (by decide +kernel) (by decide +kernel)⟩
def mX12_isHollow : MD := (yX12_isHollow, cX12_isHollow, 4, (some .boolean))
theorem mfX12_isHollow : MI mX12_isHollow 3 := ⟨⟨tb7 40 (by decide +kernel) (by decide +kernel), tb1 14 (by decide +kernel) (by decide +kernel), by decide +kernel, by decide +kernel⟩, tb7 39 (by decide +kernel) (by decide +kernel), tbp 63 (by decide +kernel) (by decide +kernel)⟩
def mX12_strength : MD := (yX12_strength, cX12_strength, 5, (some .int))
theorem mfX12_strength : MI mX12_strength 3 := ⟨⟨tb7 44 (by decide +kernel) (by decide +kernel), tb1 14 (by decide +kernel) (by decide +kernel), by decide +kernel, by decide +kernel⟩, tb7 43 (by decide +kernel) (by decide +kernel), tbp 64 (by decide +kernel) (by decide +kernel)⟩
def mX12_load : MD := (yX12_load, cX12_load, 4, (some .int))
theorem mfX12_load : MI mX12_load 3 := ⟨⟨tb7 49 (by decide +kernel) (by decide +kernel), tb1 14 (by decide +kernel) (by decide +kernel), by decide +kernel, by decide +kernel⟩, tb7 48 (by decide +kernel) (by decide +kernel), tbp 65 (by decide +kernel) (by decide +kernel)⟩
def mX12_bears : MD := (yX12_bears, cX12_bears, 5, (some .int))
theorem mfX12_bears : MI mX12_bears 2 := ⟨⟨tb7 57 (by decide +kernel) (by decide +kernel), tb1 14 (by decide +kernel) (by decide +kernel), by decide +kernel, by decide +kernel⟩, tb7 56 (by decide +kernel) (by decide +kernel), tbp 66 (by decide +kernel) (by decide +kernel)⟩
def mX12_presses : MD := (yX12_presses, cX12_presses, 6, (some .int))
theorem mfX12_presses : MI mX12_presses 2 := ⟨⟨tb7 61 (by decide +kernel) (by decide +kernel), tb1 14 (by decide +kernel) (by decide +kernel), by decide +kernel, by decide +kernel⟩, tb7 60 (by decide +kernel) (by decide +kernel), tbp 67 (by decide +kernel) (by decide +kernel)⟩
def mX12_sits : MD := (yX12_sits, cX12_sits, 3, (some .boolean))
theorem mfX12_sits : MI mX12_sits 2 := ⟨⟨tb7 65 (by decide +kernel) (by decide +kernel), tb1 14 (by decide +kernel) (by decide +kernel), by decide +kernel, by decide +kernel⟩, tb7 64 (by decide +kernel) (by decide +kernel), tbp 68 (by decide +kernel) (by decide +kernel)⟩
def mX12_someSits : MD := (yX12_someSits, cX12_someSits, 3, (some .boolean))
theorem mfX12_someSits : MI mX12_someSits 1 := ⟨⟨tb7 141 (by decide +kernel) (by decide +kernel), tb1 14 (by decide +kernel) (by decide +kernel), by decide +kernel, by decide +kernel⟩, tb7 140 (by decide +kernel) (by decide +kernel), tbp 82 (by decide +kernel) (by decide +kernel)⟩
def mX12_cell : MD := (yX12_cell, cX12_cell, 6, (some .int))
theorem mfX12_cell : MI mX12_cell 4 := ⟨⟨tb7 24 (by decide +kernel) (by decide +kernel), tb1 14 (by decide +kernel) (by decide +kernel), by decide +kernel, by decide +kernel⟩, tb7 22 (by decide +kernel) (by decide +kernel), tb7 23 (by decide +kernel) (by decide +kernel)⟩
def mX12_layer : MD := (yX12_layer, cX12_layer, 4, (some .int))
theorem mfX12_layer : MI mX12_layer 3 := ⟨⟨tb7 53 (by decide +kernel) (by decide +kernel), tb1 14 (by decide +kernel) (by decide +kernel), by decide +kernel, by decide +kernel⟩, tb7 51 (by decide +kernel) (by decide +kernel), tb7 52 (by decide +kernel) (by decide +kernel)⟩
def mX12_raise : MD := (yX12_raise, cX12_raise, 6, none)
theorem mfX12_raise : MI mX12_raise 2 := ⟨⟨tb7 73 (by decide +kernel) (by decide +kernel), tb1 14 (by decide +kernel) (by decide +kernel), by decide +kernel, by decide +kernel⟩, tb7 72 (by decide +kernel) (by decide +kernel), tbp 69 (by decide +kernel) (by decide +kernel)⟩
def mX12_cut : MD := (yX12_cut, cX12_cut, 6, none)
theorem mfX12_cut : MI mX12_cut 2 := ⟨⟨tb7 81 (by decide +kernel) (by decide +kernel), tb1 14 (by decide +kernel) (by decide +kernel), by decide +kernel, by decide +kernel⟩, tb7 80 (by decide +kernel) (by decide +kernel), tbp 70 (by decide +kernel) (by decide +kernel)⟩
def mX12_lift : MD := (yX12_lift, cX12_lift, 3, (some .int))
theorem mfX12_lift : MI mX12_lift 2 := ⟨⟨tb7 69 (by decide +kernel) (by decide +kernel), tb1 14 (by decide +kernel) (by decide +kernel), by decide +kernel, by decide +kernel⟩, tb7 67 (by decide +kernel) (by decide +kernel), tb7 68 (by decide +kernel) (by decide +kernel)⟩
def mX12_down : MD := (yX12_down, cX12_down, 2, (some .int))
theorem mfX12_down : MI mX12_down 1 := ⟨⟨tb7 77 (by decide +kernel) (by decide +kernel), tb1 14 (by decide +kernel) (by decide +kernel), by decide +kernel, by decide +kernel⟩, tb7 75 (by decide +kernel) (by decide +kernel), tb7 76 (by decide +kernel) (by decide +kernel)⟩
def mX12_hollow : MD := (yX12_hollow, cX12_hollow, 4, none)
theorem mfX12_hollow : MI mX12_hollow 3 := ⟨⟨tb7 85 (by decide +kernel) (by decide +kernel), tb1 14 (by decide +kernel) (by decide +kernel), by decide +kernel, by decide +kernel⟩, tb7 83 (by decide +kernel) (by decide +kernel), tb7 84 (by decide +kernel) (by decide +kernel)⟩
def mX12_wet : MD := (yX12_wet, cX12_wet, 7, none)
theorem mfX12_wet : MI mX12_wet 4 := ⟨⟨tb7 101 (by decide +kernel) (by decide +kernel), tb1 14 (by decide +kernel) (by decide +kernel), by decide +kernel, by decide +kernel⟩, tb7 100 (by decide +kernel) (by decide +kernel), tbp 73 (by decide +kernel) (by decide +kernel)⟩
def mX12_comeIn : MD := (yX12_comeIn, cX12_comeIn, 7, none)
theorem mfX12_comeIn : MI mX12_comeIn 2 := ⟨⟨tb7 97 (by decide +kernel) (by decide +kernel), tb1 14 (by decide +kernel) (by decide +kernel), by decide +kernel, by decide +kernel⟩, tb7 96 (by decide +kernel) (by decide +kernel), tbp 72 (by decide +kernel) (by decide +kernel)⟩
def mX12_flow : MD := (yX12_flow, cX12_flow, 6, none)
theorem mfX12_flow : MI mX12_flow 4 := ⟨⟨tb7 113 (by decide +kernel) (by decide +kernel), tb1 14 (by decide +kernel) (by decide +kernel), by decide +kernel, by decide +kernel⟩, tb7 112 (by decide +kernel) (by decide +kernel), tbp 76 (by decide +kernel) (by decide +kernel)⟩
def mX12_see : MD := (yX12_see, cX12_see, 3, none)
theorem mfX12_see : MI mX12_see 1 := ⟨⟨tb7 109 (by decide +kernel) (by decide +kernel), tb1 14 (by decide +kernel) (by decide +kernel), by decide +kernel, by decide +kernel⟩, tb7 108 (by decide +kernel) (by decide +kernel), tbp 75 (by decide +kernel) (by decide +kernel)⟩
def mX12_move : MD := (yX12_move, cX12_move, 4, none)
theorem mfX12_move : MI mX12_move 1 := ⟨⟨tb7 105 (by decide +kernel) (by decide +kernel), tb1 14 (by decide +kernel) (by decide +kernel), by decide +kernel, by decide +kernel⟩, tb7 104 (by decide +kernel) (by decide +kernel), tbp 74 (by decide +kernel) (by decide +kernel)⟩
def mX12_dry : MD := (yX12_dry, cX12_dry, 8, none)
theorem mfX12_dry : MI mX12_dry 2 := ⟨⟨tb7 117 (by decide +kernel) (by decide +kernel), tb1 14 (by decide +kernel) (by decide +kernel), by decide +kernel, by decide +kernel⟩, tb7 116 (by decide +kernel) (by decide +kernel), tbp 77 (by decide +kernel) (by decide +kernel)⟩
def mX12_crack : MD := (yX12_crack, cX12_crack, 9, none)
theorem mfX12_crack : MI mX12_crack 2 := ⟨⟨tb7 121 (by decide +kernel) (by decide +kernel), tb1 14 (by decide +kernel) (by decide +kernel), by decide +kernel, by decide +kernel⟩, tb7 120 (by decide +kernel) (by decide +kernel), tbp 78 (by decide +kernel) (by decide +kernel)⟩
def mX12_whyOf : MD := (yX12_whyOf, cX12_whyOf, 7, (some .int))
theorem mfX12_whyOf : MI mX12_whyOf 2 := ⟨⟨tb7 129 (by decide +kernel) (by decide +kernel), tb1 14 (by decide +kernel) (by decide +kernel), by decide +kernel, by decide +kernel⟩, tb7 128 (by decide +kernel) (by decide +kernel), tbp 80 (by decide +kernel) (by decide +kernel)⟩
def mX12_sit : MD := (yX12_sit, cX12_sit, 7, none)
theorem mfX12_sit : MI mX12_sit 1 := ⟨⟨tb7 125 (by decide +kernel) (by decide +kernel), tb1 14 (by decide +kernel) (by decide +kernel), by decide +kernel, by decide +kernel⟩, tb7 124 (by decide +kernel) (by decide +kernel), tbp 79 (by decide +kernel) (by decide +kernel)⟩
def mX12_week : MD := (yX12_week, cX12_week, 4, none)
theorem mfX12_week : MI mX12_week 1 := ⟨⟨tb7 93 (by decide +kernel) (by decide +kernel), tb1 14 (by decide +kernel) (by decide +kernel), by decide +kernel, by decide +kernel⟩, tb7 92 (by decide +kernel) (by decide +kernel), tbp 71 (by decide +kernel) (by decide +kernel)⟩
def mX12_weeks : MD := (yX12_weeks, cX12_weeks, 5, (some .int))
theorem mfX12_weeks : MI mX12_weeks 2 := ⟨⟨tb7 89 (by decide +kernel) (by decide +kernel), tb1 14 (by decide +kernel) (by decide +kernel), by decide +kernel, by decide +kernel⟩, tb7 87 (by decide +kernel) (by decide +kernel), tb7 88 (by decide +kernel) (by decide +kernel)⟩
def mX12_highOf : MD := (yX12_highOf, cX12_highOf, 4, (some .int))
theorem mfX12_highOf : MI mX12_highOf 1 := ⟨⟨tb7 137 (by decide +kernel) (by decide +kernel), tb1 14 (by decide +kernel) (by decide +kernel), by decide +kernel, by decide +kernel⟩, tb7 136 (by decide +kernel) (by decide +kernel), tbp 81 (by decide +kernel) (by decide +kernel)⟩
def mX12_high : MD := (yX12_high, cX12_high, 2, (some .int))
theorem mfX12_high : MI mX12_high 1 := ⟨⟨tb7 133 (by decide +kernel) (by decide +kernel), tb1 14 (by decide +kernel) (by decide +kernel), by decide +kernel, by decide +kernel⟩, tb7 131 (by decide +kernel) (by decide +kernel), tb7 132 (by decide +kernel) (by decide +kernel)⟩
def mX12_when : MD := (yX12_when, cX12_when, 4, (some .int))
theorem mfX12_when : MI mX12_when 2 := ⟨⟨tb7 145 (by decide +kernel) (by decide +kernel), tb1 14 (by decide +kernel) (by decide +kernel), by decide +kernel, by decide +kernel⟩, tb7 143 (by decide +kernel) (by decide +kernel), tb7 144 (by decide +kernel) (by decide +kernel)⟩
def mX12_planOn : MD := (yX12_planOn, cX12_planOn, 6, (some .boolean))
theorem mfX12_planOn : MI mX12_planOn 3 := ⟨⟨tb7 153 (by decide +kernel) (by decide +kernel), tb1 14 (by decide +kernel) (by decide +kernel), by decide +kernel, by decide +kernel⟩, tb7 152 (by decide +kernel) (by decide +kernel), tbp 83 (by decide +kernel) (by decide +kernel)⟩
def mX12_plan : MD := (yX12_plan, cX12_plan, 5, (some .int))
theorem mfX12_plan : MI mX12_plan 2 := ⟨⟨tb7 149 (by decide +kernel) (by decide +kernel), tb1 14 (by decide +kernel) (by decide +kernel), by decide +kernel, by decide +kernel⟩, tb7 147 (by decide +kernel) (by decide +kernel), tb7 148 (by decide +kernel) (by decide +kernel)⟩
def mX12_planned : MD := (yX12_planned, cX12_planned, 2, (some .int))
theorem mfX12_planned : MI mX12_planned 1 := ⟨⟨tb7 157 (by decide +kernel) (by decide +kernel), tb1 14 (by decide +kernel) (by decide +kernel), by decide +kernel, by decide +kernel⟩, tb7 155 (by decide +kernel) (by decide +kernel), tb7 156 (by decide +kernel) (by decide +kernel)⟩
def mX12_turned : MD := (yX12_turned, cX12_turned, 13, (some .int))
theorem mfX12_turned : MI mX12_turned 4 := ⟨⟨tb7 161 (by decide +kernel) (by decide +kernel), tb1 14 (by decide +kernel) (by decide +kernel), by decide +kernel, by decide +kernel⟩, tb7 159 (by decide +kernel) (by decide +kernel), tb7 160 (by decide +kernel) (by decide +kernel)⟩
def mX12_footOf : MD := (yX12_footOf, cX12_footOf, 4, (some .int))
theorem mfX12_footOf : MI mX12_footOf 1 := ⟨⟨tb7 169 (by decide +kernel) (by decide +kernel), tb1 14 (by decide +kernel) (by decide +kernel), by decide +kernel, by decide +kernel⟩, tb7 168 (by decide +kernel) (by decide +kernel), tbp 84 (by decide +kernel) (by decide +kernel)⟩
def mX12_line : MD := (yX12_line, cX12_line, 7, (some .int))
theorem mfX12_line : MI mX12_line 3 := ⟨⟨tb7 165 (by decide +kernel) (by decide +kernel), tb1 14 (by decide +kernel) (by decide +kernel), by decide +kernel, by decide +kernel⟩, tb7 163 (by decide +kernel) (by decide +kernel), tb7 164 (by decide +kernel) (by decide +kernel)⟩
def mX12_doWork : MD := (yX12_doWork, cX12_doWork, 3, none)
theorem mfX12_doWork : MI mX12_doWork 2 := ⟨⟨tb7 177 (by decide +kernel) (by decide +kernel), tb1 14 (by decide +kernel) (by decide +kernel), by decide +kernel, by decide +kernel⟩, tb7 176 (by decide +kernel) (by decide +kernel), tbp 85 (by decide +kernel) (by decide +kernel)⟩
def mX12_work : MD := (yX12_work, cX12_work, 3, none)
theorem mfX12_work : MI mX12_work 2 := ⟨⟨tb7 173 (by decide +kernel) (by decide +kernel), tb1 14 (by decide +kernel) (by decide +kernel), by decide +kernel, by decide +kernel⟩, tb7 171 (by decide +kernel) (by decide +kernel), tb7 172 (by decide +kernel) (by decide +kernel)⟩
def mX12_bulges : MD := (yX12_bulges, cX12_bulges, 4, (some .int))
theorem mfX12_bulges : MI mX12_bulges 1 := ⟨⟨tb7 189 (by decide +kernel) (by decide +kernel), tb1 14 (by decide +kernel) (by decide +kernel), by decide +kernel, by decide +kernel⟩, tb7 188 (by decide +kernel) (by decide +kernel), tbp 87 (by decide +kernel) (by decide +kernel)⟩
def mX12_orderOn : MD := (yX12_orderOn, cX12_orderOn, 5, none)
theorem mfX12_orderOn : MI mX12_orderOn 2 := ⟨⟨tb7 185 (by decide +kernel) (by decide +kernel), tb1 14 (by decide +kernel) (by decide +kernel), by decide +kernel, by decide +kernel⟩, tb7 184 (by decide +kernel) (by decide +kernel), tbp 86 (by decide +kernel) (by decide +kernel)⟩
def mX12_order : MD := (yX12_order, cX12_order, 4, (some .int))
theorem mfX12_order : MI mX12_order 2 := ⟨⟨tb7 181 (by decide +kernel) (by decide +kernel), tb1 14 (by decide +kernel) (by decide +kernel), by decide +kernel, by decide +kernel⟩, tb7 179 (by decide +kernel) (by decide +kernel), tb7 180 (by decide +kernel) (by decide +kernel)⟩
def mX12_ordered : MD := (yX12_ordered, cX12_ordered, 2, (some .int))
theorem mfX12_ordered : MI mX12_ordered 1 := ⟨⟨tb7 193 (by decide +kernel) (by decide +kernel), tb1 14 (by decide +kernel) (by decide +kernel), by decide +kernel, by decide +kernel⟩, tb7 191 (by decide +kernel) (by decide +kernel), tb7 192 (by decide +kernel) (by decide +kernel)⟩
def mX12_brick : MD := (yX12_brick, cX12_brick, 4, (some .int))
theorem mfX12_brick : MI mX12_brick 2 := ⟨⟨tb7 197 (by decide +kernel) (by decide +kernel), tb1 14 (by decide +kernel) (by decide +kernel), by decide +kernel, by decide +kernel⟩, tb7 195 (by decide +kernel) (by decide +kernel), tb7 196 (by decide +kernel) (by decide +kernel)⟩
def mX12_mix : MD := (yX12_mix, cX12_mix, 6, (some .int))
theorem mfX12_mix : MI mX12_mix 1 := ⟨⟨tb7 201 (by decide +kernel) (by decide +kernel), tb1 14 (by decide +kernel) (by decide +kernel), by decide +kernel, by decide +kernel⟩, tb7 199 (by decide +kernel) (by decide +kernel), tb7 200 (by decide +kernel) (by decide +kernel)⟩
def mX12_house : MD := (yX12_house, cX12_house, 4, (some .int))
theorem mfX12_house : MI mX12_house 3 := ⟨⟨tb7 205 (by decide +kernel) (by decide +kernel), tb1 14 (by decide +kernel) (by decide +kernel), by decide +kernel, by decide +kernel⟩, tb7 203 (by decide +kernel) (by decide +kernel), tb7 204 (by decide +kernel) (by decide +kernel)⟩
def mX12_first : MD := (yX12_first, cX12_first, 10, (some .int))
theorem mfX12_first : MI mX12_first 2 := ⟨⟨tb7 209 (by decide +kernel) (by decide +kernel), tb1 14 (by decide +kernel) (by decide +kernel), by decide +kernel, by decide +kernel⟩, tb7 207 (by decide +kernel) (by decide +kernel), tb7 208 (by decide +kernel) (by decide +kernel)⟩
def mX12_guess : MD := (yX12_guess, cX12_guess, 3, none)
theorem mfX12_guess : MI mX12_guess 2 := ⟨⟨tb7 213 (by decide +kernel) (by decide +kernel), tb1 14 (by decide +kernel) (by decide +kernel), by decide +kernel, by decide +kernel⟩, tb7 211 (by decide +kernel) (by decide +kernel), tb7 212 (by decide +kernel) (by decide +kernel)⟩
def mX12_knows : MD := (yX12_knows, cX12_knows, 4, (some .boolean))
theorem mfX12_knows : MI mX12_knows 3 := ⟨⟨tb7 221 (by decide +kernel) (by decide +kernel), tb1 14 (by decide +kernel) (by decide +kernel), by decide +kernel, by decide +kernel⟩, tb7 220 (by decide +kernel) (by decide +kernel), tbp 88 (by decide +kernel) (by decide +kernel)⟩
def mX12_stick : MD := (yX12_stick, cX12_stick, 7, (some .int))
theorem mfX12_stick : MI mX12_stick 4 := ⟨⟨tb7 217 (by decide +kernel) (by decide +kernel), tb1 14 (by decide +kernel) (by decide +kernel), by decide +kernel, by decide +kernel⟩, tb7 215 (by decide +kernel) (by decide +kernel), tb7 216 (by decide +kernel) (by decide +kernel)⟩
def mX12_credit : MD := (yX12_credit, cX12_credit, 2, (some .int))
theorem mfX12_credit : MI mX12_credit 1 := ⟨⟨tb7 226 (by decide +kernel) (by decide +kernel), tb1 14 (by decide +kernel) (by decide +kernel), by decide +kernel, by decide +kernel⟩, tb7 224 (by decide +kernel) (by decide +kernel), tb7 225 (by decide +kernel) (by decide +kernel)⟩
def mX12_where : MD := (yX12_where, cX12_where, 7, (some .int))
theorem mfX12_where : MI mX12_where 0 := ⟨⟨tb7 230 (by decide +kernel) (by decide +kernel), tb1 14 (by decide +kernel) (by decide +kernel), by decide +kernel, by decide +kernel⟩, tb7 228 (by decide +kernel) (by decide +kernel), tb7 229 (by decide +kernel) (by decide +kernel)⟩
def mX12_image : MD := (yX12_image, cX12_image, 2, none)
theorem mfX12_image : MI mX12_image 0 := ⟨⟨tb7 234 (by decide +kernel) (by decide +kernel), tb1 14 (by decide +kernel) (by decide +kernel), by decide +kernel, by decide +kernel⟩, tb7 232 (by decide +kernel) (by decide +kernel), tb7 233 (by decide +kernel) (by decide +kernel)⟩
def mX12_restore : MD := (yX12_restore, cX12_restore, 2, (some .boolean))
theorem mfX12_restore : MI mX12_restore 0 := ⟨⟨tb7 238 (by decide +kernel) (by decide +kernel), tb1 14 (by decide +kernel) (by decide +kernel), by decide +kernel, by decide +kernel⟩, tb7 236 (by decide +kernel) (by decide +kernel), tb7 237 (by decide +kernel) (by decide +kernel)⟩
theorem lk_L_88 : Cond.methodLink RL 88 yX11_init ∈ TB := tb1 27 (by decide +kernel) (by decide +kernel)
theorem f_X6_9 : FL RX6 9 6 0 (.array .byte) (some false) := ⟨(RX6, TX6, 7), tyX6, cf_X6, by decide, rfl, (fun b h => by cases h; rfl), (fun h => by cases h), tb1 39 (by decide +kernel) (by decide +kernel)⟩
theorem f_X6_28 : FL RX6 28 6 1 (.int) (some false) := ⟨(RX6, TX6, 7), tyX6, cf_X6, by decide, rfl, (fun b h => by cases h; rfl), (fun h => by cases h), tb1 40 (by decide +kernel) (by decide +kernel)⟩
theorem f_X6_45 : FL RX6 45 6 2 (.int) (some false) := ⟨(RX6, TX6, 7), tyX6, cf_X6, by decide, rfl, (fun b h => by cases h; rfl), (fun h => by cases h), tb1 41 (by decide +kernel) (by decide +kernel)⟩
theorem f_X6_118 : FL RX6 118 6 3 (.int) (some false) := ⟨(RX6, TX6, 7), tyX6, cf_X6, by decide, rfl, (fun b h => by cases h; rfl), (fun h => by cases h), tb1 42 (by decide +kernel) (by decide +kernel)⟩
theorem f_X6_31 : FL RX6 31 6 4 (.int) (some false) := ⟨(RX6, TX6, 7), tyX6, cf_X6, by decide, rfl, (fun b h => by cases h; rfl), (fun h => by cases h), tb1 43 (by decide +kernel) (by decide +kernel)⟩
theorem f_X6_34 : FL RX6 34 6 5 (.int) (some false) := ⟨(RX6, TX6, 7), tyX6, cf_X6, by decide, rfl, (fun b h => by cases h; rfl), (fun h => by cases h), tb1 44 (by decide +kernel) (by decide +kernel)⟩
theorem f_X6_15 : FL RX6 15 6 6 (.int) (some false) := ⟨(RX6, TX6, 7), tyX6, cf_X6, by decide, rfl, (fun b h => by cases h; rfl), (fun h => by cases h), tb1 45 (by decide +kernel) (by decide +kernel)⟩
theorem f_X11_141 : FL RX11 141 6 6 (.int) (some false) := ⟨(RX6, TX6, 7), tyX6, cf_X6, by decide, rfl, (fun b h => by cases h; rfl), (fun h => by cases h), tb1 46 (by decide +kernel) (by decide +kernel)⟩
theorem lk_X11_33 : Cond.methodLink RX11 33 yX10_init ∈ TB := tb1 66 (by decide +kernel) (by decide +kernel)
theorem lk_X10_21 : Cond.methodLink RX10 21 yX10_clear ∈ TB := tb1 70 (by decide +kernel) (by decide +kernel)
theorem lk_X10_24 : Cond.methodLink RX10 24 yX10_setEarth ∈ TB := tb1 74 (by decide +kernel) (by decide +kernel)
theorem f_X10_9 : FL RX10 9 10 0 (.array .int) (some true) := ⟨(RX10, TX10, 9), tyX10, cf_X10, by decide, rfl, (fun b h => by cases h; rfl), (fun _ => rfl), tb1 78 (by decide +kernel) (by decide +kernel)⟩
theorem f_X10_15 : FL RX10 15 10 1 (.array .int) (some true) := ⟨(RX10, TX10, 9), tyX10, cf_X10, by decide, rfl, (fun b h => by cases h; rfl), (fun _ => rfl), tb1 79 (by decide +kernel) (by decide +kernel)⟩
theorem f_X8_31 : FL RX8 31 10 1 (.array .int) (none) := ⟨(RX10, TX10, 9), tyX10, cf_X10, by decide, rfl, (fun b h => by cases h), (fun h => by cases h), tb1 80 (by decide +kernel) (by decide +kernel)⟩
theorem f_X6_89 : FL RX6 89 10 1 (.array .int) (none) := ⟨(RX10, TX10, 9), tyX10, cf_X10, by decide, rfl, (fun b h => by cases h), (fun h => by cases h), tb1 81 (by decide +kernel) (by decide +kernel)⟩
theorem f_X10_18 : FL RX10 18 10 2 (.array .int) (some true) := ⟨(RX10, TX10, 9), tyX10, cf_X10, by decide, rfl, (fun b h => by cases h; rfl), (fun _ => rfl), tb1 82 (by decide +kernel) (by decide +kernel)⟩
theorem f_X9_39 : FL RX9 39 10 2 (.array .int) (none) := ⟨(RX10, TX10, 9), tyX10, cf_X10, by decide, rfl, (fun b h => by cases h), (fun h => by cases h), tb1 83 (by decide +kernel) (by decide +kernel)⟩
theorem f_X6_113 : FL RX6 113 10 2 (.array .int) (none) := ⟨(RX10, TX10, 9), tyX10, cf_X10, by decide, rfl, (fun b h => by cases h), (fun h => by cases h), tb1 84 (by decide +kernel) (by decide +kernel)⟩
theorem f_X10_28 : FL RX10 28 10 3 (.boolean) (some false) := ⟨(RX10, TX10, 9), tyX10, cf_X10, by decide, rfl, (fun b h => by cases h; rfl), (fun h => by cases h), tb1 85 (by decide +kernel) (by decide +kernel)⟩
theorem f_X6_75 : FL RX6 75 10 3 (.boolean) (some false) := ⟨(RX10, TX10, 9), tyX10, cf_X10, by decide, rfl, (fun b h => by cases h; rfl), (fun h => by cases h), tb1 86 (by decide +kernel) (by decide +kernel)⟩
theorem f_X10_32 : FL RX10 32 10 4 (.int) (some false) := ⟨(RX10, TX10, 9), tyX10, cf_X10, by decide, rfl, (fun b h => by cases h; rfl), (fun h => by cases h), tb1 87 (by decide +kernel) (by decide +kernel)⟩
theorem f_X6_86 : FL RX6 86 10 4 (.int) (some false) := ⟨(RX10, TX10, 9), tyX10, cf_X10, by decide, rfl, (fun b h => by cases h; rfl), (fun h => by cases h), tb1 88 (by decide +kernel) (by decide +kernel)⟩
theorem f_X11_162 : FL RX11 162 10 4 (.int) (some false) := ⟨(RX10, TX10, 9), tyX10, cf_X10, by decide, rfl, (fun b h => by cases h; rfl), (fun h => by cases h), tb1 89 (by decide +kernel) (by decide +kernel)⟩
theorem f_X9_22 : FL RX9 22 10 5 (.int) (some false) := ⟨(RX10, TX10, 9), tyX10, cf_X10, by decide, rfl, (fun b h => by cases h; rfl), (fun h => by cases h), tb1 90 (by decide +kernel) (by decide +kernel)⟩
theorem f_X10_36 : FL RX10 36 10 5 (.int) (some false) := ⟨(RX10, TX10, 9), tyX10, cf_X10, by decide, rfl, (fun b h => by cases h; rfl), (fun h => by cases h), tb1 91 (by decide +kernel) (by decide +kernel)⟩
theorem f_X6_110 : FL RX6 110 10 5 (.int) (some false) := ⟨(RX10, TX10, 9), tyX10, cf_X10, by decide, rfl, (fun b h => by cases h; rfl), (fun h => by cases h), tb1 92 (by decide +kernel) (by decide +kernel)⟩
theorem f_X1_53 : FL RX1 53 10 5 (.int) (some false) := ⟨(RX10, TX10, 9), tyX10, cf_X10, by decide, rfl, (fun b h => by cases h; rfl), (fun h => by cases h), tb1 93 (by decide +kernel) (by decide +kernel)⟩
theorem f_X11_165 : FL RX11 165 10 5 (.int) (some false) := ⟨(RX10, TX10, 9), tyX10, cf_X10, by decide, rfl, (fun b h => by cases h; rfl), (fun h => by cases h), tb1 94 (by decide +kernel) (by decide +kernel)⟩
theorem f_X10_39 : FL RX10 39 10 6 (.int) (some false) := ⟨(RX10, TX10, 9), tyX10, cf_X10, by decide, rfl, (fun b h => by cases h; rfl), (fun h => by cases h), tb1 95 (by decide +kernel) (by decide +kernel)⟩
theorem f_X11_168 : FL RX11 168 10 6 (.int) (some false) := ⟨(RX10, TX10, 9), tyX10, cf_X10, by decide, rfl, (fun b h => by cases h; rfl), (fun h => by cases h), tb1 96 (by decide +kernel) (by decide +kernel)⟩
theorem f_X8_100 : FL RX8 100 10 6 (.int) (some false) := ⟨(RX10, TX10, 9), tyX10, cf_X10, by decide, rfl, (fun b h => by cases h; rfl), (fun h => by cases h), tb1 97 (by decide +kernel) (by decide +kernel)⟩
theorem f_X10_42 : FL RX10 42 10 7 (.int) (some false) := ⟨(RX10, TX10, 9), tyX10, cf_X10, by decide, rfl, (fun b h => by cases h; rfl), (fun h => by cases h), tb1 98 (by decide +kernel) (by decide +kernel)⟩
theorem f_X9_110 : FL RX9 110 10 7 (.int) (some false) := ⟨(RX10, TX10, 9), tyX10, cf_X10, by decide, rfl, (fun b h => by cases h; rfl), (fun h => by cases h), tb1 99 (by decide +kernel) (by decide +kernel)⟩
theorem f_X11_171 : FL RX11 171 10 7 (.int) (some false) := ⟨(RX10, TX10, 9), tyX10, cf_X10, by decide, rfl, (fun b h => by cases h; rfl), (fun h => by cases h), tb1 100 (by decide +kernel) (by decide +kernel)⟩
theorem f_X10_45 : FL RX10 45 10 8 (.int) (some false) := ⟨(RX10, TX10, 9), tyX10, cf_X10, by decide, rfl, (fun b h => by cases h; rfl), (fun h => by cases h), tb1 101 (by decide +kernel) (by decide +kernel)⟩
theorem f_X11_174 : FL RX11 174 10 8 (.int) (some false) := ⟨(RX10, TX10, 9), tyX10, cf_X10, by decide, rfl, (fun b h => by cases h; rfl), (fun h => by cases h), tb1 102 (by decide +kernel) (by decide +kernel)⟩
theorem f_X8_97 : FL RX8 97 10 8 (.int) (some false) := ⟨(RX10, TX10, 9), tyX10, cf_X10, by decide, rfl, (fun b h => by cases h; rfl), (fun h => by cases h), tb1 103 (by decide +kernel) (by decide +kernel)⟩
theorem lk_X11_41 : Cond.methodLink RX11 41 yX11_manyWalls ∈ TB := tb1 123 (by decide +kernel) (by decide +kernel)
theorem lk_X11_114 : Cond.methodLink RX11 114 yJ9_max_7cf53 ∈ TB := tb1 126 (by decide +kernel) (by decide +kernel)
theorem lk_X11_122 : Cond.methodLink RX11 122 yX8_init ∈ TB := tb1 132 (by decide +kernel) (by decide +kernel)
theorem f_X8_25 : FL RX8 25 8 0 (.object "MudWalls$Yard") (some true) := ⟨(RX8, TX8, 17), tyX8, cf_X8, by decide, rfl, (fun b h => by cases h; rfl), (fun _ => rfl), tb1 136 (by decide +kernel) (by decide +kernel)⟩
theorem f_X8_9 : FL RX8 9 8 1 (.array .int) (some true) := ⟨(RX8, TX8, 17), tyX8, cf_X8, by decide, rfl, (fun b h => by cases h; rfl), (fun _ => rfl), tb1 137 (by decide +kernel) (by decide +kernel)⟩
theorem f_X9_42 : FL RX9 42 8 1 (.array .int) (none) := ⟨(RX8, TX8, 17), tyX8, cf_X8, by decide, rfl, (fun b h => by cases h), (fun h => by cases h), tb1 138 (by decide +kernel) (by decide +kernel)⟩
theorem f_X2_34 : FL RX2 34 8 1 (.array .int) (none) := ⟨(RX8, TX8, 17), tyX8, cf_X8, by decide, rfl, (fun b h => by cases h), (fun h => by cases h), tb1 139 (by decide +kernel) (by decide +kernel)⟩
theorem f_X11_251 : FL RX11 251 8 1 (.array .int) (none) := ⟨(RX8, TX8, 17), tyX8, cf_X8, by decide, rfl, (fun b h => by cases h), (fun h => by cases h), tb1 140 (by decide +kernel) (by decide +kernel)⟩
theorem f_X8_15 : FL RX8 15 8 2 (.array .int) (some true) := ⟨(RX8, TX8, 17), tyX8, cf_X8, by decide, rfl, (fun b h => by cases h; rfl), (fun _ => rfl), tb1 141 (by decide +kernel) (by decide +kernel)⟩
theorem f_X8_18 : FL RX8 18 8 3 (.array .int) (some true) := ⟨(RX8, TX8, 17), tyX8, cf_X8, by decide, rfl, (fun b h => by cases h; rfl), (fun _ => rfl), tb1 142 (by decide +kernel) (by decide +kernel)⟩
theorem f_X9_120 : FL RX9 120 8 3 (.array .int) (none) := ⟨(RX8, TX8, 17), tyX8, cf_X8, by decide, rfl, (fun b h => by cases h), (fun h => by cases h), tb1 143 (by decide +kernel) (by decide +kernel)⟩
theorem f_X11_278 : FL RX11 278 8 3 (.array .int) (none) := ⟨(RX8, TX8, 17), tyX8, cf_X8, by decide, rfl, (fun b h => by cases h), (fun h => by cases h), tb1 144 (by decide +kernel) (by decide +kernel)⟩
theorem f_X8_21 : FL RX8 21 8 4 (.int) (some false) := ⟨(RX8, TX8, 17), tyX8, cf_X8, by decide, rfl, (fun b h => by cases h; rfl), (fun h => by cases h), tb1 145 (by decide +kernel) (by decide +kernel)⟩
theorem f_X9_77 : FL RX9 77 8 4 (.int) (some false) := ⟨(RX8, TX8, 17), tyX8, cf_X8, by decide, rfl, (fun b h => by cases h; rfl), (fun h => by cases h), tb1 146 (by decide +kernel) (by decide +kernel)⟩
theorem f_X2_31 : FL RX2 31 8 4 (.int) (some false) := ⟨(RX8, TX8, 17), tyX8, cf_X8, by decide, rfl, (fun b h => by cases h; rfl), (fun h => by cases h), tb1 147 (by decide +kernel) (by decide +kernel)⟩
theorem f_X11_210 : FL RX11 210 8 4 (.int) (some false) := ⟨(RX8, TX8, 17), tyX8, cf_X8, by decide, rfl, (fun b h => by cases h; rfl), (fun h => by cases h), tb1 148 (by decide +kernel) (by decide +kernel)⟩
theorem f_X9_45 : FL RX9 45 8 5 (.int) (some false) := ⟨(RX8, TX8, 17), tyX8, cf_X8, by decide, rfl, (fun b h => by cases h; rfl), (fun h => by cases h), tb1 149 (by decide +kernel) (by decide +kernel)⟩
theorem f_X8_62 : FL RX8 62 8 5 (.int) (some false) := ⟨(RX8, TX8, 17), tyX8, cf_X8, by decide, rfl, (fun b h => by cases h; rfl), (fun h => by cases h), tb1 150 (by decide +kernel) (by decide +kernel)⟩
theorem f_X5_30 : FL RX5 30 8 5 (.int) (some false) := ⟨(RX8, TX8, 17), tyX8, cf_X8, by decide, rfl, (fun b h => by cases h; rfl), (fun h => by cases h), tb1 151 (by decide +kernel) (by decide +kernel)⟩
theorem f_X2_25 : FL RX2 25 8 5 (.int) (some false) := ⟨(RX8, TX8, 17), tyX8, cf_X8, by decide, rfl, (fun b h => by cases h; rfl), (fun h => by cases h), tb1 152 (by decide +kernel) (by decide +kernel)⟩
theorem f_X11_201 : FL RX11 201 8 5 (.int) (some false) := ⟨(RX8, TX8, 17), tyX8, cf_X8, by decide, rfl, (fun b h => by cases h; rfl), (fun h => by cases h), tb1 153 (by decide +kernel) (by decide +kernel)⟩
theorem f_X8_43 : FL RX8 43 8 6 (.int) (some false) := ⟨(RX8, TX8, 17), tyX8, cf_X8, by decide, rfl, (fun b h => by cases h; rfl), (fun h => by cases h), tb1 154 (by decide +kernel) (by decide +kernel)⟩
theorem f_X9_94 : FL RX9 94 8 6 (.int) (some false) := ⟨(RX8, TX8, 17), tyX8, cf_X8, by decide, rfl, (fun b h => by cases h; rfl), (fun h => by cases h), tb1 155 (by decide +kernel) (by decide +kernel)⟩
theorem f_X11_215 : FL RX11 215 8 6 (.int) (some false) := ⟨(RX8, TX8, 17), tyX8, cf_X8, by decide, rfl, (fun b h => by cases h; rfl), (fun h => by cases h), tb1 156 (by decide +kernel) (by decide +kernel)⟩
theorem f_X8_46 : FL RX8 46 8 7 (.int) (some false) := ⟨(RX8, TX8, 17), tyX8, cf_X8, by decide, rfl, (fun b h => by cases h; rfl), (fun h => by cases h), tb1 157 (by decide +kernel) (by decide +kernel)⟩
theorem f_X1_42 : FL RX1 42 8 7 (.int) (some false) := ⟨(RX8, TX8, 17), tyX8, cf_X8, by decide, rfl, (fun b h => by cases h; rfl), (fun h => by cases h), tb1 158 (by decide +kernel) (by decide +kernel)⟩
theorem f_X9_91 : FL RX9 91 8 7 (.int) (some false) := ⟨(RX8, TX8, 17), tyX8, cf_X8, by decide, rfl, (fun b h => by cases h; rfl), (fun h => by cases h), tb1 159 (by decide +kernel) (by decide +kernel)⟩
theorem f_X11_217 : FL RX11 217 8 7 (.int) (some false) := ⟨(RX8, TX8, 17), tyX8, cf_X8, by decide, rfl, (fun b h => by cases h; rfl), (fun h => by cases h), tb1 160 (by decide +kernel) (by decide +kernel)⟩
theorem f_X8_49 : FL RX8 49 8 8 (.boolean) (some false) := ⟨(RX8, TX8, 17), tyX8, cf_X8, by decide, rfl, (fun b h => by cases h; rfl), (fun h => by cases h), tb1 161 (by decide +kernel) (by decide +kernel)⟩
theorem f_X9_80 : FL RX9 80 8 8 (.boolean) (some false) := ⟨(RX8, TX8, 17), tyX8, cf_X8, by decide, rfl, (fun b h => by cases h; rfl), (fun h => by cases h), tb1 162 (by decide +kernel) (by decide +kernel)⟩
theorem f_X11_220 : FL RX11 220 8 8 (.boolean) (some false) := ⟨(RX8, TX8, 17), tyX8, cf_X8, by decide, rfl, (fun b h => by cases h; rfl), (fun h => by cases h), tb1 163 (by decide +kernel) (by decide +kernel)⟩
theorem f_X8_53 : FL RX8 53 8 9 (.int) (some false) := ⟨(RX8, TX8, 17), tyX8, cf_X8, by decide, rfl, (fun b h => by cases h; rfl), (fun h => by cases h), tb1 164 (by decide +kernel) (by decide +kernel)⟩
theorem f_X9_88 : FL RX9 88 8 9 (.int) (some false) := ⟨(RX8, TX8, 17), tyX8, cf_X8, by decide, rfl, (fun b h => by cases h; rfl), (fun h => by cases h), tb1 165 (by decide +kernel) (by decide +kernel)⟩
theorem f_X1_50 : FL RX1 50 8 9 (.int) (some false) := ⟨(RX8, TX8, 17), tyX8, cf_X8, by decide, rfl, (fun b h => by cases h; rfl), (fun h => by cases h), tb1 166 (by decide +kernel) (by decide +kernel)⟩
theorem f_X11_223 : FL RX11 223 8 9 (.int) (some false) := ⟨(RX8, TX8, 17), tyX8, cf_X8, by decide, rfl, (fun b h => by cases h; rfl), (fun h => by cases h), tb1 167 (by decide +kernel) (by decide +kernel)⟩
theorem f_X8_56 : FL RX8 56 8 10 (.int) (some false) := ⟨(RX8, TX8, 17), tyX8, cf_X8, by decide, rfl, (fun b h => by cases h; rfl), (fun h => by cases h), tb1 168 (by decide +kernel) (by decide +kernel)⟩
theorem f_X9_104 : FL RX9 104 8 10 (.int) (some false) := ⟨(RX8, TX8, 17), tyX8, cf_X8, by decide, rfl, (fun b h => by cases h; rfl), (fun h => by cases h), tb1 169 (by decide +kernel) (by decide +kernel)⟩
theorem f_X11_226 : FL RX11 226 8 10 (.int) (some false) := ⟨(RX8, TX8, 17), tyX8, cf_X8, by decide, rfl, (fun b h => by cases h; rfl), (fun h => by cases h), tb1 170 (by decide +kernel) (by decide +kernel)⟩
theorem f_X8_59 : FL RX8 59 8 11 (.boolean) (some false) := ⟨(RX8, TX8, 17), tyX8, cf_X8, by decide, rfl, (fun b h => by cases h; rfl), (fun h => by cases h), tb1 171 (by decide +kernel) (by decide +kernel)⟩
theorem f_X11_229 : FL RX11 229 8 11 (.boolean) (some false) := ⟨(RX8, TX8, 17), tyX8, cf_X8, by decide, rfl, (fun b h => by cases h; rfl), (fun h => by cases h), tb1 172 (by decide +kernel) (by decide +kernel)⟩
theorem f_X9_28 : FL RX9 28 8 12 (.int) (some false) := ⟨(RX8, TX8, 17), tyX8, cf_X8, by decide, rfl, (fun b h => by cases h; rfl), (fun h => by cases h), tb1 173 (by decide +kernel) (by decide +kernel)⟩
theorem f_X8_65 : FL RX8 65 8 12 (.int) (some false) := ⟨(RX8, TX8, 17), tyX8, cf_X8, by decide, rfl, (fun b h => by cases h; rfl), (fun h => by cases h), tb1 174 (by decide +kernel) (by decide +kernel)⟩
theorem f_X11_232 : FL RX11 232 8 12 (.int) (some false) := ⟨(RX8, TX8, 17), tyX8, cf_X8, by decide, rfl, (fun b h => by cases h; rfl), (fun h => by cases h), tb1 175 (by decide +kernel) (by decide +kernel)⟩
theorem f_X8_68 : FL RX8 68 8 13 (.int) (some false) := ⟨(RX8, TX8, 17), tyX8, cf_X8, by decide, rfl, (fun b h => by cases h; rfl), (fun h => by cases h), tb1 176 (by decide +kernel) (by decide +kernel)⟩
theorem f_X11_239 : FL RX11 239 8 13 (.int) (some false) := ⟨(RX8, TX8, 17), tyX8, cf_X8, by decide, rfl, (fun b h => by cases h; rfl), (fun h => by cases h), tb1 177 (by decide +kernel) (by decide +kernel)⟩
theorem f_X8_71 : FL RX8 71 8 14 (.int) (some false) := ⟨(RX8, TX8, 17), tyX8, cf_X8, by decide, rfl, (fun b h => by cases h; rfl), (fun h => by cases h), tb1 178 (by decide +kernel) (by decide +kernel)⟩
theorem f_X11_242 : FL RX11 242 8 14 (.int) (some false) := ⟨(RX8, TX8, 17), tyX8, cf_X8, by decide, rfl, (fun b h => by cases h; rfl), (fun h => by cases h), tb1 179 (by decide +kernel) (by decide +kernel)⟩
theorem f_X8_74 : FL RX8 74 8 15 (.int) (some false) := ⟨(RX8, TX8, 17), tyX8, cf_X8, by decide, rfl, (fun b h => by cases h; rfl), (fun h => by cases h), tb1 180 (by decide +kernel) (by decide +kernel)⟩
theorem f_X11_189 : FL RX11 189 8 15 (.int) (some false) := ⟨(RX8, TX8, 17), tyX8, cf_X8, by decide, rfl, (fun b h => by cases h; rfl), (fun h => by cases h), tb1 181 (by decide +kernel) (by decide +kernel)⟩
theorem f_X8_77 : FL RX8 77 8 16 (.int) (some false) := ⟨(RX8, TX8, 17), tyX8, cf_X8, by decide, rfl, (fun b h => by cases h; rfl), (fun h => by cases h), tb1 182 (by decide +kernel) (by decide +kernel)⟩
theorem f_X11_192 : FL RX11 192 8 16 (.int) (some false) := ⟨(RX8, TX8, 17), tyX8, cf_X8, by decide, rfl, (fun b h => by cases h; rfl), (fun h => by cases h), tb1 183 (by decide +kernel) (by decide +kernel)⟩
theorem lk_X11_54 : Cond.methodLink RX11 54 yX9_init ∈ TB := tb1 221 (by decide +kernel) (by decide +kernel)
theorem f_X9_18 : FL RX9 18 9 0 (.object "MudWalls$Yard") (some true) := ⟨(RX9, TX9, 3), tyX9, cf_X9, by decide, rfl, (fun b h => by cases h; rfl), (fun _ => rfl), tb1 225 (by decide +kernel) (by decide +kernel)⟩
theorem f_X9_9 : FL RX9 9 9 1 (.array .int) (some true) := ⟨(RX9, TX9, 3), tyX9, cf_X9, by decide, rfl, (fun b h => by cases h; rfl), (fun _ => rfl), tb1 226 (by decide +kernel) (by decide +kernel)⟩
theorem f_X9_15 : FL RX9 15 9 2 (.array .int) (some true) := ⟨(RX9, TX9, 3), tyX9, cf_X9, by decide, rfl, (fun b h => by cases h; rfl), (fun _ => rfl), tb1 227 (by decide +kernel) (by decide +kernel)⟩
theorem lk_X11_63 : Cond.methodLink RX11 63 yX1_init ∈ TB := tb1 237 (by decide +kernel) (by decide +kernel)
theorem f_X1_9 : FL RX1 9 1 0 (.object "MudWalls$Yard") (some true) := ⟨(RX1, TX1, 4), tyX1, cf_X1, by decide, rfl, (fun b h => by cases h; rfl), (fun _ => rfl), tb2 1 (by decide +kernel) (by decide +kernel)⟩
theorem f_X1_15 : FL RX1 15 1 1 (.object "MudWalls$Weather") (some true) := ⟨(RX1, TX1, 4), tyX1, cf_X1, by decide, rfl, (fun b h => by cases h; rfl), (fun _ => rfl), tb2 2 (by decide +kernel) (by decide +kernel)⟩
theorem f_X1_19 : FL RX1 19 1 2 (.object "MudWalls$Wall") (some true) := ⟨(RX1, TX1, 4), tyX1, cf_X1, by decide, rfl, (fun b h => by cases h; rfl), (fun _ => rfl), tb2 3 (by decide +kernel) (by decide +kernel)⟩
theorem f_X1_23 : FL RX1 23 1 3 (.object "MudWalls$Wall") (some true) := ⟨(RX1, TX1, 4), tyX1, cf_X1, by decide, rfl, (fun b h => by cases h; rfl), (fun _ => rfl), tb2 4 (by decide +kernel) (by decide +kernel)⟩
theorem lk_X11_72 : Cond.methodLink RX11 72 yX5_init ∈ TB := tb2 16 (by decide +kernel) (by decide +kernel)
theorem f_X5_18 : FL RX5 18 5 0 (.object "MudWalls$Weather") (some true) := ⟨(RX5, TX5, 5), tyX5, cf_X5, by decide, rfl, (fun b h => by cases h; rfl), (fun _ => rfl), tb2 20 (by decide +kernel) (by decide +kernel)⟩
theorem f_X5_22 : FL RX5 22 5 1 (.array (.object "MudWalls$Wall")) (some true) := ⟨(RX5, TX5, 5), tyX5, cf_X5, by decide, rfl, (fun b h => by cases h; rfl), (fun _ => rfl), tb2 21 (by decide +kernel) (by decide +kernel)⟩
theorem f_X5_9 : FL RX5 9 5 2 (.array .int) (some true) := ⟨(RX5, TX5, 5), tyX5, cf_X5, by decide, rfl, (fun b h => by cases h; rfl), (fun _ => rfl), tb2 22 (by decide +kernel) (by decide +kernel)⟩
theorem f_X5_15 : FL RX5 15 5 3 (.array .int) (some true) := ⟨(RX5, TX5, 5), tyX5, cf_X5, by decide, rfl, (fun b h => by cases h; rfl), (fun _ => rfl), tb2 23 (by decide +kernel) (by decide +kernel)⟩
theorem f_X11_317 : FL RX11 317 5 3 (.array .int) (none) := ⟨(RX5, TX5, 5), tyX5, cf_X5, by decide, rfl, (fun b h => by cases h), (fun h => by cases h), tb2 24 (by decide +kernel) (by decide +kernel)⟩
theorem f_X5_26 : FL RX5 26 5 4 (.int) (some false) := ⟨(RX5, TX5, 5), tyX5, cf_X5, by decide, rfl, (fun b h => by cases h; rfl), (fun h => by cases h), tb2 25 (by decide +kernel) (by decide +kernel)⟩
theorem f_X11_314 : FL RX11 314 5 4 (.int) (some false) := ⟨(RX5, TX5, 5), tyX5, cf_X5, by decide, rfl, (fun b h => by cases h; rfl), (fun h => by cases h), tb2 26 (by decide +kernel) (by decide +kernel)⟩
theorem lk_X11_81 : Cond.methodLink RX11 81 yX7_init ∈ TB := tb2 40 (by decide +kernel) (by decide +kernel)
theorem f_X7_9 : FL RX7 9 7 0 (.object "MudWalls$Weather") (some true) := ⟨(RX7, TX7, 5), tyX7, cf_X7, by decide, rfl, (fun b h => by cases h; rfl), (fun _ => rfl), tb2 44 (by decide +kernel) (by decide +kernel)⟩
theorem f_X7_15 : FL RX7 15 7 1 (.array (.object "MudWalls$Wall")) (some true) := ⟨(RX7, TX7, 5), tyX7, cf_X7, by decide, rfl, (fun b h => by cases h; rfl), (fun _ => rfl), tb2 45 (by decide +kernel) (by decide +kernel)⟩
theorem f_X7_19 : FL RX7 19 7 2 (.int) (some false) := ⟨(RX7, TX7, 5), tyX7, cf_X7, by decide, rfl, (fun b h => by cases h; rfl), (fun h => by cases h), tb2 46 (by decide +kernel) (by decide +kernel)⟩
theorem f_X7_23 : FL RX7 23 7 3 (.int) (some false) := ⟨(RX7, TX7, 5), tyX7, cf_X7, by decide, rfl, (fun b h => by cases h; rfl), (fun h => by cases h), tb2 47 (by decide +kernel) (by decide +kernel)⟩
theorem f_X11_332 : FL RX11 332 7 3 (.int) (some false) := ⟨(RX7, TX7, 5), tyX7, cf_X7, by decide, rfl, (fun b h => by cases h; rfl), (fun h => by cases h), tb2 48 (by decide +kernel) (by decide +kernel)⟩
theorem f_X7_26 : FL RX7 26 7 4 (.int) (some false) := ⟨(RX7, TX7, 5), tyX7, cf_X7, by decide, rfl, (fun b h => by cases h; rfl), (fun h => by cases h), tb2 49 (by decide +kernel) (by decide +kernel)⟩
theorem f_X11_335 : FL RX11 335 7 4 (.int) (some false) := ⟨(RX7, TX7, 5), tyX7, cf_X7, by decide, rfl, (fun b h => by cases h; rfl), (fun h => by cases h), tb2 50 (by decide +kernel) (by decide +kernel)⟩
theorem lk_X11_88 : Cond.methodLink RX11 88 yX4_init ∈ TB := tb2 64 (by decide +kernel) (by decide +kernel)
theorem f_X4_18 : FL RX4 18 4 0 (.object "MudWalls$Weather") (some true) := ⟨(RX4, TX4, 6), tyX4, cf_X4, by decide, rfl, (fun b h => by cases h; rfl), (fun _ => rfl), tb2 68 (by decide +kernel) (by decide +kernel)⟩
theorem f_X4_22 : FL RX4 22 4 1 (.array (.object "MudWalls$Wall")) (some true) := ⟨(RX4, TX4, 6), tyX4, cf_X4, by decide, rfl, (fun b h => by cases h; rfl), (fun _ => rfl), tb2 69 (by decide +kernel) (by decide +kernel)⟩
theorem f_X4_9 : FL RX4 9 4 2 (.array .int) (some true) := ⟨(RX4, TX4, 6), tyX4, cf_X4, by decide, rfl, (fun b h => by cases h; rfl), (fun _ => rfl), tb2 70 (by decide +kernel) (by decide +kernel)⟩
theorem f_X4_30 : FL RX4 30 4 3 (.int) (some false) := ⟨(RX4, TX4, 6), tyX4, cf_X4, by decide, rfl, (fun b h => by cases h; rfl), (fun h => by cases h), tb2 71 (by decide +kernel) (by decide +kernel)⟩
theorem f_X4_15 : FL RX4 15 4 4 (.array .int) (some true) := ⟨(RX4, TX4, 6), tyX4, cf_X4, by decide, rfl, (fun b h => by cases h; rfl), (fun _ => rfl), tb2 72 (by decide +kernel) (by decide +kernel)⟩
theorem f_X11_354 : FL RX11 354 4 4 (.array .int) (none) := ⟨(RX4, TX4, 6), tyX4, cf_X4, by decide, rfl, (fun b h => by cases h), (fun h => by cases h), tb2 73 (by decide +kernel) (by decide +kernel)⟩
theorem f_X4_26 : FL RX4 26 4 5 (.int) (some false) := ⟨(RX4, TX4, 6), tyX4, cf_X4, by decide, rfl, (fun b h => by cases h; rfl), (fun h => by cases h), tb2 74 (by decide +kernel) (by decide +kernel)⟩
theorem f_X11_353 : FL RX11 353 4 5 (.int) (some false) := ⟨(RX4, TX4, 6), tyX4, cf_X4, by decide, rfl, (fun b h => by cases h; rfl), (fun h => by cases h), tb2 75 (by decide +kernel) (by decide +kernel)⟩
theorem f_X0_18 : FL RX0 18 0 0 (.int) (some false) := ⟨(RX0, TX0, 3), tyX0, cf_X0, by decide, rfl, (fun b h => by cases h; rfl), (fun h => by cases h), tb2 95 (by decide +kernel) (by decide +kernel)⟩
theorem f_X11_361 : FL RX11 361 0 0 (.int) (some false) := ⟨(RX0, TX0, 3), tyX0, cf_X0, by decide, rfl, (fun b h => by cases h; rfl), (fun h => by cases h), tb2 96 (by decide +kernel) (by decide +kernel)⟩
theorem f_X0_9 : FL RX0 9 0 1 (.int) (some false) := ⟨(RX0, TX0, 3), tyX0, cf_X0, by decide, rfl, (fun b h => by cases h; rfl), (fun h => by cases h), tb2 97 (by decide +kernel) (by decide +kernel)⟩
theorem f_X11_364 : FL RX11 364 0 1 (.int) (some false) := ⟨(RX0, TX0, 3), tyX0, cf_X0, by decide, rfl, (fun b h => by cases h; rfl), (fun h => by cases h), tb2 98 (by decide +kernel) (by decide +kernel)⟩
theorem f_X0_15 : FL RX0 15 0 2 (.int) (some false) := ⟨(RX0, TX0, 3), tyX0, cf_X0, by decide, rfl, (fun b h => by cases h; rfl), (fun h => by cases h), tb2 99 (by decide +kernel) (by decide +kernel)⟩
theorem f_X11_367 : FL RX11 367 0 2 (.int) (some false) := ⟨(RX0, TX0, 3), tyX0, cf_X0, by decide, rfl, (fun b h => by cases h; rfl), (fun h => by cases h), tb2 100 (by decide +kernel) (by decide +kernel)⟩
theorem f_X3_9 : FL RX3 9 3 0 (.array .int) (some true) := ⟨(RX3, TX3, 6), tyX3, cf_X3, by decide, rfl, (fun b h => by cases h; rfl), (fun _ => rfl), tb2 114 (by decide +kernel) (by decide +kernel)⟩
theorem f_X3_13 : FL RX3 13 3 1 (.array .int) (some true) := ⟨(RX3, TX3, 6), tyX3, cf_X3, by decide, rfl, (fun b h => by cases h; rfl), (fun _ => rfl), tb2 115 (by decide +kernel) (by decide +kernel)⟩
theorem f_X3_16 : FL RX3 16 3 2 (.int) (some false) := ⟨(RX3, TX3, 6), tyX3, cf_X3, by decide, rfl, (fun b h => by cases h; rfl), (fun h => by cases h), tb2 116 (by decide +kernel) (by decide +kernel)⟩
theorem f_X11_381 : FL RX11 381 3 2 (.int) (some false) := ⟨(RX3, TX3, 6), tyX3, cf_X3, by decide, rfl, (fun b h => by cases h; rfl), (fun h => by cases h), tb2 117 (by decide +kernel) (by decide +kernel)⟩
theorem f_X3_20 : FL RX3 20 3 3 (.int) (some false) := ⟨(RX3, TX3, 6), tyX3, cf_X3, by decide, rfl, (fun b h => by cases h; rfl), (fun h => by cases h), tb2 118 (by decide +kernel) (by decide +kernel)⟩
theorem f_X11_387 : FL RX11 387 3 3 (.int) (some false) := ⟨(RX3, TX3, 6), tyX3, cf_X3, by decide, rfl, (fun b h => by cases h; rfl), (fun h => by cases h), tb2 119 (by decide +kernel) (by decide +kernel)⟩
theorem f_X3_23 : FL RX3 23 3 4 (.int) (some false) := ⟨(RX3, TX3, 6), tyX3, cf_X3, by decide, rfl, (fun b h => by cases h; rfl), (fun h => by cases h), tb2 120 (by decide +kernel) (by decide +kernel)⟩
theorem f_X11_390 : FL RX11 390 3 4 (.int) (some false) := ⟨(RX3, TX3, 6), tyX3, cf_X3, by decide, rfl, (fun b h => by cases h; rfl), (fun h => by cases h), tb2 121 (by decide +kernel) (by decide +kernel)⟩
theorem f_X3_26 : FL RX3 26 3 5 (.int) (some false) := ⟨(RX3, TX3, 6), tyX3, cf_X3, by decide, rfl, (fun b h => by cases h; rfl), (fun h => by cases h), tb2 122 (by decide +kernel) (by decide +kernel)⟩
theorem f_X11_393 : FL RX11 393 3 5 (.int) (some false) := ⟨(RX3, TX3, 6), tyX3, cf_X3, by decide, rfl, (fun b h => by cases h; rfl), (fun h => by cases h), tb2 123 (by decide +kernel) (by decide +kernel)⟩
theorem lk_X11_109 : Cond.methodLink RX11 109 yX2_init ∈ TB := tb2 139 (by decide +kernel) (by decide +kernel)
theorem lk_X2_18 : Cond.methodLink RX2 18 yX2_forget ∈ TB := tb2 143 (by decide +kernel) (by decide +kernel)
theorem lk_X2_21 : Cond.methodLink RX2 21 yX2_clear ∈ TB := tb2 147 (by decide +kernel) (by decide +kernel)
theorem f_X2_11 : FL RX2 11 2 0 (.array .int) (some true) := ⟨(RX2, TX2, 2), tyX2, cf_X2, by decide, rfl, (fun b h => by cases h; rfl), (fun _ => rfl), tb2 151 (by decide +kernel) (by decide +kernel)⟩
theorem f_X2_15 : FL RX2 15 2 1 (.array .int) (some true) := ⟨(RX2, TX2, 2), tyX2, cf_X2, by decide, rfl, (fun b h => by cases h; rfl), (fun _ => rfl), tb2 152 (by decide +kernel) (by decide +kernel)⟩
theorem f_X11_404 : FL RX11 404 2 1 (.array .int) (none) := ⟨(RX2, TX2, 2), tyX2, cf_X2, by decide, rfl, (fun b h => by cases h), (fun h => by cases h), tb2 153 (by decide +kernel) (by decide +kernel)⟩
theorem f_X11_9 : FL RX11 9 11 0 (.array .byte) (some true) := ⟨(RX11, TX11, 19), tyX11, cf_X11, by decide, rfl, (fun b h => by cases h; rfl), (fun _ => rfl), tb2 159 (by decide +kernel) (by decide +kernel)⟩
theorem f_X11_123 : FL RX11 123 11 1 (.int) (some false) := ⟨(RX11, TX11, 19), tyX11, cf_X11, by decide, rfl, (fun b h => by cases h; rfl), (fun h => by cases h), tb2 160 (by decide +kernel) (by decide +kernel)⟩
theorem f_X11_13 : FL RX11 13 11 2 (.int) (some false) := ⟨(RX11, TX11, 19), tyX11, cf_X11, by decide, rfl, (fun b h => by cases h; rfl), (fun h => by cases h), tb2 161 (by decide +kernel) (by decide +kernel)⟩
theorem f_X11_17 : FL RX11 17 11 3 (.array .int) (some true) := ⟨(RX11, TX11, 19), tyX11, cf_X11, by decide, rfl, (fun b h => by cases h; rfl), (fun _ => rfl), tb2 162 (by decide +kernel) (by decide +kernel)⟩
theorem f_X11_21 : FL RX11 21 11 4 (.array .int) (some true) := ⟨(RX11, TX11, 19), tyX11, cf_X11, by decide, rfl, (fun b h => by cases h; rfl), (fun _ => rfl), tb2 163 (by decide +kernel) (by decide +kernel)⟩
theorem f_X11_151 : FL RX11 151 11 5 (.boolean) (some false) := ⟨(RX11, TX11, 19), tyX11, cf_X11, by decide, rfl, (fun b h => by cases h; rfl), (fun h => by cases h), tb2 164 (by decide +kernel) (by decide +kernel)⟩
theorem f_X11_27 : FL RX11 27 11 6 (.object "MudWalls$Reader") (some true) := ⟨(RX11, TX11, 19), tyX11, cf_X11, by decide, rfl, (fun b h => by cases h; rfl), (fun _ => rfl), tb2 165 (by decide +kernel) (by decide +kernel)⟩
theorem f_X11_34 : FL RX11 34 11 7 (.object "MudWalls$Yard") (some true) := ⟨(RX11, TX11, 19), tyX11, cf_X11, by decide, rfl, (fun b h => by cases h; rfl), (fun _ => rfl), tb2 166 (by decide +kernel) (by decide +kernel)⟩
theorem f_X11_38 : FL RX11 38 11 8 (.object "MudWalls$Yard") (some true) := ⟨(RX11, TX11, 19), tyX11, cf_X11, by decide, rfl, (fun b h => by cases h; rfl), (fun _ => rfl), tb2 167 (by decide +kernel) (by decide +kernel)⟩
theorem f_X11_45 : FL RX11 45 11 9 (.array (.object "MudWalls$Wall")) (some true) := ⟨(RX11, TX11, 19), tyX11, cf_X11, by decide, rfl, (fun b h => by cases h; rfl), (fun _ => rfl), tb2 168 (by decide +kernel) (by decide +kernel)⟩
theorem f_X11_49 : FL RX11 49 11 10 (.array (.object "MudWalls$Wall")) (some true) := ⟨(RX11, TX11, 19), tyX11, cf_X11, by decide, rfl, (fun b h => by cases h; rfl), (fun _ => rfl), tb2 169 (by decide +kernel) (by decide +kernel)⟩
theorem f_X11_57 : FL RX11 57 11 11 (.object "MudWalls$Weather") (some true) := ⟨(RX11, TX11, 19), tyX11, cf_X11, by decide, rfl, (fun b h => by cases h; rfl), (fun _ => rfl), tb2 170 (by decide +kernel) (by decide +kernel)⟩
theorem f_X11_66 : FL RX11 66 11 12 (.object "MudWalls$Forecast") (some true) := ⟨(RX11, TX11, 19), tyX11, cf_X11, by decide, rfl, (fun b h => by cases h; rfl), (fun _ => rfl), tb2 171 (by decide +kernel) (by decide +kernel)⟩
theorem f_X11_75 : FL RX11 75 11 13 (.object "MudWalls$Planner") (some true) := ⟨(RX11, TX11, 19), tyX11, cf_X11, by decide, rfl, (fun b h => by cases h; rfl), (fun _ => rfl), tb2 172 (by decide +kernel) (by decide +kernel)⟩
theorem f_X11_82 : FL RX11 82 11 14 (.object "MudWalls$Turner") (some true) := ⟨(RX11, TX11, 19), tyX11, cf_X11, by decide, rfl, (fun b h => by cases h; rfl), (fun _ => rfl), tb2 173 (by decide +kernel) (by decide +kernel)⟩
theorem f_X11_89 : FL RX11 89 11 15 (.object "MudWalls$Orderer") (some true) := ⟨(RX11, TX11, 19), tyX11, cf_X11, by decide, rfl, (fun b h => by cases h; rfl), (fun _ => rfl), tb2 174 (by decide +kernel) (by decide +kernel)⟩
theorem f_X11_96 : FL RX11 96 11 16 (.object "MudWalls$Bricks") (some true) := ⟨(RX11, TX11, 19), tyX11, cf_X11, by decide, rfl, (fun b h => by cases h; rfl), (fun _ => rfl), tb2 175 (by decide +kernel) (by decide +kernel)⟩
theorem f_X11_103 : FL RX11 103 11 17 (.object "MudWalls$Houses") (some true) := ⟨(RX11, TX11, 19), tyX11, cf_X11, by decide, rfl, (fun b h => by cases h; rfl), (fun _ => rfl), tb2 176 (by decide +kernel) (by decide +kernel)⟩
theorem f_X11_110 : FL RX11 110 11 18 (.object "MudWalls$Guesses") (some true) := ⟨(RX11, TX11, 19), tyX11, cf_X11, by decide, rfl, (fun b h => by cases h; rfl), (fun _ => rfl), tb2 177 (by decide +kernel) (by decide +kernel)⟩
theorem lk_L_92 : Cond.methodLink RL 92 yX11_feed ∈ TB := tb2 217 (by decide +kernel) (by decide +kernel)
theorem lk_X11_126 : Cond.methodLink RX11 126 yX11_putNumber ∈ TB := tb2 221 (by decide +kernel) (by decide +kernel)
theorem lk_L_107 : Cond.methodLink RL 107 yX11_fault ∈ TB := tb2 225 (by decide +kernel) (by decide +kernel)
theorem lk_L_167 : Cond.methodLink RL 167 yX11_brick ∈ TB := tb2 229 (by decide +kernel) (by decide +kernel)
theorem lk_X11_357 : Cond.methodLink RX11 357 yX0_add ∈ TB := tb2 233 (by decide +kernel) (by decide +kernel)
theorem lk_X0_21 : Cond.methodLink RX0 21 yX0_gainsays ∈ TB := tb2 237 (by decide +kernel) (by decide +kernel)
theorem lk_X0_25 : Cond.methodLink RX0 25 yJ9_max_7cf53 ∈ TB := tb3 1 (by decide +kernel) (by decide +kernel)
theorem lk_X0_31 : Cond.methodLink RX0 31 yJ9_min_7cf53 ∈ TB := tb3 2 (by decide +kernel) (by decide +kernel)
theorem lk_L_175 : Cond.methodLink RL 175 yX11_house ∈ TB := tb3 5 (by decide +kernel) (by decide +kernel)
theorem lk_X11_378 : Cond.methodLink RX11 378 yX3_add ∈ TB := tb3 9 (by decide +kernel) (by decide +kernel)
theorem lk_L_191 : Cond.methodLink RL 191 yX11_where ∈ TB := tb3 13 (by decide +kernel) (by decide +kernel)
theorem lk_X11_407 : Cond.methodLink RX11 407 yX2_farthestApart ∈ TB := tb3 17 (by decide +kernel) (by decide +kernel)
theorem lk_X2_41 : Cond.methodLink RX2 41 yX2_apartAt ∈ TB := tb3 21 (by decide +kernel) (by decide +kernel)
theorem lk_X2_44 : Cond.methodLink RX2 44 yJ9_min_7cf53 ∈ TB := tb3 25 (by decide +kernel) (by decide +kernel)
theorem lk_X2_48 : Cond.methodLink RX2 48 yJ9_max_7cf53 ∈ TB := tb3 26 (by decide +kernel) (by decide +kernel)
theorem lk_L_195 : Cond.methodLink RL 195 yX11_image ∈ TB := tb3 27 (by decide +kernel) (by decide +kernel)
theorem lk_X11_410 : Cond.methodLink RX11 410 yX11_copyWalls ∈ TB := tb3 31 (by decide +kernel) (by decide +kernel)
theorem lk_X11_420 : Cond.methodLink RX11 420 yX8_become ∈ TB := tb3 34 (by decide +kernel) (by decide +kernel)
theorem lk_L_199 : Cond.methodLink RL 199 yX11_restore ∈ TB := tb3 42 (by decide +kernel) (by decide +kernel)
theorem lk_L_97 : Cond.methodLink RL 97 yL_yard ∈ TB := tb3 46 (by decide +kernel) (by decide +kernel)
theorem lk_L_7 : Cond.methodLink RL 7 yX11_yard ∈ TB := tb3 50 (by decide +kernel) (by decide +kernel)
theorem lk_X11_137 : Cond.methodLink RX11 137 yX6_read ∈ TB := tb3 120 (by decide +kernel) (by decide +kernel)
theorem lk_X6_19 : Cond.methodLink RX6 19 yJ9_min_7cf53 ∈ TB := tb3 124 (by decide +kernel) (by decide +kernel)
theorem lk_X6_25 : Cond.methodLink RX6 25 yJ9_max_7cf53 ∈ TB := tb3 125 (by decide +kernel) (by decide +kernel)
theorem lk_X6_37 : Cond.methodLink RX6 37 yX10_clear ∈ TB := tb3 126 (by decide +kernel) (by decide +kernel)
theorem lk_X6_42 : Cond.methodLink RX6 42 yX6_advance ∈ TB := tb3 127 (by decide +kernel) (by decide +kernel)
theorem lk_X6_133 : Cond.methodLink RX6 133 yX6_isBetween ∈ TB := tb3 131 (by decide +kernel) (by decide +kernel)
theorem lk_X6_137 : Cond.methodLink RX6 137 yX6_skipRow ∈ TB := tb3 134 (by decide +kernel) (by decide +kernel)
theorem lk_X6_48 : Cond.methodLink RX6 48 yX6_readLine ∈ TB := tb3 138 (by decide +kernel) (by decide +kernel)
theorem lk_X6_54 : Cond.methodLink RX6 54 yX6_atWord ∈ TB := tb3 143 (by decide +kernel) (by decide +kernel)
theorem lk_X6_125 : Cond.methodLink RX6 125 yJ0_length_8abf5 ∈ TB := tb3 147 (by decide +kernel) (by decide +kernel)
theorem lk_X6_129 : Cond.methodLink RX6 129 yJ0_charAt_5068e ∈ TB := tb3 157 (by decide +kernel) (by decide +kernel)
theorem lk_X6_58 : Cond.methodLink RX6 58 yX6_readEarth ∈ TB := tb3 195 (by decide +kernel) (by decide +kernel)
theorem lk_X6_71 : Cond.methodLink RX6 71 yX6_refuse ∈ TB := tb3 199 (by decide +kernel) (by decide +kernel)
theorem lk_X6_79 : Cond.methodLink RX6 79 yX6_takeNumber ∈ TB := tb3 203 (by decide +kernel) (by decide +kernel)
theorem lk_X6_121 : Cond.methodLink RX6 121 yX6_numberAtHand ∈ TB := tb3 207 (by decide +kernel) (by decide +kernel)
theorem lk_X6_82 : Cond.methodLink RX6 82 yX10_setEarth ∈ TB := tb3 211 (by decide +kernel) (by decide +kernel)
theorem lk_X6_63 : Cond.methodLink RX6 63 yX6_readWall ∈ TB := tb3 213 (by decide +kernel) (by decide +kernel)
theorem lk_X6_95 : Cond.methodLink RX6 95 yX6_takeOption ∈ TB := tb3 218 (by decide +kernel) (by decide +kernel)
theorem lk_X6_103 : Cond.methodLink RX6 103 yX6_takeWord ∈ TB := tb3 222 (by decide +kernel) (by decide +kernel)
theorem lk_X6_68 : Cond.methodLink RX6 68 yX6_readWeek ∈ TB := tb3 231 (by decide +kernel) (by decide +kernel)
theorem lk_X11_142 : Cond.methodLink RX11 142 yX11_beginAnew ∈ TB := tb3 236 (by decide +kernel) (by decide +kernel)
theorem lk_X11_145 : Cond.methodLink RX11 145 yX10_become ∈ TB := tb4 0 (by decide +kernel) (by decide +kernel)
theorem lk_X11_148 : Cond.methodLink RX11 148 yX8_begin ∈ TB := tb4 5 (by decide +kernel) (by decide +kernel)
theorem lk_X8_34 : Cond.methodLink RX8 34 yJ9_min_7cf53 ∈ TB := tb4 9 (by decide +kernel) (by decide +kernel)
theorem lk_X8_40 : Cond.methodLink RX8 40 yJ9_max_7cf53 ∈ TB := tb4 10 (by decide +kernel) (by decide +kernel)
theorem lk_X11_155 : Cond.methodLink RX11 155 yX5_forget ∈ TB := tb4 11 (by decide +kernel) (by decide +kernel)
theorem lk_X11_158 : Cond.methodLink RX11 158 yX4_forget ∈ TB := tb4 15 (by decide +kernel) (by decide +kernel)
theorem lk_X11_159 : Cond.methodLink RX11 159 yX0_forget ∈ TB := tb4 19 (by decide +kernel) (by decide +kernel)
theorem lk_X11_160 : Cond.methodLink RX11 160 yX3_forget ∈ TB := tb4 23 (by decide +kernel) (by decide +kernel)
theorem lk_X11_161 : Cond.methodLink RX11 161 yX2_forget ∈ TB := tb4 27 (by decide +kernel) (by decide +kernel)
theorem lk_L_111 : Cond.methodLink RL 111 yL_count ∈ TB := tb4 28 (by decide +kernel) (by decide +kernel)
theorem lk_L_15 : Cond.methodLink RL 15 yX11_count ∈ TB := tb4 32 (by decide +kernel) (by decide +kernel)
theorem lk_X11_177 : Cond.methodLink RX11 177 yX11_waterCome ∈ TB := tb4 36 (by decide +kernel) (by decide +kernel)
theorem lk_X11_181 : Cond.methodLink RX11 181 yX11_waterGone ∈ TB := tb4 40 (by decide +kernel) (by decide +kernel)
theorem lk_L_114 : Cond.methodLink RL 114 yL_wall ∈ TB := tb4 60 (by decide +kernel) (by decide +kernel)
theorem lk_L_20 : Cond.methodLink RL 20 yX11_wall ∈ TB := tb4 63 (by decide +kernel) (by decide +kernel)
theorem lk_X11_197 : Cond.methodLink RX11 197 yX11_wallAt ∈ TB := tb4 67 (by decide +kernel) (by decide +kernel)
theorem lk_X11_235 : Cond.methodLink RX11 235 yX8_waterFrom ∈ TB := tb4 72 (by decide +kernel) (by decide +kernel)
theorem lk_L_118 : Cond.methodLink RL 118 yL_cell ∈ TB := tb4 77 (by decide +kernel) (by decide +kernel)
theorem lk_L_24 : Cond.methodLink RL 24 yX11_cell ∈ TB := tb4 80 (by decide +kernel) (by decide +kernel)
theorem lk_X11_247 : Cond.methodLink RX11 247 yX11_wallWithCell ∈ TB := tb4 84 (by decide +kernel) (by decide +kernel)
theorem lk_X11_206 : Cond.methodLink RX11 206 yX11_wallWithLayer ∈ TB := tb4 88 (by decide +kernel) (by decide +kernel)
theorem lk_X11_254 : Cond.methodLink RX11 254 yX8_isCracked ∈ TB := tb4 94 (by decide +kernel) (by decide +kernel)
theorem lk_X11_258 : Cond.methodLink RX11 258 yX8_isHollow ∈ TB := tb4 98 (by decide +kernel) (by decide +kernel)
theorem lk_X11_261 : Cond.methodLink RX11 261 yX8_strength ∈ TB := tb4 102 (by decide +kernel) (by decide +kernel)
theorem lk_X11_264 : Cond.methodLink RX11 264 yX8_load ∈ TB := tb4 106 (by decide +kernel) (by decide +kernel)
theorem lk_X11_267 : Cond.methodLink RX11 267 yX8_stiffness ∈ TB := tb4 110 (by decide +kernel) (by decide +kernel)
theorem lk_L_122 : Cond.methodLink RL 122 yL_layer ∈ TB := tb4 115 (by decide +kernel) (by decide +kernel)
theorem lk_L_28 : Cond.methodLink RL 28 yX11_layer ∈ TB := tb4 118 (by decide +kernel) (by decide +kernel)
theorem lk_X11_272 : Cond.methodLink RX11 272 yX8_bears ∈ TB := tb4 122 (by decide +kernel) (by decide +kernel)
theorem lk_X8_103 : Cond.methodLink RX8 103 yX8_propBears ∈ TB := tb4 126 (by decide +kernel) (by decide +kernel)
theorem lk_X8_107 : Cond.methodLink RX8 107 yX8_strength ∈ TB := tb4 130 (by decide +kernel) (by decide +kernel)
theorem lk_X11_275 : Cond.methodLink RX11 275 yX8_presses ∈ TB := tb4 131 (by decide +kernel) (by decide +kernel)
theorem lk_X8_113 : Cond.methodLink RX8 113 yX8_loads ∈ TB := tb4 135 (by decide +kernel) (by decide +kernel)
theorem lk_X8_110 : Cond.methodLink RX8 110 yX8_load ∈ TB := tb4 139 (by decide +kernel) (by decide +kernel)
theorem lk_L_126 : Cond.methodLink RL 126 yL_lift ∈ TB := tb4 141 (by decide +kernel) (by decide +kernel)
theorem lk_L_32 : Cond.methodLink RL 32 yX11_lift ∈ TB := tb4 144 (by decide +kernel) (by decide +kernel)
theorem lk_X11_283 : Cond.methodLink RX11 283 yX8_raise ∈ TB := tb4 148 (by decide +kernel) (by decide +kernel)
theorem lk_L_129 : Cond.methodLink RL 129 yL_down ∈ TB := tb4 152 (by decide +kernel) (by decide +kernel)
theorem lk_L_35 : Cond.methodLink RL 35 yX11_down ∈ TB := tb4 155 (by decide +kernel) (by decide +kernel)
theorem lk_X11_286 : Cond.methodLink RX11 286 yX8_dropFrom ∈ TB := tb4 159 (by decide +kernel) (by decide +kernel)
theorem lk_X8_86 : Cond.methodLink RX8 86 yX8_waterFrom ∈ TB := tb4 163 (by decide +kernel) (by decide +kernel)
theorem lk_L_132 : Cond.methodLink RL 132 yL_hollow ∈ TB := tb4 164 (by decide +kernel) (by decide +kernel)
theorem lk_L_38 : Cond.methodLink RL 38 yX11_hollow ∈ TB := tb4 167 (by decide +kernel) (by decide +kernel)
theorem lk_X11_289 : Cond.methodLink RX11 289 yX8_makeHollow ∈ TB := tb4 171 (by decide +kernel) (by decide +kernel)
theorem lk_L_136 : Cond.methodLink RL 136 yL_weeks ∈ TB := tb4 175 (by decide +kernel) (by decide +kernel)
theorem lk_L_42 : Cond.methodLink RL 42 yX11_weeks ∈ TB := tb4 178 (by decide +kernel) (by decide +kernel)
theorem lk_X11_292 : Cond.methodLink RX11 292 yX11_checkRange ∈ TB := tb4 182 (by decide +kernel) (by decide +kernel)
theorem lk_X11_296 : Cond.methodLink RX11 296 yX9_pass ∈ TB := tb4 186 (by decide +kernel) (by decide +kernel)
theorem lk_X9_33 : Cond.methodLink RX9 33 yJ9_floorMod_7cf53 ∈ TB := tb4 190 (by decide +kernel) (by decide +kernel)
theorem lk_X9_54 : Cond.methodLink RX9 54 yX9_wet ∈ TB := tb4 194 (by decide +kernel) (by decide +kernel)
theorem lk_X9_84 : Cond.methodLink RX9 84 yX8_pour ∈ TB := tb4 198 (by decide +kernel) (by decide +kernel)
theorem lk_X9_97 : Cond.methodLink RX9 97 yJ9_max_7cf53 ∈ TB := tb4 202 (by decide +kernel) (by decide +kernel)
theorem lk_X9_58 : Cond.methodLink RX9 58 yX9_move ∈ TB := tb4 203 (by decide +kernel) (by decide +kernel)
theorem lk_X9_100 : Cond.methodLink RX9 100 yX9_flow ∈ TB := tb4 207 (by decide +kernel) (by decide +kernel)
theorem lk_X9_62 : Cond.methodLink RX9 62 yX9_dry ∈ TB := tb4 211 (by decide +kernel) (by decide +kernel)
theorem lk_X9_107 : Cond.methodLink RX9 107 yX8_evaporate ∈ TB := tb4 215 (by decide +kernel) (by decide +kernel)
theorem lk_X9_65 : Cond.methodLink RX9 65 yX9_crackAll ∈ TB := tb4 219 (by decide +kernel) (by decide +kernel)
theorem lk_X9_113 : Cond.methodLink RX9 113 yX8_crack ∈ TB := tb4 223 (by decide +kernel) (by decide +kernel)
theorem lk_X9_69 : Cond.methodLink RX9 69 yX9_settle ∈ TB := tb4 227 (by decide +kernel) (by decide +kernel)
theorem lk_X9_116 : Cond.methodLink RX9 116 yX8_bears ∈ TB := tb4 231 (by decide +kernel) (by decide +kernel)
theorem lk_X9_123 : Cond.methodLink RX9 123 yX8_loads ∈ TB := tb4 232 (by decide +kernel) (by decide +kernel)
theorem lk_X9_73 : Cond.methodLink RX9 73 yX8_fallFrom ∈ TB := tb4 233 (by decide +kernel) (by decide +kernel)
theorem lk_X8_90 : Cond.methodLink RX8 90 yX8_whyGivesWay ∈ TB := tb4 237 (by decide +kernel) (by decide +kernel)
theorem lk_X8_93 : Cond.methodLink RX8 93 yX8_dropFrom ∈ TB := tb5 1 (by decide +kernel) (by decide +kernel)
theorem lk_L_139 : Cond.methodLink RL 139 yL_high ∈ TB := tb5 2 (by decide +kernel) (by decide +kernel)
theorem lk_L_45 : Cond.methodLink RL 45 yX11_high ∈ TB := tb5 5 (by decide +kernel) (by decide +kernel)
theorem lk_X11_304 : Cond.methodLink RX11 304 yX8_roomAbove ∈ TB := tb5 9 (by decide +kernel) (by decide +kernel)
theorem lk_X8_120 : Cond.methodLink RX8 120 yX8_spare ∈ TB := tb5 13 (by decide +kernel) (by decide +kernel)
theorem lk_X8_117 : Cond.methodLink RX8 117 yX8_bears ∈ TB := tb5 18 (by decide +kernel) (by decide +kernel)
theorem lk_L_142 : Cond.methodLink RL 142 yL_when ∈ TB := tb5 19 (by decide +kernel) (by decide +kernel)
theorem lk_L_48 : Cond.methodLink RL 48 yX11_when ∈ TB := tb5 22 (by decide +kernel) (by decide +kernel)
theorem lk_X11_307 : Cond.methodLink RX11 307 yX1_weeksUntil ∈ TB := tb5 26 (by decide +kernel) (by decide +kernel)
theorem lk_X1_26 : Cond.methodLink RX1 26 yX8_become ∈ TB := tb5 30 (by decide +kernel) (by decide +kernel)
theorem lk_X1_32 : Cond.methodLink RX1 32 yX8_roomAbove ∈ TB := tb5 31 (by decide +kernel) (by decide +kernel)
theorem lk_X1_36 : Cond.methodLink RX1 36 yX9_pass ∈ TB := tb5 32 (by decide +kernel) (by decide +kernel)
theorem lk_L_145 : Cond.methodLink RL 145 yL_plan ∈ TB := tb5 33 (by decide +kernel) (by decide +kernel)
theorem lk_L_51 : Cond.methodLink RL 51 yX11_plan ∈ TB := tb5 36 (by decide +kernel) (by decide +kernel)
theorem lk_X11_311 : Cond.methodLink RX11 311 yX5_weeksTo ∈ TB := tb5 40 (by decide +kernel) (by decide +kernel)
theorem lk_X5_35 : Cond.methodLink RX5 35 yX8_become ∈ TB := tb5 44 (by decide +kernel) (by decide +kernel)
theorem lk_X5_39 : Cond.methodLink RX5 39 yX5_reaches ∈ TB := tb5 45 (by decide +kernel) (by decide +kernel)
theorem lk_X5_49 : Cond.methodLink RX5 49 yX5_bearsLift ∈ TB := tb5 49 (by decide +kernel) (by decide +kernel)
theorem lk_X5_53 : Cond.methodLink RX5 53 yX8_raise ∈ TB := tb5 53 (by decide +kernel) (by decide +kernel)
theorem lk_X5_57 : Cond.methodLink RX5 57 yX8_anySits ∈ TB := tb5 54 (by decide +kernel) (by decide +kernel)
theorem lk_X5_61 : Cond.methodLink RX5 61 yX9_pass ∈ TB := tb5 58 (by decide +kernel) (by decide +kernel)
theorem lk_L_148 : Cond.methodLink RL 148 yL_planned ∈ TB := tb5 60 (by decide +kernel) (by decide +kernel)
theorem lk_L_54 : Cond.methodLink RL 54 yX11_planned ∈ TB := tb5 63 (by decide +kernel) (by decide +kernel)
theorem lk_L_151 : Cond.methodLink RL 151 yL_turned ∈ TB := tb5 68 (by decide +kernel) (by decide +kernel)
theorem lk_L_57 : Cond.methodLink RL 57 yX11_turned ∈ TB := tb5 71 (by decide +kernel) (by decide +kernel)
theorem lk_X11_322 : Cond.methodLink RX11 322 yX11_checkWhat ∈ TB := tb5 75 (by decide +kernel) (by decide +kernel)
theorem lk_X11_328 : Cond.methodLink RX11 328 yX7_search ∈ TB := tb5 80 (by decide +kernel) (by decide +kernel)
theorem lk_X7_29 : Cond.methodLink RX7 29 yX8_become ∈ TB := tb5 84 (by decide +kernel) (by decide +kernel)
theorem lk_X7_35 : Cond.methodLink RX7 35 yX7_seek ∈ TB := tb5 85 (by decide +kernel) (by decide +kernel)
theorem lk_X7_39 : Cond.methodLink RX7 39 yX8_roomAbove ∈ TB := tb5 89 (by decide +kernel) (by decide +kernel)
theorem lk_X7_43 : Cond.methodLink RX7 43 yJ9_min_7cf53 ∈ TB := tb5 90 (by decide +kernel) (by decide +kernel)
theorem lk_X7_49 : Cond.methodLink RX7 49 yX7_goOn ∈ TB := tb5 91 (by decide +kernel) (by decide +kernel)
theorem lk_X7_52 : Cond.methodLink RX7 52 yX8_raise ∈ TB := tb5 95 (by decide +kernel) (by decide +kernel)
theorem lk_X7_56 : Cond.methodLink RX7 56 yX9_pass ∈ TB := tb5 96 (by decide +kernel) (by decide +kernel)
theorem lk_L_154 : Cond.methodLink RL 154 yL_line ∈ TB := tb5 97 (by decide +kernel) (by decide +kernel)
theorem lk_L_60 : Cond.methodLink RL 60 yX11_line ∈ TB := tb5 100 (by decide +kernel) (by decide +kernel)
theorem lk_X11_338 : Cond.methodLink RX11 338 yX1_fewestShoes ∈ TB := tb5 104 (by decide +kernel) (by decide +kernel)
theorem lk_X1_46 : Cond.methodLink RX1 46 yX1_firstPaste ∈ TB := tb5 108 (by decide +kernel) (by decide +kernel)
theorem lk_X1_58 : Cond.methodLink RX1 58 yJ9_max_7cf53 ∈ TB := tb5 112 (by decide +kernel) (by decide +kernel)
theorem lk_X1_64 : Cond.methodLink RX1 64 yX8_footIsPaste ∈ TB := tb5 113 (by decide +kernel) (by decide +kernel)
theorem lk_X1_68 : Cond.methodLink RX1 68 yX8_standsLike ∈ TB := tb5 117 (by decide +kernel) (by decide +kernel)
theorem lk_X11_341 : Cond.methodLink RX11 341 yX1_leastOuter ∈ TB := tb5 121 (by decide +kernel) (by decide +kernel)
theorem lk_X11_344 : Cond.methodLink RX11 344 yX1_footPaste ∈ TB := tb5 125 (by decide +kernel) (by decide +kernel)
theorem lk_L_157 : Cond.methodLink RL 157 yL_work ∈ TB := tb5 129 (by decide +kernel) (by decide +kernel)
theorem lk_L_63 : Cond.methodLink RL 63 yX11_work ∈ TB := tb5 132 (by decide +kernel) (by decide +kernel)
theorem lk_X11_347 : Cond.methodLink RX11 347 yX8_improve ∈ TB := tb5 136 (by decide +kernel) (by decide +kernel)
theorem lk_L_161 : Cond.methodLink RL 161 yL_order ∈ TB := tb5 140 (by decide +kernel) (by decide +kernel)
theorem lk_L_67 : Cond.methodLink RL 67 yX11_order ∈ TB := tb5 143 (by decide +kernel) (by decide +kernel)
theorem lk_X11_350 : Cond.methodLink RX11 350 yX4_leastBulges ∈ TB := tb5 147 (by decide +kernel) (by decide +kernel)
theorem lk_X4_33 : Cond.methodLink RX4 33 yX8_become ∈ TB := tb5 151 (by decide +kernel) (by decide +kernel)
theorem lk_X4_39 : Cond.methodLink RX4 39 yX4_seek ∈ TB := tb5 152 (by decide +kernel) (by decide +kernel)
theorem lk_X4_43 : Cond.methodLink RX4 43 yX8_bulges ∈ TB := tb5 156 (by decide +kernel) (by decide +kernel)
theorem lk_X4_53 : Cond.methodLink RX4 53 yX8_improve ∈ TB := tb5 161 (by decide +kernel) (by decide +kernel)
theorem lk_X4_57 : Cond.methodLink RX4 57 yX9_pass ∈ TB := tb5 162 (by decide +kernel) (by decide +kernel)
theorem lk_L_164 : Cond.methodLink RL 164 yL_ordered ∈ TB := tb5 163 (by decide +kernel) (by decide +kernel)
theorem lk_L_70 : Cond.methodLink RL 70 yX11_ordered ∈ TB := tb5 166 (by decide +kernel) (by decide +kernel)
theorem lk_L_172 : Cond.methodLink RL 172 yL_mix ∈ TB := tb5 171 (by decide +kernel) (by decide +kernel)
theorem lk_L_73 : Cond.methodLink RL 73 yX11_mix ∈ TB := tb5 174 (by decide +kernel) (by decide +kernel)
theorem lk_X11_370 : Cond.methodLink RX11 370 yX0_nextShare ∈ TB := tb5 178 (by decide +kernel) (by decide +kernel)
theorem lk_X0_34 : Cond.methodLink RX0 34 yX0_lowEnd ∈ TB := tb5 182 (by decide +kernel) (by decide +kernel)
theorem lk_X0_38 : Cond.methodLink RX0 38 yX0_highEnd ∈ TB := tb5 186 (by decide +kernel) (by decide +kernel)
theorem lk_X11_373 : Cond.methodLink RX11 373 yX0_fewestTrials ∈ TB := tb5 190 (by decide +kernel) (by decide +kernel)
theorem lk_L_179 : Cond.methodLink RL 179 yL_first ∈ TB := tb5 195 (by decide +kernel) (by decide +kernel)
theorem lk_L_76 : Cond.methodLink RL 76 yX11_first ∈ TB := tb5 198 (by decide +kernel) (by decide +kernel)
theorem lk_X11_384 : Cond.methodLink RX11 384 yX3_choose ∈ TB := tb5 202 (by decide +kernel) (by decide +kernel)
theorem lk_L_182 : Cond.methodLink RL 182 yL_guess ∈ TB := tb5 206 (by decide +kernel) (by decide +kernel)
theorem lk_L_79 : Cond.methodLink RL 79 yX11_guess ∈ TB := tb5 209 (by decide +kernel) (by decide +kernel)
theorem lk_X11_396 : Cond.methodLink RX11 396 yX2_keep ∈ TB := tb5 213 (by decide +kernel) (by decide +kernel)
theorem lk_L_185 : Cond.methodLink RL 185 yL_stick ∈ TB := tb5 217 (by decide +kernel) (by decide +kernel)
theorem lk_L_82 : Cond.methodLink RL 82 yX11_stick ∈ TB := tb5 220 (by decide +kernel) (by decide +kernel)
theorem lk_X11_400 : Cond.methodLink RX11 400 yX2_reading ∈ TB := tb5 224 (by decide +kernel) (by decide +kernel)
theorem lk_X2_35 : Cond.methodLink RX2 35 yJ9_abs_0f7a4 ∈ TB := tb5 228 (by decide +kernel) (by decide +kernel)
theorem lk_L_188 : Cond.methodLink RL 188 yL_credit ∈ TB := tb5 231 (by decide +kernel) (by decide +kernel)
theorem lk_L_85 : Cond.methodLink RL 85 yX11_credit ∈ TB := tb5 234 (by decide +kernel) (by decide +kernel)
theorem lk_L_91 : Cond.methodLink RL 91 yX12_init ∈ TB := tb6 0 (by decide +kernel) (by decide +kernel)
theorem f_X12_90 : FL RX12 90 12 0 (.int) (some false) := ⟨(RX12, TX12, 42), tyX12, cf_X12, by decide, rfl, (fun b h => by cases h; rfl), (fun h => by cases h), tb6 4 (by decide +kernel) (by decide +kernel)⟩
theorem f_X12_9 : FL RX12 9 12 1 (.array .int) (some true) := ⟨(RX12, TX12, 42), tyX12, cf_X12, by decide, rfl, (fun b h => by cases h; rfl), (fun _ => rfl), tb6 5 (by decide +kernel) (by decide +kernel)⟩
theorem f_X12_13 : FL RX12 13 12 2 (.array .int) (some true) := ⟨(RX12, TX12, 42), tyX12, cf_X12, by decide, rfl, (fun b h => by cases h; rfl), (fun _ => rfl), tb6 6 (by decide +kernel) (by decide +kernel)⟩
theorem f_X12_16 : FL RX12 16 12 3 (.array .int) (some true) := ⟨(RX12, TX12, 42), tyX12, cf_X12, by decide, rfl, (fun b h => by cases h; rfl), (fun _ => rfl), tb6 7 (by decide +kernel) (by decide +kernel)⟩
theorem f_X12_93 : FL RX12 93 12 4 (.int) (some false) := ⟨(RX12, TX12, 42), tyX12, cf_X12, by decide, rfl, (fun b h => by cases h; rfl), (fun h => by cases h), tb6 8 (by decide +kernel) (by decide +kernel)⟩
theorem f_X12_172 : FL RX12 172 12 5 (.int) (some false) := ⟨(RX12, TX12, 42), tyX12, cf_X12, by decide, rfl, (fun b h => by cases h; rfl), (fun h => by cases h), tb6 9 (by decide +kernel) (by decide +kernel)⟩
theorem f_X12_19 : FL RX12 19 12 6 (.array .int) (some true) := ⟨(RX12, TX12, 42), tyX12, cf_X12, by decide, rfl, (fun b h => by cases h; rfl), (fun _ => rfl), tb6 10 (by decide +kernel) (by decide +kernel)⟩
theorem f_X12_22 : FL RX12 22 12 7 (.array .int) (some true) := ⟨(RX12, TX12, 42), tyX12, cf_X12, by decide, rfl, (fun b h => by cases h; rfl), (fun _ => rfl), tb6 11 (by decide +kernel) (by decide +kernel)⟩
theorem f_X12_25 : FL RX12 25 12 8 (.array .int) (some true) := ⟨(RX12, TX12, 42), tyX12, cf_X12, by decide, rfl, (fun b h => by cases h; rfl), (fun _ => rfl), tb6 12 (by decide +kernel) (by decide +kernel)⟩
theorem f_X12_28 : FL RX12 28 12 9 (.array .int) (some true) := ⟨(RX12, TX12, 42), tyX12, cf_X12, by decide, rfl, (fun b h => by cases h; rfl), (fun _ => rfl), tb6 13 (by decide +kernel) (by decide +kernel)⟩
theorem f_X12_31 : FL RX12 31 12 10 (.array .int) (some true) := ⟨(RX12, TX12, 42), tyX12, cf_X12, by decide, rfl, (fun b h => by cases h; rfl), (fun _ => rfl), tb6 14 (by decide +kernel) (by decide +kernel)⟩
theorem f_X12_34 : FL RX12 34 12 11 (.array .int) (some true) := ⟨(RX12, TX12, 42), tyX12, cf_X12, by decide, rfl, (fun b h => by cases h; rfl), (fun _ => rfl), tb6 15 (by decide +kernel) (by decide +kernel)⟩
theorem f_X12_37 : FL RX12 37 12 12 (.array .int) (some true) := ⟨(RX12, TX12, 42), tyX12, cf_X12, by decide, rfl, (fun b h => by cases h; rfl), (fun _ => rfl), tb6 16 (by decide +kernel) (by decide +kernel)⟩
theorem f_X12_100 : FL RX12 100 12 13 (.int) (some false) := ⟨(RX12, TX12, 42), tyX12, cf_X12, by decide, rfl, (fun b h => by cases h; rfl), (fun h => by cases h), tb6 17 (by decide +kernel) (by decide +kernel)⟩
theorem f_X12_106 : FL RX12 106 12 14 (.int) (some false) := ⟨(RX12, TX12, 42), tyX12, cf_X12, by decide, rfl, (fun b h => by cases h; rfl), (fun h => by cases h), tb6 18 (by decide +kernel) (by decide +kernel)⟩
theorem f_X12_103 : FL RX12 103 12 15 (.int) (some false) := ⟨(RX12, TX12, 42), tyX12, cf_X12, by decide, rfl, (fun b h => by cases h; rfl), (fun h => by cases h), tb6 19 (by decide +kernel) (by decide +kernel)⟩
theorem f_X12_116 : FL RX12 116 12 16 (.int) (some false) := ⟨(RX12, TX12, 42), tyX12, cf_X12, by decide, rfl, (fun b h => by cases h; rfl), (fun h => by cases h), tb6 20 (by decide +kernel) (by decide +kernel)⟩
theorem f_X12_126 : FL RX12 126 12 17 (.int) (some false) := ⟨(RX12, TX12, 42), tyX12, cf_X12, by decide, rfl, (fun b h => by cases h; rfl), (fun h => by cases h), tb6 21 (by decide +kernel) (by decide +kernel)⟩
theorem f_X12_113 : FL RX12 113 12 18 (.int) (some false) := ⟨(RX12, TX12, 42), tyX12, cf_X12, by decide, rfl, (fun b h => by cases h; rfl), (fun h => by cases h), tb6 22 (by decide +kernel) (by decide +kernel)⟩
theorem f_X12_136 : FL RX12 136 12 19 (.int) (some false) := ⟨(RX12, TX12, 42), tyX12, cf_X12, by decide, rfl, (fun b h => by cases h; rfl), (fun h => by cases h), tb6 23 (by decide +kernel) (by decide +kernel)⟩
theorem f_X12_139 : FL RX12 139 12 20 (.int) (some false) := ⟨(RX12, TX12, 42), tyX12, cf_X12, by decide, rfl, (fun b h => by cases h; rfl), (fun h => by cases h), tb6 24 (by decide +kernel) (by decide +kernel)⟩
theorem f_X12_142 : FL RX12 142 12 21 (.int) (some false) := ⟨(RX12, TX12, 42), tyX12, cf_X12, by decide, rfl, (fun b h => by cases h; rfl), (fun h => by cases h), tb6 25 (by decide +kernel) (by decide +kernel)⟩
theorem f_X12_40 : FL RX12 40 12 22 (.int) (some false) := ⟨(RX12, TX12, 42), tyX12, cf_X12, by decide, rfl, (fun b h => by cases h; rfl), (fun h => by cases h), tb6 26 (by decide +kernel) (by decide +kernel)⟩
theorem f_X12_44 : FL RX12 44 12 23 (.array .int) (some true) := ⟨(RX12, TX12, 42), tyX12, cf_X12, by decide, rfl, (fun b h => by cases h; rfl), (fun _ => rfl), tb6 27 (by decide +kernel) (by decide +kernel)⟩
theorem f_X12_47 : FL RX12 47 12 24 (.array .int) (some true) := ⟨(RX12, TX12, 42), tyX12, cf_X12, by decide, rfl, (fun b h => by cases h; rfl), (fun _ => rfl), tb6 28 (by decide +kernel) (by decide +kernel)⟩
theorem f_X12_50 : FL RX12 50 12 25 (.int) (some false) := ⟨(RX12, TX12, 42), tyX12, cf_X12, by decide, rfl, (fun b h => by cases h; rfl), (fun h => by cases h), tb6 29 (by decide +kernel) (by decide +kernel)⟩
theorem f_X12_53 : FL RX12 53 12 26 (.array .int) (some true) := ⟨(RX12, TX12, 42), tyX12, cf_X12, by decide, rfl, (fun b h => by cases h; rfl), (fun _ => rfl), tb6 30 (by decide +kernel) (by decide +kernel)⟩
theorem f_X12_56 : FL RX12 56 12 27 (.array .int) (some true) := ⟨(RX12, TX12, 42), tyX12, cf_X12, by decide, rfl, (fun b h => by cases h; rfl), (fun _ => rfl), tb6 31 (by decide +kernel) (by decide +kernel)⟩
theorem f_X12_59 : FL RX12 59 12 28 (.array .int) (some true) := ⟨(RX12, TX12, 42), tyX12, cf_X12, by decide, rfl, (fun b h => by cases h; rfl), (fun _ => rfl), tb6 32 (by decide +kernel) (by decide +kernel)⟩
theorem f_X12_62 : FL RX12 62 12 29 (.int) (some false) := ⟨(RX12, TX12, 42), tyX12, cf_X12, by decide, rfl, (fun b h => by cases h; rfl), (fun h => by cases h), tb6 33 (by decide +kernel) (by decide +kernel)⟩
theorem f_X12_337 : FL RX12 337 12 30 (.int) (some false) := ⟨(RX12, TX12, 42), tyX12, cf_X12, by decide, rfl, (fun b h => by cases h; rfl), (fun h => by cases h), tb6 34 (by decide +kernel) (by decide +kernel)⟩
theorem f_X12_219 : FL RX12 219 12 31 (.int) (some false) := ⟨(RX12, TX12, 42), tyX12, cf_X12, by decide, rfl, (fun b h => by cases h; rfl), (fun h => by cases h), tb6 35 (by decide +kernel) (by decide +kernel)⟩
theorem f_X12_65 : FL RX12 65 12 32 (.int) (some false) := ⟨(RX12, TX12, 42), tyX12, cf_X12, by decide, rfl, (fun b h => by cases h; rfl), (fun h => by cases h), tb6 36 (by decide +kernel) (by decide +kernel)⟩
theorem f_X12_68 : FL RX12 68 12 33 (.int) (some false) := ⟨(RX12, TX12, 42), tyX12, cf_X12, by decide, rfl, (fun b h => by cases h; rfl), (fun h => by cases h), tb6 37 (by decide +kernel) (by decide +kernel)⟩
theorem f_X12_222 : FL RX12 222 12 34 (.int) (some false) := ⟨(RX12, TX12, 42), tyX12, cf_X12, by decide, rfl, (fun b h => by cases h; rfl), (fun h => by cases h), tb6 38 (by decide +kernel) (by decide +kernel)⟩
theorem f_X12_71 : FL RX12 71 12 35 (.array .int) (some true) := ⟨(RX12, TX12, 42), tyX12, cf_X12, by decide, rfl, (fun b h => by cases h; rfl), (fun _ => rfl), tb6 39 (by decide +kernel) (by decide +kernel)⟩
theorem f_X12_74 : FL RX12 74 12 36 (.array .int) (some true) := ⟨(RX12, TX12, 42), tyX12, cf_X12, by decide, rfl, (fun b h => by cases h; rfl), (fun _ => rfl), tb6 40 (by decide +kernel) (by decide +kernel)⟩
theorem f_X12_77 : FL RX12 77 12 37 (.array .int) (some true) := ⟨(RX12, TX12, 42), tyX12, cf_X12, by decide, rfl, (fun b h => by cases h; rfl), (fun _ => rfl), tb6 41 (by decide +kernel) (by decide +kernel)⟩
theorem f_X12_80 : FL RX12 80 12 38 (.array .boolean) (some true) := ⟨(RX12, TX12, 42), tyX12, cf_X12, by decide, rfl, (fun b h => by cases h; rfl), (fun _ => rfl), tb6 42 (by decide +kernel) (by decide +kernel)⟩
theorem f_X12_84 : FL RX12 84 12 39 (.array .int) (some true) := ⟨(RX12, TX12, 42), tyX12, cf_X12, by decide, rfl, (fun b h => by cases h; rfl), (fun _ => rfl), tb6 43 (by decide +kernel) (by decide +kernel)⟩
theorem f_X12_225 : FL RX12 225 12 40 (.boolean) (some false) := ⟨(RX12, TX12, 42), tyX12, cf_X12, by decide, rfl, (fun b h => by cases h; rfl), (fun h => by cases h), tb6 44 (by decide +kernel) (by decide +kernel)⟩
theorem f_X12_87 : FL RX12 87 12 41 (.array .int) (some true) := ⟨(RX12, TX12, 42), tyX12, cf_X12, by decide, rfl, (fun b h => by cases h; rfl), (fun _ => rfl), tb6 45 (by decide +kernel) (by decide +kernel)⟩
theorem lk_L_103 : Cond.methodLink RL 103 yX12_thrown ∈ TB := tb6 132 (by decide +kernel) (by decide +kernel)
theorem lk_L_96 : Cond.methodLink RL 96 yX12_feed ∈ TB := tb6 136 (by decide +kernel) (by decide +kernel)
theorem lk_L_102 : Cond.methodLink RL 102 yX12_yard ∈ TB := tb6 140 (by decide +kernel) (by decide +kernel)
theorem lk_X12_208 : Cond.methodLink RX12 208 yX12_fail ∈ TB := tb6 144 (by decide +kernel) (by decide +kernel)
theorem lk_X12_159 : Cond.methodLink RX12 159 yX12_stepOn ∈ TB := tb6 148 (by decide +kernel) (by decide +kernel)
theorem lk_X12_109 : Cond.methodLink RX12 109 yX12_byteAt ∈ TB := tb6 152 (by decide +kernel) (by decide +kernel)
theorem lk_X12_119 : Cond.methodLink RX12 119 yX12_isLetter ∈ TB := tb6 156 (by decide +kernel) (by decide +kernel)
theorem lk_X12_123 : Cond.methodLink RX12 123 yX12_isDigit ∈ TB := tb6 159 (by decide +kernel) (by decide +kernel)
theorem lk_X12_130 : Cond.methodLink RX12 130 yJ9_min_7cf53 ∈ TB := tb6 163 (by decide +kernel) (by decide +kernel)
theorem lk_X12_211 : Cond.methodLink RX12 211 yX12_readLine ∈ TB := tb6 164 (by decide +kernel) (by decide +kernel)
theorem lk_X12_155 : Cond.methodLink RX12 155 yX12_is ∈ TB := tb6 169 (by decide +kernel) (by decide +kernel)
theorem lk_X12_145 : Cond.methodLink RX12 145 yJ0_length_8abf5 ∈ TB := tb6 173 (by decide +kernel) (by decide +kernel)
theorem lk_X12_151 : Cond.methodLink RX12 151 yJ0_charAt_5068e ∈ TB := tb6 174 (by decide +kernel) (by decide +kernel)
theorem lk_X12_162 : Cond.methodLink RX12 162 yX12_wrong ∈ TB := tb6 177 (by decide +kernel) (by decide +kernel)
theorem lk_X12_169 : Cond.methodLink RX12 169 yX12_readNumber ∈ TB := tb6 181 (by decide +kernel) (by decide +kernel)
theorem lk_X12_199 : Cond.methodLink RX12 199 yX12_readWall ∈ TB := tb6 185 (by decide +kernel) (by decide +kernel)
theorem lk_X12_175 : Cond.methodLink RX12 175 yX12_put ∈ TB := tb6 189 (by decide +kernel) (by decide +kernel)
theorem lk_X12_181 : Cond.methodLink RX12 181 yX12_perhaps ∈ TB := tb6 194 (by decide +kernel) (by decide +kernel)
theorem lk_X12_166 : Cond.methodLink RX12 166 yX12_passes ∈ TB := tb6 198 (by decide +kernel) (by decide +kernel)
theorem lk_X12_202 : Cond.methodLink RX12 202 yX12_readWeek ∈ TB := tb6 206 (by decide +kernel) (by decide +kernel)
theorem lk_X12_205 : Cond.methodLink RX12 205 yX12_semi ∈ TB := tb6 211 (by decide +kernel) (by decide +kernel)
theorem lk_X12_215 : Cond.methodLink RX12 215 yX12_copy ∈ TB := tb6 215 (by decide +kernel) (by decide +kernel)
theorem lk_L_110 : Cond.methodLink RL 110 yX12_fault ∈ TB := tb6 219 (by decide +kernel) (by decide +kernel)
theorem lk_L_113 : Cond.methodLink RL 113 yX12_count ∈ TB := tb6 223 (by decide +kernel) (by decide +kernel)
theorem lk_X12_96 : Cond.methodLink RX12 96 yX12_isIn ∈ TB := tb6 227 (by decide +kernel) (by decide +kernel)
theorem lk_X12_229 : Cond.methodLink RX12 229 yX12_full ∈ TB := tb6 230 (by decide +kernel) (by decide +kernel)
theorem lk_X12_232 : Cond.methodLink RX12 232 yX12_shrink ∈ TB := tb6 234 (by decide +kernel) (by decide +kernel)
theorem lk_X12_235 : Cond.methodLink RX12 235 yX12_green ∈ TB := tb6 238 (by decide +kernel) (by decide +kernel)
theorem lk_X12_238 : Cond.methodLink RX12 238 yX12_of ∈ TB := tb7 2 (by decide +kernel) (by decide +kernel)
theorem lk_L_117 : Cond.methodLink RL 117 yX12_wall ∈ TB := tb7 6 (by decide +kernel) (by decide +kernel)
theorem lk_X12_244 : Cond.methodLink RX12 244 yX12_isWall ∈ TB := tb7 10 (by decide +kernel) (by decide +kernel)
theorem lk_X12_247 : Cond.methodLink RX12 247 yX12_waterIn ∈ TB := tb7 14 (by decide +kernel) (by decide +kernel)
theorem lk_X12_241 : Cond.methodLink RX12 241 yX12_at ∈ TB := tb7 18 (by decide +kernel) (by decide +kernel)
theorem lk_L_121 : Cond.methodLink RL 121 yX12_cell ∈ TB := tb7 21 (by decide +kernel) (by decide +kernel)
theorem lk_X12_279 : Cond.methodLink RX12 279 yX12_isCell ∈ TB := tb7 25 (by decide +kernel) (by decide +kernel)
theorem lk_X12_250 : Cond.methodLink RX12 250 yX12_isLayer ∈ TB := tb7 29 (by decide +kernel) (by decide +kernel)
theorem lk_X12_260 : Cond.methodLink RX12 260 yX12_isCracked ∈ TB := tb7 33 (by decide +kernel) (by decide +kernel)
theorem lk_X12_254 : Cond.methodLink RX12 254 yX12_isHollow ∈ TB := tb7 37 (by decide +kernel) (by decide +kernel)
theorem lk_X12_263 : Cond.methodLink RX12 263 yX12_strength ∈ TB := tb7 41 (by decide +kernel) (by decide +kernel)
theorem lk_X12_257 : Cond.methodLink RX12 257 yJ9_max_7cf53 ∈ TB := tb7 45 (by decide +kernel) (by decide +kernel)
theorem lk_X12_267 : Cond.methodLink RX12 267 yX12_load ∈ TB := tb7 46 (by decide +kernel) (by decide +kernel)
theorem lk_L_125 : Cond.methodLink RL 125 yX12_layer ∈ TB := tb7 50 (by decide +kernel) (by decide +kernel)
theorem lk_X12_273 : Cond.methodLink RX12 273 yX12_bears ∈ TB := tb7 54 (by decide +kernel) (by decide +kernel)
theorem lk_X12_270 : Cond.methodLink RX12 270 yX12_presses ∈ TB := tb7 58 (by decide +kernel) (by decide +kernel)
theorem lk_X12_276 : Cond.methodLink RX12 276 yX12_sits ∈ TB := tb7 62 (by decide +kernel) (by decide +kernel)
theorem lk_L_128 : Cond.methodLink RL 128 yX12_lift ∈ TB := tb7 66 (by decide +kernel) (by decide +kernel)
theorem lk_X12_282 : Cond.methodLink RX12 282 yX12_raise ∈ TB := tb7 70 (by decide +kernel) (by decide +kernel)
theorem lk_L_131 : Cond.methodLink RL 131 yX12_down ∈ TB := tb7 74 (by decide +kernel) (by decide +kernel)
theorem lk_X12_285 : Cond.methodLink RX12 285 yX12_cut ∈ TB := tb7 78 (by decide +kernel) (by decide +kernel)
theorem lk_L_135 : Cond.methodLink RL 135 yX12_hollow ∈ TB := tb7 82 (by decide +kernel) (by decide +kernel)
theorem lk_L_138 : Cond.methodLink RL 138 yX12_weeks ∈ TB := tb7 86 (by decide +kernel) (by decide +kernel)
theorem lk_X12_317 : Cond.methodLink RX12 317 yX12_week ∈ TB := tb7 90 (by decide +kernel) (by decide +kernel)
theorem lk_X12_301 : Cond.methodLink RX12 301 yX12_comeIn ∈ TB := tb7 94 (by decide +kernel) (by decide +kernel)
theorem lk_X12_288 : Cond.methodLink RX12 288 yX12_wet ∈ TB := tb7 98 (by decide +kernel) (by decide +kernel)
theorem lk_X12_304 : Cond.methodLink RX12 304 yX12_move ∈ TB := tb7 102 (by decide +kernel) (by decide +kernel)
theorem lk_X12_292 : Cond.methodLink RX12 292 yX12_see ∈ TB := tb7 106 (by decide +kernel) (by decide +kernel)
theorem lk_X12_295 : Cond.methodLink RX12 295 yX12_flow ∈ TB := tb7 110 (by decide +kernel) (by decide +kernel)
theorem lk_X12_307 : Cond.methodLink RX12 307 yX12_dry ∈ TB := tb7 114 (by decide +kernel) (by decide +kernel)
theorem lk_X12_310 : Cond.methodLink RX12 310 yX12_crack ∈ TB := tb7 118 (by decide +kernel) (by decide +kernel)
theorem lk_X12_314 : Cond.methodLink RX12 314 yX12_sit ∈ TB := tb7 122 (by decide +kernel) (by decide +kernel)
theorem lk_X12_298 : Cond.methodLink RX12 298 yX12_whyOf ∈ TB := tb7 126 (by decide +kernel) (by decide +kernel)
theorem lk_L_141 : Cond.methodLink RL 141 yX12_high ∈ TB := tb7 130 (by decide +kernel) (by decide +kernel)
theorem lk_X12_322 : Cond.methodLink RX12 322 yX12_highOf ∈ TB := tb7 134 (by decide +kernel) (by decide +kernel)
theorem lk_X12_319 : Cond.methodLink RX12 319 yX12_someSits ∈ TB := tb7 138 (by decide +kernel) (by decide +kernel)
theorem lk_L_144 : Cond.methodLink RL 144 yX12_when ∈ TB := tb7 142 (by decide +kernel) (by decide +kernel)
theorem lk_L_147 : Cond.methodLink RL 147 yX12_plan ∈ TB := tb7 146 (by decide +kernel) (by decide +kernel)
theorem lk_X12_325 : Cond.methodLink RX12 325 yX12_planOn ∈ TB := tb7 150 (by decide +kernel) (by decide +kernel)
theorem lk_L_150 : Cond.methodLink RL 150 yX12_planned ∈ TB := tb7 154 (by decide +kernel) (by decide +kernel)
theorem lk_L_153 : Cond.methodLink RL 153 yX12_turned ∈ TB := tb7 158 (by decide +kernel) (by decide +kernel)
theorem lk_L_156 : Cond.methodLink RL 156 yX12_line ∈ TB := tb7 162 (by decide +kernel) (by decide +kernel)
theorem lk_X12_328 : Cond.methodLink RX12 328 yX12_footOf ∈ TB := tb7 166 (by decide +kernel) (by decide +kernel)
theorem lk_L_160 : Cond.methodLink RL 160 yX12_work ∈ TB := tb7 170 (by decide +kernel) (by decide +kernel)
theorem lk_X12_331 : Cond.methodLink RX12 331 yX12_doWork ∈ TB := tb7 174 (by decide +kernel) (by decide +kernel)
theorem lk_L_163 : Cond.methodLink RL 163 yX12_order ∈ TB := tb7 178 (by decide +kernel) (by decide +kernel)
theorem lk_X12_340 : Cond.methodLink RX12 340 yX12_orderOn ∈ TB := tb7 182 (by decide +kernel) (by decide +kernel)
theorem lk_X12_334 : Cond.methodLink RX12 334 yX12_bulges ∈ TB := tb7 186 (by decide +kernel) (by decide +kernel)
theorem lk_L_166 : Cond.methodLink RL 166 yX12_ordered ∈ TB := tb7 190 (by decide +kernel) (by decide +kernel)
theorem lk_L_171 : Cond.methodLink RL 171 yX12_brick ∈ TB := tb7 194 (by decide +kernel) (by decide +kernel)
theorem lk_L_174 : Cond.methodLink RL 174 yX12_mix ∈ TB := tb7 198 (by decide +kernel) (by decide +kernel)
theorem lk_L_178 : Cond.methodLink RL 178 yX12_house ∈ TB := tb7 202 (by decide +kernel) (by decide +kernel)
theorem lk_L_181 : Cond.methodLink RL 181 yX12_first ∈ TB := tb7 206 (by decide +kernel) (by decide +kernel)
theorem lk_L_184 : Cond.methodLink RL 184 yX12_guess ∈ TB := tb7 210 (by decide +kernel) (by decide +kernel)
theorem lk_L_187 : Cond.methodLink RL 187 yX12_stick ∈ TB := tb7 214 (by decide +kernel) (by decide +kernel)
theorem lk_X12_343 : Cond.methodLink RX12 343 yX12_knows ∈ TB := tb7 218 (by decide +kernel) (by decide +kernel)
theorem lk_X12_346 : Cond.methodLink RX12 346 yJ9_abs_0f7a4 ∈ TB := tb7 222 (by decide +kernel) (by decide +kernel)
theorem lk_L_190 : Cond.methodLink RL 190 yX12_credit ∈ TB := tb7 223 (by decide +kernel) (by decide +kernel)
theorem lk_L_194 : Cond.methodLink RL 194 yX12_where ∈ TB := tb7 227 (by decide +kernel) (by decide +kernel)
theorem lk_L_198 : Cond.methodLink RL 198 yX12_image ∈ TB := tb7 231 (by decide +kernel) (by decide +kernel)
theorem lk_L_203 : Cond.methodLink RL 203 yX12_restore ∈ TB := tb7 235 (by decide +kernel) (by decide +kernel)
end
section
section JUDGE
/-- the constants of text: owner, entry, text, number -/
def strT : List (String × Nat × String × Nat) := [
  ("MudWalls$Reader", 52, "earth", 0), ("MudWalls$Reader", 61, "wall", 1), ("MudWalls$Reader", 66, "week", 2), ("MudWalls$Reader", 93, "ground", 3), ("MudWalls$Reader", 99, "shoes", 4), ("MudWalls$Reader", 101, "hat", 5), ("MudWalls$Reader", 106, "outer", 6), ("MudWalls$Reader", 108, "inner", 7), ("MudWalls$Reader", 116, "frost", 8),
  ("MudWallsModel", 194, "earth", 9), ("MudWallsModel", 195, "wall", 10), ("MudWallsModel", 197, "week", 11), ("MudWallsModel", 179, "ground", 12), ("MudWallsModel", 185, "shoes", 13), ("MudWallsModel", 187, "hat", 14), ("MudWallsModel", 189, "outer", 15), ("MudWallsModel", 191, "inner", 16), ("MudWallsModel", 193, "frost", 17),
  ("MudWalls", 132, "the tape has not so many bytes", 18), ("MudWalls", 186, "no such count", 19), ("MudWalls", 195, "no such wall", 20), ("MudWalls", 204, "no such layer", 21), ("MudWalls", 213, "no such cell", 22), ("MudWalls", 245, "no such trait of a wall", 23), ("MudWalls", 270, "no such trait of a cell", 24), ("MudWalls", 281, "no such trait of a layer", 25), ("MudWalls", 300, "a number not as told", 26), ("MudWalls", 302, "no such thing is told", 27), ("MudWalls", 320, "no such week of a plan", 28), ("MudWalls", 326, "both are one wall", 29), ("MudWalls", 355, "no such work of an order", 30), ("MudWalls", 376, "no such thing of a mix", 31)]
/-- the bytes of the nine words -/
def wordsT : List (List Nat) := [[101, 97, 114, 116, 104], [119, 97, 108, 108], [119, 101, 101, 107], [103, 114, 111, 117, 110, 100], [115, 104, 111, 101, 115], [104, 97, 116], [111, 117, 116, 101, 114], [105, 110, 110, 101, 114], [102, 114, 111, 115, 116]]
def wordB (i : Nat) : List Nat := wordsT.getD (i % 9) []
/-- what a text constant holds -/
def strC (E : VE) (i : Nat) (U : State) : Prop := ∃ a : Nat, va_O "java/lang/String" (E.2.2.1 i) (AE E) U U.heap ∧ va_OF "java/lang/String" "coder" "B" (.int 0) (E.2.2.1 i) (AE E) U U.heap ∧ va_OF "java/lang/String" "value" "[B" (.ref a) (E.2.2.1 i) (AE E) U U.heap ∧ va_T .byte a (wordB i).length (fun j => .int (nI ((wordB i).getD j 0))) (AE E) U U.heap
/-- what holds of every start: kinds and arrays, texts, what a throw needs -/
def KX (E : VE) (U : State) : Prop := E.2.1 ≤ U.heap.size ∧ va_K E.1 vwCl (tysOf E) U ∧ (∀ q ∈ strT, vk_R q.1 q.2.1 q.2.2.1 (E.2.2.1 q.2.2.2) U) ∧ (∀ i, i < 18 → strC E i U) ∧
  vx_Zq Bundle.tN "UNASSIGNED_STACK" Bundle.steD (AE E) U U.heap ∧ vx_Zq Bundle.tN "SUPPRESSED_SENTINEL" Bundle.listD (AE E) U U.heap ∧
  va_Z "java/lang/String" "COMPACT_STRINGS" "Z" (.int 1) (AE E) U U.heap
theorem KX.moved {E : VE} {s U : State} (h : KX E s) (hW : s.WarmedH U.vm) (hz : s.heap.size ≤ U.heap.size) (hk : ∀ a : Nat, a < s.heap.size → ¬ AE E a → U.heap[a]? = s.heap[a]?) : KX E U := by
  obtain ⟨h1, h2, h3, h4, h5, h6, h7⟩ := h
  refine ⟨Nat.le_trans h1 hz, va_K.moved hW.alike h2, fun q hq => vk_R.warm hW (h3 q hq), fun i hi => ?_, vx_Zq.moved hW.alike (h5.kept hk), vx_Zq.moved hW.alike (h6.kept hk), va_Z.moved hW.alike (h7.kept hk)⟩
  obtain ⟨a, r1, r2, r3, r4⟩ := h4 i hi
  exact ⟨a, va_O.moved hW.alike (r1.kept hk), va_OF.moved hW.alike (r2.kept hk), va_OF.moved hW.alike (r3.kept hk), va_T.moved hW.alike (r4.kept hk)⟩
/-- where a method is walked: its owner, its bytes, its locals, how deep calls may go -/
def CX (k : MC) (E : VE) (md : MD) (d mc ms : Nat) : Prop :=
  k.1.tables.exec = Jvm.exec ∧ (kC k).code = md.2.1 ∧ (kC k).maxLocals = md.2.2.1 ∧ (kS k).vm.findClass md.1.cls = some (kM k).cls ∧ (∀ w ∈ TB, w.before (kA k) (kS k) = true) ∧ KX E (kS k) ∧
  (kMe k).locks = false ∧ (kMe k).sig.returnType = md.2.2.2 ∧ (kMe k).name = md.1.name ∧ k.2.1.stackTraces = false ∧ (∀ x ∈ (kC k).exceptionTable.toList, False) ∧
  kR k = { frames := d, cells := mc, slots := ms, locals := 40 * d }
/-- the machine at a place of the method, with these numbers in the world, comes to Q -/
def PT (k : MC) (E : VE) (Q : State → Prop) (cm sm : Nat) (Sh : Nat → SE) (N : Nat) (G : Bool) (M : MM) (pc : Nat) (L : List (Option Value)) (st : List Value) : Prop :=
  ∀ (ls : Array Slot) (H : Heap) (locs : List Loc) (cells slots : Nat), LR E L ls → HR E Sh N G M H → va_S (AE E) (kS k).heap H locs → cells + cm ≤ (kR k).cells → slots + sm ≤ (kR k).slots →
    W k.1 k.2.1 k.2.2.1 (kR k) (kS k) (kM k) (kA k) (kB k) (kMe k) (kC k) H locs cells slots Q (F0 (kM k) pc ls (st.map (cv E)))
def QC (E : VE) (G : Bool) (Post : Option Value → (Nat → SE) → Nat → MM → Prop) : Array Value → State → Outcome → State → Prop := fun _ st o t =>
  (∃ r Sh N M, o = .returned (r.map (cv E)) ∧ Post r Sh N M ∧ HR E Sh N G M t.heap) ∧ va_F (AE E) st t
def XF (E : VE) (PX : String → Prop) (Sh : Nat → SE) (N : Nat) (M : MM) : String → State → State → Prop := fun X st t => PX X ∧ HR E Sh N false M t.heap ∧ va_F (AE E) st t
/-- a method's contract, at these arguments and these numbers -/
def Con (E : VE) (md : MD) (d mc ms : Nat) (av : List Value) (Sh : Nat → SE) (N : Nat) (G : Bool) (M : MM) (Post : Option Value → (Nat → SE) → Nat → MM → Prop) (PX : String → Prop) : Prop :=
  ∀ l : Launch, l.stackTraces = false → vx_Met l md.1 (Cond.code md.1 md.2.1 md.2.2.1 md.2.2.2 :: TB) { frames := d, cells := mc, slots := ms, locals := 40 * d }
    (va_Pc (av.map (cv E)) (fun U => HR E Sh N G M U.heap ∧ KX E U)) (QC E G Post) (XF E PX Sh N M) mc ms (AE E)
/-- what a method owes at its end -/
abbrev QM (k : MC) (E : VE) (mc ms : Nat) (Sh : Nat → SE) (N : Nat) (G : Bool) (M : MM) (Post : Option Value → (Nat → SE) → Nat → MM → Prop) (PX : String → Prop) : State → Prop :=
  vx_MQ (kB k) (QC E G Post) (XF E PX Sh N M) (kA k) (kS k) mc ms (AE E)
theorem sl_one (E : VE) : ∀ (av : List Value), (∀ v ∈ av, v.category = 1) → lg_sl (av.map (cv E)) = av.map (fun v => Slot.val (cv E v))
  | [], _ => by simp [lg_sl]
  | v :: t, h => by
    have ih := sl_one E t (fun w hw => h w (List.mem_cons_of_mem _ hw))
    have hv := h v List.mem_cons_self
    cases v <;> first | (simp [Value.category] at hv; done) | (simp [lg_sl, cv, Value.category] at ih ⊢; first | exact ih | simp [ih])
theorem LR.entry (E : VE) (av : List Value) (n : Nat) (h1 : ∀ v ∈ av, v.category = 1) (hn : av.length ≤ n) :
    LR E (av.map some ++ List.replicate (n - av.length) none) ((lg_sl (av.map (cv E)) ++ List.replicate (n - (lg_sl (av.map (cv E))).length) Slot.unset).toArray) := by
  have e := sl_one E av h1
  have el : (lg_sl (av.map (cv E))).length = av.length := by rw [e]; simp
  have h := lv_entry (av.map (cv E)) (n := n) (by rw [el]; exact hn)
  refine ⟨by rw [h.1]; simp; omega, h.2.1, fun i v hv => ?_⟩
  by_cases hi : i < av.length
  · rw [List.getElem?_append_left (by simp; exact hi)] at hv
    simp [hi] at hv
    refine ⟨by rw [← hv]; exact h1 _ (List.getElem_mem hi), ?_⟩
    rw [e]
    show (List.map (fun v => Slot.val (cv E v)) av ++ List.replicate _ Slot.unset).toArray[i]? = _
    rw [List.getElem?_toArray, List.getElem?_append_left (by simp; exact hi)]
    simp [hi, hv]
  · rw [List.getElem?_append_right (by simp; omega)] at hv
    simp [List.getElem?_replicate] at hv
/-- a contract out of the walk of its body -/
theorem Con.of {E : VE} {md : MD} {d mc ms : Nat} {av : List Value} {Sh : Nat → SE} {N : Nat} {G : Bool} {M : MM} {Post : Option Value → (Nat → SE) → Nat → MM → Prop} {PX : String → Prop}
    (hy : plainName md.1.cls = true) (h1 : ∀ v ∈ av, v.category = 1) (hn : av.length ≤ md.2.2.1)
    (body : ∀ k : MC, CX k E md d mc ms → PT k E (QM k E mc ms Sh N G M Post PX) mc ms Sh N G M 0 (av.map some ++ List.replicate (md.2.2.1 - av.length) none) []) : Con E md d mc ms av Sh N G M Post PX := by
  intro l hl
  refine vx_ofW (cc := md.2.1) (maxL := md.2.2.1) (ret := md.2.2.2) hy rfl ?_
  intro p e s m args below meth c s₁ B hml hex hv
  obtain ⟨rfl, hH, hK⟩ := hv
  have hts : ∀ w ∈ TB, w.before (av.map (cv E)).toArray s = true := fun w hw => atoms_spec (ws := Cond.code md.1 md.2.1 md.2.2.1 md.2.2.2 :: TB) B.pre w (List.mem_cons_of_mem _ hw)
  have hC : CX (p, l, e, { frames := d, cells := mc, slots := ms, locals := 40 * d }, s, m, (av.map (cv E)).toArray, below, meth, c) E md d mc ms :=
    ⟨B.exec, B.bytes, hml, findClass_of_methodNamed B.named, hts, hK, B.notSynchronized, B.returns, (name_of_methodNamed B.named B.method).1, hl, hex, rfl⟩
  have hb := body _ hC
  rw [lg_entry_eq]
  exact hb _ s.heap [] 0 0 (LR.entry E av md.2.2.1 h1 hn) hH va_S.rf (by show 0 + mc ≤ mc; omega) (by show 0 + ms ≤ ms; omega)
end JUDGE
end
section
section ROWS
/-- the instruction at a place -/
def cod (kd : List (Nat × Instr × Nat)) (pc : Nat) : Option (Instr × Nat) := kd.lookup pc
theorem cod_ok {cc : ByteArray} : ∀ {kd : List (Nat × Instr × Nat)}, (∀ q ∈ kd, decode cc q.1 = .ok q.2) → ∀ {pc : Nat} {x : Instr × Nat}, cod kd pc = some x → decode cc pc = .ok x
  | [], _, pc, x, h => by simp [cod] at h
  | (a, b) :: t, hk, pc, x, h => by
    unfold cod at h
    by_cases e : pc = a
    · subst e
      simp [List.lookup] at h
      rw [← h]
      exact hk (pc, b) List.mem_cons_self
    · have e' : (pc == a) = false := by simp [e]
      rw [List.lookup, e'] at h
      exact cod_ok (fun q hq => hk q (List.mem_cons_of_mem _ hq)) (by unfold cod; exact h)
/-- a method is walked, its instructions known -/
def CK (k : MC) (E : VE) (md : MD) (kd : List (Nat × Instr × Nat)) (d mc ms : Nat) : Prop := CX k E md d mc ms ∧ ∀ q ∈ kd, decode md.2.1 q.1 = .ok q.2
section CKS
variable {k : MC} {E : VE} {md : MD} {kd : List (Nat × Instr × Nat)} {d mc ms : Nat}
theorem CK.x (C : CK k E md kd d mc ms) : k.1.tables.exec = Jvm.exec := C.1.1
theorem CK.b (C : CK k E md kd d mc ms) : (kC k).code = md.2.1 := C.1.2.1
theorem CK.ml (C : CK k E md kd d mc ms) : (kC k).maxLocals = md.2.2.1 := C.1.2.2.1
theorem CK.own (C : CK k E md kd d mc ms) : (kS k).vm.findClass md.1.cls = some (kM k).cls := C.1.2.2.2.1
theorem CK.ts (C : CK k E md kd d mc ms) : ∀ w ∈ TB, w.before (kA k) (kS k) = true := C.1.2.2.2.2.1
theorem CK.K (C : CK k E md kd d mc ms) : KX E (kS k) := C.1.2.2.2.2.2.1
theorem CK.lk (C : CK k E md kd d mc ms) : (kMe k).locks = false := C.1.2.2.2.2.2.2.1
theorem CK.rt (C : CK k E md kd d mc ms) : (kMe k).sig.returnType = md.2.2.2 := C.1.2.2.2.2.2.2.2.1
theorem CK.nm (C : CK k E md kd d mc ms) : (kMe k).name = md.1.name := C.1.2.2.2.2.2.2.2.2.1
theorem CK.tr (C : CK k E md kd d mc ms) : k.2.1.stackTraces = false := C.1.2.2.2.2.2.2.2.2.2.1
theorem CK.ex (C : CK k E md kd d mc ms) : ∀ x ∈ (kC k).exceptionTable.toList, False := C.1.2.2.2.2.2.2.2.2.2.2.1
theorem CK.rm (C : CK k E md kd d mc ms) : kR k = { frames := d, cells := mc, slots := ms, locals := 40 * d } := C.1.2.2.2.2.2.2.2.2.2.2.2
theorem CK.dec (C : CK k E md kd d mc ms) {pc : Nat} {x : Instr × Nat} (h : cod kd pc = some x) : decode md.2.1 pc = .ok x := cod_ok C.2 h
theorem CK.va (C : CK k E md kd d mc ms) : va_K E.1 vwCl (tysOf E) (kS k) := C.K.2.1
end CKS
/-- the known locals as the kit lists them -/
def lvOf (E : VE) (L : List (Option Value)) : List (Nat × Value) := L.zipIdx.filterMap (fun q => q.1.map (fun v => (q.2, cv E v)))
theorem lvOf_mem {E : VE} {L : List (Option Value)} {j : Nat} {w : Value} : (j, w) ∈ lvOf E L ↔ ∃ v, L[j]? = some (some v) ∧ w = cv E v := by
  unfold lvOf
  rw [List.mem_filterMap]
  constructor
  · rintro ⟨⟨o, i⟩, h1, h2⟩
    rw [List.mem_zipIdx_iff_getElem?] at h1
    cases o with
    | none => simp at h2
    | some v =>
      simp at h2
      obtain ⟨rfl, rfl⟩ := h2
      exact ⟨v, h1, rfl⟩
  · rintro ⟨v, h1, rfl⟩
    exact ⟨(some v, j), List.mem_zipIdx_iff_getElem?.mpr h1, rfl⟩
theorem LR.has {E : VE} {L : List (Option Value)} {ls : Array Slot} (h : LR E L ls) : lv_has ls L.length (lvOf E L) := by
  refine ⟨h.1, h.2.1, fun q hq => ?_⟩
  obtain ⟨v, h1, h2⟩ := lvOf_mem.mp (show (q.1, q.2) ∈ lvOf E L from hq)
  rw [h2]
  exact (h.2.2 q.1 v h1).2
theorem LR.set {E : VE} {L : List (Option Value)} {ls ls' : Array Slot} {i : Nat} {v : Value} (h : LR E L ls) (hv : v.category = 1) (h' : lv_has ls' L.length ((i, cv E v) :: (lvOf E L).filter (fun q => !(q.1 == i) && !(q.1 + 1 == i && q.2.category == 2)))) : LR E (L.set i (some v)) ls' := by
  refine ⟨by rw [h'.1]; simp, h'.2.1, fun j w hw => ?_⟩
  rw [List.getElem?_set] at hw
  by_cases e : i = j
  · subst e
    by_cases hl : i < L.length
    · simp [hl] at hw
      subst hw
      exact ⟨hv, h'.2.2 (i, cv E v) List.mem_cons_self⟩
    · simp [hl] at hw
  · rw [if_neg e] at hw
    obtain ⟨c1, -⟩ := h.2.2 j w hw
    refine ⟨c1, h'.2.2 (j, cv E w) (List.mem_cons_of_mem _ (List.mem_filter.mpr ⟨lvOf_mem.mpr ⟨w, hw, rfl⟩, ?_⟩))⟩
    simp [Ne.symm e, cv_cat, c1]
variable {k : MC} {E : VE} {md : MD} {kd : List (Nat × Instr × Nat)} {d mc ms : Nat} {Q : State → Prop} {cm sm : Nat} {Sh : Nat → SE} {N : Nat} {G : Bool} {M : MM} {pc : Nat} {L : List (Option Value)} {st : List Value}
theorem r_ic (C : CK k E md kd d mc ms) {n : Int} {v : Int32} (hd : cod kd pc = some (.iconst n, 1)) (hv : Int32.ofInt n = v) (kk : PT k E Q cm sm Sh N G M (pc + 1) L (.int v :: st)) : PT k E Q cm sm Sh N G M pc L st := by
  intro ls H locs cells slots hL hH hS hc hs
  exact lv_iconst C.x C.b (C.dec hd) hv (kk ls H locs cells slots hL hH hS hc hs)
theorem r_bi (C : CK k E md kd d mc ms) {n : Int} {v : Int32} (hd : cod kd pc = some (.bipush n, 2)) (hv : (Int8.ofInt n).toInt32 = v) (kk : PT k E Q cm sm Sh N G M (pc + 2) L (.int v :: st)) : PT k E Q cm sm Sh N G M pc L st := by
  intro ls H locs cells slots hL hH hS hc hs
  exact lv_bipush C.x C.b (C.dec hd) hv (kk ls H locs cells slots hL hH hS hc hs)
theorem r_si (C : CK k E md kd d mc ms) {n : Int} {v : Int32} (hd : cod kd pc = some (.sipush n, 3)) (hv : (Int16.ofInt n).toInt32 = v) (kk : PT k E Q cm sm Sh N G M (pc + 3) L (.int v :: st)) : PT k E Q cm sm Sh N G M pc L st := by
  intro ls H locs cells slots hL hH hS hc hs
  exact lv_sipush C.x C.b (C.dec hd) hv (kk ls H locs cells slots hL hH hS hc hs)
theorem r_iload_n (C : CK k E md kd d mc ms) {f : Fin 4} (i : Nat) {x : Int32} (hd : cod kd pc = some (.iload_n f, 1)) (hi : (f : Nat) = i) (hl : L[i]? = some (some (.int x))) (kk : PT k E Q cm sm Sh N G M (pc + 1) L (.int x :: st)) : PT k E Q cm sm Sh N G M pc L st := by
  intro ls H locs cells slots hL hH hS hc hs
  exact lv_iload_n C.x C.b (C.dec hd) hi (hL.2.2 _ _ hl).2 (kk ls H locs cells slots hL hH hS hc hs)
theorem r_iload (C : CK k E md kd d mc ms) {i : Nat} {x : Int32} (hd : cod kd pc = some (.iload i, 2)) (hl : L[i]? = some (some (.int x))) (kk : PT k E Q cm sm Sh N G M (pc + 2) L (.int x :: st)) : PT k E Q cm sm Sh N G M pc L st := by
  intro ls H locs cells slots hL hH hS hc hs
  exact lv_iload C.x C.b (C.dec hd) (hL.2.2 _ _ hl).2 (kk ls H locs cells slots hL hH hS hc hs)
def isR (v : Value) : Bool := match v with
  | .ref _ => true
  | .retAddr _ => true
  | _ => false
theorem isR_ref (E : VE) {v : Value} (h : isR v = true) : ∃ a, cv E v = .ref a ∧ v.category = 1 := by cases v <;> simp [isR] at h <;> exact ⟨_, rfl, rfl⟩
theorem r_aload_n (C : CK k E md kd d mc ms) {f : Fin 4} (i : Nat) {v : Value} (hd : cod kd pc = some (.aload_n f, 1)) (hi : (f : Nat) = i) (hl : L[i]? = some (some v)) (hv : isR v = true) (kk : PT k E Q cm sm Sh N G M (pc + 1) L (v :: st)) : PT k E Q cm sm Sh N G M pc L st := by
  intro ls H locs cells slots hL hH hS hc hs
  obtain ⟨a, ha, -⟩ := isR_ref E hv
  have h2 := kk ls H locs cells slots hL hH hS hc hs
  rw [List.map_cons, ha] at h2
  exact lv_aload_n C.x C.b (C.dec hd) hi (by rw [← ha]; exact (hL.2.2 _ _ hl).2) h2
theorem r_aload (C : CK k E md kd d mc ms) {i : Nat} {v : Value} (hd : cod kd pc = some (.aload i, 2)) (hl : L[i]? = some (some v)) (hv : isR v = true) (kk : PT k E Q cm sm Sh N G M (pc + 2) L (v :: st)) : PT k E Q cm sm Sh N G M pc L st := by
  intro ls H locs cells slots hL hH hS hc hs
  obtain ⟨a, ha, -⟩ := isR_ref E hv
  have h2 := kk ls H locs cells slots hL hH hS hc hs
  rw [List.map_cons, ha] at h2
  exact lv_aload C.x C.b (C.dec hd) (by rw [← ha]; exact (hL.2.2 _ _ hl).2) h2
theorem r_istore_n (C : CK k E md kd d mc ms) {f : Fin 4} (i : Nat) {x : Int32} (hd : cod kd pc = some (.istore_n f, 1)) (hi : (f : Nat) = i) (hn : i < L.length) (kk : PT k E Q cm sm Sh N G M (pc + 1) (L.set i (some (.int x))) st) : PT k E Q cm sm Sh N G M pc L (.int x :: st) := by
  intro ls H locs cells slots hL hH hS hc hs
  exact lv_istore_n C.x C.b (C.dec hd) hi hL.has hn rfl (fun ls' h' => kk ls' H locs cells slots (hL.set (v := .int x) rfl h') hH hS hc hs)
theorem r_istore (C : CK k E md kd d mc ms) {i : Nat} {x : Int32} (hd : cod kd pc = some (.istore i, 2)) (hn : i < L.length) (kk : PT k E Q cm sm Sh N G M (pc + 2) (L.set i (some (.int x))) st) : PT k E Q cm sm Sh N G M pc L (.int x :: st) := by
  intro ls H locs cells slots hL hH hS hc hs
  exact lv_istore C.x C.b (C.dec hd) hL.has hn rfl (fun ls' h' => kk ls' H locs cells slots (hL.set (v := .int x) rfl h') hH hS hc hs)
theorem r_astore_n (C : CK k E md kd d mc ms) {f : Fin 4} (i : Nat) {v : Value} (hd : cod kd pc = some (.astore_n f, 1)) (hi : (f : Nat) = i) (hn : i < L.length) (hv : isR v = true) (kk : PT k E Q cm sm Sh N G M (pc + 1) (L.set i (some v)) st) : PT k E Q cm sm Sh N G M pc L (v :: st) := by
  intro ls H locs cells slots hL hH hS hc hs
  obtain ⟨a, ha, hc1⟩ := isR_ref E hv
  rw [List.map_cons, ha]
  exact lv_astore_n C.x C.b (C.dec hd) hi hL.has hn rfl (fun ls' h' => kk ls' H locs cells slots (hL.set (v := v) hc1 (by rw [ha]; exact h')) hH hS hc hs)
theorem r_astore (C : CK k E md kd d mc ms) {i : Nat} {v : Value} (hd : cod kd pc = some (.astore i, 2)) (hn : i < L.length) (hv : isR v = true) (kk : PT k E Q cm sm Sh N G M (pc + 2) (L.set i (some v)) st) : PT k E Q cm sm Sh N G M pc L (v :: st) := by
  intro ls H locs cells slots hL hH hS hc hs
  obtain ⟨a, ha, hc1⟩ := isR_ref E hv
  rw [List.map_cons, ha]
  exact lv_astore C.x C.b (C.dec hd) hL.has hn rfl (fun ls' h' => kk ls' H locs cells slots (hL.set (v := v) hc1 (by rw [ha]; exact h')) hH hS hc hs)
theorem r_iinc (C : CK k E md kd d mc ms) {i : Nat} {n : Int} {x c : Int32} (hd : cod kd pc = some (.iinc i n, 3)) (hl : L[i]? = some (some (.int x))) (hv : Int32.ofInt n = c) (kk : PT k E Q cm sm Sh N G M (pc + 3) (L.set i (some (.int (x + c)))) st) : PT k E Q cm sm Sh N G M pc L st := by
  intro ls H locs cells slots hL hH hS hc hs
  have hn : i < L.length := (List.getElem?_eq_some_iff.mp hl).1
  obtain ⟨j, hj⟩ := List.getElem?_of_mem (lvOf_mem.mpr ⟨_, hl, rfl⟩ : (i, cv E (.int x)) ∈ lvOf E L)
  exact lv_iinc (v := x + c) C.x C.b (C.dec hd) hL.has hj (by rw [hv]) hn rfl (fun ls' h' => kk ls' H locs cells slots (hL.set (v := .int (x + c)) rfl h') hH hS hc hs)
theorem r_iadd (C : CK k E md kd d mc ms) {x y : Int32} (hd : cod kd pc = some (.iadd, 1)) (kk : PT k E Q cm sm Sh N G M (pc + 1) L (.int (x + y) :: st)) : PT k E Q cm sm Sh N G M pc L (.int y :: .int x :: st) := by
  intro ls H locs cells slots hL hH hS hc hs
  exact lv_iadd C.x C.b (C.dec hd) (kk ls H locs cells slots hL hH hS hc hs)
theorem r_isub (C : CK k E md kd d mc ms) {x y : Int32} (hd : cod kd pc = some (.isub, 1)) (kk : PT k E Q cm sm Sh N G M (pc + 1) L (.int (x - y) :: st)) : PT k E Q cm sm Sh N G M pc L (.int y :: .int x :: st) := by
  intro ls H locs cells slots hL hH hS hc hs
  exact lv_isub C.x C.b (C.dec hd) (kk ls H locs cells slots hL hH hS hc hs)
theorem r_imul (C : CK k E md kd d mc ms) {x y : Int32} (hd : cod kd pc = some (.imul, 1)) (kk : PT k E Q cm sm Sh N G M (pc + 1) L (.int (x * y) :: st)) : PT k E Q cm sm Sh N G M pc L (.int y :: .int x :: st) := by
  intro ls H locs cells slots hL hH hS hc hs
  exact lv_imul C.x C.b (C.dec hd) (kk ls H locs cells slots hL hH hS hc hs)
theorem r_iand (C : CK k E md kd d mc ms) {x y : Int32} (hd : cod kd pc = some (.iand, 1)) (kk : PT k E Q cm sm Sh N G M (pc + 1) L (.int (x &&& y) :: st)) : PT k E Q cm sm Sh N G M pc L (.int y :: .int x :: st) := by
  intro ls H locs cells slots hL hH hS hc hs
  exact lv_iand C.x C.b (C.dec hd) (kk ls H locs cells slots hL hH hS hc hs)
theorem r_ior (C : CK k E md kd d mc ms) {x y : Int32} (hd : cod kd pc = some (.ior, 1)) (kk : PT k E Q cm sm Sh N G M (pc + 1) L (.int (x ||| y) :: st)) : PT k E Q cm sm Sh N G M pc L (.int y :: .int x :: st) := by
  intro ls H locs cells slots hL hH hS hc hs
  exact lv_ior C.x C.b (C.dec hd) (kk ls H locs cells slots hL hH hS hc hs)
theorem r_ixor (C : CK k E md kd d mc ms) {x y : Int32} (hd : cod kd pc = some (.ixor, 1)) (kk : PT k E Q cm sm Sh N G M (pc + 1) L (.int (x ^^^ y) :: st)) : PT k E Q cm sm Sh N G M pc L (.int y :: .int x :: st) := by
  intro ls H locs cells slots hL hH hS hc hs
  exact lv_ixor C.x C.b (C.dec hd) (kk ls H locs cells slots hL hH hS hc hs)
theorem r_ishl (C : CK k E md kd d mc ms) {x y : Int32} (hd : cod kd pc = some (.ishl, 1)) (kk : PT k E Q cm sm Sh N G M (pc + 1) L (.int (x <<< (y &&& 31)) :: st)) : PT k E Q cm sm Sh N G M pc L (.int y :: .int x :: st) := by
  intro ls H locs cells slots hL hH hS hc hs
  exact lv_ishl C.x C.b (C.dec hd) (kk ls H locs cells slots hL hH hS hc hs)
theorem r_ishr (C : CK k E md kd d mc ms) {x y : Int32} (hd : cod kd pc = some (.ishr, 1)) (kk : PT k E Q cm sm Sh N G M (pc + 1) L (.int (x >>> (y &&& 31)) :: st)) : PT k E Q cm sm Sh N G M pc L (.int y :: .int x :: st) := by
  intro ls H locs cells slots hL hH hS hc hs
  exact lv_ishr C.x C.b (C.dec hd) (kk ls H locs cells slots hL hH hS hc hs)
theorem r_idiv (C : CK k E md kd d mc ms) {x y : Int32} (hd : cod kd pc = some (.idiv, 1)) (hn : ¬ y = 0) (kk : PT k E Q cm sm Sh N G M (pc + 1) L (.int (x / y) :: st)) : PT k E Q cm sm Sh N G M pc L (.int y :: .int x :: st) := by
  intro ls H locs cells slots hL hH hS hc hs
  exact lv_idiv C.x C.b (C.dec hd) hn (kk ls H locs cells slots hL hH hS hc hs)
theorem r_irem (C : CK k E md kd d mc ms) {x y : Int32} (hd : cod kd pc = some (.irem, 1)) (hn : ¬ y = 0) (kk : PT k E Q cm sm Sh N G M (pc + 1) L (.int (x - x / y * y) :: st)) : PT k E Q cm sm Sh N G M pc L (.int y :: .int x :: st) := by
  intro ls H locs cells slots hL hH hS hc hs
  exact lv_irem C.x C.b (C.dec hd) hn (kk ls H locs cells slots hL hH hS hc hs)
theorem r_ineg (C : CK k E md kd d mc ms) {x : Int32} (hd : cod kd pc = some (.ineg, 1)) (kk : PT k E Q cm sm Sh N G M (pc + 1) L (.int (-x) :: st)) : PT k E Q cm sm Sh N G M pc L (.int x :: st) := by
  intro ls H locs cells slots hL hH hS hc hs
  exact lv_ineg C.x C.b (C.dec hd) (kk ls H locs cells slots hL hH hS hc hs)
theorem r_i2l (C : CK k E md kd d mc ms) {x : Int32} (hd : cod kd pc = some (.i2l, 1)) (kk : PT k E Q cm sm Sh N G M (pc + 1) L (.long x.toInt64 :: st)) : PT k E Q cm sm Sh N G M pc L (.int x :: st) := by
  intro ls H locs cells slots hL hH hS hc hs
  exact lv_i2l C.x C.b (C.dec hd) rfl (kk ls H locs cells slots hL hH hS hc hs)
theorem r_i2b (C : CK k E md kd d mc ms) {x : Int32} (hd : cod kd pc = some (.i2b, 1)) (kk : PT k E Q cm sm Sh N G M (pc + 1) L (.int x.toInt8.toInt32 :: st)) : PT k E Q cm sm Sh N G M pc L (.int x :: st) := by
  intro ls H locs cells slots hL hH hS hc hs
  exact lv_i2b C.x C.b (C.dec hd) rfl (kk ls H locs cells slots hL hH hS hc hs)
theorem r_dup (C : CK k E md kd d mc ms) {v : Value} (hd : cod kd pc = some (.dup, 1)) (hv : v.category = 1) (kk : PT k E Q cm sm Sh N G M (pc + 1) L (v :: v :: st)) : PT k E Q cm sm Sh N G M pc L (v :: st) := by
  intro ls H locs cells slots hL hH hS hc hs
  exact lv_dup C.x C.b (C.dec hd) (by rw [cv_cat]; exact hv) (kk ls H locs cells slots hL hH hS hc hs)
theorem r_pop (C : CK k E md kd d mc ms) {v : Value} (hd : cod kd pc = some (.pop, 1)) (hv : v.category = 1) (kk : PT k E Q cm sm Sh N G M (pc + 1) L st) : PT k E Q cm sm Sh N G M pc L (v :: st) := by
  intro ls H locs cells slots hL hH hS hc hs
  exact lv_pop C.x C.b (C.dec hd) (by rw [cv_cat]; exact hv) (kk ls H locs cells slots hL hH hS hc hs)
theorem r_dup2 (C : CK k E md kd d mc ms) {v u : Value} (hd : cod kd pc = some (.dup2, 1)) (hv : v.category = 1) (hu : u.category = 1) (kk : PT k E Q cm sm Sh N G M (pc + 1) L (v :: u :: v :: u :: st)) : PT k E Q cm sm Sh N G M pc L (v :: u :: st) := by
  intro ls H locs cells slots hL hH hS hc hs
  exact lv_dup2_11 C.x C.b (C.dec hd) (by rw [cv_cat]; exact hv) (by rw [cv_cat]; exact hu) (kk ls H locs cells slots hL hH hS hc hs)
theorem r_goto (C : CK k E md kd d mc ms) {off : Int} (tgt : Nat) (hd : cod kd pc = some (.goto off, 3)) (ht : (pc : Int) + off = (tgt : Int)) (kk : PT k E Q cm sm Sh N G M tgt L st) : PT k E Q cm sm Sh N G M pc L st := by
  intro ls H locs cells slots hL hH hS hc hs
  exact lv_goto C.x C.b (C.dec hd) ht (kk ls H locs cells slots hL hH hS hc hs)
/-- the number on top is another one's equal -/
theorem r_top {x : Int32} (y : Int32) (h : x = y) (kk : PT k E Q cm sm Sh N G M pc L (.int y :: st)) : PT k E Q cm sm Sh N G M pc L (.int x :: st) := by rw [h]; exact kk
theorem r_eqM {M' : MM} (h : M = M') (kk : PT k E Q cm sm Sh N G M' pc L st) : PT k E Q cm sm Sh N G M pc L st := by rw [h]; exact kk
theorem r_eqL {L' : List (Option Value)} (h : L = L') (kk : PT k E Q cm sm Sh N G M pc L' st) : PT k E Q cm sm Sh N G M pc L st := by rw [h]; exact kk
theorem r_if_eq (C : CK k E md kd d mc ms) {x : Int32} {off : Int} (tgt : Nat) (hd : cod kd pc = some (.ifCond .eq off, 3)) (ht : (pc : Int) + off = (tgt : Int)) (kt : x = 0 → PT k E Q cm sm Sh N G M tgt L st) (kf : ¬ x = 0 → PT k E Q cm sm Sh N G M (pc + 3) L st) : PT k E Q cm sm Sh N G M pc L (.int x :: st) := by
  intro ls H locs cells slots hL hH hS hc hs
  exact lv_if_eq C.x C.b (C.dec hd) ht (fun h => kt h ls H locs cells slots hL hH hS hc hs) (fun h => kf h ls H locs cells slots hL hH hS hc hs)
theorem r_icmp_eq (C : CK k E md kd d mc ms) {x y : Int32} {off : Int} (tgt : Nat) (hd : cod kd pc = some (.if_icmp .eq off, 3)) (ht : (pc : Int) + off = (tgt : Int)) (kt : x = y → PT k E Q cm sm Sh N G M tgt L st) (kf : ¬ x = y → PT k E Q cm sm Sh N G M (pc + 3) L st) : PT k E Q cm sm Sh N G M pc L (.int y :: .int x :: st) := by
  intro ls H locs cells slots hL hH hS hc hs
  exact lv_icmp_eq C.x C.b (C.dec hd) ht (fun h => kt h ls H locs cells slots hL hH hS hc hs) (fun h => kf h ls H locs cells slots hL hH hS hc hs)
theorem r_if_ne (C : CK k E md kd d mc ms) {x : Int32} {off : Int} (tgt : Nat) (hd : cod kd pc = some (.ifCond .ne off, 3)) (ht : (pc : Int) + off = (tgt : Int)) (kt : ¬ x = 0 → PT k E Q cm sm Sh N G M tgt L st) (kf : x = 0 → PT k E Q cm sm Sh N G M (pc + 3) L st) : PT k E Q cm sm Sh N G M pc L (.int x :: st) := by
  intro ls H locs cells slots hL hH hS hc hs
  exact lv_if_ne C.x C.b (C.dec hd) ht (fun h => kt h ls H locs cells slots hL hH hS hc hs) (fun h => kf h ls H locs cells slots hL hH hS hc hs)
theorem r_icmp_ne (C : CK k E md kd d mc ms) {x y : Int32} {off : Int} (tgt : Nat) (hd : cod kd pc = some (.if_icmp .ne off, 3)) (ht : (pc : Int) + off = (tgt : Int)) (kt : ¬ x = y → PT k E Q cm sm Sh N G M tgt L st) (kf : x = y → PT k E Q cm sm Sh N G M (pc + 3) L st) : PT k E Q cm sm Sh N G M pc L (.int y :: .int x :: st) := by
  intro ls H locs cells slots hL hH hS hc hs
  exact lv_icmp_ne C.x C.b (C.dec hd) ht (fun h => kt h ls H locs cells slots hL hH hS hc hs) (fun h => kf h ls H locs cells slots hL hH hS hc hs)
theorem r_if_lt (C : CK k E md kd d mc ms) {x : Int32} {off : Int} (tgt : Nat) (hd : cod kd pc = some (.ifCond .lt off, 3)) (ht : (pc : Int) + off = (tgt : Int)) (kt : x < 0 → PT k E Q cm sm Sh N G M tgt L st) (kf : ¬ x < 0 → PT k E Q cm sm Sh N G M (pc + 3) L st) : PT k E Q cm sm Sh N G M pc L (.int x :: st) := by
  intro ls H locs cells slots hL hH hS hc hs
  exact lv_if_lt C.x C.b (C.dec hd) ht (fun h => kt h ls H locs cells slots hL hH hS hc hs) (fun h => kf h ls H locs cells slots hL hH hS hc hs)
theorem r_icmp_lt (C : CK k E md kd d mc ms) {x y : Int32} {off : Int} (tgt : Nat) (hd : cod kd pc = some (.if_icmp .lt off, 3)) (ht : (pc : Int) + off = (tgt : Int)) (kt : x < y → PT k E Q cm sm Sh N G M tgt L st) (kf : ¬ x < y → PT k E Q cm sm Sh N G M (pc + 3) L st) : PT k E Q cm sm Sh N G M pc L (.int y :: .int x :: st) := by
  intro ls H locs cells slots hL hH hS hc hs
  exact lv_icmp_lt C.x C.b (C.dec hd) ht (fun h => kt h ls H locs cells slots hL hH hS hc hs) (fun h => kf h ls H locs cells slots hL hH hS hc hs)
theorem r_if_ge (C : CK k E md kd d mc ms) {x : Int32} {off : Int} (tgt : Nat) (hd : cod kd pc = some (.ifCond .ge off, 3)) (ht : (pc : Int) + off = (tgt : Int)) (kt : 0 ≤ x → PT k E Q cm sm Sh N G M tgt L st) (kf : ¬ 0 ≤ x → PT k E Q cm sm Sh N G M (pc + 3) L st) : PT k E Q cm sm Sh N G M pc L (.int x :: st) := by
  intro ls H locs cells slots hL hH hS hc hs
  exact lv_if_ge C.x C.b (C.dec hd) ht (fun h => kt h ls H locs cells slots hL hH hS hc hs) (fun h => kf h ls H locs cells slots hL hH hS hc hs)
theorem r_icmp_ge (C : CK k E md kd d mc ms) {x y : Int32} {off : Int} (tgt : Nat) (hd : cod kd pc = some (.if_icmp .ge off, 3)) (ht : (pc : Int) + off = (tgt : Int)) (kt : y ≤ x → PT k E Q cm sm Sh N G M tgt L st) (kf : ¬ y ≤ x → PT k E Q cm sm Sh N G M (pc + 3) L st) : PT k E Q cm sm Sh N G M pc L (.int y :: .int x :: st) := by
  intro ls H locs cells slots hL hH hS hc hs
  exact lv_icmp_ge C.x C.b (C.dec hd) ht (fun h => kt h ls H locs cells slots hL hH hS hc hs) (fun h => kf h ls H locs cells slots hL hH hS hc hs)
theorem r_if_gt (C : CK k E md kd d mc ms) {x : Int32} {off : Int} (tgt : Nat) (hd : cod kd pc = some (.ifCond .gt off, 3)) (ht : (pc : Int) + off = (tgt : Int)) (kt : 0 < x → PT k E Q cm sm Sh N G M tgt L st) (kf : ¬ 0 < x → PT k E Q cm sm Sh N G M (pc + 3) L st) : PT k E Q cm sm Sh N G M pc L (.int x :: st) := by
  intro ls H locs cells slots hL hH hS hc hs
  exact lv_if_gt C.x C.b (C.dec hd) ht (fun h => kt h ls H locs cells slots hL hH hS hc hs) (fun h => kf h ls H locs cells slots hL hH hS hc hs)
theorem r_icmp_gt (C : CK k E md kd d mc ms) {x y : Int32} {off : Int} (tgt : Nat) (hd : cod kd pc = some (.if_icmp .gt off, 3)) (ht : (pc : Int) + off = (tgt : Int)) (kt : y < x → PT k E Q cm sm Sh N G M tgt L st) (kf : ¬ y < x → PT k E Q cm sm Sh N G M (pc + 3) L st) : PT k E Q cm sm Sh N G M pc L (.int y :: .int x :: st) := by
  intro ls H locs cells slots hL hH hS hc hs
  exact lv_icmp_gt C.x C.b (C.dec hd) ht (fun h => kt h ls H locs cells slots hL hH hS hc hs) (fun h => kf h ls H locs cells slots hL hH hS hc hs)
theorem r_if_le (C : CK k E md kd d mc ms) {x : Int32} {off : Int} (tgt : Nat) (hd : cod kd pc = some (.ifCond .le off, 3)) (ht : (pc : Int) + off = (tgt : Int)) (kt : x ≤ 0 → PT k E Q cm sm Sh N G M tgt L st) (kf : ¬ x ≤ 0 → PT k E Q cm sm Sh N G M (pc + 3) L st) : PT k E Q cm sm Sh N G M pc L (.int x :: st) := by
  intro ls H locs cells slots hL hH hS hc hs
  exact lv_if_le C.x C.b (C.dec hd) ht (fun h => kt h ls H locs cells slots hL hH hS hc hs) (fun h => kf h ls H locs cells slots hL hH hS hc hs)
theorem r_icmp_le (C : CK k E md kd d mc ms) {x y : Int32} {off : Int} (tgt : Nat) (hd : cod kd pc = some (.if_icmp .le off, 3)) (ht : (pc : Int) + off = (tgt : Int)) (kt : x ≤ y → PT k E Q cm sm Sh N G M tgt L st) (kf : ¬ x ≤ y → PT k E Q cm sm Sh N G M (pc + 3) L st) : PT k E Q cm sm Sh N G M pc L (.int y :: .int x :: st) := by
  intro ls H locs cells slots hL hH hS hc hs
  exact lv_icmp_le C.x C.b (C.dec hd) ht (fun h => kt h ls H locs cells slots hL hH hS hc hs) (fun h => kf h ls H locs cells slots hL hH hS hc hs)
end ROWS
end
section
section CELLS
/-- what a cell of the world is -/
def At (Sh : Nat → SE) (N o : Nat) (e : SE) : Prop := o < N ∧ Sh o = e
def shUp (Sh : Nat → SE) (o : Nat) (e : SE) : Nat → SE := fun k => if k = o then e else Sh k
theorem At.same {Sh : Nat → SE} {N o : Nat} {e : SE} (h : o < N) : At (shUp Sh o e) N o e := ⟨h, by simp [shUp]⟩
theorem At.else {Sh : Nat → SE} {N o p : Nat} {e e' : SE} (h : At Sh N o e) (hn : o ≠ p) : At (shUp Sh p e') N o e := ⟨h.1, by simp [shUp, hn, h.2]⟩
variable {k : MC} {E : VE} {md : MD} {kd : List (Nat × Instr × Nat)} {d mc ms : Nat} {Q : State → Prop} {cm sm : Nat} {Sh : Nat → SE} {N : Nat} {G : Bool} {M : MM} {pc : Nat} {L : List (Option Value)} {st : List Value}
theorem r_getf (C : CK k E md kd d mc ms) {idx o ci j : Nat} {t : FieldType} {fin : Option Bool} {fl : List (Option Value)} {x : Option Value} (hd : cod kd pc = some (.getfield idx, 3)) (F : FL md.1.cls idx ci j t fin) (ho : At Sh N o (.inr (ci, fl))) (hf : fl[j]? = some x)
    (kk : ∀ (ls : Array Slot) (H : Heap) (locs : List Loc) (cells slots : Nat), LR E L ls → HR E Sh N G M H → va_S (AE E) (kS k).heap H locs → cells + cm ≤ (kR k).cells → slots + sm ≤ (kR k).slots →
    W k.1 k.2.1 k.2.2.1 (kR k) (kS k) (kM k) (kA k) (kB k) (kMe k) (kC k) H locs cells slots Q (F0 (kM k) (pc + 3) ls (fv E (M o) j x :: st.map (cv E)))) : PT k E Q cm sm Sh N G M pc L (.ref o :: st) := by
  intro ls H locs cells slots hL hH hS hc hs
  obtain ⟨q, ty, ⟨f1, f2, f3, f4⟩, f5, f6, f7, f8, f9⟩ := F
  have hcell := hH.at ho.1
  rw [ho.2] at hcell
  obtain ⟨r, h1, cell, q1, q2, q3, q4⟩ := hcell
  have hr : r = q := Option.some.inj (h1.symm.trans f1)
  subst hr
  obtain ⟨hSl, hfc, kC', hkC, hkind⟩ := C.va.1 ci _ f1
  obtain ⟨cf, kf, fi, f, hi, hsl⟩ := hSl j f5
  refine W.getf C.x C.b C.own (C.ts _ f9) hi (u_facts hfc hkC (u_lays C.ts f2 f5) hi).1 q1 (by rw [q3]; exact fun h => by cases h) (v := fv E (M o) j x) ?_ rfl rfl (C.dec hd) (kk ls H locs cells slots hL hH hS hc hs)
  rw [hsl, q4 j f5]
  have h9 : (repF E (M o) 0 fl)[j]? = some (fv E (M o) j x) := by rw [repF_get, hf, Nat.zero_add]; rfl
  simp [vp_V, h9]
/-- a field that holds a number -/
theorem r_geti (C : CK k E md kd d mc ms) {idx o ci j : Nat} {t : FieldType} {fin : Option Bool} {fl : List (Option Value)} (hd : cod kd pc = some (.getfield idx, 3)) (F : FL md.1.cls idx ci j t fin) (ho : At Sh N o (.inr (ci, fl))) (hf : fl[j]? = some none)
    (kk : PT k E Q cm sm Sh N G M (pc + 3) L (.int (M o j) :: st)) : PT k E Q cm sm Sh N G M pc L (.ref o :: st) := r_getf C hd F ho hf kk
/-- a field that holds a fixed value -/
theorem r_getv (C : CK k E md kd d mc ms) {idx o ci j : Nat} {t : FieldType} {fin : Option Bool} {fl : List (Option Value)} {v : Value} (hd : cod kd pc = some (.getfield idx, 3)) (F : FL md.1.cls idx ci j t fin) (ho : At Sh N o (.inr (ci, fl))) (hf : fl[j]? = some (some v))
    (kk : PT k E Q cm sm Sh N G M (pc + 3) L (v :: st)) : PT k E Q cm sm Sh N G M pc L (.ref o :: st) := r_getf C hd F ho hf kk
/-- a field is written: what the cell becomes -/
theorem r_putc (C : CK k E md kd d mc ms) {idx o ci j : Nat} {t : FieldType} {fin : Option Bool} {fl fl' : List (Option Value)} {m' : Nat → Int32} {v : Value} (hd : cod kd pc = some (.putfield idx, 3)) (F : FL md.1.cls idx ci j t fin) (hf0 : fin ≠ none) (hfin : fin = some true → md.1.name = "<init>") (ho : At Sh N o (.inr (ci, fl))) (hl : j < fl.length) (hn : narrow t (cv E v) = cv E v) (hfit : fits t (cv E v) = true)
    (hnew : (repF E (M o) 0 fl).set j (cv E v) = repF E m' 0 fl') {Sh' : Nat → SE} {M' : MM} (hS1 : Sh' o = .inr (ci, fl')) (hM1 : M' o = m') (hS2 : ∀ i, i ≠ o → Sh' i = Sh i) (hM2 : ∀ i, i ≠ o → M' i = M i)
    (kk : PT k E Q cm sm Sh' N G M' (pc + 3) L st) : PT k E Q cm sm Sh N G M pc L (v :: .ref o :: st) := by
  intro ls H locs cells slots hL hH hS hc hs
  obtain ⟨q, ty, ⟨f1, f2, f3, f4⟩, f5, f6, f7, f8, f9⟩ := F
  have hap := va_apart (own := md.1.cls) (tys := tysOf E) C.ts f2 ty f3 f4 C.va f1
  have hcell := hH.at ho.1
  rw [ho.2] at hcell
  obtain ⟨r, h1, cell, q1, q2, q3, q4⟩ := hcell
  have hr : r = q := Option.some.inj (h1.symm.trans f1)
  subst hr
  obtain ⟨hSl, hfc, kC', hkC, hkind⟩ := C.va.1 ci _ f1
  obtain ⟨cf, kf, fi, f, hi, hsl⟩ := hSl j f5
  have hst := (u_facts hfc hkC (u_lays C.ts f2 f5) hi).1
  have hd2 : parseFieldDescriptor (r.2.1 j).2.2.1 = some t := by rw [f3 j f5, f6]
  have fin2 : ∀ H' : Heap, H'[E.2.1 + o]? = some (cell.setSlot f.slot (cv E v)) → H'.size = H.size → (∀ z, z ≠ E.2.1 + o → H'[z]? = H[z]?) →
      W k.1 k.2.1 k.2.2.1 (kR k) (kS k) (kM k) (kA k) (kB k) (kMe k) (kC k) H' (locs ++ [⟨E.2.1 + o, f.slot⟩]) cells slots Q (F0 (kM k) (pc + 3) ls (st.map (cv E))) := by
    intro H' e1 e2 e3
    rw [hsl] at e1 ⊢
    have hl2 : j < (repF E (M o) 0 fl).length := by rw [repF_len]; exact hl
    have hat : va_at E.1 vwCl (E.2.1 + o, .inr (ci, (repF E (M o) 0 fl).set j (cv E v))) H' := ⟨_, f1, t_OB.to (V := updV (vp_V (repF E (M o) 0 fl)) j (cv E v)) ⟨_, e1, q2, q3, t_set q4 hap f5 (cv E v)⟩ (fun i _ => vp_updV_set hl2 (cv E v) i)⟩
    rw [hnew] at hat
    exact kk ls H' _ cells slots hL (hH.put o (by rw [hS1, hM1]; exact hat) hS2 hM2 e2 e3) (hS.put e2 e3 (Nat.le_add_right _ _)) hc hs
  have hlay := C.ts _ (f2 _ (u_in_lay f5))
  unfold u_lay at hlay
  match fin, hf0, f7, f8, hfin with
  | none, hf0, _, _, _ => exact (hf0 rfl).elim
  | some false, _, f7, f8, hfin =>
    rw [if_neg (by rw [f7 false rfl]; decide)] at hlay
    have h6 := u_store (v := cv E v) hfc hkC hkind hlay hi hd2 hn hfit
    exact W.putK C.x C.b (f := f) ⟨C.own, C.ts _ f9, ⟨_, _, _, hi⟩, hst⟩ (by rw [q2]; exact h6) q1 q3 (by rw [hsl]; exact k2_hasslot (q4 j f5)) rfl rfl (C.dec hd) fin2
  | some true, _, f7, f8, hfin =>
    rw [if_pos (f7 true rfl)] at hlay
    have hcf : (kM k).cls = cf := by
      obtain ⟨_, _, c', _, _, _, -, -, hf', -, -, -, hown2, -⟩ := Cond.laysFinal_spec hlay
      have e1 : c' = cf := by have := hi.symm.trans hf'; simp at this; exact this.1.symm
      rw [f8 rfl] at hown2
      rw [← e1]; exact Option.some.inj (C.own.symm.trans hown2)
    have h6 := u_fits (v := cv E v) hfc hkC hkind (Or.inr hlay) hi hd2 hn hfit
    exact W.putFinK C.x C.b C.own (C.ts _ f9) hi hst hcf (by rw [C.nm]; exact hfin rfl) (by rw [q2]; exact h6) q1 q3 (by rw [hsl]; exact k2_hasslot (q4 j f5)) rfl rfl (C.dec hd) fin2
/-- a number is written into a field -/
theorem r_puti (C : CK k E md kd d mc ms) {idx o ci j : Nat} {t : FieldType} {fl : List (Option Value)} {v : Int32} (hd : cod kd pc = some (.putfield idx, 3)) (F : FL md.1.cls idx ci j t (some false)) (ho : At Sh N o (.inr (ci, fl))) (hf : fl[j]? = some none) (hn : narrow t (.int v) = .int v) (hfit : fits t (.int v) = true)
    (kk : PT k E Q cm sm Sh N G (up M o j v) (pc + 3) L st) : PT k E Q cm sm Sh N G M pc L (.int v :: .ref o :: st) :=
  r_putc (v := .int v) C hd F (fun h => by cases h) (fun h => by cases h) ho (List.getElem?_eq_some_iff.mp hf).1 hn hfit (repF_setI E (M o) fl v hf) ho.2 (up_own M o j v) (fun _ _ => rfl) (fun _ h => up_row M v h) kk
/-- a fixed value is written into a field -/
theorem r_putv (C : CK k E md kd d mc ms) {idx o ci j : Nat} {t : FieldType} {fin : Option Bool} {fl : List (Option Value)} {v : Value} (hd : cod kd pc = some (.putfield idx, 3)) (F : FL md.1.cls idx ci j t fin) (hf0 : fin ≠ none) (hfin : fin = some true → md.1.name = "<init>") (ho : At Sh N o (.inr (ci, fl))) (hl : j < fl.length) (hn : narrow t (cv E v) = cv E v) (hfit : fits t (cv E v) = true)
    (kk : PT k E Q cm sm (shUp Sh o (.inr (ci, fl.set j (some v)))) N G M (pc + 3) L st) : PT k E Q cm sm Sh N G M pc L (v :: .ref o :: st) :=
  r_putc (v := v) C hd F hf0 hfin ho hl hn hfit (repF_setV E (M o) fl v hl) (by simp [shUp]) rfl (fun i h => by simp [shUp, h]) (fun _ _ => rfl) kk
/-- arrays of numbers: kind 0 ints, 1 bytes, 2 booleans -/
abbrev arE (t n : Nat) : SE := .inl (t, n, none)
theorem ar_at {o t n : Nat} {H : Heap} (ho : At Sh N o (arE t n)) (ht : t ≠ 3) (hH : HR E Sh N G M H) : H[E.2.1 + o]? = some (arrV (E.2.2.2 t) n (fun j => .int (M o j))) := by
  have hcell := hH.at ho.1
  rw [ho.2] at hcell
  have h2 : repE E (arE t n) (M o) = .inl (E.2.2.2 t, n, .inl (M o)) := by simp [repE, ht]
  rw [h2] at hcell
  exact hcell
theorem ar_ty0 (C : CK k E md kd d mc ms) (n : Nat) (z : Nat → Value) : (kS k).isArrayOf (arrV (E.2.2.2 0) n z) .int := (C.va.2 0 _ rfl).1 n z
theorem ar_ty1 (C : CK k E md kd d mc ms) (n : Nat) (z : Nat → Value) : (kS k).isArrayOf (arrV (E.2.2.2 1) n z) .byte := (C.va.2 1 _ rfl).1 n z
theorem ar_ty2 (C : CK k E md kd d mc ms) (n : Nat) (z : Nat → Value) : (kS k).isArrayOf (arrV (E.2.2.2 2) n z) .boolean := (C.va.2 2 _ rfl).1 n z
theorem ar_ty3 (C : CK k E md kd d mc ms) (n : Nat) (z : Nat → Value) : (kS k).isArrayOf (arrV (E.2.2.2 3) n z) .long := (C.va.2 3 _ rfl).1 n z
theorem ar_ty4 (C : CK k E md kd d mc ms) (n : Nat) (z : Nat → Value) : (kS k).isArrayOf (arrV (E.2.2.2 4) n z) (.object "MudWalls$Wall") := (C.va.2 4 _ rfl).1 n z
theorem r_iald (C : CK k E md kd d mc ms) {o n : Nat} {i : Int32} (hd : cod kd pc = some (.iaload, 1)) (ho : At Sh N o (arE 0 n)) (j : Nat) (hj : i = nI j) (hjn : j < n) (hn : n < 2 ^ 31) (kk : PT k E Q cm sm Sh N G M (pc + 1) L (.int (M o j) :: st)) : PT k E Q cm sm Sh N G M pc L (.int i :: .ref o :: st) := by
  intro ls H locs cells slots hL hH hS hc hs
  subst hj
  have hjc : (nI j).toNatClampNeg = j := nI_clamp (by omega)
  exact W.iald (v := .int (M o j)) C.x C.b (ar_at ho (by decide) hH) (ar_ty0 C _ _) (fun q => by cases q) (by rw [arrV_size]; exact nI_in hjn hn) (by rw [hjc, arrV_read _ _ hjn]) rfl rfl (C.dec hd) (kk ls H locs cells slots hL hH hS hc hs)
theorem r_bald (C : CK k E md kd d mc ms) {o n : Nat} {i : Int32} (hd : cod kd pc = some (.baload, 1)) (ho : At Sh N o (arE 1 n)) (j : Nat) (hj : i = nI j) (hjn : j < n) (hn : n < 2 ^ 31) (kk : PT k E Q cm sm Sh N G M (pc + 1) L (.int (M o j) :: st)) : PT k E Q cm sm Sh N G M pc L (.int i :: .ref o :: st) := by
  intro ls H locs cells slots hL hH hS hc hs
  subst hj
  have hjc : (nI j).toNatClampNeg = j := nI_clamp (by omega)
  exact W.bald (v := .int (M o j)) C.x C.b (ar_at ho (by decide) hH) (ar_ty1 C _ _) (fun q => by cases q) (by rw [arrV_size]; exact nI_in hjn hn) (by rw [hjc, arrV_read _ _ hjn]) rfl rfl (C.dec hd) (kk ls H locs cells slots hL hH hS hc hs)
theorem r_zald (C : CK k E md kd d mc ms) {o n : Nat} {i : Int32} (hd : cod kd pc = some (.baload, 1)) (ho : At Sh N o (arE 2 n)) (j : Nat) (hj : i = nI j) (hjn : j < n) (hn : n < 2 ^ 31) (kk : PT k E Q cm sm Sh N G M (pc + 1) L (.int (M o j) :: st)) : PT k E Q cm sm Sh N G M pc L (.int i :: .ref o :: st) := by
  intro ls H locs cells slots hL hH hS hc hs
  subst hj
  have hjc : (nI j).toNatClampNeg = j := nI_clamp (by omega)
  exact W.zald (v := .int (M o j)) C.x C.b (ar_at ho (by decide) hH) (ar_ty2 C _ _) (fun q => by cases q) (by rw [arrV_size]; exact nI_in hjn hn) (by rw [hjc, arrV_read _ _ hjn]) rfl rfl (C.dec hd) (kk ls H locs cells slots hL hH hS hc hs)
theorem ar_new {o t n j : Nat} {v : Int32} {H H' : Heap} (ho : At Sh N o (arE t n)) (ht : t ≠ 3) (hH : HR E Sh N G M H) (hj : j < n) (e : H'[E.2.1 + o]? = some ((arrV (E.2.2.2 t) n (fun j => .int (M o j))).setSlot j (.int v))) (z : H'.size = H.size) (oq : ∀ q : Nat, q ≠ E.2.1 + o → H'[q]? = H[q]?) : HR E Sh N G (up M o j v) H' := by
  refine hH.put o ?_ (fun _ _ => rfl) (fun _ h => up_row M v h) z oq
  rw [ho.2, up_own]
  have h2 : repE E (arE t n) (upd (M o) j v) = .inl (E.2.2.2 t, n, .inl (upd (M o) j v)) := by simp [repE, ht]
  rw [h2]
  show H'[E.2.1 + o]? = some (vp_cell _ _)
  rw [e, vp_cell_i, arrV_store]
  congr 2
  funext q
  by_cases hq : q = j
  · subst hq
    simp [updV, upd]
  · simp [updV, upd, hq]
theorem r_iast (C : CK k E md kd d mc ms) {o n : Nat} {i v : Int32} (hd : cod kd pc = some (.iastore, 1)) (ho : At Sh N o (arE 0 n)) (j : Nat) (hj : i = nI j) (hjn : j < n) (hn : n < 2 ^ 31) (kk : PT k E Q cm sm Sh N G (up M o j v) (pc + 1) L st) : PT k E Q cm sm Sh N G M pc L (.int v :: .int i :: .ref o :: st) := by
  intro ls H locs cells slots hL hH hS hc hs
  subst hj
  have hjc : (nI j).toNatClampNeg = j := nI_clamp (by omega)
  refine W.iast C.x C.b (ar_at ho (by decide) hH) (ar_ty0 C _ _) (fun q => by cases q) (by rw [arrV_size]; exact nI_in hjn hn) rfl rfl (C.dec hd) fun H1 e z oq => ?_
  rw [hjc] at e ⊢
  exact kk ls H1 _ cells slots hL (ar_new ho (by decide) hH hjn e z oq) (hS.put z oq (Nat.le_add_right _ _)) hc hs
/-- the length of an array of numbers -/
theorem r_alen (C : CK k E md kd d mc ms) {o t n : Nat} (hd : cod kd pc = some (.arraylength, 1)) (ho : At Sh N o (arE t n)) (ht : t < 3) (kk : PT k E Q cm sm Sh N G M (pc + 1) L (.int (nI n) :: st)) : PT k E Q cm sm Sh N G M pc L (.ref o :: st) := by
  intro ls H locs cells slots hL hH hS hc hs
  have hcell := ar_at ho (by omega) hH
  rcases (show t = 0 ∨ t = 1 ∨ t = 2 by omega) with rfl | rfl | rfl
  · exact W.alen (n := nI n) C.x C.b hcell (ar_ty0 C _ _) (by rw [arrV_size]; rfl) rfl rfl (C.dec hd) (kk ls H locs cells slots hL hH hS hc hs)
  · exact W.alen (n := nI n) C.x C.b hcell (ar_ty1 C _ _) (by rw [arrV_size]; rfl) rfl rfl (C.dec hd) (kk ls H locs cells slots hL hH hS hc hs)
  · exact W.alen (n := nI n) C.x C.b hcell (ar_ty2 C _ _) (by rw [arrV_size]; rfl) rfl rfl (C.dec hd) (kk ls H locs cells slots hL hH hS hc hs)
end CELLS
end
section
section CALLS
variable {k : MC} {E : VE} {md : MD} {kd : List (Nat × Instr × Nat)} {d mc ms : Nat} {Q : State → Prop} {cm sm : Nat} {Sh : Nat → SE} {N : Nat} {G : Bool} {M : MM} {pc : Nat} {L : List (Option Value)} {st : List Value}
/-- a thing of this name was thrown over the method -/
def TH (k : MC) (E : VE) (Q : State → Prop) (cm sm : Nat) (Sh : Nat → SE) (N : Nat) (M : MM) (pc : Nat) (L : List (Option Value)) (X : String) : Prop :=
  ∀ (ls : Array Slot) (H : Heap) (locs : List Loc) (cells slots : Nat) (rest : List Value) (q : Addr) (ce : Cell), LR E L ls → HR E Sh N false M H → va_S (AE E) (kS k).heap H locs → cells + cm ≤ (kR k).cells → slots + sm ≤ (kR k).slots → H[q]? = some ce → ce.vm = .none → (kS k).vm.findClass X = some ce.cls →
    vx_W k.1 k.2.1 k.2.2.1 (kR k) (kS k) (kM k) (kA k) (kB k) (kMe k) (kC k) H locs cells slots Q (F0 (kM k) pc ls rest) q
theorem TH.out (C : CK k E md kd d mc ms) {Post : Option Value → (Nat → SE) → Nat → MM → Prop} {PX : String → Prop} {X : String} (h : PX X) : TH k E (QM k E mc ms Sh N G M Post PX) cm sm Sh N M pc L X := by
  intro ls H locs cells slots rest q ce hL hH hS hc hs h1 h2 h3
  have hR := C.rm
  rw [hR] at hc hs
  refine vx_out (fun x hx => (C.ex x hx).elim) C.lk h1 h2 h3 (fun t ht hvm => ⟨h, by rw [ht]; exact hH, hS.F ht⟩) hS.2.2 ?_ ?_
  · exact Nat.le_trans (Nat.le_add_right _ _) hc
  · exact Nat.le_trans (Nat.le_add_right _ _) hs
theorem good_all (md' : MD) (h : Cond.code md'.1 md'.2.1 md'.2.2.1 md'.2.2.2 ∈ TB) : GoodIn TB (Cond.code md'.1 md'.2.1 md'.2.2.1 md'.2.2.2 :: TB) := by
  intro w hw
  rcases List.mem_cons.mp hw with rfl | hw
  · exact ⟨h, good_of_word (TB_good h)⟩
  · exact ⟨hw, good_of_word (TB_good hw)⟩
theorem blind {av : List Value} : FrameBlind (va_Pc (av.map (cv E)) (fun U => HR E Sh N G M U.heap ∧ KX E U)) := fun a U g mk h => ⟨h.1, h.2.1, h.2.2.moved (s := U) (U := U.calling g mk a) (State.WarmedH.refl U) (Nat.le_refl _) (fun _ _ _ => rfl)⟩
theorem pre_at (C : CK k E md kd d mc ms) {H : Heap} {locs : List Loc} (hH : HR E Sh N G M H) (hS : va_S (AE E) (kS k).heap H locs) (av : List Value) : ∀ U : State, U.heap = H → (kS k).WarmedH U.vm → va_Pc (av.map (cv E)) (fun U => HR E Sh N G M U.heap ∧ KX E U) (av.map (cv E)).toArray U :=
  fun U hU hW => ⟨rfl, by rw [hU]; exact hH, C.K.moved hW (by rw [hU]; exact hS.1) (fun a h1 h2 => by rw [hU]; exact hS.2.1 a h1 h2)⟩
theorem opt_list (r : Option Value) (rest : List Value) : (r.map (cv E)).toList ++ rest.map (cv E) = (r.toList ++ rest).map (cv E) := by cases r <;> simp
theorem callb (C : CK k E md kd d mc ms) {md' : MD} {n idx d' mc' ms' : Nat} (hm : MF md' n) (hlk : Cond.methodLink md.1.cls idx md'.1 ∈ TB) (hd' : d' < d) :
    CallB (kR k) (kS k) (kA k) md.1.cls idx md'.1 md'.2.1 md'.2.2.1 md'.2.2.2 (Cond.code md'.1 md'.2.1 md'.2.2.1 md'.2.2.2 :: TB) { frames := d', cells := mc', slots := ms', locals := 40 * d' } mc' ms' n :=
  callB_of n C.ts (good_all md' hm.1) rfl rfl rfl (C.ts _ hm.2.1) (C.ts _ hlk) hm.2.2.1 (by
    rw [C.rm]
    have h20 := hm.2.2.2
    exact ⟨hd', by show 8 + (md'.2.2.1 + 11) + 40 * d' ≤ 40 * d; omega⟩)
/-- behind a call -/
theorem run_W {H : Heap} {locs : List Loc} {cells slots mc' ms' : Nat} {ls : Array Slot} {st0 rest : List Value} {a : Array Value} {Post : Option Value → (Nat → SE) → Nat → MM → Prop} {PX : String → Prop}
    (hr : vx_Run k.1 k.2.1 k.2.2.1 (kR k) (kS k) (kM k) (kA k) (kB k) (kMe k) (kC k) H locs cells slots mc' ms' (F0 (kM k) pc ls st0) (rest.map (cv E)) (QC E G Post a) (XF E PX Sh N M) (AE E)) (hL : LR E L ls) (hS : va_S (AE E) (kS k).heap H locs) (hc : cells + cm ≤ (kR k).cells) (hs : slots + sm ≤ (kR k).slots) (h1 : mc' ≤ cm) (h2 : ms' ≤ sm)
    (kx : ∀ X, PX X → TH k E Q (cm - mc') (sm - ms') Sh N M pc L X)
    (kk : ∀ r Sh' N' M', Post r Sh' N' M' → PT k E Q (cm - mc') (sm - ms') Sh' N' G M' (pc + 3) L (r.toList ++ rest)) : W k.1 k.2.1 k.2.2.1 (kR k) (kS k) (kM k) (kA k) (kB k) (kMe k) (kC k) H locs cells slots Q (F0 (kM k) pc ls st0) := by
  intro T hT X
  rcases hr T hT X with ⟨v, st₀, t, T', Lo, h0, X', hLo, e1, e2, ⟨⟨r, Sh', N', M', hv, hp, hb⟩, hF⟩, st⟩ | ⟨q, st₀, t, T', Lo, X9, ce, h0, X', hLo, e1, e2, ⟨hp, hb, hF⟩, hce, hcv, hcl, st⟩
  · cases hv
    obtain ⟨k1, k2, k3⟩ := vx_keep h0 e1 hS (fun _ _ h => h) (fun _ h => h) hLo hF
    have hw := kk r Sh' N' M' hp ls T'.heap (locs ++ Lo) (cells + mc') (slots + ms') hL (by rw [e1]; exact hb) k3 (by omega) (by omega)
    rw [← opt_list] at hw
    obtain ⟨t2, a1, b1⟩ := hw T' rfl X'
    exact ⟨t2, st t2 a1, b1⟩
  · obtain ⟨k1, k2, k3⟩ := vx_keep h0 e1 hS (fun _ _ h => h) (fun _ h => h) hLo hF
    obtain ⟨t2, a1, b1⟩ := kx X9 hp ls T'.heap (locs ++ Lo) (cells + mc') (slots + ms') (rest.map (cv E)) q ce hL (by rw [e1]; exact hb) k3 (by omega) (by omega) (by rw [e1]; exact hce) hcv hcl T' rfl X'
    exact ⟨t2, st.trans a1, b1⟩
theorem map_rev (As rest : List Value) (v : Value) : (As.reverse ++ v :: rest).map (cv E) = (As.map (cv E)).reverse ++ cv E v :: rest.map (cv E) := by simp
/-- a call by an object -/
theorem r_callV (C : CK k E md kd d mc ms) {idx o ci n d' mc' ms' : Nat} {fl : List (Option Value)} {md' : MD} {As rest : List Value} {Post : Option Value → (Nat → SE) → Nat → MM → Prop} {PX : String → Prop}
    (hd : cod kd pc = some (.invokevirtual idx, 3)) (hm : MI md' n) (hlk : Cond.methodLink md.1.cls idx md'.1 ∈ TB) (ho : At Sh N o (.inr (ci, fl))) (hci : (vwCl[ci]?).map (fun q => q.1) = some md'.1.cls)
    (hC : Con E md' d' mc' ms' (.ref o :: As) Sh N G M Post PX) (hn : As.length = n) (hLn : L.length = md.2.2.1) (hd' : d' < d) (hrest : (rest.map fun v => v.category).sum ≤ 8) (h1 : mc' ≤ cm) (h2 : ms' ≤ sm)
    (kx : ∀ X, PX X → TH k E Q (cm - mc') (sm - ms') Sh N M pc L X)
    (kk : ∀ r Sh' N' M', Post r Sh' N' M' → PT k E Q (cm - mc') (sm - ms') Sh' N' G M' (pc + 3) L (r.toList ++ rest)) : PT k E Q cm sm Sh N G M pc L (As.reverse ++ .ref o :: rest) := by
  intro ls H locs cells slots hL hH hS hc hs
  rw [map_rev]
  have hcell := hH.at ho.1
  rw [ho.2] at hcell
  obtain ⟨r, g1, cell, g2, g3, g4, g5⟩ := hcell
  have hrc : r.1 = md'.1.cls := by rw [g1] at hci; exact Option.some.inj hci
  have hrecv : ∃ cellB : Cell, H[E.2.1 + o]? = some cellB ∧ cellB.vm.isStatics = false ∧ (kS k).vm.findClass md'.1.cls = some cellB.cls := by
    refine ⟨cell, g2, by rw [g4]; rfl, ?_⟩
    rw [g3, ← hrc]
    exact (C.va.1 ci _ g1).2.1
  refine run_W (a := (cv E (.ref o) :: As.map (cv E)).toArray) (rest := rest) (vx_runV (C := md'.1.cls) (As := As.map (cv E)) (Pc := va_Pc ((.ref o :: As).map (cv E)) (fun U => HR E Sh N G M U.heap ∧ KX E U)) ⟨C.x, C.b, C.ml, C.own, C.ts⟩ (hC k.2.1 C.tr) ⟨callb C hm.1 hlk hd', C.ts _ hm.2.1, C.ts _ hm.2.2⟩ ⟨blind, hrecv, pre_at C hH hS (.ref o :: As)⟩ rfl (by rw [List.length_map]; exact hn) ?_ rfl ?_ (C.dec hd) ⟨by omega, by omega⟩) hL hS hc hs h1 h2 kx kk
  · show ls.size = md.2.2.1
    rw [hL.1, hLn]
  · show 2 * 0 + ((rest.map (cv E)).map fun v => v.category).sum ≤ 8
    rw [List.map_map, show ((fun v : Value => v.category) ∘ cv E) = (fun v => v.category) from funext (fun v => cv_cat E v)]
    omega
theorem cat_rest (rest : List Value) (h : (rest.map fun v => v.category).sum ≤ 8) : 2 * 0 + ((rest.map (cv E)).map fun v => v.category).sum ≤ 8 := by
  rw [List.map_map, show ((fun v : Value => v.category) ∘ cv E) = (fun v => v.category) from funext (fun v => cv_cat E v)]
  omega
/-- a static call -/
theorem r_callS (C : CK k E md kd d mc ms) {idx n d' mc' ms' : Nat} {md' : MD} {As rest : List Value} {Post : Option Value → (Nat → SE) → Nat → MM → Prop} {PX : String → Prop}
    (hd : cod kd pc = some (.invokestatic idx, 3)) (hm : MS md' n) (hlk : Cond.methodLink md.1.cls idx md'.1 ∈ TB)
    (hC : Con E md' d' mc' ms' As Sh N G M Post PX) (hn : As.length = n) (hLn : L.length = md.2.2.1) (hd' : d' < d) (hrest : (rest.map fun v => v.category).sum ≤ 8) (h1 : mc' ≤ cm) (h2 : ms' ≤ sm)
    (kx : ∀ X, PX X → TH k E Q (cm - mc') (sm - ms') Sh N M pc L X)
    (kk : ∀ r Sh' N' M', Post r Sh' N' M' → PT k E Q (cm - mc') (sm - ms') Sh' N' G M' (pc + 3) L (r.toList ++ rest)) : PT k E Q cm sm Sh N G M pc L (As.reverse ++ rest) := by
  intro ls H locs cells slots hL hH hS hc hs
  rw [List.map_append, List.map_reverse]
  exact run_W (a := (As.map (cv E)).toArray) (rest := rest) (vx_runS (As := As.map (cv E)) (Pc := va_Pc (As.map (cv E)) (fun U => HR E Sh N G M U.heap ∧ KX E U)) ⟨C.x, C.b, C.ml, C.own, C.ts⟩ (hC k.2.1 C.tr) ⟨callb C hm.1 hlk hd', C.ts _ hm.2⟩ ⟨blind, pre_at C hH hS As⟩ rfl (by rw [List.length_map]; exact hn) (by show ls.size = md.2.2.1; rw [hL.1, hLn]) rfl (cat_rest rest hrest) (C.dec hd) ⟨by omega, by omega⟩) hL hS hc hs h1 h2 kx kk
theorem Con.met {md' : MD} {d' mc' ms' : Nat} {av : List Value} {Post : Option Value → (Nat → SE) → Nat → MM → Prop} (h : Con E md' d' mc' ms' av Sh N G M Post (fun _ => False)) (l : Launch) (hl : l.stackTraces = false) : Met l md'.1 (Cond.code md'.1 md'.2.1 md'.2.2.1 md'.2.2.2 :: TB) { frames := d', cells := mc', slots := ms', locals := 40 * d' } (va_Pc (av.map (cv E)) (fun U => HR E Sh N G M U.heap ∧ KX E U)) (QC E G Post) mc' ms' (AE E) := by
  intro p e ha hc hk s m args below hf happ hP hK
  obtain ⟨n, o, g1, g2, g3, g4⟩ := h l hl p e ha hc hk s m args below hf happ hP hK
  refine ⟨n, o, g1, g2, g3, ?_⟩
  rcases g4 with g4 | ⟨q, -, X, ce, Lo, ⟨hx, -⟩, -⟩
  · exact g4
  · exact hx.elim
/-- a maker is called -/
theorem r_callI (C : CK k E md kd d mc ms) {idx n d' mc' ms' : Nat} {md' : MD} {o : Nat} {As rest : List Value} {Post : Option Value → (Nat → SE) → Nat → MM → Prop}
    (hd : cod kd pc = some (.invokespecial idx, 3)) (hm : MN md' n) (hlk : Cond.methodLink md.1.cls idx md'.1 ∈ TB)
    (hC : Con E md' d' mc' ms' (.ref o :: As) Sh N G M Post (fun _ => False)) (hn : As.length = n) (hLn : L.length = md.2.2.1) (hd' : d' < d) (hrest : (rest.map fun v => v.category).sum ≤ 8) (h1 : mc' ≤ cm) (h2 : ms' ≤ sm)
    (kk : ∀ r Sh' N' M', Post r Sh' N' M' → PT k E Q (cm - mc') (sm - ms') Sh' N' G M' (pc + 3) L (r.toList ++ rest)) : PT k E Q cm sm Sh N G M pc L (As.reverse ++ .ref o :: rest) := by
  intro ls H locs cells slots hL hH hS hc hs
  rw [map_rev]
  have hM := hC.met k.2.1 C.tr
  have cb := callb (mc' := mc') (ms' := ms') C hm.1 hlk hd'
  rw [hm.2.2.2] at hM cb
  have hr := va_runI (cells := cells) (slots := slots) (rest := rest.map (cv E)) (As := As.map (cv E)) (b := E.2.1 + o) (g := F0 (kM k) pc ls ((As.map (cv E)).reverse ++ Value.ref (E.2.1 + o) :: rest.map (cv E))) (Pc := va_Pc ((.ref o :: As).map (cv E)) (fun U => HR E Sh N G M U.heap ∧ KX E U)) (locs := locs) (meth := kMe k) (below := kB k) (e := k.2.2.1) ⟨C.x, C.b, C.ml, C.own, C.ts⟩ hM ⟨cb, hm.2.2.1, C.ts _ hm.2.1⟩ ⟨blind, pre_at C hH hS (.ref o :: As)⟩ rfl (by rw [List.length_map]; exact hn) (by show ls.size = md.2.2.1; rw [hL.1, hLn]) rfl (cat_rest rest hrest) (C.dec hd) ⟨by omega, by omega⟩
  intro T hT X
  obtain ⟨v, st₀, t, T', Lo, h0, X', hLo, e1, e2, ⟨⟨r, Sh', N', M', hv, hp, hb⟩, hF⟩, st⟩ := hr T hT X
  cases hv
  obtain ⟨k1, k2, k3⟩ := vx_keep h0 e1 hS (fun _ _ h => h) (fun _ h => h) hLo hF
  have hw := kk r Sh' N' M' hp ls T'.heap (locs ++ Lo) (cells + mc') (slots + ms') hL (by rw [e1]; exact hb) k3 (by omega) (by omega)
  rw [← opt_list] at hw
  obtain ⟨t2, a1, b1⟩ := hw T' rfl X'
  exact ⟨t2, st t2 a1, b1⟩
/-- returns -/
theorem r_iret (C : CK k E md kd d mc ms) {Sh0 : Nat → SE} {N0 : Nat} {M0 : MM} {Post : Option Value → (Nat → SE) → Nat → MM → Prop} {PX : String → Prop} {v : Int32} {ty : FieldType} (hd : cod kd pc = some (.ireturn, 1)) (ht : md.2.2.2 = some ty) (hn : narrow ty (.int v) = .int v) (hp : Post (some (.int v)) Sh N M) : PT k E (QM k E mc ms Sh0 N0 G M0 Post PX) cm sm Sh N G M pc L [.int v] := by
  intro ls H locs cells slots hL hH hS hc hs
  rw [C.rm] at hc hs
  refine W.widen (k := mc) (n := ms) (Nat.le_trans (Nat.le_add_right _ _) hc) (Nat.le_trans (Nat.le_add_right _ _) hs) (vx_ret ?_)
  exact W.zret C.x C.b (by rw [C.rt]; exact ht) hn (fun t ht' hW => ⟨⟨some (.int v), Sh, N, M, rfl, hp, by rw [ht']; exact hH⟩, hS.F ht'⟩) hS.2.2 (C.dec hd) C.lk
theorem r_vret (C : CK k E md kd d mc ms) {Sh0 : Nat → SE} {N0 : Nat} {M0 : MM} {Post : Option Value → (Nat → SE) → Nat → MM → Prop} {PX : String → Prop} (hd : cod kd pc = some (.return_, 1)) (ht : md.2.2.2 = none) (hp : Post none Sh N M) : PT k E (QM k E mc ms Sh0 N0 G M0 Post PX) cm sm Sh N G M pc L [] := by
  intro ls H locs cells slots hL hH hS hc hs
  rw [C.rm] at hc hs
  refine W.widen (k := mc) (n := ms) (Nat.le_trans (Nat.le_add_right _ _) hc) (Nat.le_trans (Nat.le_add_right _ _) hs) (vx_ret ?_)
  exact W.vret C.x C.b (by rw [C.rt]; exact ht) (fun t ht' hW => ⟨⟨none, Sh, N, M, rfl, hp, by rw [ht']; exact hH⟩, hS.F ht'⟩) hS.2.2 (C.dec hd) C.lk
theorem r_aret (C : CK k E md kd d mc ms) {Sh0 : Nat → SE} {N0 : Nat} {M0 : MM} {Post : Option Value → (Nat → SE) → Nat → MM → Prop} {PX : String → Prop} {o : Nat} {rt : FieldType} (hd : cod kd pc = some (.areturn, 1)) (ht : md.2.2.2 = some rt) (hrt : (∃ n, rt = .object n) ∨ ∃ t, rt = .array t) (hp : Post (some (.ref o)) Sh N M) : PT k E (QM k E mc ms Sh0 N0 G M0 Post PX) cm sm Sh N G M pc L [.ref o] := by
  intro ls H locs cells slots hL hH hS hc hs
  rw [C.rm] at hc hs
  refine W.widen (k := mc) (n := ms) (Nat.le_trans (Nat.le_add_right _ _) hc) (Nat.le_trans (Nat.le_add_right _ _) hs) (vx_ret ?_)
  exact W.aret C.x C.b (by rw [C.rt]; exact ht) hrt (Or.inr ⟨_, rfl⟩) (fun t ht' hW => ⟨⟨some (.ref o), Sh, N, M, rfl, hp, by rw [ht']; exact hH⟩, hS.F ht'⟩) hS.2.2 (C.dec hd) C.lk
end CALLS
end
section
section STAT
/-- nothing is thrown -/
abbrev nox : String → Prop := fun _ => False
/-- the answer and the numbers behind a call; the world's cells are the same -/
abbrev P1 (v : Option Value) (Sh : Nat → SE) (N : Nat) (M1 : MM) : Option Value → (Nat → SE) → Nat → MM → Prop := fun r Sh' N' M' => r = v ∧ Sh' = Sh ∧ N' = N ∧ M' = M1
abbrev PR (Sh : Nat → SE) (N : Nat) (P : Option Value → MM → Prop) : Option Value → (Nat → SE) → Nat → MM → Prop := fun r Sh' N' M' => Sh' = Sh ∧ N' = N ∧ P r M'
variable {k : MC} {E : VE} {md : MD} {kd : List (Nat × Instr × Nat)} {d mc ms : Nat} {Q : State → Prop} {cm sm : Nat} {Sh : Nat → SE} {N : Nat} {G : Bool} {M : MM} {pc : Nat} {L : List (Option Value)} {st : List Value}
theorem v0_r (C : CK k E md kd d mc ms) {idx o ci d' : Nat} {fl : List (Option Value)} {md' : MD} {rest : List Value} {x : Value} {M1 : MM} (hd : cod kd pc = some (.invokevirtual idx, 3)) (hm : MI md' 0) (hlk : Cond.methodLink md.1.cls idx md'.1 ∈ TB) (ho : At Sh N o (.inr (ci, fl))) (hC : Con E md' d' 0 0 [.ref o] Sh N G M (P1 (some x) Sh N M1) nox) (kk : PT k E Q cm sm Sh N G M1 (pc + 3) L (x :: rest)) (hd' : d' < d := by omega) (hLn : L.length = md.2.2.1 := by rfl) (hrest : (rest.map fun v => v.category).sum ≤ 8 := by exact Nat.le_of_ble_eq_true rfl) (hci : (vwCl[ci]?).map (fun q => q.1) = some md'.1.cls := by rfl) : PT k E Q cm sm Sh N G M pc L (.ref o :: rest) := by
  refine r_callV (As := []) (rest := rest) C hd hm hlk ho hci hC rfl hLn hd' hrest (Nat.zero_le _) (Nat.zero_le _) (fun _ h => h.elim) ?_
  rintro r Sh' N' M' ⟨rfl, rfl, rfl, rfl⟩
  exact kk
theorem v0_v (C : CK k E md kd d mc ms) {idx o ci d' : Nat} {fl : List (Option Value)} {md' : MD} {rest : List Value} {M1 : MM} (hd : cod kd pc = some (.invokevirtual idx, 3)) (hm : MI md' 0) (hlk : Cond.methodLink md.1.cls idx md'.1 ∈ TB) (ho : At Sh N o (.inr (ci, fl))) (hC : Con E md' d' 0 0 [.ref o] Sh N G M (P1 none Sh N M1) nox) (kk : PT k E Q cm sm Sh N G M1 (pc + 3) L rest) (hd' : d' < d := by omega) (hLn : L.length = md.2.2.1 := by rfl) (hrest : (rest.map fun v => v.category).sum ≤ 8 := by exact Nat.le_of_ble_eq_true rfl) (hci : (vwCl[ci]?).map (fun q => q.1) = some md'.1.cls := by rfl) : PT k E Q cm sm Sh N G M pc L (.ref o :: rest) := by
  refine r_callV (As := []) (rest := rest) C hd hm hlk ho hci hC rfl hLn hd' hrest (Nat.zero_le _) (Nat.zero_le _) (fun _ h => h.elim) ?_
  rintro r Sh' N' M' ⟨rfl, rfl, rfl, rfl⟩
  exact kk
theorem v0_g (C : CK k E md kd d mc ms) {idx o ci d' : Nat} {fl : List (Option Value)} {md' : MD} {rest : List Value} {P : Option Value → MM → Prop} (hd : cod kd pc = some (.invokevirtual idx, 3)) (hm : MI md' 0) (hlk : Cond.methodLink md.1.cls idx md'.1 ∈ TB) (ho : At Sh N o (.inr (ci, fl))) (hC : Con E md' d' 0 0 [.ref o] Sh N G M (PR Sh N P) nox) (kk : ∀ r M1, P r M1 → PT k E Q cm sm Sh N G M1 (pc + 3) L (r.toList ++ rest)) (hd' : d' < d := by omega) (hLn : L.length = md.2.2.1 := by rfl) (hrest : (rest.map fun v => v.category).sum ≤ 8 := by exact Nat.le_of_ble_eq_true rfl) (hci : (vwCl[ci]?).map (fun q => q.1) = some md'.1.cls := by rfl) : PT k E Q cm sm Sh N G M pc L (.ref o :: rest) := by
  refine r_callV (As := []) (rest := rest) C hd hm hlk ho hci hC rfl hLn hd' hrest (Nat.zero_le _) (Nat.zero_le _) (fun _ h => h.elim) ?_
  rintro r Sh' N' M' ⟨rfl, rfl, hP⟩
  exact kk r M' hP
theorem v0_x (C : CK k E md kd d mc ms) {idx o ci d' mc' ms' : Nat} {fl : List (Option Value)} {md' : MD} {rest : List Value} {P : Option Value → MM → Prop} {PX : String → Prop} (hd : cod kd pc = some (.invokevirtual idx, 3)) (hm : MI md' 0) (hlk : Cond.methodLink md.1.cls idx md'.1 ∈ TB) (ho : At Sh N o (.inr (ci, fl))) (hC : Con E md' d' mc' ms' [.ref o] Sh N G M (PR Sh N P) PX) (h1 : mc' ≤ cm) (h2 : ms' ≤ sm) (kx : ∀ X, PX X → TH k E Q (cm - mc') (sm - ms') Sh N M pc L X) (kk : ∀ r M1, P r M1 → PT k E Q (cm - mc') (sm - ms') Sh N G M1 (pc + 3) L (r.toList ++ rest)) (hd' : d' < d := by omega) (hLn : L.length = md.2.2.1 := by rfl) (hrest : (rest.map fun v => v.category).sum ≤ 8 := by exact Nat.le_of_ble_eq_true rfl) (hci : (vwCl[ci]?).map (fun q => q.1) = some md'.1.cls := by rfl) : PT k E Q cm sm Sh N G M pc L (.ref o :: rest) := by
  refine r_callV (As := []) (rest := rest) C hd hm hlk ho hci hC rfl hLn hd' hrest h1 h2 kx ?_
  rintro r Sh' N' M' ⟨rfl, rfl, hP⟩
  exact kk r M' hP
theorem s0_r (C : CK k E md kd d mc ms) {idx d' : Nat} {md' : MD} {rest : List Value} {x : Value} {M1 : MM} (hd : cod kd pc = some (.invokestatic idx, 3)) (hm : MS md' 0) (hlk : Cond.methodLink md.1.cls idx md'.1 ∈ TB) (hC : Con E md' d' 0 0 [] Sh N G M (P1 (some x) Sh N M1) nox) (kk : PT k E Q cm sm Sh N G M1 (pc + 3) L (x :: rest)) (hd' : d' < d := by omega) (hLn : L.length = md.2.2.1 := by rfl) (hrest : (rest.map fun v => v.category).sum ≤ 8 := by exact Nat.le_of_ble_eq_true rfl) : PT k E Q cm sm Sh N G M pc L (rest) := by
  refine r_callS (As := []) (rest := rest) C hd hm hlk hC rfl hLn hd' hrest (Nat.zero_le _) (Nat.zero_le _) (fun _ h => h.elim) ?_
  rintro r Sh' N' M' ⟨rfl, rfl, rfl, rfl⟩
  exact kk
theorem s0_x (C : CK k E md kd d mc ms) {idx d' mc' ms' : Nat} {md' : MD} {rest : List Value} {P : Option Value → MM → Prop} {PX : String → Prop} (hd : cod kd pc = some (.invokestatic idx, 3)) (hm : MS md' 0) (hlk : Cond.methodLink md.1.cls idx md'.1 ∈ TB) (hC : Con E md' d' mc' ms' [] Sh N G M (PR Sh N P) PX) (h1 : mc' ≤ cm) (h2 : ms' ≤ sm) (kx : ∀ X, PX X → TH k E Q (cm - mc') (sm - ms') Sh N M pc L X) (kk : ∀ r M1, P r M1 → PT k E Q (cm - mc') (sm - ms') Sh N G M1 (pc + 3) L (r.toList ++ rest)) (hd' : d' < d := by omega) (hLn : L.length = md.2.2.1 := by rfl) (hrest : (rest.map fun v => v.category).sum ≤ 8 := by exact Nat.le_of_ble_eq_true rfl) : PT k E Q cm sm Sh N G M pc L (rest) := by
  refine r_callS (As := []) (rest := rest) C hd hm hlk hC rfl hLn hd' hrest h1 h2 kx ?_
  rintro r Sh' N' M' ⟨rfl, rfl, hP⟩
  exact kk r M' hP
theorem v1_r (C : CK k E md kd d mc ms) {idx o ci d' : Nat} {fl : List (Option Value)} {md' : MD} {a1 : Value} {rest : List Value} {x : Value} {M1 : MM} (hd : cod kd pc = some (.invokevirtual idx, 3)) (hm : MI md' 1) (hlk : Cond.methodLink md.1.cls idx md'.1 ∈ TB) (ho : At Sh N o (.inr (ci, fl))) (hC : Con E md' d' 0 0 [.ref o, a1] Sh N G M (P1 (some x) Sh N M1) nox) (kk : PT k E Q cm sm Sh N G M1 (pc + 3) L (x :: rest)) (hd' : d' < d := by omega) (hLn : L.length = md.2.2.1 := by rfl) (hrest : (rest.map fun v => v.category).sum ≤ 8 := by exact Nat.le_of_ble_eq_true rfl) (hci : (vwCl[ci]?).map (fun q => q.1) = some md'.1.cls := by rfl) : PT k E Q cm sm Sh N G M pc L (a1 :: .ref o :: rest) := by
  refine r_callV (As := [a1]) (rest := rest) C hd hm hlk ho hci hC rfl hLn hd' hrest (Nat.zero_le _) (Nat.zero_le _) (fun _ h => h.elim) ?_
  rintro r Sh' N' M' ⟨rfl, rfl, rfl, rfl⟩
  exact kk
theorem v1_v (C : CK k E md kd d mc ms) {idx o ci d' : Nat} {fl : List (Option Value)} {md' : MD} {a1 : Value} {rest : List Value} {M1 : MM} (hd : cod kd pc = some (.invokevirtual idx, 3)) (hm : MI md' 1) (hlk : Cond.methodLink md.1.cls idx md'.1 ∈ TB) (ho : At Sh N o (.inr (ci, fl))) (hC : Con E md' d' 0 0 [.ref o, a1] Sh N G M (P1 none Sh N M1) nox) (kk : PT k E Q cm sm Sh N G M1 (pc + 3) L rest) (hd' : d' < d := by omega) (hLn : L.length = md.2.2.1 := by rfl) (hrest : (rest.map fun v => v.category).sum ≤ 8 := by exact Nat.le_of_ble_eq_true rfl) (hci : (vwCl[ci]?).map (fun q => q.1) = some md'.1.cls := by rfl) : PT k E Q cm sm Sh N G M pc L (a1 :: .ref o :: rest) := by
  refine r_callV (As := [a1]) (rest := rest) C hd hm hlk ho hci hC rfl hLn hd' hrest (Nat.zero_le _) (Nat.zero_le _) (fun _ h => h.elim) ?_
  rintro r Sh' N' M' ⟨rfl, rfl, rfl, rfl⟩
  exact kk
theorem v1_g (C : CK k E md kd d mc ms) {idx o ci d' : Nat} {fl : List (Option Value)} {md' : MD} {a1 : Value} {rest : List Value} {P : Option Value → MM → Prop} (hd : cod kd pc = some (.invokevirtual idx, 3)) (hm : MI md' 1) (hlk : Cond.methodLink md.1.cls idx md'.1 ∈ TB) (ho : At Sh N o (.inr (ci, fl))) (hC : Con E md' d' 0 0 [.ref o, a1] Sh N G M (PR Sh N P) nox) (kk : ∀ r M1, P r M1 → PT k E Q cm sm Sh N G M1 (pc + 3) L (r.toList ++ rest)) (hd' : d' < d := by omega) (hLn : L.length = md.2.2.1 := by rfl) (hrest : (rest.map fun v => v.category).sum ≤ 8 := by exact Nat.le_of_ble_eq_true rfl) (hci : (vwCl[ci]?).map (fun q => q.1) = some md'.1.cls := by rfl) : PT k E Q cm sm Sh N G M pc L (a1 :: .ref o :: rest) := by
  refine r_callV (As := [a1]) (rest := rest) C hd hm hlk ho hci hC rfl hLn hd' hrest (Nat.zero_le _) (Nat.zero_le _) (fun _ h => h.elim) ?_
  rintro r Sh' N' M' ⟨rfl, rfl, hP⟩
  exact kk r M' hP
theorem v1_x (C : CK k E md kd d mc ms) {idx o ci d' mc' ms' : Nat} {fl : List (Option Value)} {md' : MD} {a1 : Value} {rest : List Value} {P : Option Value → MM → Prop} {PX : String → Prop} (hd : cod kd pc = some (.invokevirtual idx, 3)) (hm : MI md' 1) (hlk : Cond.methodLink md.1.cls idx md'.1 ∈ TB) (ho : At Sh N o (.inr (ci, fl))) (hC : Con E md' d' mc' ms' [.ref o, a1] Sh N G M (PR Sh N P) PX) (h1 : mc' ≤ cm) (h2 : ms' ≤ sm) (kx : ∀ X, PX X → TH k E Q (cm - mc') (sm - ms') Sh N M pc L X) (kk : ∀ r M1, P r M1 → PT k E Q (cm - mc') (sm - ms') Sh N G M1 (pc + 3) L (r.toList ++ rest)) (hd' : d' < d := by omega) (hLn : L.length = md.2.2.1 := by rfl) (hrest : (rest.map fun v => v.category).sum ≤ 8 := by exact Nat.le_of_ble_eq_true rfl) (hci : (vwCl[ci]?).map (fun q => q.1) = some md'.1.cls := by rfl) : PT k E Q cm sm Sh N G M pc L (a1 :: .ref o :: rest) := by
  refine r_callV (As := [a1]) (rest := rest) C hd hm hlk ho hci hC rfl hLn hd' hrest h1 h2 kx ?_
  rintro r Sh' N' M' ⟨rfl, rfl, hP⟩
  exact kk r M' hP
theorem s1_r (C : CK k E md kd d mc ms) {idx d' : Nat} {md' : MD} {a1 : Value} {rest : List Value} {x : Value} {M1 : MM} (hd : cod kd pc = some (.invokestatic idx, 3)) (hm : MS md' 1) (hlk : Cond.methodLink md.1.cls idx md'.1 ∈ TB) (hC : Con E md' d' 0 0 [a1] Sh N G M (P1 (some x) Sh N M1) nox) (kk : PT k E Q cm sm Sh N G M1 (pc + 3) L (x :: rest)) (hd' : d' < d := by omega) (hLn : L.length = md.2.2.1 := by rfl) (hrest : (rest.map fun v => v.category).sum ≤ 8 := by exact Nat.le_of_ble_eq_true rfl) : PT k E Q cm sm Sh N G M pc L (a1 :: rest) := by
  refine r_callS (As := [a1]) (rest := rest) C hd hm hlk hC rfl hLn hd' hrest (Nat.zero_le _) (Nat.zero_le _) (fun _ h => h.elim) ?_
  rintro r Sh' N' M' ⟨rfl, rfl, rfl, rfl⟩
  exact kk
theorem s1_x (C : CK k E md kd d mc ms) {idx d' mc' ms' : Nat} {md' : MD} {a1 : Value} {rest : List Value} {P : Option Value → MM → Prop} {PX : String → Prop} (hd : cod kd pc = some (.invokestatic idx, 3)) (hm : MS md' 1) (hlk : Cond.methodLink md.1.cls idx md'.1 ∈ TB) (hC : Con E md' d' mc' ms' [a1] Sh N G M (PR Sh N P) PX) (h1 : mc' ≤ cm) (h2 : ms' ≤ sm) (kx : ∀ X, PX X → TH k E Q (cm - mc') (sm - ms') Sh N M pc L X) (kk : ∀ r M1, P r M1 → PT k E Q (cm - mc') (sm - ms') Sh N G M1 (pc + 3) L (r.toList ++ rest)) (hd' : d' < d := by omega) (hLn : L.length = md.2.2.1 := by rfl) (hrest : (rest.map fun v => v.category).sum ≤ 8 := by exact Nat.le_of_ble_eq_true rfl) : PT k E Q cm sm Sh N G M pc L (a1 :: rest) := by
  refine r_callS (As := [a1]) (rest := rest) C hd hm hlk hC rfl hLn hd' hrest h1 h2 kx ?_
  rintro r Sh' N' M' ⟨rfl, rfl, hP⟩
  exact kk r M' hP
theorem v2_r (C : CK k E md kd d mc ms) {idx o ci d' : Nat} {fl : List (Option Value)} {md' : MD} {a1 a2 : Value} {rest : List Value} {x : Value} {M1 : MM} (hd : cod kd pc = some (.invokevirtual idx, 3)) (hm : MI md' 2) (hlk : Cond.methodLink md.1.cls idx md'.1 ∈ TB) (ho : At Sh N o (.inr (ci, fl))) (hC : Con E md' d' 0 0 [.ref o, a1, a2] Sh N G M (P1 (some x) Sh N M1) nox) (kk : PT k E Q cm sm Sh N G M1 (pc + 3) L (x :: rest)) (hd' : d' < d := by omega) (hLn : L.length = md.2.2.1 := by rfl) (hrest : (rest.map fun v => v.category).sum ≤ 8 := by exact Nat.le_of_ble_eq_true rfl) (hci : (vwCl[ci]?).map (fun q => q.1) = some md'.1.cls := by rfl) : PT k E Q cm sm Sh N G M pc L (a2 :: a1 :: .ref o :: rest) := by
  refine r_callV (As := [a1, a2]) (rest := rest) C hd hm hlk ho hci hC rfl hLn hd' hrest (Nat.zero_le _) (Nat.zero_le _) (fun _ h => h.elim) ?_
  rintro r Sh' N' M' ⟨rfl, rfl, rfl, rfl⟩
  exact kk
theorem v2_v (C : CK k E md kd d mc ms) {idx o ci d' : Nat} {fl : List (Option Value)} {md' : MD} {a1 a2 : Value} {rest : List Value} {M1 : MM} (hd : cod kd pc = some (.invokevirtual idx, 3)) (hm : MI md' 2) (hlk : Cond.methodLink md.1.cls idx md'.1 ∈ TB) (ho : At Sh N o (.inr (ci, fl))) (hC : Con E md' d' 0 0 [.ref o, a1, a2] Sh N G M (P1 none Sh N M1) nox) (kk : PT k E Q cm sm Sh N G M1 (pc + 3) L rest) (hd' : d' < d := by omega) (hLn : L.length = md.2.2.1 := by rfl) (hrest : (rest.map fun v => v.category).sum ≤ 8 := by exact Nat.le_of_ble_eq_true rfl) (hci : (vwCl[ci]?).map (fun q => q.1) = some md'.1.cls := by rfl) : PT k E Q cm sm Sh N G M pc L (a2 :: a1 :: .ref o :: rest) := by
  refine r_callV (As := [a1, a2]) (rest := rest) C hd hm hlk ho hci hC rfl hLn hd' hrest (Nat.zero_le _) (Nat.zero_le _) (fun _ h => h.elim) ?_
  rintro r Sh' N' M' ⟨rfl, rfl, rfl, rfl⟩
  exact kk
theorem v2_g (C : CK k E md kd d mc ms) {idx o ci d' : Nat} {fl : List (Option Value)} {md' : MD} {a1 a2 : Value} {rest : List Value} {P : Option Value → MM → Prop} (hd : cod kd pc = some (.invokevirtual idx, 3)) (hm : MI md' 2) (hlk : Cond.methodLink md.1.cls idx md'.1 ∈ TB) (ho : At Sh N o (.inr (ci, fl))) (hC : Con E md' d' 0 0 [.ref o, a1, a2] Sh N G M (PR Sh N P) nox) (kk : ∀ r M1, P r M1 → PT k E Q cm sm Sh N G M1 (pc + 3) L (r.toList ++ rest)) (hd' : d' < d := by omega) (hLn : L.length = md.2.2.1 := by rfl) (hrest : (rest.map fun v => v.category).sum ≤ 8 := by exact Nat.le_of_ble_eq_true rfl) (hci : (vwCl[ci]?).map (fun q => q.1) = some md'.1.cls := by rfl) : PT k E Q cm sm Sh N G M pc L (a2 :: a1 :: .ref o :: rest) := by
  refine r_callV (As := [a1, a2]) (rest := rest) C hd hm hlk ho hci hC rfl hLn hd' hrest (Nat.zero_le _) (Nat.zero_le _) (fun _ h => h.elim) ?_
  rintro r Sh' N' M' ⟨rfl, rfl, hP⟩
  exact kk r M' hP
theorem v2_x (C : CK k E md kd d mc ms) {idx o ci d' mc' ms' : Nat} {fl : List (Option Value)} {md' : MD} {a1 a2 : Value} {rest : List Value} {P : Option Value → MM → Prop} {PX : String → Prop} (hd : cod kd pc = some (.invokevirtual idx, 3)) (hm : MI md' 2) (hlk : Cond.methodLink md.1.cls idx md'.1 ∈ TB) (ho : At Sh N o (.inr (ci, fl))) (hC : Con E md' d' mc' ms' [.ref o, a1, a2] Sh N G M (PR Sh N P) PX) (h1 : mc' ≤ cm) (h2 : ms' ≤ sm) (kx : ∀ X, PX X → TH k E Q (cm - mc') (sm - ms') Sh N M pc L X) (kk : ∀ r M1, P r M1 → PT k E Q (cm - mc') (sm - ms') Sh N G M1 (pc + 3) L (r.toList ++ rest)) (hd' : d' < d := by omega) (hLn : L.length = md.2.2.1 := by rfl) (hrest : (rest.map fun v => v.category).sum ≤ 8 := by exact Nat.le_of_ble_eq_true rfl) (hci : (vwCl[ci]?).map (fun q => q.1) = some md'.1.cls := by rfl) : PT k E Q cm sm Sh N G M pc L (a2 :: a1 :: .ref o :: rest) := by
  refine r_callV (As := [a1, a2]) (rest := rest) C hd hm hlk ho hci hC rfl hLn hd' hrest h1 h2 kx ?_
  rintro r Sh' N' M' ⟨rfl, rfl, hP⟩
  exact kk r M' hP
theorem s2_r (C : CK k E md kd d mc ms) {idx d' : Nat} {md' : MD} {a1 a2 : Value} {rest : List Value} {x : Value} {M1 : MM} (hd : cod kd pc = some (.invokestatic idx, 3)) (hm : MS md' 2) (hlk : Cond.methodLink md.1.cls idx md'.1 ∈ TB) (hC : Con E md' d' 0 0 [a1, a2] Sh N G M (P1 (some x) Sh N M1) nox) (kk : PT k E Q cm sm Sh N G M1 (pc + 3) L (x :: rest)) (hd' : d' < d := by omega) (hLn : L.length = md.2.2.1 := by rfl) (hrest : (rest.map fun v => v.category).sum ≤ 8 := by exact Nat.le_of_ble_eq_true rfl) : PT k E Q cm sm Sh N G M pc L (a2 :: a1 :: rest) := by
  refine r_callS (As := [a1, a2]) (rest := rest) C hd hm hlk hC rfl hLn hd' hrest (Nat.zero_le _) (Nat.zero_le _) (fun _ h => h.elim) ?_
  rintro r Sh' N' M' ⟨rfl, rfl, rfl, rfl⟩
  exact kk
theorem s2_x (C : CK k E md kd d mc ms) {idx d' mc' ms' : Nat} {md' : MD} {a1 a2 : Value} {rest : List Value} {P : Option Value → MM → Prop} {PX : String → Prop} (hd : cod kd pc = some (.invokestatic idx, 3)) (hm : MS md' 2) (hlk : Cond.methodLink md.1.cls idx md'.1 ∈ TB) (hC : Con E md' d' mc' ms' [a1, a2] Sh N G M (PR Sh N P) PX) (h1 : mc' ≤ cm) (h2 : ms' ≤ sm) (kx : ∀ X, PX X → TH k E Q (cm - mc') (sm - ms') Sh N M pc L X) (kk : ∀ r M1, P r M1 → PT k E Q (cm - mc') (sm - ms') Sh N G M1 (pc + 3) L (r.toList ++ rest)) (hd' : d' < d := by omega) (hLn : L.length = md.2.2.1 := by rfl) (hrest : (rest.map fun v => v.category).sum ≤ 8 := by exact Nat.le_of_ble_eq_true rfl) : PT k E Q cm sm Sh N G M pc L (a2 :: a1 :: rest) := by
  refine r_callS (As := [a1, a2]) (rest := rest) C hd hm hlk hC rfl hLn hd' hrest h1 h2 kx ?_
  rintro r Sh' N' M' ⟨rfl, rfl, hP⟩
  exact kk r M' hP
theorem v3_r (C : CK k E md kd d mc ms) {idx o ci d' : Nat} {fl : List (Option Value)} {md' : MD} {a1 a2 a3 : Value} {rest : List Value} {x : Value} {M1 : MM} (hd : cod kd pc = some (.invokevirtual idx, 3)) (hm : MI md' 3) (hlk : Cond.methodLink md.1.cls idx md'.1 ∈ TB) (ho : At Sh N o (.inr (ci, fl))) (hC : Con E md' d' 0 0 [.ref o, a1, a2, a3] Sh N G M (P1 (some x) Sh N M1) nox) (kk : PT k E Q cm sm Sh N G M1 (pc + 3) L (x :: rest)) (hd' : d' < d := by omega) (hLn : L.length = md.2.2.1 := by rfl) (hrest : (rest.map fun v => v.category).sum ≤ 8 := by exact Nat.le_of_ble_eq_true rfl) (hci : (vwCl[ci]?).map (fun q => q.1) = some md'.1.cls := by rfl) : PT k E Q cm sm Sh N G M pc L (a3 :: a2 :: a1 :: .ref o :: rest) := by
  refine r_callV (As := [a1, a2, a3]) (rest := rest) C hd hm hlk ho hci hC rfl hLn hd' hrest (Nat.zero_le _) (Nat.zero_le _) (fun _ h => h.elim) ?_
  rintro r Sh' N' M' ⟨rfl, rfl, rfl, rfl⟩
  exact kk
theorem v3_v (C : CK k E md kd d mc ms) {idx o ci d' : Nat} {fl : List (Option Value)} {md' : MD} {a1 a2 a3 : Value} {rest : List Value} {M1 : MM} (hd : cod kd pc = some (.invokevirtual idx, 3)) (hm : MI md' 3) (hlk : Cond.methodLink md.1.cls idx md'.1 ∈ TB) (ho : At Sh N o (.inr (ci, fl))) (hC : Con E md' d' 0 0 [.ref o, a1, a2, a3] Sh N G M (P1 none Sh N M1) nox) (kk : PT k E Q cm sm Sh N G M1 (pc + 3) L rest) (hd' : d' < d := by omega) (hLn : L.length = md.2.2.1 := by rfl) (hrest : (rest.map fun v => v.category).sum ≤ 8 := by exact Nat.le_of_ble_eq_true rfl) (hci : (vwCl[ci]?).map (fun q => q.1) = some md'.1.cls := by rfl) : PT k E Q cm sm Sh N G M pc L (a3 :: a2 :: a1 :: .ref o :: rest) := by
  refine r_callV (As := [a1, a2, a3]) (rest := rest) C hd hm hlk ho hci hC rfl hLn hd' hrest (Nat.zero_le _) (Nat.zero_le _) (fun _ h => h.elim) ?_
  rintro r Sh' N' M' ⟨rfl, rfl, rfl, rfl⟩
  exact kk
theorem v3_g (C : CK k E md kd d mc ms) {idx o ci d' : Nat} {fl : List (Option Value)} {md' : MD} {a1 a2 a3 : Value} {rest : List Value} {P : Option Value → MM → Prop} (hd : cod kd pc = some (.invokevirtual idx, 3)) (hm : MI md' 3) (hlk : Cond.methodLink md.1.cls idx md'.1 ∈ TB) (ho : At Sh N o (.inr (ci, fl))) (hC : Con E md' d' 0 0 [.ref o, a1, a2, a3] Sh N G M (PR Sh N P) nox) (kk : ∀ r M1, P r M1 → PT k E Q cm sm Sh N G M1 (pc + 3) L (r.toList ++ rest)) (hd' : d' < d := by omega) (hLn : L.length = md.2.2.1 := by rfl) (hrest : (rest.map fun v => v.category).sum ≤ 8 := by exact Nat.le_of_ble_eq_true rfl) (hci : (vwCl[ci]?).map (fun q => q.1) = some md'.1.cls := by rfl) : PT k E Q cm sm Sh N G M pc L (a3 :: a2 :: a1 :: .ref o :: rest) := by
  refine r_callV (As := [a1, a2, a3]) (rest := rest) C hd hm hlk ho hci hC rfl hLn hd' hrest (Nat.zero_le _) (Nat.zero_le _) (fun _ h => h.elim) ?_
  rintro r Sh' N' M' ⟨rfl, rfl, hP⟩
  exact kk r M' hP
theorem v3_x (C : CK k E md kd d mc ms) {idx o ci d' mc' ms' : Nat} {fl : List (Option Value)} {md' : MD} {a1 a2 a3 : Value} {rest : List Value} {P : Option Value → MM → Prop} {PX : String → Prop} (hd : cod kd pc = some (.invokevirtual idx, 3)) (hm : MI md' 3) (hlk : Cond.methodLink md.1.cls idx md'.1 ∈ TB) (ho : At Sh N o (.inr (ci, fl))) (hC : Con E md' d' mc' ms' [.ref o, a1, a2, a3] Sh N G M (PR Sh N P) PX) (h1 : mc' ≤ cm) (h2 : ms' ≤ sm) (kx : ∀ X, PX X → TH k E Q (cm - mc') (sm - ms') Sh N M pc L X) (kk : ∀ r M1, P r M1 → PT k E Q (cm - mc') (sm - ms') Sh N G M1 (pc + 3) L (r.toList ++ rest)) (hd' : d' < d := by omega) (hLn : L.length = md.2.2.1 := by rfl) (hrest : (rest.map fun v => v.category).sum ≤ 8 := by exact Nat.le_of_ble_eq_true rfl) (hci : (vwCl[ci]?).map (fun q => q.1) = some md'.1.cls := by rfl) : PT k E Q cm sm Sh N G M pc L (a3 :: a2 :: a1 :: .ref o :: rest) := by
  refine r_callV (As := [a1, a2, a3]) (rest := rest) C hd hm hlk ho hci hC rfl hLn hd' hrest h1 h2 kx ?_
  rintro r Sh' N' M' ⟨rfl, rfl, hP⟩
  exact kk r M' hP
theorem s3_r (C : CK k E md kd d mc ms) {idx d' : Nat} {md' : MD} {a1 a2 a3 : Value} {rest : List Value} {x : Value} {M1 : MM} (hd : cod kd pc = some (.invokestatic idx, 3)) (hm : MS md' 3) (hlk : Cond.methodLink md.1.cls idx md'.1 ∈ TB) (hC : Con E md' d' 0 0 [a1, a2, a3] Sh N G M (P1 (some x) Sh N M1) nox) (kk : PT k E Q cm sm Sh N G M1 (pc + 3) L (x :: rest)) (hd' : d' < d := by omega) (hLn : L.length = md.2.2.1 := by rfl) (hrest : (rest.map fun v => v.category).sum ≤ 8 := by exact Nat.le_of_ble_eq_true rfl) : PT k E Q cm sm Sh N G M pc L (a3 :: a2 :: a1 :: rest) := by
  refine r_callS (As := [a1, a2, a3]) (rest := rest) C hd hm hlk hC rfl hLn hd' hrest (Nat.zero_le _) (Nat.zero_le _) (fun _ h => h.elim) ?_
  rintro r Sh' N' M' ⟨rfl, rfl, rfl, rfl⟩
  exact kk
theorem s3_x (C : CK k E md kd d mc ms) {idx d' mc' ms' : Nat} {md' : MD} {a1 a2 a3 : Value} {rest : List Value} {P : Option Value → MM → Prop} {PX : String → Prop} (hd : cod kd pc = some (.invokestatic idx, 3)) (hm : MS md' 3) (hlk : Cond.methodLink md.1.cls idx md'.1 ∈ TB) (hC : Con E md' d' mc' ms' [a1, a2, a3] Sh N G M (PR Sh N P) PX) (h1 : mc' ≤ cm) (h2 : ms' ≤ sm) (kx : ∀ X, PX X → TH k E Q (cm - mc') (sm - ms') Sh N M pc L X) (kk : ∀ r M1, P r M1 → PT k E Q (cm - mc') (sm - ms') Sh N G M1 (pc + 3) L (r.toList ++ rest)) (hd' : d' < d := by omega) (hLn : L.length = md.2.2.1 := by rfl) (hrest : (rest.map fun v => v.category).sum ≤ 8 := by exact Nat.le_of_ble_eq_true rfl) : PT k E Q cm sm Sh N G M pc L (a3 :: a2 :: a1 :: rest) := by
  refine r_callS (As := [a1, a2, a3]) (rest := rest) C hd hm hlk hC rfl hLn hd' hrest h1 h2 kx ?_
  rintro r Sh' N' M' ⟨rfl, rfl, hP⟩
  exact kk r M' hP
theorem v4_r (C : CK k E md kd d mc ms) {idx o ci d' : Nat} {fl : List (Option Value)} {md' : MD} {a1 a2 a3 a4 : Value} {rest : List Value} {x : Value} {M1 : MM} (hd : cod kd pc = some (.invokevirtual idx, 3)) (hm : MI md' 4) (hlk : Cond.methodLink md.1.cls idx md'.1 ∈ TB) (ho : At Sh N o (.inr (ci, fl))) (hC : Con E md' d' 0 0 [.ref o, a1, a2, a3, a4] Sh N G M (P1 (some x) Sh N M1) nox) (kk : PT k E Q cm sm Sh N G M1 (pc + 3) L (x :: rest)) (hd' : d' < d := by omega) (hLn : L.length = md.2.2.1 := by rfl) (hrest : (rest.map fun v => v.category).sum ≤ 8 := by exact Nat.le_of_ble_eq_true rfl) (hci : (vwCl[ci]?).map (fun q => q.1) = some md'.1.cls := by rfl) : PT k E Q cm sm Sh N G M pc L (a4 :: a3 :: a2 :: a1 :: .ref o :: rest) := by
  refine r_callV (As := [a1, a2, a3, a4]) (rest := rest) C hd hm hlk ho hci hC rfl hLn hd' hrest (Nat.zero_le _) (Nat.zero_le _) (fun _ h => h.elim) ?_
  rintro r Sh' N' M' ⟨rfl, rfl, rfl, rfl⟩
  exact kk
theorem v4_v (C : CK k E md kd d mc ms) {idx o ci d' : Nat} {fl : List (Option Value)} {md' : MD} {a1 a2 a3 a4 : Value} {rest : List Value} {M1 : MM} (hd : cod kd pc = some (.invokevirtual idx, 3)) (hm : MI md' 4) (hlk : Cond.methodLink md.1.cls idx md'.1 ∈ TB) (ho : At Sh N o (.inr (ci, fl))) (hC : Con E md' d' 0 0 [.ref o, a1, a2, a3, a4] Sh N G M (P1 none Sh N M1) nox) (kk : PT k E Q cm sm Sh N G M1 (pc + 3) L rest) (hd' : d' < d := by omega) (hLn : L.length = md.2.2.1 := by rfl) (hrest : (rest.map fun v => v.category).sum ≤ 8 := by exact Nat.le_of_ble_eq_true rfl) (hci : (vwCl[ci]?).map (fun q => q.1) = some md'.1.cls := by rfl) : PT k E Q cm sm Sh N G M pc L (a4 :: a3 :: a2 :: a1 :: .ref o :: rest) := by
  refine r_callV (As := [a1, a2, a3, a4]) (rest := rest) C hd hm hlk ho hci hC rfl hLn hd' hrest (Nat.zero_le _) (Nat.zero_le _) (fun _ h => h.elim) ?_
  rintro r Sh' N' M' ⟨rfl, rfl, rfl, rfl⟩
  exact kk
theorem v4_g (C : CK k E md kd d mc ms) {idx o ci d' : Nat} {fl : List (Option Value)} {md' : MD} {a1 a2 a3 a4 : Value} {rest : List Value} {P : Option Value → MM → Prop} (hd : cod kd pc = some (.invokevirtual idx, 3)) (hm : MI md' 4) (hlk : Cond.methodLink md.1.cls idx md'.1 ∈ TB) (ho : At Sh N o (.inr (ci, fl))) (hC : Con E md' d' 0 0 [.ref o, a1, a2, a3, a4] Sh N G M (PR Sh N P) nox) (kk : ∀ r M1, P r M1 → PT k E Q cm sm Sh N G M1 (pc + 3) L (r.toList ++ rest)) (hd' : d' < d := by omega) (hLn : L.length = md.2.2.1 := by rfl) (hrest : (rest.map fun v => v.category).sum ≤ 8 := by exact Nat.le_of_ble_eq_true rfl) (hci : (vwCl[ci]?).map (fun q => q.1) = some md'.1.cls := by rfl) : PT k E Q cm sm Sh N G M pc L (a4 :: a3 :: a2 :: a1 :: .ref o :: rest) := by
  refine r_callV (As := [a1, a2, a3, a4]) (rest := rest) C hd hm hlk ho hci hC rfl hLn hd' hrest (Nat.zero_le _) (Nat.zero_le _) (fun _ h => h.elim) ?_
  rintro r Sh' N' M' ⟨rfl, rfl, hP⟩
  exact kk r M' hP
theorem v4_x (C : CK k E md kd d mc ms) {idx o ci d' mc' ms' : Nat} {fl : List (Option Value)} {md' : MD} {a1 a2 a3 a4 : Value} {rest : List Value} {P : Option Value → MM → Prop} {PX : String → Prop} (hd : cod kd pc = some (.invokevirtual idx, 3)) (hm : MI md' 4) (hlk : Cond.methodLink md.1.cls idx md'.1 ∈ TB) (ho : At Sh N o (.inr (ci, fl))) (hC : Con E md' d' mc' ms' [.ref o, a1, a2, a3, a4] Sh N G M (PR Sh N P) PX) (h1 : mc' ≤ cm) (h2 : ms' ≤ sm) (kx : ∀ X, PX X → TH k E Q (cm - mc') (sm - ms') Sh N M pc L X) (kk : ∀ r M1, P r M1 → PT k E Q (cm - mc') (sm - ms') Sh N G M1 (pc + 3) L (r.toList ++ rest)) (hd' : d' < d := by omega) (hLn : L.length = md.2.2.1 := by rfl) (hrest : (rest.map fun v => v.category).sum ≤ 8 := by exact Nat.le_of_ble_eq_true rfl) (hci : (vwCl[ci]?).map (fun q => q.1) = some md'.1.cls := by rfl) : PT k E Q cm sm Sh N G M pc L (a4 :: a3 :: a2 :: a1 :: .ref o :: rest) := by
  refine r_callV (As := [a1, a2, a3, a4]) (rest := rest) C hd hm hlk ho hci hC rfl hLn hd' hrest h1 h2 kx ?_
  rintro r Sh' N' M' ⟨rfl, rfl, hP⟩
  exact kk r M' hP
theorem s4_r (C : CK k E md kd d mc ms) {idx d' : Nat} {md' : MD} {a1 a2 a3 a4 : Value} {rest : List Value} {x : Value} {M1 : MM} (hd : cod kd pc = some (.invokestatic idx, 3)) (hm : MS md' 4) (hlk : Cond.methodLink md.1.cls idx md'.1 ∈ TB) (hC : Con E md' d' 0 0 [a1, a2, a3, a4] Sh N G M (P1 (some x) Sh N M1) nox) (kk : PT k E Q cm sm Sh N G M1 (pc + 3) L (x :: rest)) (hd' : d' < d := by omega) (hLn : L.length = md.2.2.1 := by rfl) (hrest : (rest.map fun v => v.category).sum ≤ 8 := by exact Nat.le_of_ble_eq_true rfl) : PT k E Q cm sm Sh N G M pc L (a4 :: a3 :: a2 :: a1 :: rest) := by
  refine r_callS (As := [a1, a2, a3, a4]) (rest := rest) C hd hm hlk hC rfl hLn hd' hrest (Nat.zero_le _) (Nat.zero_le _) (fun _ h => h.elim) ?_
  rintro r Sh' N' M' ⟨rfl, rfl, rfl, rfl⟩
  exact kk
theorem s4_x (C : CK k E md kd d mc ms) {idx d' mc' ms' : Nat} {md' : MD} {a1 a2 a3 a4 : Value} {rest : List Value} {P : Option Value → MM → Prop} {PX : String → Prop} (hd : cod kd pc = some (.invokestatic idx, 3)) (hm : MS md' 4) (hlk : Cond.methodLink md.1.cls idx md'.1 ∈ TB) (hC : Con E md' d' mc' ms' [a1, a2, a3, a4] Sh N G M (PR Sh N P) PX) (h1 : mc' ≤ cm) (h2 : ms' ≤ sm) (kx : ∀ X, PX X → TH k E Q (cm - mc') (sm - ms') Sh N M pc L X) (kk : ∀ r M1, P r M1 → PT k E Q (cm - mc') (sm - ms') Sh N G M1 (pc + 3) L (r.toList ++ rest)) (hd' : d' < d := by omega) (hLn : L.length = md.2.2.1 := by rfl) (hrest : (rest.map fun v => v.category).sum ≤ 8 := by exact Nat.le_of_ble_eq_true rfl) : PT k E Q cm sm Sh N G M pc L (a4 :: a3 :: a2 :: a1 :: rest) := by
  refine r_callS (As := [a1, a2, a3, a4]) (rest := rest) C hd hm hlk hC rfl hLn hd' hrest h1 h2 kx ?_
  rintro r Sh' N' M' ⟨rfl, rfl, hP⟩
  exact kk r M' hP
theorem v5_r (C : CK k E md kd d mc ms) {idx o ci d' : Nat} {fl : List (Option Value)} {md' : MD} {a1 a2 a3 a4 a5 : Value} {rest : List Value} {x : Value} {M1 : MM} (hd : cod kd pc = some (.invokevirtual idx, 3)) (hm : MI md' 5) (hlk : Cond.methodLink md.1.cls idx md'.1 ∈ TB) (ho : At Sh N o (.inr (ci, fl))) (hC : Con E md' d' 0 0 [.ref o, a1, a2, a3, a4, a5] Sh N G M (P1 (some x) Sh N M1) nox) (kk : PT k E Q cm sm Sh N G M1 (pc + 3) L (x :: rest)) (hd' : d' < d := by omega) (hLn : L.length = md.2.2.1 := by rfl) (hrest : (rest.map fun v => v.category).sum ≤ 8 := by exact Nat.le_of_ble_eq_true rfl) (hci : (vwCl[ci]?).map (fun q => q.1) = some md'.1.cls := by rfl) : PT k E Q cm sm Sh N G M pc L (a5 :: a4 :: a3 :: a2 :: a1 :: .ref o :: rest) := by
  refine r_callV (As := [a1, a2, a3, a4, a5]) (rest := rest) C hd hm hlk ho hci hC rfl hLn hd' hrest (Nat.zero_le _) (Nat.zero_le _) (fun _ h => h.elim) ?_
  rintro r Sh' N' M' ⟨rfl, rfl, rfl, rfl⟩
  exact kk
theorem v5_v (C : CK k E md kd d mc ms) {idx o ci d' : Nat} {fl : List (Option Value)} {md' : MD} {a1 a2 a3 a4 a5 : Value} {rest : List Value} {M1 : MM} (hd : cod kd pc = some (.invokevirtual idx, 3)) (hm : MI md' 5) (hlk : Cond.methodLink md.1.cls idx md'.1 ∈ TB) (ho : At Sh N o (.inr (ci, fl))) (hC : Con E md' d' 0 0 [.ref o, a1, a2, a3, a4, a5] Sh N G M (P1 none Sh N M1) nox) (kk : PT k E Q cm sm Sh N G M1 (pc + 3) L rest) (hd' : d' < d := by omega) (hLn : L.length = md.2.2.1 := by rfl) (hrest : (rest.map fun v => v.category).sum ≤ 8 := by exact Nat.le_of_ble_eq_true rfl) (hci : (vwCl[ci]?).map (fun q => q.1) = some md'.1.cls := by rfl) : PT k E Q cm sm Sh N G M pc L (a5 :: a4 :: a3 :: a2 :: a1 :: .ref o :: rest) := by
  refine r_callV (As := [a1, a2, a3, a4, a5]) (rest := rest) C hd hm hlk ho hci hC rfl hLn hd' hrest (Nat.zero_le _) (Nat.zero_le _) (fun _ h => h.elim) ?_
  rintro r Sh' N' M' ⟨rfl, rfl, rfl, rfl⟩
  exact kk
theorem v5_g (C : CK k E md kd d mc ms) {idx o ci d' : Nat} {fl : List (Option Value)} {md' : MD} {a1 a2 a3 a4 a5 : Value} {rest : List Value} {P : Option Value → MM → Prop} (hd : cod kd pc = some (.invokevirtual idx, 3)) (hm : MI md' 5) (hlk : Cond.methodLink md.1.cls idx md'.1 ∈ TB) (ho : At Sh N o (.inr (ci, fl))) (hC : Con E md' d' 0 0 [.ref o, a1, a2, a3, a4, a5] Sh N G M (PR Sh N P) nox) (kk : ∀ r M1, P r M1 → PT k E Q cm sm Sh N G M1 (pc + 3) L (r.toList ++ rest)) (hd' : d' < d := by omega) (hLn : L.length = md.2.2.1 := by rfl) (hrest : (rest.map fun v => v.category).sum ≤ 8 := by exact Nat.le_of_ble_eq_true rfl) (hci : (vwCl[ci]?).map (fun q => q.1) = some md'.1.cls := by rfl) : PT k E Q cm sm Sh N G M pc L (a5 :: a4 :: a3 :: a2 :: a1 :: .ref o :: rest) := by
  refine r_callV (As := [a1, a2, a3, a4, a5]) (rest := rest) C hd hm hlk ho hci hC rfl hLn hd' hrest (Nat.zero_le _) (Nat.zero_le _) (fun _ h => h.elim) ?_
  rintro r Sh' N' M' ⟨rfl, rfl, hP⟩
  exact kk r M' hP
theorem v5_x (C : CK k E md kd d mc ms) {idx o ci d' mc' ms' : Nat} {fl : List (Option Value)} {md' : MD} {a1 a2 a3 a4 a5 : Value} {rest : List Value} {P : Option Value → MM → Prop} {PX : String → Prop} (hd : cod kd pc = some (.invokevirtual idx, 3)) (hm : MI md' 5) (hlk : Cond.methodLink md.1.cls idx md'.1 ∈ TB) (ho : At Sh N o (.inr (ci, fl))) (hC : Con E md' d' mc' ms' [.ref o, a1, a2, a3, a4, a5] Sh N G M (PR Sh N P) PX) (h1 : mc' ≤ cm) (h2 : ms' ≤ sm) (kx : ∀ X, PX X → TH k E Q (cm - mc') (sm - ms') Sh N M pc L X) (kk : ∀ r M1, P r M1 → PT k E Q (cm - mc') (sm - ms') Sh N G M1 (pc + 3) L (r.toList ++ rest)) (hd' : d' < d := by omega) (hLn : L.length = md.2.2.1 := by rfl) (hrest : (rest.map fun v => v.category).sum ≤ 8 := by exact Nat.le_of_ble_eq_true rfl) (hci : (vwCl[ci]?).map (fun q => q.1) = some md'.1.cls := by rfl) : PT k E Q cm sm Sh N G M pc L (a5 :: a4 :: a3 :: a2 :: a1 :: .ref o :: rest) := by
  refine r_callV (As := [a1, a2, a3, a4, a5]) (rest := rest) C hd hm hlk ho hci hC rfl hLn hd' hrest h1 h2 kx ?_
  rintro r Sh' N' M' ⟨rfl, rfl, hP⟩
  exact kk r M' hP
theorem s5_r (C : CK k E md kd d mc ms) {idx d' : Nat} {md' : MD} {a1 a2 a3 a4 a5 : Value} {rest : List Value} {x : Value} {M1 : MM} (hd : cod kd pc = some (.invokestatic idx, 3)) (hm : MS md' 5) (hlk : Cond.methodLink md.1.cls idx md'.1 ∈ TB) (hC : Con E md' d' 0 0 [a1, a2, a3, a4, a5] Sh N G M (P1 (some x) Sh N M1) nox) (kk : PT k E Q cm sm Sh N G M1 (pc + 3) L (x :: rest)) (hd' : d' < d := by omega) (hLn : L.length = md.2.2.1 := by rfl) (hrest : (rest.map fun v => v.category).sum ≤ 8 := by exact Nat.le_of_ble_eq_true rfl) : PT k E Q cm sm Sh N G M pc L (a5 :: a4 :: a3 :: a2 :: a1 :: rest) := by
  refine r_callS (As := [a1, a2, a3, a4, a5]) (rest := rest) C hd hm hlk hC rfl hLn hd' hrest (Nat.zero_le _) (Nat.zero_le _) (fun _ h => h.elim) ?_
  rintro r Sh' N' M' ⟨rfl, rfl, rfl, rfl⟩
  exact kk
theorem s5_x (C : CK k E md kd d mc ms) {idx d' mc' ms' : Nat} {md' : MD} {a1 a2 a3 a4 a5 : Value} {rest : List Value} {P : Option Value → MM → Prop} {PX : String → Prop} (hd : cod kd pc = some (.invokestatic idx, 3)) (hm : MS md' 5) (hlk : Cond.methodLink md.1.cls idx md'.1 ∈ TB) (hC : Con E md' d' mc' ms' [a1, a2, a3, a4, a5] Sh N G M (PR Sh N P) PX) (h1 : mc' ≤ cm) (h2 : ms' ≤ sm) (kx : ∀ X, PX X → TH k E Q (cm - mc') (sm - ms') Sh N M pc L X) (kk : ∀ r M1, P r M1 → PT k E Q (cm - mc') (sm - ms') Sh N G M1 (pc + 3) L (r.toList ++ rest)) (hd' : d' < d := by omega) (hLn : L.length = md.2.2.1 := by rfl) (hrest : (rest.map fun v => v.category).sum ≤ 8 := by exact Nat.le_of_ble_eq_true rfl) : PT k E Q cm sm Sh N G M pc L (a5 :: a4 :: a3 :: a2 :: a1 :: rest) := by
  refine r_callS (As := [a1, a2, a3, a4, a5]) (rest := rest) C hd hm hlk hC rfl hLn hd' hrest h1 h2 kx ?_
  rintro r Sh' N' M' ⟨rfl, rfl, hP⟩
  exact kk r M' hP
theorem v6_r (C : CK k E md kd d mc ms) {idx o ci d' : Nat} {fl : List (Option Value)} {md' : MD} {a1 a2 a3 a4 a5 a6 : Value} {rest : List Value} {x : Value} {M1 : MM} (hd : cod kd pc = some (.invokevirtual idx, 3)) (hm : MI md' 6) (hlk : Cond.methodLink md.1.cls idx md'.1 ∈ TB) (ho : At Sh N o (.inr (ci, fl))) (hC : Con E md' d' 0 0 [.ref o, a1, a2, a3, a4, a5, a6] Sh N G M (P1 (some x) Sh N M1) nox) (kk : PT k E Q cm sm Sh N G M1 (pc + 3) L (x :: rest)) (hd' : d' < d := by omega) (hLn : L.length = md.2.2.1 := by rfl) (hrest : (rest.map fun v => v.category).sum ≤ 8 := by exact Nat.le_of_ble_eq_true rfl) (hci : (vwCl[ci]?).map (fun q => q.1) = some md'.1.cls := by rfl) : PT k E Q cm sm Sh N G M pc L (a6 :: a5 :: a4 :: a3 :: a2 :: a1 :: .ref o :: rest) := by
  refine r_callV (As := [a1, a2, a3, a4, a5, a6]) (rest := rest) C hd hm hlk ho hci hC rfl hLn hd' hrest (Nat.zero_le _) (Nat.zero_le _) (fun _ h => h.elim) ?_
  rintro r Sh' N' M' ⟨rfl, rfl, rfl, rfl⟩
  exact kk
theorem v6_v (C : CK k E md kd d mc ms) {idx o ci d' : Nat} {fl : List (Option Value)} {md' : MD} {a1 a2 a3 a4 a5 a6 : Value} {rest : List Value} {M1 : MM} (hd : cod kd pc = some (.invokevirtual idx, 3)) (hm : MI md' 6) (hlk : Cond.methodLink md.1.cls idx md'.1 ∈ TB) (ho : At Sh N o (.inr (ci, fl))) (hC : Con E md' d' 0 0 [.ref o, a1, a2, a3, a4, a5, a6] Sh N G M (P1 none Sh N M1) nox) (kk : PT k E Q cm sm Sh N G M1 (pc + 3) L rest) (hd' : d' < d := by omega) (hLn : L.length = md.2.2.1 := by rfl) (hrest : (rest.map fun v => v.category).sum ≤ 8 := by exact Nat.le_of_ble_eq_true rfl) (hci : (vwCl[ci]?).map (fun q => q.1) = some md'.1.cls := by rfl) : PT k E Q cm sm Sh N G M pc L (a6 :: a5 :: a4 :: a3 :: a2 :: a1 :: .ref o :: rest) := by
  refine r_callV (As := [a1, a2, a3, a4, a5, a6]) (rest := rest) C hd hm hlk ho hci hC rfl hLn hd' hrest (Nat.zero_le _) (Nat.zero_le _) (fun _ h => h.elim) ?_
  rintro r Sh' N' M' ⟨rfl, rfl, rfl, rfl⟩
  exact kk
theorem v6_g (C : CK k E md kd d mc ms) {idx o ci d' : Nat} {fl : List (Option Value)} {md' : MD} {a1 a2 a3 a4 a5 a6 : Value} {rest : List Value} {P : Option Value → MM → Prop} (hd : cod kd pc = some (.invokevirtual idx, 3)) (hm : MI md' 6) (hlk : Cond.methodLink md.1.cls idx md'.1 ∈ TB) (ho : At Sh N o (.inr (ci, fl))) (hC : Con E md' d' 0 0 [.ref o, a1, a2, a3, a4, a5, a6] Sh N G M (PR Sh N P) nox) (kk : ∀ r M1, P r M1 → PT k E Q cm sm Sh N G M1 (pc + 3) L (r.toList ++ rest)) (hd' : d' < d := by omega) (hLn : L.length = md.2.2.1 := by rfl) (hrest : (rest.map fun v => v.category).sum ≤ 8 := by exact Nat.le_of_ble_eq_true rfl) (hci : (vwCl[ci]?).map (fun q => q.1) = some md'.1.cls := by rfl) : PT k E Q cm sm Sh N G M pc L (a6 :: a5 :: a4 :: a3 :: a2 :: a1 :: .ref o :: rest) := by
  refine r_callV (As := [a1, a2, a3, a4, a5, a6]) (rest := rest) C hd hm hlk ho hci hC rfl hLn hd' hrest (Nat.zero_le _) (Nat.zero_le _) (fun _ h => h.elim) ?_
  rintro r Sh' N' M' ⟨rfl, rfl, hP⟩
  exact kk r M' hP
theorem v6_x (C : CK k E md kd d mc ms) {idx o ci d' mc' ms' : Nat} {fl : List (Option Value)} {md' : MD} {a1 a2 a3 a4 a5 a6 : Value} {rest : List Value} {P : Option Value → MM → Prop} {PX : String → Prop} (hd : cod kd pc = some (.invokevirtual idx, 3)) (hm : MI md' 6) (hlk : Cond.methodLink md.1.cls idx md'.1 ∈ TB) (ho : At Sh N o (.inr (ci, fl))) (hC : Con E md' d' mc' ms' [.ref o, a1, a2, a3, a4, a5, a6] Sh N G M (PR Sh N P) PX) (h1 : mc' ≤ cm) (h2 : ms' ≤ sm) (kx : ∀ X, PX X → TH k E Q (cm - mc') (sm - ms') Sh N M pc L X) (kk : ∀ r M1, P r M1 → PT k E Q (cm - mc') (sm - ms') Sh N G M1 (pc + 3) L (r.toList ++ rest)) (hd' : d' < d := by omega) (hLn : L.length = md.2.2.1 := by rfl) (hrest : (rest.map fun v => v.category).sum ≤ 8 := by exact Nat.le_of_ble_eq_true rfl) (hci : (vwCl[ci]?).map (fun q => q.1) = some md'.1.cls := by rfl) : PT k E Q cm sm Sh N G M pc L (a6 :: a5 :: a4 :: a3 :: a2 :: a1 :: .ref o :: rest) := by
  refine r_callV (As := [a1, a2, a3, a4, a5, a6]) (rest := rest) C hd hm hlk ho hci hC rfl hLn hd' hrest h1 h2 kx ?_
  rintro r Sh' N' M' ⟨rfl, rfl, hP⟩
  exact kk r M' hP
theorem s6_r (C : CK k E md kd d mc ms) {idx d' : Nat} {md' : MD} {a1 a2 a3 a4 a5 a6 : Value} {rest : List Value} {x : Value} {M1 : MM} (hd : cod kd pc = some (.invokestatic idx, 3)) (hm : MS md' 6) (hlk : Cond.methodLink md.1.cls idx md'.1 ∈ TB) (hC : Con E md' d' 0 0 [a1, a2, a3, a4, a5, a6] Sh N G M (P1 (some x) Sh N M1) nox) (kk : PT k E Q cm sm Sh N G M1 (pc + 3) L (x :: rest)) (hd' : d' < d := by omega) (hLn : L.length = md.2.2.1 := by rfl) (hrest : (rest.map fun v => v.category).sum ≤ 8 := by exact Nat.le_of_ble_eq_true rfl) : PT k E Q cm sm Sh N G M pc L (a6 :: a5 :: a4 :: a3 :: a2 :: a1 :: rest) := by
  refine r_callS (As := [a1, a2, a3, a4, a5, a6]) (rest := rest) C hd hm hlk hC rfl hLn hd' hrest (Nat.zero_le _) (Nat.zero_le _) (fun _ h => h.elim) ?_
  rintro r Sh' N' M' ⟨rfl, rfl, rfl, rfl⟩
  exact kk
theorem s6_x (C : CK k E md kd d mc ms) {idx d' mc' ms' : Nat} {md' : MD} {a1 a2 a3 a4 a5 a6 : Value} {rest : List Value} {P : Option Value → MM → Prop} {PX : String → Prop} (hd : cod kd pc = some (.invokestatic idx, 3)) (hm : MS md' 6) (hlk : Cond.methodLink md.1.cls idx md'.1 ∈ TB) (hC : Con E md' d' mc' ms' [a1, a2, a3, a4, a5, a6] Sh N G M (PR Sh N P) PX) (h1 : mc' ≤ cm) (h2 : ms' ≤ sm) (kx : ∀ X, PX X → TH k E Q (cm - mc') (sm - ms') Sh N M pc L X) (kk : ∀ r M1, P r M1 → PT k E Q (cm - mc') (sm - ms') Sh N G M1 (pc + 3) L (r.toList ++ rest)) (hd' : d' < d := by omega) (hLn : L.length = md.2.2.1 := by rfl) (hrest : (rest.map fun v => v.category).sum ≤ 8 := by exact Nat.le_of_ble_eq_true rfl) : PT k E Q cm sm Sh N G M pc L (a6 :: a5 :: a4 :: a3 :: a2 :: a1 :: rest) := by
  refine r_callS (As := [a1, a2, a3, a4, a5, a6]) (rest := rest) C hd hm hlk hC rfl hLn hd' hrest h1 h2 kx ?_
  rintro r Sh' N' M' ⟨rfl, rfl, hP⟩
  exact kk r M' hP
end STAT
end
section
section MATH
theorem ma_max : Cond.code Lib.Math.max.name Lib.Math.max.code 2 (some .int) ∈ TB := tb1 128 (by decide +kernel) (by decide +kernel)
theorem mt_max : Cond.static Lib.Math.max.name ∈ TB := tb1 127 (by decide +kernel) (by decide +kernel)
theorem ma_min : Cond.code Lib.Math.min.name Lib.Math.min.code 2 (some .int) ∈ TB := tb3 4 (by decide +kernel) (by decide +kernel)
theorem mt_min : Cond.static Lib.Math.min.name ∈ TB := tb3 3 (by decide +kernel) (by decide +kernel)
theorem ma_abs : Cond.code Lib.Math.abs.name Lib.Math.abs.code 1 (some .int) ∈ TB := tb5 230 (by decide +kernel) (by decide +kernel)
theorem mt_abs : Cond.static Lib.Math.abs.name ∈ TB := tb5 229 (by decide +kernel) (by decide +kernel)
theorem mi_math : Cond.initialized "java/lang/Math" ∈ TB := tb1 4 (by decide +kernel) (by decide +kernel)
variable {k : MC} {E : VE} {md : MD} {kd : List (Nat × Instr × Nat)} {d mc ms : Nat} {Q : State → Prop} {cm sm : Nat} {Sh : Nat → SE} {N : Nat} {G : Bool} {M : MM} {pc : Nat} {L : List (Option Value)} {st : List Value}
theorem r_max (C : CK k E md kd d mc ms) {idx : Nat} {rest : List Value} {x y : Int32} (hd : cod kd pc = some (.invokestatic idx, 3)) (hlk : Cond.methodLink md.1.cls idx Lib.Math.max.name ∈ TB) (kk : PT k E Q cm sm Sh N G M (pc + 3) L (.int (if x < y then y else x) :: rest)) (hd1 : 1 ≤ d := by omega) (hLn : L.length = md.2.2.1 := by rfl) (hrest : (rest.map fun v => v.category).sum ≤ 8 := by exact Nat.le_of_ble_eq_true rfl) : PT k E Q cm sm Sh N G M pc L (.int y :: .int x :: rest) := by
  intro ls H locs cells slots hL hH hS hc hs
  have h8 := cat_rest (E := E) rest hrest
  refine va_mmax C.x C.b (by rw [C.ml, hL.1, hLn]) C.own (C.ts _ hlk) (C.ts _ mt_max) (C.ts _ mi_math) (C.ts _ ma_max) (by rw [C.rm]; exact hd1) ?_ (Nat.le_trans (Nat.le_add_right _ _) hc) (Nat.le_trans (Nat.le_add_right _ _) hs) (C.dec hd) (kk ls H locs cells slots hL hH hS hc hs)
  rw [C.rm]
  show _ ≤ 40 * d
  omega
theorem r_min (C : CK k E md kd d mc ms) {idx : Nat} {rest : List Value} {x y : Int32} (hd : cod kd pc = some (.invokestatic idx, 3)) (hlk : Cond.methodLink md.1.cls idx Lib.Math.min.name ∈ TB) (kk : PT k E Q cm sm Sh N G M (pc + 3) L (.int (if y < x then y else x) :: rest)) (hd1 : 1 ≤ d := by omega) (hLn : L.length = md.2.2.1 := by rfl) (hrest : (rest.map fun v => v.category).sum ≤ 8 := by exact Nat.le_of_ble_eq_true rfl) : PT k E Q cm sm Sh N G M pc L (.int y :: .int x :: rest) := by
  intro ls H locs cells slots hL hH hS hc hs
  have h8 := cat_rest (E := E) rest hrest
  refine va_mmin C.x C.b (by rw [C.ml, hL.1, hLn]) C.own (C.ts _ hlk) (C.ts _ mt_min) (C.ts _ mi_math) (C.ts _ ma_min) (by rw [C.rm]; exact hd1) ?_ (Nat.le_trans (Nat.le_add_right _ _) hc) (Nat.le_trans (Nat.le_add_right _ _) hs) (C.dec hd) (kk ls H locs cells slots hL hH hS hc hs)
  rw [C.rm]
  show _ ≤ 40 * d
  omega
theorem r_abs (C : CK k E md kd d mc ms) {idx : Nat} {rest : List Value} {x : Int32} (hd : cod kd pc = some (.invokestatic idx, 3)) (hlk : Cond.methodLink md.1.cls idx Lib.Math.abs.name ∈ TB) (kk : PT k E Q cm sm Sh N G M (pc + 3) L (.int (if 0 ≤ x then x else 0 - x) :: rest)) (hd1 : 1 ≤ d := by omega) (hLn : L.length = md.2.2.1 := by rfl) (hrest : (rest.map fun v => v.category).sum ≤ 8 := by exact Nat.le_of_ble_eq_true rfl) : PT k E Q cm sm Sh N G M pc L (.int x :: rest) := by
  intro ls H locs cells slots hL hH hS hc hs
  have h8 := cat_rest (E := E) rest hrest
  refine va_mabs C.x C.b (by rw [C.ml, hL.1, hLn]) C.own (C.ts _ hlk) (C.ts _ mt_abs) (C.ts _ mi_math) (C.ts _ ma_abs) (by rw [C.rm]; exact hd1) ?_ (Nat.le_trans (Nat.le_add_right _ _) hc) (Nat.le_trans (Nat.le_add_right _ _) hs) (C.dec hd) (kk ls H locs cells slots hL hH hS hc hs)
  rw [C.rm]
  show _ ≤ 40 * d
  omega
end MATH
end
section
section ACW
theorem ac_nat : Cond.native arraycopyName ∈ TB := tb3 40 (by decide +kernel) (by decide +kernel)
theorem ac_stat : Cond.static arraycopyName ∈ TB := tb3 39 (by decide +kernel) (by decide +kernel)
theorem ac_ini : Cond.initialized "java/lang/System" ∈ TB := tb1 23 (by decide +kernel) (by decide +kernel)
theorem lkac_X8_80 : Cond.methodLink RX8 80 arraycopyName ∈ TB := tb3 38 (by decide +kernel) (by decide +kernel)
theorem lkac_X11_414 : Cond.methodLink RX11 414 arraycopyName ∈ TB := tb3 41 (by decide +kernel) (by decide +kernel)
theorem lkac_X10_48 : Cond.methodLink RX10 48 arraycopyName ∈ TB := tb4 4 (by decide +kernel) (by decide +kernel)
theorem lkac_X9_48 : Cond.methodLink RX9 48 arraycopyName ∈ TB := tb4 193 (by decide +kernel) (by decide +kernel)
theorem lkac_X5_43 : Cond.methodLink RX5 43 arraycopyName ∈ TB := tb5 59 (by decide +kernel) (by decide +kernel)
theorem lkac_X4_47 : Cond.methodLink RX4 47 arraycopyName ∈ TB := tb5 160 (by decide +kernel) (by decide +kernel)
def mJ9_floorMod : MD := (yJ9_floorMod_7cf53, cJ9_floorMod_7cf53, 3, some .int)
theorem mfJ9_floorMod_7cf53 : MS mJ9_floorMod 2 := ⟨⟨tb4 192 (by decide +kernel) (by decide +kernel), tb1 4 (by decide +kernel) (by decide +kernel), by decide +kernel, by decide +kernel⟩, tb4 191 (by decide +kernel) (by decide +kernel)⟩
end ACW
end
section
section RETQ
theorem Con.ofQ {E : VE} {md : MD} {d mc ms : Nat} {av : List Value} {Sh : Nat → SE} {N : Nat} {G : Bool} {M : MM} {Post : Option Value → (Nat → SE) → Nat → MM → Prop} {PX : String → Prop}
    (hy : plainName md.1.cls = true) (h1 : ∀ v ∈ av, v.category = 1) (hn : av.length ≤ md.2.2.1)
    (body : ∀ k : MC, CX k E md d mc ms → ∀ Q : State → Prop, Q = QM k E mc ms Sh N G M Post PX → PT k E Q mc ms Sh N G M 0 (av.map some ++ List.replicate (md.2.2.1 - av.length) none) []) : Con E md d mc ms av Sh N G M Post PX :=
  Con.of hy h1 hn (fun k C => body k C _ rfl)
variable {k : MC} {E : VE} {md : MD} {kd : List (Nat × Instr × Nat)} {d mc ms : Nat} {Q : State → Prop} {cm sm : Nat} {Sh : Nat → SE} {N : Nat} {G : Bool} {M : MM} {pc : Nat} {L : List (Option Value)}
theorem q_iret (C : CK k E md kd d mc ms) {Sh0 : Nat → SE} {N0 : Nat} {M0 : MM} {Post : Option Value → (Nat → SE) → Nat → MM → Prop} {PX : String → Prop} {v : Int32} {ty : FieldType} (hQ : Q = QM k E mc ms Sh0 N0 G M0 Post PX) (hd : cod kd pc = some (.ireturn, 1)) (ht : md.2.2.2 = some ty) (hn : narrow ty (.int v) = .int v) (hp : Post (some (.int v)) Sh N M) : PT k E Q cm sm Sh N G M pc L [.int v] := by
  subst hQ
  exact r_iret C hd ht hn hp
theorem q_vret (C : CK k E md kd d mc ms) {Sh0 : Nat → SE} {N0 : Nat} {M0 : MM} {Post : Option Value → (Nat → SE) → Nat → MM → Prop} {PX : String → Prop} (hQ : Q = QM k E mc ms Sh0 N0 G M0 Post PX) (hd : cod kd pc = some (.return_, 1)) (ht : md.2.2.2 = none) (hp : Post none Sh N M) : PT k E Q cm sm Sh N G M pc L [] := by
  subst hQ
  exact r_vret C hd ht hp
theorem q_aret (C : CK k E md kd d mc ms) {Sh0 : Nat → SE} {N0 : Nat} {M0 : MM} {Post : Option Value → (Nat → SE) → Nat → MM → Prop} {PX : String → Prop} {o : Nat} {rt : FieldType} (hQ : Q = QM k E mc ms Sh0 N0 G M0 Post PX) (hd : cod kd pc = some (.areturn, 1)) (ht : md.2.2.2 = some rt) (hrt : (∃ n, rt = .object n) ∨ ∃ t, rt = .array t) (hp : Post (some (.ref o)) Sh N M) : PT k E Q cm sm Sh N G M pc L [.ref o] := by
  subst hQ
  exact r_aret C hd ht hrt hp
end RETQ
end
section
section COPY
/-- the numbers with another array a -/
def aset (M : MM) (a : Nat) (F : Nat → Int32) : MM := fun x y => if x = a then F y else M x y
theorem aset_own (M : MM) (a : Nat) (F : Nat → Int32) : aset M a F a = F := by funext y; simp [aset]
theorem aset_ne (M : MM) {a b : Nat} (F : Nat → Int32) (h : b ≠ a) : aset M a F b = M b := by funext y; simp [aset, h]
theorem aset_self (M : MM) (a : Nat) : aset M a (M a) = M := by funext x y; by_cases h : x = a <;> simp [aset, h]
theorem aset_aset (M : MM) (a : Nat) (F F' : Nat → Int32) : aset (aset M a F) a F' = aset M a F' := by funext x y; by_cases h : x = a <;> simp [aset, h]
variable {k : MC} {E : VE} {md : MD} {kd : List (Nat × Instr × Nat)} {d mc ms : Nat} {Q : State → Prop} {cm sm : Nat} {Sh : Nat → SE} {N : Nat} {G : Bool} {M : MM} {pc : Nat} {L : List (Option Value)}
/-- System.arraycopy of ints -/
theorem r_acopy (C : CK k E md kd d mc ms) {idx a0 a1 n0 n1 : Nat} (sp dp n : Nat) {x y z : Int32} {rest : List Value} (hd : cod kd pc = some (.invokestatic idx, 3)) (hlk : Cond.methodLink md.1.cls idx arraycopyName ∈ TB) (h0 : At Sh N a0 (arE 0 n0)) (h1 : At Sh N a1 (arE 0 n1)) (hx : x = nI sp) (hy : y = nI dp) (hz : z = nI n) (b0 : sp + n ≤ n0) (b1 : dp + n ≤ n1) (hn0 : n0 < 2 ^ 31) (hn1 : n1 < 2 ^ 31)
    (kk : PT k E Q cm sm Sh N G (aset M a1 (va_cpy (M a0) (M a1) sp dp n)) (pc + 3) L rest) (hd1 : 1 ≤ d := by omega) (hLn : L.length = md.2.2.1 := by rfl) (hrest : (rest.map fun v => v.category).sum ≤ 8 := by exact Nat.le_of_ble_eq_true rfl) : PT k E Q cm sm Sh N G M pc L (.int z :: .int y :: .ref a1 :: .int x :: .ref a0 :: rest) := by
  subst hx; subst hy; subst hz
  intro ls H locs cells slots hL hH hS hc hs
  have h8 := cat_rest (E := E) rest hrest
  have c0 := ar_at h0 (by decide) hH
  have c1 := ar_at h1 (by decide) hH
  have es : (nI sp).toNatClampNeg = sp := nI_clamp (by omega)
  have ed : (nI dp).toNatClampNeg = dp := nI_clamp (by omega)
  have en : (nI n).toNatClampNeg = n := nI_clamp (by omega)
  intro T hT X
  obtain ⟨-, k0, hk0, cm0, hkk0⟩ := ar_ty0 C n0 (fun j => .int (M a0 j))
  obtain ⟨-, k1, hk1, cm1, hkk1⟩ := ar_ty0 C n1 (fun j => .int (M a1 j))
  obtain ⟨vm', X', step⟩ := X.arraycopy C.x C.own (C.ts _ hlk) (C.ts _ ac_nat) (C.ts _ ac_stat) (C.ts _ ac_ini) (src := E.2.1 + a0) (dst := E.2.1 + a1) (cs := vp_cell (E.2.2.2 0) (n0, .inl (M a0))) (cd := vp_cell (E.2.2.2 0) (n1, .inl (M a1))) (srcPos := nI sp) (destPos := nI dp) (n := nI n) (by rw [hT]; exact c0) (by rw [hT]; exact c1)
    (fun _ h => by cases h) (fun _ h => by cases h) (fun h => by cases h) (fun h => by cases h) hk0 hk1 hkk0 hkk1 (by decide) (nI_pos (by omega)) (nI_pos (by omega)) (nI_pos (by omega))
    (by rw [nI_toInt (by omega), nI_toInt (by omega)]; show ¬ _ > ((arrV _ n0 (fun j => .int (M a0 j))).slots.size : Int); rw [arrV_size]; omega)
    (by rw [nI_toInt (by omega), nI_toInt (by omega)]; show ¬ _ > ((arrV _ n1 (fun j => .int (M a1 j))).slots.size : Int); rw [arrV_size]; omega)
    (fun vm₁ _ i hi => by
      rw [en] at hi
      have e : (vp_cell (E.2.2.2 0) (n0, .inl (M a0))).slots.getD ((nI sp).toNatClampNeg + i) .null = .int (M a0 (sp + i)) := by
        rw [es]
        show (arrV _ n0 (fun j => .int (M a0 j))).slots.getD _ _ = _
        rw [Array.getD_eq_getD_getElem?, arrV_read _ _ (by omega)]
        rfl
      refine ⟨?_, ?_⟩
      · rw [e]; rfl
      · rw [e]; exact trivial)
    (g := F0 (kM k) pc ls (.int (nI n) :: .int (nI dp) :: .ref (E.2.1 + a1) :: .int (nI sp) :: .ref (E.2.1 + a0) :: rest.map (cv E))) rfl (by rw [C.ml]; show ls.size = _; rw [hL.1, hLn]) (rest := rest.map (cv E)) rfl (by rw [C.b]; exact C.dec hd) (by rw [C.rm]; exact hd1) (by
      have hnw : nativeFrameWords "java/lang/System" "arraycopy" 5 ≤ 20 := by decide
      rw [C.rm]
      show 2 * 0 + _ + _ ≤ 40 * d
      omega)
  have e1 : copied (vp_cell (E.2.2.2 0) (n0, .inl (M a0))) (vp_cell (E.2.2.2 0) (n1, .inl (M a1))) (nI sp) (nI dp) (nI n) = vp_cell (E.2.2.2 0) (n1, .inl (va_cpy (M a0) (M a1) (nI sp).toNatClampNeg (nI dp).toNatClampNeg (nI n).toNatClampNeg)) := va_copied (fun z => .int z) _ _ (M a0) (M a1) (by rw [es, en]; exact b0)
  rw [es, ed, en] at e1
  rw [e1] at X' step
  have hl : E.2.1 + a1 < H.size := (Array.getElem?_eq_some_iff.mp c1).1
  have hheap : ((T.setVm vm').setCell (E.2.1 + a1) (vp_cell (E.2.2.2 0) (n1, .inl (va_cpy (M a0) (M a1) sp dp n)))).heap = H.setIfInBounds (E.2.1 + a1) (vp_cell (E.2.2.2 0) (n1, .inl (va_cpy (M a0) (M a1) sp dp n))) := by rw [← hT]; rfl
  have oq : ∀ q : Nat, q ≠ E.2.1 + a1 → (H.setIfInBounds (E.2.1 + a1) (vp_cell (E.2.2.2 0) (n1, .inl (va_cpy (M a0) (M a1) sp dp n))))[q]? = H[q]? := fun q hq => by simp [Array.getElem?_setIfInBounds, Ne.symm hq]
  have hH' : HR E Sh N G (aset M a1 (va_cpy (M a0) (M a1) sp dp n)) (H.setIfInBounds (E.2.1 + a1) (vp_cell (E.2.2.2 0) (n1, .inl (va_cpy (M a0) (M a1) sp dp n)))) := by
    refine hH.put a1 ?_ (fun _ _ => rfl) (fun i hi => aset_ne M _ hi) (by simp) oq
    rw [h1.2, aset_own]
    show (H.setIfInBounds (E.2.1 + a1) _)[E.2.1 + a1]? = some _
    simp [Array.getElem?_setIfInBounds, hl]
  obtain ⟨t, g1, g2⟩ := kk ls _ _ cells slots hL hH' ⟨by simp; exact hS.1, fun q g1 g2 => by
      rw [oq q (fun e => g2 (by rw [e]; exact Nat.le_add_right _ _))]
      exact hS.2.1 q g1 g2, fun q hq => by
      rcases List.mem_append.mp hq with h | h
      · exact hS.2.2 q h
      · obtain ⟨z, -, hz⟩ := List.mem_map.mp h
        rw [← hz]
        exact Nat.le_add_right _ _⟩ hc hs _ hheap X'
  exact ⟨t, step t g1, g2⟩
/-- a member of which the machine has no entry of its own -/
theorem vx_ofWF {l : Launch} {y : MethodName} {ws ws' : List Cond} {rm : Room} {Pc : Array Value → State → Prop} {Qc : Array Value → State → Outcome → State → Prop} {XC : String → State → State → Prop} {mc ms : Nat} {free : Addr → Prop} {cc : ByteArray} {maxL : Nat} {ret : Option FieldType}
    (hy : plainFor y = true) (hw : ws = Cond.code y cc maxL ret :: ws')
    (body : ∀ p e s m args below meth c s₁, BodyLoose p l y (headSpec ws rm) cc maxL ret e s m args below meth c s₁ → c.maxLocals = maxL → (∀ x ∈ c.exceptionTable.toList, False) → Pc args s →
      W p l e (headSpec ws rm).room s m args below meth c s.heap [] 0 0 (vx_MQ below Qc XC args s mc ms free) (entryFrame m args maxL)) : vx_Met l y ws rm Pc Qc XC mc ms free := by
  refine MetFree.of_bodySF (code := cc) (maxLocals := maxL) (ret := ret) hy ?_ ?_
  · intro args s m h hn
    obtain ⟨meth, c, h1, h2, h3, h4, h5, h6, -, -⟩ := Cond.code_spec hn (atoms_spec (ws := ws) h _ (by rw [hw]; exact List.mem_cons_self))
    exact ⟨meth, c, h1, h2, h3, h4, h5, h6⟩
  · intro p e s m args below meth c s₁ B hml hP _
    have hh0 : s₁.heap = s.heap := by rw [B.state]; rfl
    have ht : ∀ x ∈ c.exceptionTable.toList, False := by
      obtain ⟨meth9, c9, h1, h2, -, -, -, -, h7, -⟩ := Cond.code_spec B.named (atoms_spec (ws := ws) B.pre _ (by rw [hw]; exact List.mem_cons_self))
      cases Option.some.inj (h1.symm.trans B.method)
      cases Option.some.inj (h2.symm.trans (Stand.of_body B).code)
      intro x hx
      rw [Array.isEmpty_iff.mp h7] at hx
      cases hx
    obtain ⟨t, a1, o, b1, b2, b3⟩ := body p e s m args below meth c s₁ B hml ht hP s₁ hh0 (Stand.of_body B)
    exact ⟨t, o, a1, b1, b2, b3⟩
theorem Con.ofF {av : List Value} {Post : Option Value → (Nat → SE) → Nat → MM → Prop} {PX : String → Prop}
    (hy : plainFor md.1 = true) (h1 : ∀ v ∈ av, v.category = 1) (hn : av.length ≤ md.2.2.1)
    (body : ∀ k : MC, CX k E md d mc ms → ∀ Q : State → Prop, Q = QM k E mc ms Sh N G M Post PX → PT k E Q mc ms Sh N G M 0 (av.map some ++ List.replicate (md.2.2.1 - av.length) none) []) : Con E md d mc ms av Sh N G M Post PX := by
  intro l hl
  refine vx_ofWF (cc := md.2.1) (maxL := md.2.2.1) (ret := md.2.2.2) hy rfl ?_
  intro p e s m args below meth c s₁ B hml hex hv
  obtain ⟨rfl, hH, hK⟩ := hv
  have hts : ∀ w ∈ TB, w.before (av.map (cv E)).toArray s = true := fun w hw => atoms_spec (ws := Cond.code md.1 md.2.1 md.2.2.1 md.2.2.2 :: TB) B.pre w (List.mem_cons_of_mem _ hw)
  have hC : CX (p, l, e, { frames := d, cells := mc, slots := ms, locals := 40 * d }, s, m, (av.map (cv E)).toArray, below, meth, c) E md d mc ms :=
    ⟨B.exec, B.bytes, hml, findClass_of_methodNamed B.named, hts, hK, B.notSynchronized, B.returns, (name_of_methodNamed B.named B.method).1, hl, hex, rfl⟩
  have hb := body _ hC _ rfl
  rw [lg_entry_eq]
  exact hb _ s.heap [] 0 0 (LR.entry E av md.2.2.1 h1 hn) hH va_S.rf (by show 0 + mc ≤ mc; omega) (by show 0 + ms ≤ ms; omega)
def kdJ9_floorMod : List (Nat × Instr × Nat) := [(0, .iload_n 0, 1), (1, .iload_n 1, 1), (2, .irem, 1), (3, .istore_n 2, 1), (4, .iload_n 0, 1), (5, .iload_n 1, 1), (6, .ixor, 1), (7, .ifCond .ge 11, 3), (10, .iload_n 2, 1), (11, .ifCond .eq 7, 3), (14, .iload_n 2, 1), (15, .iload_n 1, 1), (16, .iadd, 1), (17, .ireturn, 1), (18, .iload_n 2, 1), (19, .ireturn, 1)]
theorem kdJ9_floorMod_ok : ∀ q ∈ kdJ9_floorMod, decode cJ9_floorMod_7cf53 q.1 = .ok q.2 := by decide +kernel
theorem nx_xor (a b : Nat) : nI a ^^^ nI b = nI (a ^^^ b) := by
  apply Int32.toBitVec_inj.1
  show BitVec.ofNat 32 a ^^^ BitVec.ofNat 32 b = BitVec.ofNat 32 (a ^^^ b)
  apply BitVec.eq_of_getLsbD_eq
  intro i hi
  simp [hi]
theorem c_floorMod (a b : Nat) {x y : Int32} (hx : x = nI a) (hy : y = nI b) (ha : a < 2 ^ 31) (hb : b < 2 ^ 31) (hb0 : 0 < b) : Con E mJ9_floorMod 1 0 0 [.int x, .int y] Sh N G M (P1 (some (.int (nI (a % b)))) Sh N M) nox := by
  subst hx; subst hy
  refine Con.ofF (by decide +kernel) (by simp [Value.category]) (Nat.le_of_ble_eq_true rfl) (fun k C0 Q hQ => ?_)
  have C : CK k E mJ9_floorMod kdJ9_floorMod 1 0 0 := ⟨C0, kdJ9_floorMod_ok⟩
  refine r_iload_n C 0 rfl rfl rfl ?_
  refine r_iload_n C 1 rfl rfl rfl ?_
  refine r_irem C rfl (fun z => absurd ((nI_eq (b := 0) hb (by decide)).mp z) (by omega)) ?_
  refine r_top (nI (a % b)) (pk_rem ha hb0 hb) ?_
  refine r_istore_n C 2 rfl rfl (by exact Nat.le_of_ble_eq_true rfl) ?_
  refine r_iload_n C 0 rfl rfl rfl ?_
  refine r_iload_n C 1 rfl rfl rfl ?_
  refine r_ixor C rfl ?_
  refine r_if_ge C 18 rfl (by decide) (fun _ => ?_) (fun h => ?_)
  · refine r_iload_n C 2 rfl rfl rfl ?_
    exact q_iret C hQ rfl rfl rfl ⟨rfl, rfl, rfl, rfl⟩
  · refine absurd ?_ h
    rw [nx_xor]
    exact nI_pos' (Nat.xor_lt_two_pow ha hb)
end COPY
end
section
section SPEC
/-- the sum of the first n -/
def sm (f : Nat → Int32) : Nat → Int32
  | 0 => 0
  | n + 1 => sm f n + f n
theorem sm_cong {f g : Nat → Int32} : ∀ {n : Nat}, (∀ i, i < n → f i = g i) → sm f n = sm g n
  | 0, _ => rfl
  | n + 1, h => by rw [sm, sm, sm_cong (fun i hi => h i (by omega)), h n (by omega)]
abbrev mx (x y : Int32) : Int32 := if x < y then y else x
abbrev mi (x y : Int32) : Int32 := if y < x then y else x
/-- a row of 325 numbers is a wall: its traits, 24 bulges from 13 on, 144 waters from 37 on, 144 flags from 181 on -/
abbrev Row : Type := Nat → Int32
def strg (g f : Int32) (R : Row) (p : Nat) : Int32 := if R (181 + p) &&& nI 2 = nI 2 then 0 else if R (181 + p) &&& nI 1 = nI 1 then (g + f * mx 0 (mi (nI 60) (nI 180 - R (37 + p))) / nI 60) / nI 2 else g + f * mx 0 (mi (nI 60) (nI 180 - R (37 + p))) / nI 60
def lod (R : Row) (p : Nat) : Int32 := if R (181 + p) &&& nI 2 = nI 2 then 0 else nI 10 + R (37 + p) / nI 50
def bear (g f : Int32) (R : Row) (dp l : Nat) : Int32 := R 7 * nI 50 + sm (fun c => strg g f R (6 * l + c)) dp
def lods (R : Row) (dp l : Nat) : Int32 := sm (fun c => lod R (6 * l + c)) dp
/-- what presses on the layer l, n layers being above -/
def prs (R : Row) (dp l n : Nat) : Int32 := sm (fun i => lods R dp (l + 1 + i)) n
/-- a wall's row: its depth and how many layers it has -/
def WF (R : Row) (dp mn : Nat) : Prop := R 0 = nI dp ∧ 1 ≤ dp ∧ dp ≤ 6 ∧ R 1 = nI mn ∧ mn ≤ 24
theorem lt_nI {a b : Nat} (ha : a < 2 ^ 31) (hb : b < 2 ^ 31) (h : nI a < nI b) : a < b := (nI_ltI ha hb).mp h
theorem le_nI {a b : Nat} (ha : a < 2 ^ 31) (hb : b < 2 ^ 31) (h : nI a ≤ nI b) : a ≤ b := (nI_leI ha hb).mp h
theorem nlt_nI {a b : Nat} (ha : a < 2 ^ 31) (hb : b < 2 ^ 31) (h : ¬ nI a < nI b) : b ≤ a := Nat.not_lt.mp (fun q => h ((nI_ltI ha hb).mpr q))
theorem nle_nI {a b : Nat} (ha : a < 2 ^ 31) (hb : b < 2 ^ 31) (h : ¬ nI a ≤ nI b) : b < a := Nat.not_le.mp (fun q => h ((nI_leI ha hb).mpr q))
theorem add3 (a b c : Int32) : a + b + c = a + (b + c) := Int32.add_assoc a b c
/-- n steps, the first one first -/
def it {α : Type} (f : Nat → α → α) : Nat → α → α
  | 0, x => x
  | n + 1, x => f n (it f n x)
theorem it_keep {f : Nat → Row → Row} {j : Nat} (h : ∀ i R, f i R j = R j) : ∀ (n : Nat) (R : Row), it f n R j = R j
  | 0, _ => rfl
  | n + 1, R => by rw [it, h, it_keep h n R]
/-- while a layer is put up: c cells of it are laid -/
def rIn (R : Row) (mn c : Nat) : Row := fun j => if j = 13 + mn then 0 else if 37 + 6 * mn ≤ j ∧ j < 37 + 6 * mn + c then nI 200 else if 181 + 6 * mn ≤ j ∧ j < 181 + 6 * mn + c then 0 else R j
/-- a layer more -/
def rais1 (dp mn : Nat) (R : Row) : Row := fun j => if j = 11 then R 11 + nI 200 * nI dp else if j = 1 then nI (mn + 1) else rIn R mn dp j
/-- n layers more -/
def raisR (dp mn n : Nat) (R : Row) : Row := it (fun i => rais1 dp (mn + i)) n R
/-- water of n layers from the layer l on -/
def wat (R : Row) (dp l n : Nat) : Int32 := sm (fun i => sm (fun c => R (37 + (6 * (l + i) + c))) dp) n
/-- cut down to the layer l -/
def cutR (dp mn l : Nat) (R : Row) : Row := fun j => if j = 12 then R 12 + wat R dp l (mn - l) else if j = 1 then nI l else R j
/-- water comes into a cell -/
def wetS (p : Nat) (v : Int32) (R : Row) : Row := upd (upd R (37 + p) (R (37 + p) + mi v (nI 400 - R (37 + p)))) 11 (R 11 + mi v (nI 400 - R (37 + p)))
/-- how many layers are splashed -/
def bare (R : Row) (mn : Nat) : Nat := min (3 - (R 3).toNatClampNeg) mn
def comeR (dp mn : Nat) (dr : Int32) (R : Row) : Row :=
  it (fun c => wetS c (R 2 * mx 0 (nI 3 - R 3) / nI 3)) dp (it (fun l => wetS (6 * l) (dr * R 5 / nI 200)) (bare R mn) (if R 4 = 0 then it (fun c => wetS (6 * (mn - 1) + c) dr) dp R else R))
def flowS (w : Nat → Int32) (a b : Nat) (q : Int32) (R : Row) : Row := upd (upd R (37 + a) (R (37 + a) - (w a - w b) / q)) (37 + b) (upd R (37 + a) (R (37 + a) - (w a - w b) / q) (37 + b) + (w a - w b) / q)
def moveS (w : Nat → Int32) (dp mn l c : Nat) (R : Row) : Row :=
  let R1 := if c + 1 < dp then flowS w (6 * l + c) (6 * l + (c + 1)) (nI 4) R else R
  if l + 1 < mn then flowS w (6 * l + c) (6 * (l + 1) + c) (nI 8) R1 else R1
def moveR (w : Nat → Int32) (dp mn : Nat) (R : Row) : Row := it (fun l => it (fun c => moveS w dp mn l c) dp) mn R
def dryN (R : Row) (dp mn l c : Nat) : Int32 := (if c = 0 then R 5 else 0) + (if c = dp - 1 then R 6 / nI 2 else 0) + (if l = mn - 1 then nI 50 else 0)
def dryV (R : Row) (air : Int32) (dp mn l c : Nat) : Int32 := mi (R (37 + (6 * l + c))) (mx 0 (R (37 + (6 * l + c)) - nI 100) * air * dryN R dp mn l c / nI 20000)
def dryS (air : Int32) (dp mn l c : Nat) (R : Row) : Row := upd (upd R (37 + (6 * l + c)) (R (37 + (6 * l + c)) - dryV R air dp mn l c)) 12 (R 12 + dryV R air dp mn l c)
def dryR (air : Int32) (dp mn : Nat) (R : Row) : Row := it (fun l => it (fun c => dryS air dp mn l c) dp) mn R
/-- whether a cell cracks: w ahead of the week, v now -/
def cracks (fr : Bool) (sk w v : Int32) (c : Nat) : Bool := (fr && decide (c = 0) && (decide (nI 180 ≤ w) || decide (nI 180 ≤ v))) || (decide (nI 60 < sk) && decide (nI 150 ≤ w) && decide (v < nI 150))
/-- behind the cells of the layers below l, and c of the layer l -/
def crackR (fr : Bool) (sk : Int32) (w : Nat → Int32) (dp l c : Nat) (R : Row) : Row := fun j =>
  if 181 ≤ j ∧ j < 325 ∧ (j - 181) % 6 < dp ∧ ((j - 181) / 6 < l ∨ ((j - 181) / 6 = l ∧ (j - 181) % 6 < c)) ∧ cracks fr sk (w (j - 181)) (R (37 + (j - 181))) ((j - 181) % 6) = true then R j ||| nI 1 else R j
def anyB (p : Nat → Bool) : Nat → Bool
  | 0 => false
  | n + 1 => anyB p n || p n
def allB (p : Nat → Bool) : Nat → Bool
  | 0 => true
  | n + 1 => allB p n && p n
theorem anyB_of {p : Nat → Bool} {i : Nat} : ∀ {n : Nat}, i < n → p i = true → anyB p n = true
  | 0, h, _ => absurd h (Nat.not_lt_zero i)
  | n + 1, h, hp => by
    rw [anyB]
    rcases Nat.lt_or_ge i n with q | q
    · rw [anyB_of q hp]; rfl
    · rw [show n = i by omega, hp, Bool.or_true]
/-- why the layer l gives way -/
def whyR (R : Row) (dp l : Nat) : Int32 := if anyB (fun c => decide (R (181 + (6 * l + c)) &&& nI 2 = nI 2)) dp = true then nI 1 else if allB (fun c => decide (nI 180 ≤ R (37 + (6 * l + c)))) dp = true then nI 2 else if anyB (fun c => decide (R (181 + (6 * l + c)) &&& nI 1 = nI 1)) dp = true then nI 3 else nI 4
/-- how much more a layer bulges -/
def more (b p : Int32) : Int32 := (if b < p then 1 else 0) + (if b < p ∧ nI 2 * b ≤ p then 1 else 0)
/-- the bulges of the layers from l on grow -/
def sitR (g f : Int32) (dp mn l : Nat) (R : Row) : Row := fun j => if 13 + l ≤ j ∧ j < 13 + mn then R j + more (bear g f R dp (j - 13)) (prs R dp (j - 13) (mn - 1 - (j - 13))) else R j
def bI (b : Bool) : Int32 := if b = true then 1 else 0
theorem bI_or (a b : Bool) : bI a ||| bI b = bI (a || b) := by cases a <;> cases b <;> decide
theorem bI_and (a b : Bool) : bI a &&& bI b = bI (a && b) := by cases a <;> cases b <;> decide
theorem bI_if (c : Prop) [Decidable c] : (if c then (1 : Int32) else 0) = bI (decide c) := by by_cases h : c <;> simp [bI, h]
theorem bI_0 {b : Bool} (h : bI b = 0) : b = false := by cases b; rfl; exact absurd h (by decide)
theorem bI_1 {b : Bool} (h : ¬ bI b = 0) : b = true := by cases b; exact absurd rfl h; rfl
theorem crack_lo (fr : Bool) (sk : Int32) (w : Nat → Int32) (dp l c : Nat) (R : Row) {j : Nat} (h : j < 181) : crackR fr sk w dp l c R j = R j := by
  simp only [crackR]
  rw [if_neg (by omega)]
theorem crack_new (fr : Bool) (sk : Int32) (w : Nat → Int32) (dp l c : Nat) (R : Row) (hc : c < 6) : crackR fr sk w dp l c R (181 + (6 * l + c)) = R (181 + (6 * l + c)) := by
  simp only [crackR]
  rw [if_neg (fun q => ?_)]
  have e1 : (181 + (6 * l + c) - 181) = 6 * l + c := by omega
  rw [e1] at q
  omega
theorem crack_yes {fr : Bool} {sk : Int32} {w : Nat → Int32} {dp l c : Nat} {R : Row} (hc : c < dp) (hd : dp ≤ 6) (hl : 6 * l + c < 144) (h : cracks fr sk (w (6 * l + c)) (R (37 + (6 * l + c))) c = true) : upd (crackR fr sk w dp l c R) (181 + (6 * l + c)) (R (181 + (6 * l + c)) ||| nI 1) = crackR fr sk w dp l (c + 1) R := by
  funext j
  by_cases e : j = 181 + (6 * l + c)
  · subst e
    have e1 : (181 + (6 * l + c) - 181) = 6 * l + c := by omega
    have e2 : (6 * l + c) % 6 = c := by omega
    have e3 : (6 * l + c) / 6 = l := by omega
    simp only [upd, crackR, e1, e2, e3]
    rw [if_pos trivial, if_pos ⟨by omega, by omega, hc, Or.inr ⟨trivial, by omega⟩, h⟩]
  · simp only [upd]
    rw [if_neg e]
    simp only [crackR]
    have e2 : ∀ q : Prop, (181 ≤ j ∧ j < 325 ∧ (j - 181) % 6 < dp ∧ ((j - 181) / 6 < l ∨ ((j - 181) / 6 = l ∧ (j - 181) % 6 < c)) ∧ q) ↔ (181 ≤ j ∧ j < 325 ∧ (j - 181) % 6 < dp ∧ ((j - 181) / 6 < l ∨ ((j - 181) / 6 = l ∧ (j - 181) % 6 < c + 1)) ∧ q) := by
      intro q
      constructor
      · rintro ⟨h1, h2, h3, h4, h5⟩; exact ⟨h1, h2, h3, by omega, h5⟩
      · rintro ⟨h1, h2, h3, h4, h5⟩; exact ⟨h1, h2, h3, by omega, h5⟩
    simp only [e2]
theorem crack_no {fr : Bool} {sk : Int32} {w : Nat → Int32} {dp l c : Nat} {R : Row} (h : cracks fr sk (w (6 * l + c)) (R (37 + (6 * l + c))) c = false) : crackR fr sk w dp l c R = crackR fr sk w dp l (c + 1) R := by
  funext j
  by_cases e : 181 ≤ j ∧ j - 181 = 6 * l + c ∧ c < 6
  · obtain ⟨e0, e1, e9⟩ := e
    have e2 : (6 * l + c) % 6 = c := by omega
    simp only [crackR, e1, e2, h]
    rw [if_neg (fun q => absurd q.2.2.2.2 (by decide)), if_neg (fun q => absurd q.2.2.2.2 (by decide))]
  · simp only [crackR]
    have e2 : ∀ q : Prop, (181 ≤ j ∧ j < 325 ∧ (j - 181) % 6 < dp ∧ ((j - 181) / 6 < l ∨ ((j - 181) / 6 = l ∧ (j - 181) % 6 < c)) ∧ q) ↔ (181 ≤ j ∧ j < 325 ∧ (j - 181) % 6 < dp ∧ ((j - 181) / 6 < l ∨ ((j - 181) / 6 = l ∧ (j - 181) % 6 < c + 1)) ∧ q) := by
      intro q
      constructor
      · rintro ⟨h1, h2, h3, h4, h5⟩; exact ⟨h1, h2, h3, by omega, h5⟩
      · rintro ⟨h1, h2, h3, h4, h5⟩; exact ⟨h1, h2, h3, by omega, h5⟩
    simp only [e2]
theorem crack_row {fr : Bool} {sk : Int32} {w : Nat → Int32} {dp l : Nat} {R : Row} : crackR fr sk w dp l dp R = crackR fr sk w dp (l + 1) 0 R := by
  funext j
  simp only [crackR]
  have e2 : ∀ q : Prop, (181 ≤ j ∧ j < 325 ∧ (j - 181) % 6 < dp ∧ ((j - 181) / 6 < l ∨ ((j - 181) / 6 = l ∧ (j - 181) % 6 < dp)) ∧ q) ↔ (181 ≤ j ∧ j < 325 ∧ (j - 181) % 6 < dp ∧ ((j - 181) / 6 < l + 1 ∨ ((j - 181) / 6 = l + 1 ∧ (j - 181) % 6 < 0)) ∧ q) := by
    intro q
    constructor
    · rintro ⟨h1, h2, h3, h4, h5⟩; exact ⟨h1, h2, h3, by omega, h5⟩
    · rintro ⟨h1, h2, h3, h4, h5⟩; exact ⟨h1, h2, h3, by omega, h5⟩
  simp only [e2]
theorem crack_0 {fr : Bool} {sk : Int32} {w : Nat → Int32} {dp : Nat} {R : Row} : crackR fr sk w dp 0 0 R = R := by
  funext j
  simp only [crackR]
  rw [if_neg (by omega)]
/-- the lowest of n layers from l on whose bulge is 6 or more -/
def lowN (R : Row) : Nat → Nat → Option Nat
  | _, 0 => none
  | l, n + 1 => if nI 6 ≤ R (13 + l) then some l else lowN R (l + 1) n
def fI (x : Option Nat) : Int32 := match x with
  | none => -1
  | some l => nI l
theorem lowN_lt {R : Row} : ∀ {n l i : Nat}, lowN R l n = some i → l ≤ i ∧ i < l + n
  | 0, l, i, h => by simp [lowN] at h
  | n + 1, l, i, h => by
    rw [lowN] at h
    split at h
    · cases h; omega
    · have := lowN_lt h; omega
/-- what falls is gone -/
def fallR (dp mn : Nat) (R : Row) : Row := match lowN R 0 mn with
  | none => R
  | some l => cutR dp mn l (upd (upd R 10 (whyR R dp l)) 9 (R 9 + nI 1))
def fallN (R : Row) (mn : Nat) : Nat := match lowN R 0 mn with
  | none => mn
  | some l => l
theorem strg_cong {g f : Int32} {R R' : Row} (h : ∀ j, j < 13 ∨ 37 ≤ j → R j = R' j) (p : Nat) : strg g f R p = strg g f R' p := by
  simp only [strg]
  rw [h (181 + p) (by omega), h (37 + p) (by omega)]
theorem lod_cong {R R' : Row} (h : ∀ j, j < 13 ∨ 37 ≤ j → R j = R' j) (p : Nat) : lod R p = lod R' p := by
  simp only [lod]
  rw [h (181 + p) (by omega), h (37 + p) (by omega)]
theorem bear_cong {g f : Int32} {R R' : Row} (h : ∀ j, j < 13 ∨ 37 ≤ j → R j = R' j) (dp l : Nat) : bear g f R dp l = bear g f R' dp l := by
  simp only [bear]
  rw [h 7 (by omega), sm_cong (fun i _ => strg_cong h _)]
theorem prs_cong {R R' : Row} (h : ∀ j, j < 13 ∨ 37 ≤ j → R j = R' j) (dp l n : Nat) : prs R dp l n = prs R' dp l n := by
  simp only [prs]
  exact sm_cong (fun i _ => by simp only [lods]; exact sm_cong (fun c _ => lod_cong h _))
theorem sit_keep (g f : Int32) (dp mn l : Nat) (R : Row) (hm : mn ≤ 24) {j : Nat} (h : j < 13 ∨ 37 ≤ j) : sitR g f dp mn l R j = R j := by
  simp only [sitR]
  rw [if_neg (by omega)]
theorem sit_below (g f : Int32) (dp mn l : Nat) (R : Row) {i : Nat} (h : i < l) : sitR g f dp mn l R (13 + i) = R (13 + i) := by
  simp only [sitR]
  rw [if_neg (by omega)]
theorem sit_step (g f : Int32) (dp mn l : Nat) (R : Row) (h : l < mn) : upd (sitR g f dp mn (l + 1) R) (13 + l) (R (13 + l) + more (bear g f R dp l) (prs R dp l (mn - 1 - l))) = sitR g f dp mn l R := by
  funext j
  simp only [upd, sitR]
  by_cases e : j = 13 + l
  · subst e
    have e1 : 13 + l - 13 = l := by omega
    rw [if_pos rfl, if_pos (by omega), e1]
  · rw [if_neg e]
    by_cases q : 13 + (l + 1) ≤ j ∧ j < 13 + mn
    · rw [if_pos q, if_pos (by omega)]
    · rw [if_neg q, if_neg (by omega)]
theorem sit_end (g f : Int32) (dp mn : Nat) (R : Row) : sitR g f dp mn mn R = R := by
  funext j
  simp only [sitR]
  rw [if_neg (by omega)]
theorem sit_same (g f : Int32) (dp mn l : Nat) (R : Row) {i : Nat} (h : l ≤ i) : sitR g f dp mn l R (13 + i) = sitR g f dp mn 0 R (13 + i) := by
  simp only [sitR]
  by_cases q : 13 + i < 13 + mn
  · rw [if_pos (by omega), if_pos (by omega)]
  · rw [if_neg (by omega), if_neg (by omega)]
theorem wetS_keep (p : Nat) (v : Int32) (R : Row) {j : Nat} (h : j < 37) (h2 : j ≠ 11) : wetS p v R j = R j := by
  simp only [wetS, upd]
  rw [if_neg h2, if_neg (by omega)]
theorem bare_le {sh l : Nat} (hs : sh ≤ 9) (hl : l < 100) : (nI 3 - nI sh ≤ nI l) ↔ 3 ≤ l + sh := by
  rw [Int32.le_iff_toInt_le, pk_sub_toInt (by omega) (by omega), nI_toInt (by omega)]
  omega
/-- a week: rain, air, frost, what the earth is -/
def weekW (g f sk dr air : Int32) (fr : Bool) (dp mn : Nat) (R : Row) : Row :=
  fallR dp mn (sitR g f dp mn 0 (crackR fr sk (fun j => R (37 + j)) dp mn 0 (dryR air dp mn (moveR (fun j => comeR dp mn dr R (37 + j)) dp mn (comeR dp mn dr R)))))
def weekR (g f sk dr air : Int32) (fr : Bool) (dp mn : Nat) (R : Row) : Row := upd (if mn = 0 then R else weekW g f sk dr air fr dp mn R) 8 (R 8 + nI 1)
theorem come_keep (dp mn : Nat) (dr : Int32) (R : Row) {j : Nat} (h : j < 37) (h2 : j ≠ 11) : comeR dp mn dr R j = R j := by
  simp only [comeR]
  rw [it_keep (fun i R' => wetS_keep i _ R' h h2), it_keep (fun i R' => wetS_keep (6 * i) _ R' h h2)]
  split
  · rw [it_keep (fun i R' => wetS_keep (6 * (mn - 1) + i) _ R' h h2)]
  · rfl
theorem crackR_w {fr : Bool} {sk : Int32} {w w' : Nat → Int32} {dp l c : Nat} {R : Row} (h : ∀ j, j < 144 → w j = w' j) : crackR fr sk w dp l c R = crackR fr sk w' dp l c R := by
  funext j
  simp only [crackR]
  by_cases q : 181 ≤ j ∧ j < 325
  · rw [h (j - 181) (by omega)]
  · rw [if_neg (fun z => q ⟨z.1, z.2.1⟩), if_neg (fun z => q ⟨z.1, z.2.1⟩)]
end SPEC
end
section
section MODEL1
/-- the reference's object: its fields, the cells behind it -/
def moFl (o : Nat) : List (Option Value) := [none, some (.ref (o + 1)), some (.ref (o + 2)), some (.ref (o + 3)), none, none, some (.ref (o + 4)), some (.ref (o + 5)), some (.ref (o + 6)), some (.ref (o + 7)), some (.ref (o + 8)), some (.ref (o + 9)), some (.ref (o + 10)), none, none, none, none, none, none, none, none, none, none, some (.ref (o + 11)), some (.ref (o + 12)), none, some (.ref (o + 13)), some (.ref (o + 14)), some (.ref (o + 15)), none, none, none, none, none, none, some (.ref (o + 16)), some (.ref (o + 17)), some (.ref (o + 18)), some (.ref (o + 19)), some (.ref (o + 20)), none, some (.ref (o + 21))]
def moLen : List (Nat × Nat) := [(0, 11700), (0, 144), (0, 144), (0, 6), (0, 60), (0, 60), (0, 60), (0, 2), (0, 4), (0, 700), (0, 5), (0, 5), (0, 6), (0, 6), (0, 6), (0, 12), (0, 12), (0, 12), (2, 4), (0, 4), (0, 4)]
/-- the world holds the reference's object at o -/
def MO (Sh : Nat → SE) (N o : Nat) : Prop := At Sh N o (.inr (12, moFl o)) ∧ ∀ i t n, moLen[i]? = some (t, n) → At Sh N (o + (i + 1)) (arE t n)
theorem MO.ar {Sh : Nat → SE} {N o : Nat} (h : MO Sh N o) (i : Nat) {t n : Nat} (hi : moLen[i]? = some (t, n)) : At Sh N (o + (i + 1)) (arE t n) := h.2 i t n hi
/-- the row r of the reference -/
def mrow (M : MM) (o r : Nat) : Row := fun j => M (o + 1) (325 * r + j)
def grn (M : MM) (o : Nat) : Int32 := nI 10 + nI 2 * M (o + 4) 2
def ful (M : MM) (o : Nat) : Int32 := nI 40 + nI 4 * M (o + 4) 0 + nI 6 * M (o + 4) 2
def shr (M : MM) (o : Nat) : Int32 := nI 3 * M (o + 4) 0 - M (o + 4) 1 - nI 2 * M (o + 4) 2
variable {E : VE} {Sh : Nat → SE} {N : Nat} {G : Bool} {M : MM} {o : Nat}
theorem c_X12_at {x y : Int32} (l c : Nat) (hx : x = nI l) (hy : y = nI c) : Con E mX12_at 1 0 0 [.int x, .int y] Sh N G M (P1 (some (.int (nI (6 * l + c)))) Sh N M) nox := by
  subst hx; subst hy
  refine Con.of (by decide +kernel) (by simp [Value.category]) (Nat.le_of_ble_eq_true rfl) (fun k C0 => ?_)
  have C : CK k E mX12_at kdX12_at 1 0 0 := ⟨C0, kdX12_at_ok⟩
  refine r_bi (v := nI 6) C rfl (by decide) ?_
  refine r_iload_n C 0 rfl rfl rfl ?_
  refine r_imul C rfl ?_
  refine r_iload_n C 1 rfl rfl rfl ?_
  refine r_iadd C rfl ?_
  refine r_iret C rfl rfl rfl ⟨?_, rfl, rfl, rfl⟩
  rw [pk_mul, nI_add]
theorem c_X12_of (hM : MO Sh N o) {x y : Int32} (r w : Nat) (hx : x = nI r) (hy : y = nI w) (hr : r < 36) (hw : w < 325) : Con E mX12_of 1 0 0 [.ref o, .int x, .int y] Sh N G M (P1 (some (.int (mrow M o r w))) Sh N M) nox := by
  subst hx; subst hy
  have h0 := hM.1
  have h1 := hM.ar 0 rfl
  refine Con.of (by decide +kernel) (by simp [Value.category]) (Nat.le_of_ble_eq_true rfl) (fun k C0 => ?_)
  have C : CK k E mX12_of kdX12_of 1 0 0 := ⟨C0, kdX12_of_ok⟩
  refine r_aload_n C 0 rfl rfl rfl rfl ?_
  refine r_getv C rfl f_X12_9 (by assumption) rfl ?_
  refine r_si (v := nI 325) C rfl (by decide) ?_
  refine r_iload_n C 1 rfl rfl rfl ?_
  refine r_imul C rfl ?_
  refine r_iload_n C 2 rfl rfl rfl ?_
  refine r_iadd C rfl ?_
  refine r_iald C rfl (by assumption) (325 * r + w) (by simp only [nI_add, pk_mul]) (by omega) (by decide) ?_
  exact r_iret C rfl rfl rfl ⟨rfl, rfl, rfl, rfl⟩
theorem c_X12_put (hM : MO Sh N o) {x y v : Int32} (r w : Nat) (hx : x = nI r) (hy : y = nI w) (hr : r < 36) (hw : w < 325) : Con E mX12_put 1 0 0 [.ref o, .int x, .int y, .int v] Sh N G M (P1 none Sh N (up M (o + 1) (325 * r + w) v)) nox := by
  subst hx; subst hy
  have h0 := hM.1
  have h1 := hM.ar 0 rfl
  refine Con.of (by decide +kernel) (by simp [Value.category]) (Nat.le_of_ble_eq_true rfl) (fun k C0 => ?_)
  have C : CK k E mX12_put kdX12_put 1 0 0 := ⟨C0, kdX12_put_ok⟩
  refine r_aload_n C 0 rfl rfl rfl rfl ?_
  refine r_getv C rfl f_X12_9 (by assumption) rfl ?_
  refine r_si (v := nI 325) C rfl (by decide) ?_
  refine r_iload_n C 1 rfl rfl rfl ?_
  refine r_imul C rfl ?_
  refine r_iload_n C 2 rfl rfl rfl ?_
  refine r_iadd C rfl ?_
  refine r_iload_n C 3 rfl rfl rfl ?_
  refine r_iast C rfl (by assumption) (325 * r + w) (by simp only [nI_add, pk_mul]) (by omega) (by decide) ?_
  exact r_vret C rfl rfl ⟨rfl, rfl, rfl, rfl⟩
theorem c_X12_full (hM : MO Sh N o) : Con E mX12_full 1 0 0 [.ref o] Sh N G M (P1 (some (.int (ful M o))) Sh N M) nox := by
  have h0 := hM.1
  have h1 := hM.ar 3 rfl
  refine Con.of (by decide +kernel) (by simp [Value.category]) (Nat.le_of_ble_eq_true rfl) (fun k C0 => ?_)
  have C : CK k E mX12_full kdX12_full 1 0 0 := ⟨C0, kdX12_full_ok⟩
  refine r_bi (v := nI 40) C rfl (by decide) ?_
  refine r_ic (v := nI 4) C rfl (by decide) ?_
  refine r_aload_n C 0 rfl rfl rfl rfl ?_
  refine r_getv C rfl f_X12_19 (by assumption) rfl ?_
  refine r_ic (v := nI 0) C rfl (by decide) ?_
  refine r_iald C rfl (by assumption) (0) rfl (by decide) (by decide) ?_
  refine r_imul C rfl ?_
  refine r_iadd C rfl ?_
  refine r_bi (v := nI 6) C rfl (by decide) ?_
  refine r_aload_n C 0 rfl rfl rfl rfl ?_
  refine r_getv C rfl f_X12_19 (by assumption) rfl ?_
  refine r_ic (v := nI 2) C rfl (by decide) ?_
  refine r_iald C rfl (by assumption) (2) rfl (by decide) (by decide) ?_
  refine r_imul C rfl ?_
  refine r_iadd C rfl ?_
  exact r_iret C rfl rfl rfl ⟨rfl, rfl, rfl, rfl⟩
theorem c_X12_green (hM : MO Sh N o) : Con E mX12_green 1 0 0 [.ref o] Sh N G M (P1 (some (.int (grn M o))) Sh N M) nox := by
  have h0 := hM.1
  have h1 := hM.ar 3 rfl
  refine Con.of (by decide +kernel) (by simp [Value.category]) (Nat.le_of_ble_eq_true rfl) (fun k C0 => ?_)
  have C : CK k E mX12_green kdX12_green 1 0 0 := ⟨C0, kdX12_green_ok⟩
  refine r_bi (v := nI 10) C rfl (by decide) ?_
  refine r_ic (v := nI 2) C rfl (by decide) ?_
  refine r_aload_n C 0 rfl rfl rfl rfl ?_
  refine r_getv C rfl f_X12_19 (by assumption) rfl ?_
  refine r_ic (v := nI 2) C rfl (by decide) ?_
  refine r_iald C rfl (by assumption) (2) rfl (by decide) (by decide) ?_
  refine r_imul C rfl ?_
  refine r_iadd C rfl ?_
  exact r_iret C rfl rfl rfl ⟨rfl, rfl, rfl, rfl⟩
theorem c_X12_shrink (hM : MO Sh N o) : Con E mX12_shrink 1 0 0 [.ref o] Sh N G M (P1 (some (.int (shr M o))) Sh N M) nox := by
  have h0 := hM.1
  have h1 := hM.ar 3 rfl
  refine Con.of (by decide +kernel) (by simp [Value.category]) (Nat.le_of_ble_eq_true rfl) (fun k C0 => ?_)
  have C : CK k E mX12_shrink kdX12_shrink 1 0 0 := ⟨C0, kdX12_shrink_ok⟩
  refine r_ic (v := nI 3) C rfl (by decide) ?_
  refine r_aload_n C 0 rfl rfl rfl rfl ?_
  refine r_getv C rfl f_X12_19 (by assumption) rfl ?_
  refine r_ic (v := nI 0) C rfl (by decide) ?_
  refine r_iald C rfl (by assumption) (0) rfl (by decide) (by decide) ?_
  refine r_imul C rfl ?_
  refine r_aload_n C 0 rfl rfl rfl rfl ?_
  refine r_getv C rfl f_X12_19 (by assumption) rfl ?_
  refine r_ic (v := nI 1) C rfl (by decide) ?_
  refine r_iald C rfl (by assumption) (1) rfl (by decide) (by decide) ?_
  refine r_isub C rfl ?_
  refine r_ic (v := nI 2) C rfl (by decide) ?_
  refine r_aload_n C 0 rfl rfl rfl rfl ?_
  refine r_getv C rfl f_X12_19 (by assumption) rfl ?_
  refine r_ic (v := nI 2) C rfl (by decide) ?_
  refine r_iald C rfl (by assumption) (2) rfl (by decide) (by decide) ?_
  refine r_imul C rfl ?_
  refine r_isub C rfl ?_
  exact r_iret C rfl rfl rfl ⟨rfl, rfl, rfl, rfl⟩
theorem c_X12_isIn (v a b : Int32) : Con E mX12_isIn 1 0 0 [.int v, .int a, .int b] Sh N G M (P1 (some (.int (if a ≤ v ∧ v ≤ b then 1 else 0))) Sh N M) nox := by
  refine Con.of (by decide +kernel) (by simp [Value.category]) (Nat.le_of_ble_eq_true rfl) (fun k C0 => ?_)
  have C : CK k E mX12_isIn kdX12_isIn 1 0 0 := ⟨C0, kdX12_isIn_ok⟩
  refine r_iload_n C 0 rfl rfl rfl ?_
  refine r_iload_n C 1 rfl rfl rfl ?_
  refine r_icmp_lt C 14 rfl (by decide) (fun h => ?_) (fun h => ?_)
  · refine r_ic (v := nI 0) C rfl (by decide) ?_
    exact r_iret C rfl rfl rfl ⟨by rw [if_neg (fun q => absurd h (Int32.not_lt.mpr q.1))]; rfl, rfl, rfl, rfl⟩
  refine r_iload_n C 0 rfl rfl rfl ?_
  refine r_iload_n C 2 rfl rfl rfl ?_
  refine r_icmp_gt C 14 rfl (by decide) (fun h2 => ?_) (fun h2 => ?_)
  · refine r_ic (v := nI 0) C rfl (by decide) ?_
    exact r_iret C rfl rfl rfl ⟨by rw [if_neg (fun q => absurd h2 (Int32.not_lt.mpr q.2))]; rfl, rfl, rfl, rfl⟩
  refine r_ic (v := nI 1) C rfl (by decide) ?_
  refine r_goto C 15 rfl (by decide) ?_
  exact r_iret C rfl rfl rfl ⟨by rw [if_pos ⟨Int32.not_lt.mp h, Int32.not_lt.mp h2⟩]; rfl, rfl, rfl, rfl⟩
theorem c_X12_isHollow (hM : MO Sh N o) {x y z : Int32} (r l c : Nat) (hx : x = nI r) (hy : y = nI l) (hz : z = nI c) (hr : r < 36) (hl : 6 * l + c < 144) : Con E mX12_isHollow 2 0 0 [.ref o, .int x, .int y, .int z] Sh N G M (P1 (some (.int (if mrow M o r (181 + (6 * l + c)) &&& nI 2 = nI 2 then 1 else 0))) Sh N M) nox := by
  subst hx; subst hy; subst hz
  have h0 := hM.1
  refine Con.of (by decide +kernel) (by simp [Value.category]) (Nat.le_of_ble_eq_true rfl) (fun k C0 => ?_)
  have C : CK k E mX12_isHollow kdX12_isHollow 2 0 0 := ⟨C0, kdX12_isHollow_ok⟩
  refine r_aload_n C 0 rfl rfl rfl rfl ?_
  refine r_iload_n C 1 rfl rfl rfl ?_
  refine r_si (v := nI 181) C rfl (by decide) ?_
  refine r_iload_n C 2 rfl rfl rfl ?_
  refine r_iload_n C 3 rfl rfl rfl ?_
  refine s2_r C rfl mfX12_at lk_X12_241 (c_X12_at l c rfl rfl) ?_
  refine r_iadd C rfl ?_
  refine v2_r C rfl mfX12_of lk_X12_238 (by assumption) (c_X12_of hM r (181 + (6 * l + c)) rfl (by rw [nI_add]) hr (by omega)) ?_
  refine r_ic (v := nI 2) C rfl (by decide) ?_
  refine r_iand C rfl ?_
  refine r_ic (v := nI 2) C rfl (by decide) ?_
  refine r_icmp_ne C 24 rfl (by decide) (fun h => ?_) (fun h => ?_)
  · refine r_ic (v := nI 0) C rfl (by decide) ?_
    exact r_iret C rfl rfl rfl ⟨by rw [if_neg h]; rfl, rfl, rfl, rfl⟩
  · refine r_ic (v := nI 1) C rfl (by decide) ?_
    refine r_goto C 25 rfl (by decide) ?_
    exact r_iret C rfl rfl rfl ⟨by rw [if_pos h]; rfl, rfl, rfl, rfl⟩
theorem c_X12_isCracked (hM : MO Sh N o) {x y z : Int32} (r l c : Nat) (hx : x = nI r) (hy : y = nI l) (hz : z = nI c) (hr : r < 36) (hl : 6 * l + c < 144) : Con E mX12_isCracked 2 0 0 [.ref o, .int x, .int y, .int z] Sh N G M (P1 (some (.int (if mrow M o r (181 + (6 * l + c)) &&& nI 1 = nI 1 then 1 else 0))) Sh N M) nox := by
  subst hx; subst hy; subst hz
  have h0 := hM.1
  refine Con.of (by decide +kernel) (by simp [Value.category]) (Nat.le_of_ble_eq_true rfl) (fun k C0 => ?_)
  have C : CK k E mX12_isCracked kdX12_isCracked 2 0 0 := ⟨C0, kdX12_isCracked_ok⟩
  refine r_aload_n C 0 rfl rfl rfl rfl ?_
  refine r_iload_n C 1 rfl rfl rfl ?_
  refine r_si (v := nI 181) C rfl (by decide) ?_
  refine r_iload_n C 2 rfl rfl rfl ?_
  refine r_iload_n C 3 rfl rfl rfl ?_
  refine s2_r C rfl mfX12_at lk_X12_241 (c_X12_at l c rfl rfl) ?_
  refine r_iadd C rfl ?_
  refine v2_r C rfl mfX12_of lk_X12_238 (by assumption) (c_X12_of hM r (181 + (6 * l + c)) rfl (by rw [nI_add]) hr (by omega)) ?_
  refine r_ic (v := nI 1) C rfl (by decide) ?_
  refine r_iand C rfl ?_
  refine r_ic (v := nI 1) C rfl (by decide) ?_
  refine r_icmp_ne C 24 rfl (by decide) (fun h => ?_) (fun h => ?_)
  · refine r_ic (v := nI 0) C rfl (by decide) ?_
    exact r_iret C rfl rfl rfl ⟨by rw [if_neg h]; rfl, rfl, rfl, rfl⟩
  · refine r_ic (v := nI 1) C rfl (by decide) ?_
    refine r_goto C 25 rfl (by decide) ?_
    exact r_iret C rfl rfl rfl ⟨by rw [if_pos h]; rfl, rfl, rfl, rfl⟩
end MODEL1
end
section
section MODEL2
/-- the numbers with another row r -/
def mset (M : MM) (o r : Nat) (R : Row) : MM := fun a b => if a = o + 1 ∧ 325 * r ≤ b ∧ b < 325 * r + 325 then R (b - 325 * r) else M a b
theorem mset_row {M : MM} {o r w : Nat} {R : Row} (hw : w < 325) : mrow (mset M o r R) o r w = R w := by
  simp only [mrow, mset]
  rw [if_pos ⟨trivial, by omega, by omega⟩]
  congr 1; omega
theorem mset_else {M : MM} {o r s w : Nat} {R : Row} (hw : w < 325) (h : s ≠ r) : mrow (mset M o r R) o s w = mrow M o s w := by
  simp only [mrow, mset]
  rw [if_neg (fun q => ?_)]
  rcases Nat.lt_or_gt_of_ne h with h | h <;> omega
theorem mset_cell {M : MM} {o r a : Nat} {R : Row} (h : a ≠ o + 1) : mset M o r R a = M a := by funext b; simp [mset, h]
theorem mset_self (M : MM) (o r : Nat) : mset M o r (mrow M o r) = M := by
  funext a b
  simp only [mset, mrow]
  by_cases h : a = o + 1 ∧ 325 * r ≤ b ∧ b < 325 * r + 325
  · rw [if_pos h, h.1]
    congr 1; omega
  · rw [if_neg h]
theorem mset_mset (M : MM) (o r : Nat) (R R' : Row) : mset (mset M o r R) o r R' = mset M o r R' := by
  funext a b
  simp only [mset]
  by_cases h : a = o + 1 ∧ 325 * r ≤ b ∧ b < 325 * r + 325 <;> simp [h]
theorem mset_up (M : MM) (o r w : Nat) (R : Row) (v : Int32) (hw : w < 325) : up (mset M o r R) (o + 1) (325 * r + w) v = mset M o r (upd R w v) := by
  funext a b
  simp only [mset, up, upd]
  by_cases h : a = o + 1 ∧ 325 * r ≤ b ∧ b < 325 * r + 325
  · rw [if_pos h, if_pos h]
    by_cases e : b = 325 * r + w
    · rw [if_pos ⟨h.1, e⟩, if_pos (by omega)]
    · rw [if_neg (fun q => e q.2), if_neg (by omega)]
  · rw [if_neg h, if_neg h, if_neg (fun q => h ⟨q.1, by omega, by omega⟩)]
theorem mset_cong {M : MM} {o r : Nat} {R R' : Row} (h : ∀ w, w < 325 → R w = R' w) : mset M o r R = mset M o r R' := by
  funext a b
  simp only [mset]
  by_cases q : a = o + 1 ∧ 325 * r ≤ b ∧ b < 325 * r + 325
  · rw [if_pos q, if_pos q, h _ (by omega)]
  · rw [if_neg q, if_neg q]
theorem grn_mset (M : MM) (o r : Nat) (R : Row) : grn (mset M o r R) o = grn M o := by rw [grn, grn, mset_cell (by omega)]
theorem ful_mset (M : MM) (o r : Nat) (R : Row) : ful (mset M o r R) o = ful M o := by rw [ful, ful, mset_cell (by omega)]
theorem shr_mset (M : MM) (o r : Nat) (R : Row) : shr (mset M o r R) o = shr M o := by rw [shr, shr, mset_cell (by omega)]
/-- what a method owes that answers v, the numbers being M1 then -/
abbrev Q1 (k : MC) (E : VE) (Sh : Nat → SE) (N : Nat) (G : Bool) (M : MM) (v : Option Value) (M1 : MM) : State → Prop := QM k E 0 0 Sh N G M (P1 v Sh N M1) nox
variable {E : VE} {Sh : Nat → SE} {N : Nat} {G : Bool} {M : MM} {o r : Nat} {R : Row}
theorem s_of (hM : MO Sh N o) {x y : Int32} (w : Nat) (hx : x = nI r) (hy : y = nI w) (hr : r < 36) (hw : w < 325) : Con E mX12_of 1 0 0 [.ref o, .int x, .int y] Sh N G (mset M o r R) (P1 (some (.int (R w))) Sh N (mset M o r R)) nox := by
  have h := c_X12_of (E := E) (G := G) (M := mset M o r R) hM r w hx hy hr hw
  rw [mset_row hw] at h
  exact h
theorem s_put (hM : MO Sh N o) {x y v : Int32} (w : Nat) (hx : x = nI r) (hy : y = nI w) (hr : r < 36) (hw : w < 325) : Con E mX12_put 1 0 0 [.ref o, .int x, .int y, .int v] Sh N G (mset M o r R) (P1 none Sh N (mset M o r (upd R w v))) nox := by
  have h := c_X12_put (E := E) (G := G) (M := mset M o r R) (v := v) hM r w hx hy hr hw
  rw [mset_up M o r w R v hw] at h
  exact h
theorem s_isHollow (hM : MO Sh N o) {x y z : Int32} (l c : Nat) (hx : x = nI r) (hy : y = nI l) (hz : z = nI c) (hr : r < 36) (hl : 6 * l + c < 144) : Con E mX12_isHollow 2 0 0 [.ref o, .int x, .int y, .int z] Sh N G (mset M o r R) (P1 (some (.int (if R (181 + (6 * l + c)) &&& nI 2 = nI 2 then 1 else 0))) Sh N (mset M o r R)) nox := by
  have h := c_X12_isHollow (E := E) (G := G) (M := mset M o r R) hM r l c hx hy hz hr hl
  rw [mset_row (by omega)] at h
  exact h
theorem s_isCracked (hM : MO Sh N o) {x y z : Int32} (l c : Nat) (hx : x = nI r) (hy : y = nI l) (hz : z = nI c) (hr : r < 36) (hl : 6 * l + c < 144) : Con E mX12_isCracked 2 0 0 [.ref o, .int x, .int y, .int z] Sh N G (mset M o r R) (P1 (some (.int (if R (181 + (6 * l + c)) &&& nI 1 = nI 1 then 1 else 0))) Sh N (mset M o r R)) nox := by
  have h := c_X12_isCracked (E := E) (G := G) (M := mset M o r R) hM r l c hx hy hz hr hl
  rw [mset_row (by omega)] at h
  exact h
theorem s_green (hM : MO Sh N o) : Con E mX12_green 1 0 0 [.ref o] Sh N G (mset M o r R) (P1 (some (.int (grn M o))) Sh N (mset M o r R)) nox := by
  have h := c_X12_green (E := E) (G := G) (M := mset M o r R) hM
  rw [grn_mset] at h
  exact h
theorem s_full (hM : MO Sh N o) : Con E mX12_full 1 0 0 [.ref o] Sh N G (mset M o r R) (P1 (some (.int (ful M o))) Sh N (mset M o r R)) nox := by
  have h := c_X12_full (E := E) (G := G) (M := mset M o r R) hM
  rw [ful_mset] at h
  exact h
theorem s_shrink (hM : MO Sh N o) : Con E mX12_shrink 1 0 0 [.ref o] Sh N G (mset M o r R) (P1 (some (.int (shr M o))) Sh N (mset M o r R)) nox := by
  have h := c_X12_shrink (E := E) (G := G) (M := mset M o r R) hM
  rw [shr_mset] at h
  exact h
theorem z1 : (1 : Int32) = nI 1 := rfl
theorem z0 : (0 : Int32) = nI 0 := rfl
theorem if10 {c : Prop} [Decidable c] (h : (if c then (1 : Int32) else 0) = 0) : ¬ c := fun q => by rw [if_pos q] at h; exact absurd h (by decide)
theorem if11 {c : Prop} [Decidable c] (h : ¬ (if c then (1 : Int32) else 0) = 0) : c := Decidable.by_contra (fun q => h (by rw [if_neg q]))
theorem s_strength (hM : MO Sh N o) {x y z : Int32} (l c : Nat) (hx : x = nI r) (hy : y = nI l) (hz : z = nI c) (hr : r < 36) (hl : 6 * l + c < 144) : Con E mX12_strength 3 0 0 [.ref o, .int x, .int y, .int z] Sh N G (mset M o r R) (P1 (some (.int (strg (grn M o) (ful M o) R (6 * l + c)))) Sh N (mset M o r R)) nox := by
  subst hx; subst hy; subst hz
  have h0 := hM.1
  refine Con.of (by decide +kernel) (by simp [Value.category]) (Nat.le_of_ble_eq_true rfl) (fun k C0 => ?_)
  have C : CK k E mX12_strength kdX12_strength 3 0 0 := ⟨C0, kdX12_strength_ok⟩
  refine r_aload_n C 0 rfl rfl rfl rfl ?_
  refine r_iload_n C 1 rfl rfl rfl ?_
  refine r_iload_n C 2 rfl rfl rfl ?_
  refine r_iload_n C 3 rfl rfl rfl ?_
  refine v3_r C rfl mfX12_isHollow lk_X12_254 (by assumption) (s_isHollow hM l c rfl rfl rfl hr hl) ?_
  refine r_if_eq C 12 rfl (by decide) (fun h => ?_) (fun h => ?_)
  · have h := if10 h
    refine r_aload_n C 0 rfl rfl rfl rfl ?_
    refine v0_r C rfl mfX12_green lk_X12_235 (by assumption) (s_green hM) ?_
    refine r_aload_n C 0 rfl rfl rfl rfl ?_
    refine v0_r C rfl mfX12_full lk_X12_229 (by assumption) (s_full hM) ?_
    refine r_ic (v := nI 0) C rfl (by decide) ?_
    refine r_bi (v := nI 60) C rfl (by decide) ?_
    refine r_si (v := nI 180) C rfl (by decide) ?_
    refine r_aload_n C 0 rfl rfl rfl rfl ?_
    refine r_iload_n C 1 rfl rfl rfl ?_
    refine r_bi (v := nI 37) C rfl (by decide) ?_
    refine r_iload_n C 2 rfl rfl rfl ?_
    refine r_iload_n C 3 rfl rfl rfl ?_
    refine s2_r C rfl mfX12_at lk_X12_241 (c_X12_at l c rfl rfl) ?_
    refine r_iadd C rfl ?_
    refine v2_r C rfl mfX12_of lk_X12_238 (by assumption) (s_of hM (37 + (6 * l + c)) rfl (by rw [nI_add]) hr (by omega)) ?_
    refine r_isub C rfl ?_
    refine r_min C rfl lk_X12_130 ?_
    refine r_max C rfl lk_X12_257 ?_
    refine r_imul C rfl ?_
    refine r_bi (v := nI 60) C rfl (by decide) ?_
    refine r_idiv C rfl (by decide) ?_
    refine r_iadd C rfl ?_
    refine r_istore C rfl (by exact Nat.le_of_ble_eq_true rfl) ?_
    refine r_aload_n C 0 rfl rfl rfl rfl ?_
    refine r_iload_n C 1 rfl rfl rfl ?_
    refine r_iload_n C 2 rfl rfl rfl ?_
    refine r_iload_n C 3 rfl rfl rfl ?_
    refine v3_r C rfl mfX12_isCracked lk_X12_260 (by assumption) (s_isCracked hM l c rfl rfl rfl hr hl) ?_
    refine r_if_eq C 70 rfl (by decide) (fun h2 => ?_) (fun h2 => ?_)
    · refine r_iload C rfl rfl ?_
      exact r_iret C rfl rfl rfl ⟨by rw [strg, if_neg h, if_neg (if10 h2)]; rfl, rfl, rfl, rfl⟩
    · refine r_iload C rfl rfl ?_
      refine r_ic (v := nI 2) C rfl (by decide) ?_
      refine r_idiv C rfl (by decide) ?_
      refine r_goto C 72 rfl (by decide) ?_
      exact r_iret C rfl rfl rfl ⟨by rw [strg, if_neg h, if_pos (if11 h2)]; rfl, rfl, rfl, rfl⟩
  · refine r_ic (v := nI 0) C rfl (by decide) ?_
    exact r_iret C rfl rfl rfl ⟨by rw [strg, if_pos (if11 h)]; rfl, rfl, rfl, rfl⟩
theorem s_load (hM : MO Sh N o) {x y z : Int32} (l c : Nat) (hx : x = nI r) (hy : y = nI l) (hz : z = nI c) (hr : r < 36) (hl : 6 * l + c < 144) : Con E mX12_load 3 0 0 [.ref o, .int x, .int y, .int z] Sh N G (mset M o r R) (P1 (some (.int (lod R (6 * l + c)))) Sh N (mset M o r R)) nox := by
  subst hx; subst hy; subst hz
  have h0 := hM.1
  refine Con.of (by decide +kernel) (by simp [Value.category]) (Nat.le_of_ble_eq_true rfl) (fun k C0 => ?_)
  have C : CK k E mX12_load kdX12_load 3 0 0 := ⟨C0, kdX12_load_ok⟩
  refine r_aload_n C 0 rfl rfl rfl rfl ?_
  refine r_iload_n C 1 rfl rfl rfl ?_
  refine r_iload_n C 2 rfl rfl rfl ?_
  refine r_iload_n C 3 rfl rfl rfl ?_
  refine v3_r C rfl mfX12_isHollow lk_X12_254 (by assumption) (s_isHollow hM l c rfl rfl rfl hr hl) ?_
  refine r_if_eq C 14 rfl (by decide) (fun h => ?_) (fun h => ?_)
  · refine r_bi (v := nI 10) C rfl (by decide) ?_
    refine r_aload_n C 0 rfl rfl rfl rfl ?_
    refine r_iload_n C 1 rfl rfl rfl ?_
    refine r_bi (v := nI 37) C rfl (by decide) ?_
    refine r_iload_n C 2 rfl rfl rfl ?_
    refine r_iload_n C 3 rfl rfl rfl ?_
    refine s2_r C rfl mfX12_at lk_X12_241 (c_X12_at l c rfl rfl) ?_
    refine r_iadd C rfl ?_
    refine v2_r C rfl mfX12_of lk_X12_238 (by assumption) (s_of hM (37 + (6 * l + c)) rfl (by rw [nI_add]) hr (by omega)) ?_
    refine r_bi (v := nI 50) C rfl (by decide) ?_
    refine r_idiv C rfl (by decide) ?_
    refine r_iadd C rfl ?_
    exact r_iret C rfl rfl rfl ⟨by rw [lod, if_neg (if10 h)], rfl, rfl, rfl⟩
  · refine r_ic (v := nI 0) C rfl (by decide) ?_
    refine r_goto C 33 rfl (by decide) ?_
    exact r_iret C rfl rfl rfl ⟨by rw [lod, if_pos (if11 h)]; rfl, rfl, rfl, rfl⟩
theorem s_bears (hM : MO Sh N o) {x y : Int32} (dp mn l : Nat) (hW : WF R dp mn) (hx : x = nI r) (hy : y = nI l) (hr : r < 36) (hl : l < 24) : Con E mX12_bears 4 0 0 [.ref o, .int x, .int y] Sh N G (mset M o r R) (P1 (some (.int (bear (grn M o) (ful M o) R dp l))) Sh N (mset M o r R)) nox := by
  subst hx; subst hy
  obtain ⟨w0, w1, w2, w3, w4⟩ := hW
  have h0 := hM.1
  refine Con.of (by decide +kernel) (by simp [Value.category]) (Nat.le_of_ble_eq_true rfl) (fun k C0 => ?_)
  have C : CK k E mX12_bears kdX12_bears 4 0 0 := ⟨C0, kdX12_bears_ok⟩
  have loop : ∀ n c : Nat, c ≤ dp → dp - c < n → PT k E (Q1 k E Sh N G (mset M o r R) (some (.int (bear (grn M o) (ful M o) R dp l))) (mset M o r R)) 0 0 Sh N G (mset M o r R) 14 [some (.ref o), some (.int (nI r)), some (.int (nI l)), some (.int (R 7 * nI 50 + sm (fun c => strg (grn M o) (ful M o) R (6 * l + c)) c)), some (.int (nI c))] [] := by
    intro n
    induction n with
    | zero => intro c _ h; omega
    | succ n ih =>
      intro c hc hn
      refine r_iload C rfl rfl ?_
      refine r_aload_n C 0 rfl rfl rfl rfl ?_
      refine r_iload_n C 1 rfl rfl rfl ?_
      refine r_ic (v := nI 0) C rfl (by decide) ?_
      refine v2_r C rfl mfX12_of lk_X12_238 (by assumption) (s_of hM 0 rfl rfl hr (by decide)) ?_
      refine r_top (nI dp) w0 ?_
      refine r_icmp_ge C 42 rfl (by decide) (fun h => ?_) (fun h => ?_)
      · have h := le_nI (by omega) (by omega) h
        have e : c = dp := by omega
        subst e
        refine r_iload_n C 3 rfl rfl rfl ?_
        exact r_iret C rfl rfl rfl ⟨rfl, rfl, rfl, rfl⟩
      · have h := nle_nI (by omega) (by omega) h
        refine r_iload_n C 3 rfl rfl rfl ?_
        refine r_aload_n C 0 rfl rfl rfl rfl ?_
        refine r_iload_n C 1 rfl rfl rfl ?_
        refine r_iload_n C 2 rfl rfl rfl ?_
        refine r_iload C rfl rfl ?_
        refine v3_r C rfl mfX12_strength lk_X12_263 (by assumption) (s_strength hM l c rfl rfl rfl hr (by omega)) ?_
        refine r_iadd C rfl ?_
        refine r_istore_n C 3 rfl rfl (by exact Nat.le_of_ble_eq_true rfl) ?_
        refine r_iinc (c := nI 1) C rfl rfl (by decide) ?_
        refine r_goto C 14 rfl (by decide) ?_
        refine r_eqL ?_ (ih (c + 1) (by omega) (by omega))
        first | rfl | (simp only [sm, add3, nI_add, Int32.add_zero, Int32.zero_add]; rfl)
  refine r_aload_n C 0 rfl rfl rfl rfl ?_
  refine r_iload_n C 1 rfl rfl rfl ?_
  refine r_bi (v := nI 7) C rfl (by decide) ?_
  refine v2_r C rfl mfX12_of lk_X12_238 (by assumption) (s_of hM 7 rfl rfl hr (by decide)) ?_
  refine r_bi (v := nI 50) C rfl (by decide) ?_
  refine r_imul C rfl ?_
  refine r_istore_n C 3 rfl rfl (by exact Nat.le_of_ble_eq_true rfl) ?_
  refine r_ic (v := nI 0) C rfl (by decide) ?_
  refine r_istore C rfl (by exact Nat.le_of_ble_eq_true rfl) ?_
  refine r_eqL ?_ (loop (dp + 1) 0 (by omega) (by omega))
  first | rfl | (simp only [sm, add3, nI_add, Int32.add_zero, Int32.zero_add]; rfl)
end MODEL2
end
section
section MODEL3
variable {E : VE} {Sh : Nat → SE} {N : Nat} {G : Bool} {M : MM} {o r : Nat} {R : Row}
theorem s_presses (hM : MO Sh N o) {x y : Int32} (dp mn l : Nat) (hW : WF R dp mn) (hx : x = nI r) (hy : y = nI l) (hr : r < 36) (hl : l < mn) : Con E mX12_presses 4 0 0 [.ref o, .int x, .int y] Sh N G (mset M o r R) (P1 (some (.int (prs R dp l (mn - 1 - l)))) Sh N (mset M o r R)) nox := by
  subst hx; subst hy
  obtain ⟨w0, w1, w2, w3, w4⟩ := hW
  have h0 := hM.1
  refine Con.of (by decide +kernel) (by simp [Value.category]) (Nat.le_of_ble_eq_true rfl) (fun k C0 => ?_)
  have C : CK k E mX12_presses kdX12_presses 4 0 0 := ⟨C0, kdX12_presses_ok⟩
  have inner : ∀ (i : Nat), l + 1 + i < mn → (∀ z : Int32, z = prs R dp l (i + 1) → PT k E (Q1 k E Sh N G (mset M o r R) (some (.int (prs R dp l (mn - 1 - l)))) (mset M o r R)) 0 0 Sh N G (mset M o r R) 50 [some (.ref o), some (.int (nI r)), some (.int (nI l)), some (.int z), some (.int (nI (l + 1 + i))), some (.int (nI dp))] []) → ∀ n c : Nat, c ≤ dp → dp - c < n → PT k E (Q1 k E Sh N G (mset M o r R) (some (.int (prs R dp l (mn - 1 - l)))) (mset M o r R)) 0 0 Sh N G (mset M o r R) 21 [some (.ref o), some (.int (nI r)), some (.int (nI l)), some (.int (prs R dp l i + sm (fun c => lod R (6 * (l + 1 + i) + c)) c)), some (.int (nI (l + 1 + i))), some (.int (nI c))] [] := by
    intro i hi kk n
    induction n with
    | zero => intro c _ h; omega
    | succ n ih =>
      intro c hc hn
      refine r_iload C rfl rfl ?_
      refine r_aload_n C 0 rfl rfl rfl rfl ?_
      refine r_iload_n C 1 rfl rfl rfl ?_
      refine r_ic (v := nI 0) C rfl (by decide) ?_
      refine v2_r C rfl mfX12_of lk_X12_238 (by assumption) (s_of hM 0 rfl rfl hr (by decide)) ?_
      refine r_top (nI dp) w0 ?_
      refine r_icmp_ge C 50 rfl (by decide) (fun h => ?_) (fun h => ?_)
      · have h := le_nI (by omega) (by omega) h
        have e : c = dp := by omega
        subst e
        exact kk _ rfl
      · have h := nle_nI (by omega) (by omega) h
        refine r_iload_n C 3 rfl rfl rfl ?_
        refine r_aload_n C 0 rfl rfl rfl rfl ?_
        refine r_iload_n C 1 rfl rfl rfl ?_
        refine r_iload C rfl rfl ?_
        refine r_iload C rfl rfl ?_
        refine v3_r C rfl mfX12_load lk_X12_267 (by assumption) (s_load hM (l + 1 + i) c rfl rfl rfl hr (by omega)) ?_
        refine r_iadd C rfl ?_
        refine r_istore_n C 3 rfl rfl (by exact Nat.le_of_ble_eq_true rfl) ?_
        refine r_iinc (c := nI 1) C rfl rfl (by decide) ?_
        refine r_goto C 21 rfl (by decide) ?_
        refine r_eqL ?_ (ih (c + 1) (by omega) (by omega))
        first | rfl | (simp only [sm, add3, nI_add, Int32.add_zero, Int32.zero_add]; rfl)
  have loop : ∀ n i : Nat, l + 1 + i ≤ mn → mn - (l + 1 + i) < n → ∀ v : Option Value, PT k E (Q1 k E Sh N G (mset M o r R) (some (.int (prs R dp l (mn - 1 - l)))) (mset M o r R)) 0 0 Sh N G (mset M o r R) 7 [some (.ref o), some (.int (nI r)), some (.int (nI l)), some (.int (prs R dp l i)), some (.int (nI (l + 1 + i))), v] [] := by
    intro n
    induction n with
    | zero => intro i _ h; omega
    | succ n ih =>
      intro i hi hn v
      refine r_iload C rfl rfl ?_
      refine r_aload_n C 0 rfl rfl rfl rfl ?_
      refine r_iload_n C 1 rfl rfl rfl ?_
      refine r_ic (v := nI 1) C rfl (by decide) ?_
      refine v2_r C rfl mfX12_of lk_X12_238 (by assumption) (s_of hM 1 rfl rfl hr (by decide)) ?_
      refine r_top (nI mn) w3 ?_
      refine r_icmp_ge C 56 rfl (by decide) (fun h => ?_) (fun h => ?_)
      · have h := le_nI (by omega) (by omega) h
        refine r_iload_n C 3 rfl rfl rfl ?_
        exact r_iret C rfl rfl rfl ⟨by rw [show mn - 1 - l = i by omega], rfl, rfl, rfl⟩
      · have h := nle_nI (by omega) (by omega) h
        refine r_ic (v := nI 0) C rfl (by decide) ?_
        refine r_istore C rfl (by exact Nat.le_of_ble_eq_true rfl) ?_
        refine r_eqL ?_ (inner i h (fun z hz => ?_) (dp + 1) 0 (by omega) (by omega))
        · first | rfl | (simp only [sm, add3, nI_add, Int32.add_zero, Int32.zero_add]; rfl)
        · subst hz
          refine r_iinc (c := nI 1) C rfl rfl (by decide) ?_
          refine r_goto C 7 rfl (by decide) ?_
          refine r_eqL ?_ (ih (i + 1) (by omega) (by omega) (some (.int (nI dp))))
          rw [show l + 1 + (i + 1) = l + 1 + i + 1 by omega]
          first | rfl | (simp only [sm, add3, nI_add, Int32.add_zero, Int32.zero_add]; rfl)
  refine r_ic (v := nI 0) C rfl (by decide) ?_
  refine r_istore_n C 3 rfl rfl (by exact Nat.le_of_ble_eq_true rfl) ?_
  refine r_iload_n C 2 rfl rfl rfl ?_
  refine r_ic (v := nI 1) C rfl (by decide) ?_
  refine r_iadd C rfl ?_
  refine r_istore C rfl (by exact Nat.le_of_ble_eq_true rfl) ?_
  refine r_eqL ?_ (loop (mn + 1) 0 (by omega) (by omega) none)
  simp only [nI_add]
  rfl
theorem s_sits (hM : MO Sh N o) {x y : Int32} (dp mn l : Nat) (hW : WF R dp mn) (hx : x = nI r) (hy : y = nI l) (hr : r < 36) (hl : l < mn) : Con E mX12_sits 5 0 0 [.ref o, .int x, .int y] Sh N G (mset M o r R) (P1 (some (.int (if bear (grn M o) (ful M o) R dp l < prs R dp l (mn - 1 - l) then 1 else 0))) Sh N (mset M o r R)) nox := by
  subst hx; subst hy
  have h0 := hM.1
  refine Con.of (by decide +kernel) (by simp [Value.category]) (Nat.le_of_ble_eq_true rfl) (fun k C0 => ?_)
  have C : CK k E mX12_sits kdX12_sits 5 0 0 := ⟨C0, kdX12_sits_ok⟩
  refine r_aload_n C 0 rfl rfl rfl rfl ?_
  refine r_iload_n C 1 rfl rfl rfl ?_
  refine r_iload_n C 2 rfl rfl rfl ?_
  refine v2_r C rfl mfX12_presses lk_X12_270 (by assumption) (s_presses hM dp mn l hW rfl rfl hr hl) ?_
  refine r_aload_n C 0 rfl rfl rfl rfl ?_
  refine r_iload_n C 1 rfl rfl rfl ?_
  refine r_iload_n C 2 rfl rfl rfl ?_
  refine v2_r C rfl mfX12_bears lk_X12_273 (by assumption) (s_bears hM dp mn l hW rfl rfl hr (by have := hW.2.2.2.2; omega)) ?_
  refine r_icmp_le C 19 rfl (by decide) (fun h => ?_) (fun h => ?_)
  · refine r_ic (v := nI 0) C rfl (by decide) ?_
    exact r_iret C rfl rfl rfl ⟨by rw [if_neg (Int32.not_lt.mpr h)]; rfl, rfl, rfl, rfl⟩
  · refine r_ic (v := nI 1) C rfl (by decide) ?_
    refine r_goto C 20 rfl (by decide) ?_
    exact r_iret C rfl rfl rfl ⟨by rw [if_pos (Int32.not_le.mp h)]; rfl, rfl, rfl, rfl⟩
theorem s_someSits (hM : MO Sh N o) {x : Int32} (dp mn : Nat) (hW : WF R dp mn) (hx : x = nI r) (hr : r < 36) : Con E mX12_someSits 6 0 0 [.ref o, .int x] Sh N G (mset M o r R) (P1 (some (.int (if anyB (fun l => decide (bear (grn M o) (ful M o) R dp l < prs R dp l (mn - 1 - l))) mn = true then 1 else 0))) Sh N (mset M o r R)) nox := by
  subst hx
  have hW' := hW
  obtain ⟨w0, w1, w2, w3, w4⟩ := hW
  have h0 := hM.1
  refine Con.of (by decide +kernel) (by simp [Value.category]) (Nat.le_of_ble_eq_true rfl) (fun k C0 => ?_)
  have C : CK k E mX12_someSits kdX12_someSits 6 0 0 := ⟨C0, kdX12_someSits_ok⟩
  have loop : ∀ n l : Nat, l ≤ mn → mn - l < n → anyB (fun l => decide (bear (grn M o) (ful M o) R dp l < prs R dp l (mn - 1 - l))) l = false → PT k E (Q1 k E Sh N G (mset M o r R) (some (.int (if anyB (fun l => decide (bear (grn M o) (ful M o) R dp l < prs R dp l (mn - 1 - l))) mn = true then 1 else 0))) (mset M o r R)) 0 0 Sh N G (mset M o r R) 2 [some (.ref o), some (.int (nI r)), some (.int (nI l))] [] := by
    intro n
    induction n with
    | zero => intro i _ h; omega
    | succ n ih =>
      intro l hl hn ha
      refine r_iload_n C 2 rfl rfl rfl ?_
      refine r_aload_n C 0 rfl rfl rfl rfl ?_
      refine r_iload_n C 1 rfl rfl rfl ?_
      refine r_ic (v := nI 1) C rfl (by decide) ?_
      refine v2_r C rfl mfX12_of lk_X12_238 (by assumption) (s_of hM 1 rfl rfl hr (by decide)) ?_
      refine r_top (nI mn) w3 ?_
      refine r_icmp_ge C 29 rfl (by decide) (fun h => ?_) (fun h => ?_)
      · have h := le_nI (by omega) (by omega) h
        have e : l = mn := by omega
        subst e
        refine r_ic (v := nI 0) C rfl (by decide) ?_
        exact r_iret C rfl rfl rfl ⟨by rw [ha]; rfl, rfl, rfl, rfl⟩
      · have h := nle_nI (by omega) (by omega) h
        refine r_aload_n C 0 rfl rfl rfl rfl ?_
        refine r_iload_n C 1 rfl rfl rfl ?_
        refine r_iload_n C 2 rfl rfl rfl ?_
        refine v2_r C rfl mfX12_sits lk_X12_276 (by assumption) (s_sits hM dp mn l hW' rfl rfl hr h) ?_
        refine r_if_eq C 23 rfl (by decide) (fun h2 => ?_) (fun h2 => ?_)
        · have h2 := if10 h2
          refine r_iinc (c := nI 1) C rfl rfl (by decide) ?_
          refine r_goto C 2 rfl (by decide) ?_
          refine r_eqL ?_ (ih (l + 1) (by omega) (by omega) (by rw [anyB, ha, decide_eq_false h2]; rfl))
          first | rfl | (simp only [sm, add3, nI_add, Int32.add_zero, Int32.zero_add]; rfl)
        · have h2 := if11 h2
          refine r_ic (v := nI 1) C rfl (by decide) ?_
          exact r_iret C rfl rfl rfl ⟨by rw [if_pos (anyB_of h (decide_eq_true h2))]; rfl, rfl, rfl, rfl⟩
  refine r_ic (v := nI 0) C rfl (by decide) ?_
  refine r_istore_n C 2 rfl rfl (by exact Nat.le_of_ble_eq_true rfl) ?_
  exact loop (mn + 1) 0 (by omega) (by omega) rfl
end MODEL3
end
section
section MODEL4
variable {E : VE} {Sh : Nat → SE} {N : Nat} {G : Bool} {M : MM} {o r : Nat} {R : Row}
theorem c_X12_copy (hM : MO Sh N o) {x y : Int32} (f t : Nat) (hx : x = nI f) (hy : y = nI t) (hf : f < 36) (ht : t < 36) : Con E mX12_copy 1 0 0 [.ref o, .int x, .int y] Sh N G M (P1 none Sh N (mset M o t (mrow M o f))) nox := by
  subst hx; subst hy
  have h0 := hM.1
  have h1 := hM.ar 0 rfl
  refine Con.of (by decide +kernel) (by simp [Value.category]) (Nat.le_of_ble_eq_true rfl) (fun k C0 => ?_)
  have C : CK k E mX12_copy kdX12_copy 1 0 0 := ⟨C0, kdX12_copy_ok⟩
  have loop : ∀ n i : Nat, i ≤ 325 → 325 - i < n → PT k E (Q1 k E Sh N G M none (mset M o t (mrow M o f))) 0 0 Sh N G (mset M o t (fun j => if j < i then mrow M o f j else mrow M o t j)) 2 [some (.ref o), some (.int (nI f)), some (.int (nI t)), some (.int (nI i))] [] := by
    intro n
    induction n with
    | zero => intro i _ h; omega
    | succ n ih =>
      intro i hi hn
      refine r_iload_n C 3 rfl rfl rfl ?_
      refine r_si (v := nI 325) C rfl (by decide) ?_
      refine r_icmp_ge C 39 rfl (by decide) (fun h => ?_) (fun h => ?_)
      · have h := le_nI (by omega) (by omega) h
        refine r_vret C rfl rfl ⟨rfl, rfl, rfl, mset_cong (fun w hw => ?_)⟩
        rw [if_pos (by omega)]
      · have h := nle_nI (by omega) (by omega) h
        refine r_aload_n C 0 rfl rfl rfl rfl ?_
        refine r_getv C rfl f_X12_9 (by assumption) rfl ?_
        refine r_si (v := nI 325) C rfl (by decide) ?_
        refine r_iload_n C 2 rfl rfl rfl ?_
        refine r_imul C rfl ?_
        refine r_iload_n C 3 rfl rfl rfl ?_
        refine r_iadd C rfl ?_
        refine r_aload_n C 0 rfl rfl rfl rfl ?_
        refine r_getv C rfl f_X12_9 (by assumption) rfl ?_
        refine r_si (v := nI 325) C rfl (by decide) ?_
        refine r_iload_n C 1 rfl rfl rfl ?_
        refine r_imul C rfl ?_
        refine r_iload_n C 3 rfl rfl rfl ?_
        refine r_iadd C rfl ?_
        refine r_iald C rfl (by assumption) (325 * f + i) (by simp only [nI_add, pk_mul]) (by omega) (by decide) ?_
        refine r_iast C rfl (by assumption) (325 * t + i) (by simp only [nI_add, pk_mul]) (by omega) (by decide) ?_
        refine r_iinc (c := nI 1) C rfl rfl (by decide) ?_
        refine r_goto C 2 rfl (by decide) ?_
        have e : mset M o t (fun j => if j < i then mrow M o f j else mrow M o t j) (o + 1) (325 * f + i) = mrow M o f i := by
          by_cases q : f = t
          · subst q
            exact (mset_row (M := M) (o := o) (r := f) h).trans (by rw [if_neg (Nat.lt_irrefl i)])
          · exact mset_else (M := M) (o := o) h q
        rw [e, mset_up _ _ _ _ _ _ h]
        refine r_eqM (mset_cong (fun w hw => ?_)) (r_eqL ?_ (ih (i + 1) (by omega) (by omega)))
        · simp only [upd]
          by_cases q : w = i
          · rw [if_pos q, if_pos (by omega), q]
          · rw [if_neg q]
            by_cases q2 : w < i
            · rw [if_pos q2, if_pos (by omega)]
            · rw [if_neg q2, if_neg (by omega)]
        · first | rfl | (simp only [sm, add3, nI_add, Int32.add_zero, Int32.zero_add]; rfl)
  refine r_ic (v := nI 0) C rfl (by decide) ?_
  refine r_istore_n C 3 rfl rfl (by exact Nat.le_of_ble_eq_true rfl) ?_
  refine r_eqM ?_ (loop 326 0 (by omega) (by omega))
  conv => lhs; rw [← mset_self M o t]
  exact mset_cong (fun w _ => by rw [if_neg (Nat.not_lt_zero w)])
theorem s_waterIn (hM : MO Sh N o) {x : Int32} (dp mn : Nat) (hW : WF R dp mn) (hx : x = nI r) (hr : r < 36) : Con E mX12_waterIn 2 0 0 [.ref o, .int x] Sh N G (mset M o r R) (P1 (some (.int (wat R dp 0 mn))) Sh N (mset M o r R)) nox := by
  subst hx
  obtain ⟨w0, w1, w2, w3, w4⟩ := hW
  have h0 := hM.1
  refine Con.of (by decide +kernel) (by simp [Value.category]) (Nat.le_of_ble_eq_true rfl) (fun k C0 => ?_)
  have C : CK k E mX12_waterIn kdX12_waterIn 2 0 0 := ⟨C0, kdX12_waterIn_ok⟩
  have inner : ∀ (i : Nat), i < mn → (∀ z : Int32, z = wat R dp 0 (i + 1) → PT k E (Q1 k E Sh N G (mset M o r R) (some (.int (wat R dp 0 mn))) (mset M o r R)) 0 0 Sh N G (mset M o r R) 51 [some (.ref o), some (.int (nI r)), some (.int z), some (.int (nI i)), some (.int (nI dp))] []) → ∀ n c : Nat, c ≤ dp → dp - c < n → PT k E (Q1 k E Sh N G (mset M o r R) (some (.int (wat R dp 0 mn))) (mset M o r R)) 0 0 Sh N G (mset M o r R) 17 [some (.ref o), some (.int (nI r)), some (.int (wat R dp 0 i + sm (fun c => R (37 + (6 * i + c))) c)), some (.int (nI i)), some (.int (nI c))] [] := by
    intro i hi kk n
    induction n with
    | zero => intro c _ h; omega
    | succ n ih =>
      intro c hc hn
      refine r_iload C rfl rfl ?_
      refine r_aload_n C 0 rfl rfl rfl rfl ?_
      refine r_iload_n C 1 rfl rfl rfl ?_
      refine r_ic (v := nI 0) C rfl (by decide) ?_
      refine v2_r C rfl mfX12_of lk_X12_238 (by assumption) (s_of hM 0 rfl rfl hr (by decide)) ?_
      refine r_top (nI dp) w0 ?_
      refine r_icmp_ge C 51 rfl (by decide) (fun h => ?_) (fun h => ?_)
      · have h := le_nI (by omega) (by omega) h
        have e : c = dp := by omega
        subst e
        exact kk _ (by simp only [wat, sm, Nat.zero_add])
      · have h := nle_nI (by omega) (by omega) h
        refine r_iload_n C 2 rfl rfl rfl ?_
        refine r_aload_n C 0 rfl rfl rfl rfl ?_
        refine r_iload_n C 1 rfl rfl rfl ?_
        refine r_bi (v := nI 37) C rfl (by decide) ?_
        refine r_iload_n C 3 rfl rfl rfl ?_
        refine r_iload C rfl rfl ?_
        refine s2_r C rfl mfX12_at lk_X12_241 (c_X12_at i c rfl rfl) ?_
        refine r_iadd C rfl ?_
        refine v2_r C rfl mfX12_of lk_X12_238 (by assumption) (s_of hM (37 + (6 * i + c)) rfl (by rw [nI_add]) hr (by omega)) ?_
        refine r_iadd C rfl ?_
        refine r_istore_n C 2 rfl rfl (by exact Nat.le_of_ble_eq_true rfl) ?_
        refine r_iinc (c := nI 1) C rfl rfl (by decide) ?_
        refine r_goto C 17 rfl (by decide) ?_
        refine r_eqL ?_ (ih (c + 1) (by omega) (by omega))
        first | rfl | (simp only [sm, add3, nI_add, Int32.add_zero, Int32.zero_add]; rfl)
  have loop : ∀ n i : Nat, i ≤ mn → mn - i < n → ∀ v : Option Value, PT k E (Q1 k E Sh N G (mset M o r R) (some (.int (wat R dp 0 mn))) (mset M o r R)) 0 0 Sh N G (mset M o r R) 4 [some (.ref o), some (.int (nI r)), some (.int (wat R dp 0 i)), some (.int (nI i)), v] [] := by
    intro n
    induction n with
    | zero => intro i _ h; omega
    | succ n ih =>
      intro i hi hn v
      refine r_iload_n C 3 rfl rfl rfl ?_
      refine r_aload_n C 0 rfl rfl rfl rfl ?_
      refine r_iload_n C 1 rfl rfl rfl ?_
      refine r_ic (v := nI 1) C rfl (by decide) ?_
      refine v2_r C rfl mfX12_of lk_X12_238 (by assumption) (s_of hM 1 rfl rfl hr (by decide)) ?_
      refine r_top (nI mn) w3 ?_
      refine r_icmp_ge C 57 rfl (by decide) (fun h => ?_) (fun h => ?_)
      · have h := le_nI (by omega) (by omega) h
        have e : i = mn := by omega
        subst e
        refine r_iload_n C 2 rfl rfl rfl ?_
        exact r_iret C rfl rfl rfl ⟨rfl, rfl, rfl, rfl⟩
      · have h := nle_nI (by omega) (by omega) h
        refine r_ic (v := nI 0) C rfl (by decide) ?_
        refine r_istore C rfl (by exact Nat.le_of_ble_eq_true rfl) ?_
        refine r_eqL ?_ (inner i h (fun z hz => ?_) (dp + 1) 0 (by omega) (by omega))
        · first | rfl | (simp only [sm, add3, nI_add, Int32.add_zero, Int32.zero_add]; rfl)
        · subst hz
          refine r_iinc (c := nI 1) C rfl rfl (by decide) ?_
          refine r_goto C 4 rfl (by decide) ?_
          refine r_eqL ?_ (ih (i + 1) (by omega) (by omega) (some (.int (nI dp))))
          first | rfl | (simp only [sm, add3, nI_add, Int32.add_zero, Int32.zero_add]; rfl)
  refine r_ic (v := nI 0) C rfl (by decide) ?_
  refine r_istore_n C 2 rfl rfl (by exact Nat.le_of_ble_eq_true rfl) ?_
  refine r_ic (v := nI 0) C rfl (by decide) ?_
  refine r_istore_n C 3 rfl rfl (by exact Nat.le_of_ble_eq_true rfl) ?_
  exact loop (mn + 1) 0 (by omega) (by omega) none
theorem s_wet (hM : MO Sh N o) {x y z v : Int32} (l c : Nat) (hx : x = nI r) (hy : y = nI l) (hz : z = nI c) (hr : r < 36) (hl : 6 * l + c < 144) : Con E mX12_wet 2 0 0 [.ref o, .int x, .int y, .int z, .int v] Sh N G (mset M o r R) (P1 none Sh N (mset M o r (wetS (6 * l + c) v R))) nox := by
  subst hx; subst hy; subst hz
  have h0 := hM.1
  refine Con.of (by decide +kernel) (by simp [Value.category]) (Nat.le_of_ble_eq_true rfl) (fun k C0 => ?_)
  have C : CK k E mX12_wet kdX12_wet 2 0 0 := ⟨C0, kdX12_wet_ok⟩
  refine r_bi (v := nI 37) C rfl (by decide) ?_
  refine r_iload_n C 2 rfl rfl rfl ?_
  refine r_iload_n C 3 rfl rfl rfl ?_
  refine s2_r C rfl mfX12_at lk_X12_241 (c_X12_at l c rfl rfl) ?_
  refine r_iadd C rfl ?_
  refine r_top (nI (37 + (6 * l + c))) (by rw [nI_add]) ?_
  refine r_istore C rfl (by exact Nat.le_of_ble_eq_true rfl) ?_
  refine r_iload C rfl rfl ?_
  refine r_si (v := nI 400) C rfl (by decide) ?_
  refine r_aload_n C 0 rfl rfl rfl rfl ?_
  refine r_iload_n C 1 rfl rfl rfl ?_
  refine r_iload C rfl rfl ?_
  refine v2_r C rfl mfX12_of lk_X12_238 (by assumption) (s_of hM (37 + (6 * l + c)) rfl rfl hr (by omega)) ?_
  refine r_isub C rfl ?_
  refine r_min C rfl lk_X12_130 ?_
  refine r_istore C rfl (by exact Nat.le_of_ble_eq_true rfl) ?_
  refine r_aload_n C 0 rfl rfl rfl rfl ?_
  refine r_iload_n C 1 rfl rfl rfl ?_
  refine r_iload C rfl rfl ?_
  refine r_aload_n C 0 rfl rfl rfl rfl ?_
  refine r_iload_n C 1 rfl rfl rfl ?_
  refine r_iload C rfl rfl ?_
  refine v2_r C rfl mfX12_of lk_X12_238 (by assumption) (s_of hM (37 + (6 * l + c)) rfl rfl hr (by omega)) ?_
  refine r_iload C rfl rfl ?_
  refine r_iadd C rfl ?_
  refine v3_v C rfl mfX12_put lk_X12_175 (by assumption) (s_put hM (37 + (6 * l + c)) rfl rfl hr (by omega)) ?_
  refine r_aload_n C 0 rfl rfl rfl rfl ?_
  refine r_iload_n C 1 rfl rfl rfl ?_
  refine r_bi (v := nI 11) C rfl (by decide) ?_
  refine r_aload_n C 0 rfl rfl rfl rfl ?_
  refine r_iload_n C 1 rfl rfl rfl ?_
  refine r_bi (v := nI 11) C rfl (by decide) ?_
  refine v2_r C rfl mfX12_of lk_X12_238 (by assumption) (s_of hM 11 rfl rfl hr (by decide)) ?_
  refine r_iload C rfl rfl ?_
  refine r_iadd C rfl ?_
  refine v3_v C rfl mfX12_put lk_X12_175 (by assumption) (s_put hM 11 rfl rfl hr (by decide)) ?_
  refine r_vret C rfl rfl ⟨rfl, rfl, rfl, ?_⟩
  rw [wetS]
  congr 2
  simp only [upd]
  rw [if_neg (by omega)]
theorem s_flow (hM : MO Sh N o) {x y z q : Int32} (a b : Nat) (hx : x = nI r) (hy : y = nI a) (hz : z = nI b) (hr : r < 36) (ha : a < 144) (hb : b < 144) (hq : ¬ q = 0) : Con E mX12_flow 2 0 0 [.ref o, .int x, .int y, .int z, .int q] Sh N G (mset M o r R) (P1 none Sh N (mset M o r (flowS (M (o + 3)) a b q R))) nox := by
  subst hx; subst hy; subst hz
  have h0 := hM.1
  have h1 := hM.ar 2 rfl
  refine Con.of (by decide +kernel) (by simp [Value.category]) (Nat.le_of_ble_eq_true rfl) (fun k C0 => ?_)
  have C : CK k E mX12_flow kdX12_flow 2 0 0 := ⟨C0, kdX12_flow_ok⟩
  refine r_aload_n C 0 rfl rfl rfl rfl ?_
  refine r_getv C rfl f_X12_16 (by assumption) rfl ?_
  refine r_iload_n C 2 rfl rfl rfl ?_
  refine r_iald C rfl (by assumption) (a) rfl (by omega) (by decide) ?_
  refine r_aload_n C 0 rfl rfl rfl rfl ?_
  refine r_getv C rfl f_X12_16 (by assumption) rfl ?_
  refine r_iload_n C 3 rfl rfl rfl ?_
  refine r_iald C rfl (by assumption) (b) rfl (by omega) (by decide) ?_
  refine r_isub C rfl ?_
  refine r_iload C rfl rfl ?_
  refine r_idiv C rfl hq ?_
  refine r_istore C rfl (by exact Nat.le_of_ble_eq_true rfl) ?_
  refine r_aload_n C 0 rfl rfl rfl rfl ?_
  refine r_iload_n C 1 rfl rfl rfl ?_
  refine r_bi (v := nI 37) C rfl (by decide) ?_
  refine r_iload_n C 2 rfl rfl rfl ?_
  refine r_iadd C rfl ?_
  refine r_aload_n C 0 rfl rfl rfl rfl ?_
  refine r_iload_n C 1 rfl rfl rfl ?_
  refine r_bi (v := nI 37) C rfl (by decide) ?_
  refine r_iload_n C 2 rfl rfl rfl ?_
  refine r_iadd C rfl ?_
  refine v2_r C rfl mfX12_of lk_X12_238 (by assumption) (s_of hM (37 + a) rfl (by rw [nI_add]) hr (by omega)) ?_
  refine r_iload C rfl rfl ?_
  refine r_isub C rfl ?_
  refine v3_v C rfl mfX12_put lk_X12_175 (by assumption) (s_put hM (37 + a) rfl (by rw [nI_add]) hr (by omega)) ?_
  refine r_aload_n C 0 rfl rfl rfl rfl ?_
  refine r_iload_n C 1 rfl rfl rfl ?_
  refine r_bi (v := nI 37) C rfl (by decide) ?_
  refine r_iload_n C 3 rfl rfl rfl ?_
  refine r_iadd C rfl ?_
  refine r_aload_n C 0 rfl rfl rfl rfl ?_
  refine r_iload_n C 1 rfl rfl rfl ?_
  refine r_bi (v := nI 37) C rfl (by decide) ?_
  refine r_iload_n C 3 rfl rfl rfl ?_
  refine r_iadd C rfl ?_
  refine v2_r C rfl mfX12_of lk_X12_238 (by assumption) (s_of hM (37 + b) rfl (by rw [nI_add]) hr (by omega)) ?_
  refine r_iload C rfl rfl ?_
  refine r_iadd C rfl ?_
  refine v3_v C rfl mfX12_put lk_X12_175 (by assumption) (s_put hM (37 + b) rfl (by rw [nI_add]) hr (by omega)) ?_
  refine r_vret C rfl rfl ⟨rfl, rfl, rfl, ?_⟩
  rw [mset_cell (by omega)]
  rfl
end MODEL4
end
section
section MODEL5
theorem rIn_lo (R : Row) (mn c : Nat) {j : Nat} (h : j < 13) : rIn R mn c j = R j := by
  simp only [rIn]
  rw [if_neg (by omega), if_neg (by omega), if_neg (by omega)]
theorem rIn_0 (R : Row) (mn : Nat) : upd R (13 + mn) 0 = rIn R mn 0 := by
  funext j
  simp only [upd, rIn]
  by_cases h : j = 13 + mn
  · rw [if_pos h, if_pos h]
  · rw [if_neg h, if_neg h, if_neg (by omega), if_neg (by omega)]
theorem rIn_step (R : Row) (mn c : Nat) (h : 6 * mn + c < 144) (hc : mn < 24) : upd (upd (rIn R mn c) (37 + (6 * mn + c)) (nI 200)) (181 + (6 * mn + c)) 0 = rIn R mn (c + 1) := by
  funext j
  simp only [upd, rIn]
  grind
theorem rais1_eq (R : Row) (dp mn : Nat) : upd (upd (rIn R mn dp) 11 (R 11 + nI 200 * nI dp)) 1 (nI (mn + 1)) = rais1 dp mn R := by
  funext j
  simp only [upd, rais1]
  grind
theorem wf_rais1 {R : Row} {dp mn : Nat} (h : WF R dp mn) (hm : mn < 24) : WF (rais1 dp mn R) dp (mn + 1) := by
  obtain ⟨h1, h2, h3, h4, h5⟩ := h
  refine ⟨?_, h2, h3, ?_, by omega⟩
  · simp only [rais1]; rw [if_neg (by decide), if_neg (by decide), rIn_lo _ _ _ (by decide)]; exact h1
  · simp [rais1]
theorem wf_raisR {R : Row} {dp mn : Nat} (h : WF R dp mn) : ∀ {n : Nat}, mn + n ≤ 24 → WF (raisR dp mn n R) dp (mn + n)
  | 0, _ => h
  | n + 1, hn => wf_rais1 (wf_raisR h (n := n) (by omega)) (by omega)
variable {E : VE} {Sh : Nat → SE} {N : Nat} {G : Bool} {M : MM} {o r : Nat} {R : Row}
theorem s_raise (hM : MO Sh N o) {x y : Int32} (dp mn n : Nat) (hW : WF R dp mn) (hx : x = nI r) (hy : y = nI n) (hr : r < 36) (hn : mn + n ≤ 24) : Con E mX12_raise 2 0 0 [.ref o, .int x, .int y] Sh N G (mset M o r R) (P1 none Sh N (mset M o r (raisR dp mn n R))) nox := by
  subst hx; subst hy
  have h0 := hM.1
  refine Con.ofQ (by decide +kernel) (by simp [Value.category]) (Nat.le_of_ble_eq_true rfl) (fun k C0 Q hQ => ?_)
  have C : CK k E mX12_raise kdX12_raise 2 0 0 := ⟨C0, kdX12_raise_ok⟩
  have inner : ∀ (R' : Row) (l i : Nat) , WF R' dp l → l < 24 → (PT k E Q 0 0 Sh N G (mset M o r (rIn R' l dp)) 81 [some (.ref o), some (.int (nI r)), some (.int (nI n)), some (.int (nI i)), some (.int (nI l)), some (.int (nI dp))] []) → ∀ m c : Nat, c ≤ dp → dp - c < m → PT k E Q 0 0 Sh N G (mset M o r (rIn R' l c)) 29 [some (.ref o), some (.int (nI r)), some (.int (nI n)), some (.int (nI i)), some (.int (nI l)), some (.int (nI c))] [] := by
    intro R' l i hW' hl kk m
    obtain ⟨w0, w1, w2, w3, w4⟩ := hW'
    induction m with
    | zero => intro c _ h; omega
    | succ m ih =>
      intro c hc hm
      refine r_iload C rfl rfl ?_
      refine r_aload_n C 0 rfl rfl rfl rfl ?_
      refine r_iload_n C 1 rfl rfl rfl ?_
      refine r_ic (v := nI 0) C rfl (by decide) ?_
      refine v2_r C rfl mfX12_of lk_X12_238 (by assumption) (s_of hM 0 rfl rfl hr (by decide)) ?_
      refine r_top (nI dp) (by rw [rIn_lo _ _ _ (by decide), w0]) ?_
      refine r_icmp_ge C 81 rfl (by decide) (fun h => ?_) (fun h => ?_)
      · have h := le_nI (by omega) (by omega) h
        have e : c = dp := by omega
        subst e
        exact kk
      · have h := nle_nI (by omega) (by omega) h
        refine r_aload_n C 0 rfl rfl rfl rfl ?_
        refine r_iload_n C 1 rfl rfl rfl ?_
        refine r_bi (v := nI 37) C rfl (by decide) ?_
        refine r_iload C rfl rfl ?_
        refine r_iload C rfl rfl ?_
        refine s2_r C rfl mfX12_at lk_X12_241 (c_X12_at l c rfl rfl) ?_
        refine r_iadd C rfl ?_
        refine r_si (v := nI 200) C rfl (by decide) ?_
        refine v3_v C rfl mfX12_put lk_X12_175 (by assumption) (s_put hM (37 + (6 * l + c)) rfl (by rw [nI_add]) hr (by omega)) ?_
        refine r_aload_n C 0 rfl rfl rfl rfl ?_
        refine r_iload_n C 1 rfl rfl rfl ?_
        refine r_si (v := nI 181) C rfl (by decide) ?_
        refine r_iload C rfl rfl ?_
        refine r_iload C rfl rfl ?_
        refine s2_r C rfl mfX12_at lk_X12_241 (c_X12_at l c rfl rfl) ?_
        refine r_iadd C rfl ?_
        refine r_ic (v := nI 0) C rfl (by decide) ?_
        refine v3_v C rfl mfX12_put lk_X12_175 (by assumption) (s_put hM (181 + (6 * l + c)) rfl (by rw [nI_add]) hr (by omega)) ?_
        refine r_iinc (c := nI 1) C rfl rfl (by decide) ?_
        refine r_goto C 29 rfl (by decide) ?_
        refine r_eqM ?_ (r_eqL ?_ (ih (c + 1) (by omega) (by omega)))
        · rw [← rIn_step R' l c (by omega) hl]; rfl
        · first | rfl | (simp only [sm, add3, nI_add, Int32.add_zero, Int32.zero_add]; rfl)
  have loop : ∀ m i : Nat, i ≤ n → n - i < m → ∀ v4 v5 : Option Value, PT k E Q 0 0 Sh N G (mset M o r (raisR dp mn i R)) 2 [some (.ref o), some (.int (nI r)), some (.int (nI n)), some (.int (nI i)), v4, v5] [] := by
    intro m
    induction m with
    | zero => intro i _ h; omega
    | succ m ih =>
      intro i hi hm v4 v5
      refine r_iload_n C 3 rfl rfl rfl ?_
      refine r_iload_n C 2 rfl rfl rfl ?_
      refine r_icmp_ge C 122 rfl (by decide) (fun h => ?_) (fun h => ?_)
      · have h := le_nI (by omega) (by omega) h
        have e : i = n := by omega
        subst e
        exact q_vret C hQ rfl rfl ⟨rfl, rfl, rfl, rfl⟩
      · have h := nle_nI (by omega) (by omega) h
        have hW' := wf_raisR hW (n := i) (by omega)
        generalize hR' : raisR dp mn i R = R' at hW' ⊢
        refine r_aload_n C 0 rfl rfl rfl rfl ?_
        refine r_iload_n C 1 rfl rfl rfl ?_
        refine r_ic (v := nI 1) C rfl (by decide) ?_
        refine v2_r C rfl mfX12_of lk_X12_238 (by assumption) (s_of hM 1 rfl rfl hr (by decide)) ?_
        refine r_top (nI (mn + i)) hW'.2.2.2.1 ?_
        refine r_istore C rfl (by exact Nat.le_of_ble_eq_true rfl) ?_
        refine r_aload_n C 0 rfl rfl rfl rfl ?_
        refine r_iload_n C 1 rfl rfl rfl ?_
        refine r_bi (v := nI 13) C rfl (by decide) ?_
        refine r_iload C rfl rfl ?_
        refine r_iadd C rfl ?_
        refine r_ic (v := nI 0) C rfl (by decide) ?_
        refine v3_v C rfl mfX12_put lk_X12_175 (by assumption) (s_put hM (13 + (mn + i)) rfl (by rw [nI_add]) hr (by omega)) ?_
        refine r_ic (v := nI 0) C rfl (by decide) ?_
        refine r_istore C rfl (by exact Nat.le_of_ble_eq_true rfl) ?_
        refine r_eqM (congrArg (mset M o r) (rIn_0 R' (mn + i))) ?_
        refine r_eqL ?_ (inner R' (mn + i) i hW' (by omega) ?_ (dp + 1) 0 (by omega) (by omega))
        · first | rfl | (simp only [sm, add3, nI_add, Int32.add_zero, Int32.zero_add]; rfl)
        refine r_aload_n C 0 rfl rfl rfl rfl ?_
        refine r_iload_n C 1 rfl rfl rfl ?_
        refine r_bi (v := nI 11) C rfl (by decide) ?_
        refine r_aload_n C 0 rfl rfl rfl rfl ?_
        refine r_iload_n C 1 rfl rfl rfl ?_
        refine r_bi (v := nI 11) C rfl (by decide) ?_
        refine v2_r C rfl mfX12_of lk_X12_238 (by assumption) (s_of hM 11 rfl rfl hr (by decide)) ?_
        refine r_top (R' 11) (rIn_lo _ _ _ (by decide)) ?_
        refine r_si (v := nI 200) C rfl (by decide) ?_
        refine r_aload_n C 0 rfl rfl rfl rfl ?_
        refine r_iload_n C 1 rfl rfl rfl ?_
        refine r_ic (v := nI 0) C rfl (by decide) ?_
        refine v2_r C rfl mfX12_of lk_X12_238 (by assumption) (s_of hM 0 rfl rfl hr (by decide)) ?_
        refine r_top (nI dp) (by rw [rIn_lo _ _ _ (by decide)]; exact hW'.1) ?_
        refine r_imul C rfl ?_
        refine r_iadd C rfl ?_
        refine v3_v C rfl mfX12_put lk_X12_175 (by assumption) (s_put hM 11 rfl rfl hr (by decide)) ?_
        refine r_aload_n C 0 rfl rfl rfl rfl ?_
        refine r_iload_n C 1 rfl rfl rfl ?_
        refine r_ic (v := nI 1) C rfl (by decide) ?_
        refine r_iload C rfl rfl ?_
        refine r_ic (v := nI 1) C rfl (by decide) ?_
        refine r_iadd C rfl ?_
        refine v3_v C rfl mfX12_put lk_X12_175 (by assumption) (s_put hM 1 rfl rfl hr (by decide)) ?_
        refine r_iinc (c := nI 1) C rfl rfl (by decide) ?_
        refine r_goto C 2 rfl (by decide) ?_
        refine r_eqM ?_ (r_eqL ?_ (ih (i + 1) (by omega) (by omega) (some (.int (nI (mn + i)))) (some (.int (nI dp)))))
        · rw [nI_add, rais1_eq]
          show _ = mset M o r (rais1 dp (mn + i) (raisR dp mn i R))
          rw [hR']
        · first | rfl | (simp only [sm, add3, nI_add, Int32.add_zero, Int32.zero_add]; rfl)
  refine r_ic (v := nI 0) C rfl (by decide) ?_
  refine r_istore_n C 3 rfl rfl (by exact Nat.le_of_ble_eq_true rfl) ?_
  exact loop (n + 1) 0 (by omega) (by omega) none none
theorem s_cut (hM : MO Sh N o) {x y : Int32} (dp mn l : Nat) (hW : WF R dp mn) (hx : x = nI r) (hy : y = nI l) (hr : r < 36) (hl : l ≤ mn) : Con E mX12_cut 2 0 0 [.ref o, .int x, .int y] Sh N G (mset M o r R) (P1 none Sh N (mset M o r (cutR dp mn l R))) nox := by
  subst hx; subst hy
  obtain ⟨w0, w1, w2, w3, w4⟩ := hW
  have h0 := hM.1
  refine Con.ofQ (by decide +kernel) (by simp [Value.category]) (Nat.le_of_ble_eq_true rfl) (fun k C0 Q hQ => ?_)
  have C : CK k E mX12_cut kdX12_cut 2 0 0 := ⟨C0, kdX12_cut_ok⟩
  have inner : ∀ (i : Nat), l + i < mn → (∀ z : Int32, z = wat R dp l (i + 1) → PT k E Q 0 0 Sh N G (mset M o r R) 54 [some (.ref o), some (.int (nI r)), some (.int (nI l)), some (.int z), some (.int (nI (l + i))), some (.int (nI dp))] []) → ∀ n c : Nat, c ≤ dp → dp - c < n → PT k E Q 0 0 Sh N G (mset M o r R) 19 [some (.ref o), some (.int (nI r)), some (.int (nI l)), some (.int (wat R dp l i + sm (fun c => R (37 + (6 * (l + i) + c))) c)), some (.int (nI (l + i))), some (.int (nI c))] [] := by
    intro i hi kk n
    induction n with
    | zero => intro c _ h; omega
    | succ n ih =>
      intro c hc hn
      refine r_iload C rfl rfl ?_
      refine r_aload_n C 0 rfl rfl rfl rfl ?_
      refine r_iload_n C 1 rfl rfl rfl ?_
      refine r_ic (v := nI 0) C rfl (by decide) ?_
      refine v2_r C rfl mfX12_of lk_X12_238 (by assumption) (s_of hM 0 rfl rfl hr (by decide)) ?_
      refine r_top (nI dp) w0 ?_
      refine r_icmp_ge C 54 rfl (by decide) (fun h => ?_) (fun h => ?_)
      · have h := le_nI (by omega) (by omega) h
        have e : c = dp := by omega
        subst e
        exact kk _ rfl
      · have h := nle_nI (by omega) (by omega) h
        refine r_iload_n C 3 rfl rfl rfl ?_
        refine r_aload_n C 0 rfl rfl rfl rfl ?_
        refine r_iload_n C 1 rfl rfl rfl ?_
        refine r_bi (v := nI 37) C rfl (by decide) ?_
        refine r_iload C rfl rfl ?_
        refine r_iload C rfl rfl ?_
        refine s2_r C rfl mfX12_at lk_X12_241 (c_X12_at (l + i) c rfl rfl) ?_
        refine r_iadd C rfl ?_
        refine v2_r C rfl mfX12_of lk_X12_238 (by assumption) (s_of hM (37 + (6 * (l + i) + c)) rfl (by rw [nI_add]) hr (by omega)) ?_
        refine r_iadd C rfl ?_
        refine r_istore_n C 3 rfl rfl (by exact Nat.le_of_ble_eq_true rfl) ?_
        refine r_iinc (c := nI 1) C rfl rfl (by decide) ?_
        refine r_goto C 19 rfl (by decide) ?_
        refine r_eqL ?_ (ih (c + 1) (by omega) (by omega))
        first | rfl | (simp only [sm, add3, nI_add, Int32.add_zero, Int32.zero_add]; rfl)
  have loop : ∀ n i : Nat, l + i ≤ mn → mn - (l + i) < n → ∀ v : Option Value, PT k E Q 0 0 Sh N G (mset M o r R) 5 [some (.ref o), some (.int (nI r)), some (.int (nI l)), some (.int (wat R dp l i)), some (.int (nI (l + i))), v] [] := by
    intro n
    induction n with
    | zero => intro i _ h; omega
    | succ n ih =>
      intro i hi hn v
      refine r_iload C rfl rfl ?_
      refine r_aload_n C 0 rfl rfl rfl rfl ?_
      refine r_iload_n C 1 rfl rfl rfl ?_
      refine r_ic (v := nI 1) C rfl (by decide) ?_
      refine v2_r C rfl mfX12_of lk_X12_238 (by assumption) (s_of hM 1 rfl rfl hr (by decide)) ?_
      refine r_top (nI mn) w3 ?_
      refine r_icmp_ge C 60 rfl (by decide) (fun h => ?_) (fun h => ?_)
      · have h := le_nI (by omega) (by omega) h
        refine r_aload_n C 0 rfl rfl rfl rfl ?_
        refine r_iload_n C 1 rfl rfl rfl ?_
        refine r_bi (v := nI 12) C rfl (by decide) ?_
        refine r_aload_n C 0 rfl rfl rfl rfl ?_
        refine r_iload_n C 1 rfl rfl rfl ?_
        refine r_bi (v := nI 12) C rfl (by decide) ?_
        refine v2_r C rfl mfX12_of lk_X12_238 (by assumption) (s_of hM 12 rfl rfl hr (by decide)) ?_
        refine r_iload_n C 3 rfl rfl rfl ?_
        refine r_iadd C rfl ?_
        refine v3_v C rfl mfX12_put lk_X12_175 (by assumption) (s_put hM 12 rfl rfl hr (by decide)) ?_
        refine r_aload_n C 0 rfl rfl rfl rfl ?_
        refine r_iload_n C 1 rfl rfl rfl ?_
        refine r_ic (v := nI 1) C rfl (by decide) ?_
        refine r_iload_n C 2 rfl rfl rfl ?_
        refine v3_v C rfl mfX12_put lk_X12_175 (by assumption) (s_put hM 1 rfl rfl hr (by decide)) ?_
        refine q_vret C hQ rfl rfl ⟨rfl, rfl, rfl, ?_⟩
        congr 1
        funext j
        simp only [upd, cutR]
        rw [show mn - l = i by omega]
        grind
      · have h := nle_nI (by omega) (by omega) h
        refine r_ic (v := nI 0) C rfl (by decide) ?_
        refine r_istore C rfl (by exact Nat.le_of_ble_eq_true rfl) ?_
        refine r_eqL ?_ (inner i h (fun z hz => ?_) (dp + 1) 0 (by omega) (by omega))
        · first | rfl | (simp only [sm, add3, nI_add, Int32.add_zero, Int32.zero_add]; rfl)
        · subst hz
          refine r_iinc (c := nI 1) C rfl rfl (by decide) ?_
          refine r_goto C 5 rfl (by decide) ?_
          refine r_eqL ?_ (ih (i + 1) (by omega) (by omega) (some (.int (nI dp))))
          rw [show l + (i + 1) = l + i + 1 by omega]
          first | rfl | (simp only [sm, add3, nI_add, Int32.add_zero, Int32.zero_add]; rfl)
  refine r_ic (v := nI 0) C rfl (by decide) ?_
  refine r_istore_n C 3 rfl rfl (by exact Nat.le_of_ble_eq_true rfl) ?_
  refine r_iload_n C 2 rfl rfl rfl ?_
  refine r_istore C rfl (by exact Nat.le_of_ble_eq_true rfl) ?_
  exact loop (mn + 1) 0 (by omega) (by omega) none
end MODEL5
end
section
section MODEL6
theorem flowS_keep (w : Nat → Int32) (a b : Nat) (q : Int32) (R : Row) {j : Nat} (h : j < 37) : flowS w a b q R j = R j := by
  simp only [flowS, upd]
  rw [if_neg (by omega), if_neg (by omega)]
theorem flowS_w {w w' : Nat → Int32} {a b : Nat} (q : Int32) (R : Row) (ha : w a = w' a) (hb : w b = w' b) : flowS w a b q R = flowS w' a b q R := by
  simp only [flowS, ha, hb]
theorem moveS_keep (w : Nat → Int32) (dp mn l c : Nat) (R : Row) {j : Nat} (h : j < 37) : moveS w dp mn l c R j = R j := by
  simp only [moveS]
  split <;> split <;> simp only [flowS_keep _ _ _ _ _ h]
theorem moveI_keep (w : Nat → Int32) (dp mn l c : Nat) (R : Row) {j : Nat} (h : j < 37) : it (fun c => moveS w dp mn l c) c R j = R j := it_keep (fun i R => moveS_keep w dp mn l i R h) c R
theorem moveR_keep (w : Nat → Int32) (dp mn n : Nat) (R : Row) {j : Nat} (h : j < 37) : it (fun l => it (fun c => moveS w dp mn l c) dp) n R j = R j := it_keep (fun i R => moveI_keep w dp mn i dp R h) n R
theorem dryS_keep (air : Int32) (dp mn l c : Nat) (R : Row) {j : Nat} (h : j < 37) (h2 : j ≠ 12) : dryS air dp mn l c R j = R j := by
  simp only [dryS, upd]
  rw [if_neg h2, if_neg (by omega)]
theorem dryI_keep (air : Int32) (dp mn l c : Nat) (R : Row) {j : Nat} (h : j < 37) (h2 : j ≠ 12) : it (fun c => dryS air dp mn l c) c R j = R j := it_keep (fun i R => dryS_keep air dp mn l i R h h2) c R
theorem dryR_keep (air : Int32) (dp mn n : Nat) (R : Row) {j : Nat} (h : j < 37) (h2 : j ≠ 12) : it (fun l => it (fun c => dryS air dp mn l c) dp) n R j = R j := it_keep (fun i R => dryI_keep air dp mn i dp R h h2) n R
theorem aset_up (M : MM) (o r a i : Nat) (R : Row) (F : Nat → Int32) (v : Int32) (h : a ≠ o + 1) : up (mset (aset M a F) o r R) a i v = mset (aset M a (upd F i v)) o r R := by
  funext x y
  simp only [up, mset, aset, upd]
  grind
variable {E : VE} {Sh : Nat → SE} {N : Nat} {G : Bool} {M : MM} {o r : Nat} {R : Row}
/-- what 'now' holds behind see() -/
def seeF (R : Row) (F : Nat → Int32) (i : Nat) : Nat → Int32 := fun j => if j < i then R (37 + j) else F j
theorem seeF_up (R : Row) (F : Nat → Int32) (i : Nat) : upd (seeF R F i) i (R (37 + i)) = seeF R F (i + 1) := by
  funext j
  simp only [upd, seeF]
  grind
theorem seeF_in (R : Row) (F : Nat → Int32) {i j : Nat} (h : j < i) : seeF R F i j = R (37 + j) := if_pos h
theorem s_see (hM : MO Sh N o) {x : Int32} (hx : x = nI r) (hr : r < 36) : Con E mX12_see 2 0 0 [.ref o, .int x] Sh N G (mset M o r R) (P1 none Sh N (mset (aset M (o + 3) (seeF R (M (o + 3)) 144)) o r R)) nox := by
  subst hx
  have h0 := hM.1
  have h1 := hM.ar 2 rfl
  refine Con.ofQ (by decide +kernel) (by simp [Value.category]) (Nat.le_of_ble_eq_true rfl) (fun k C0 Q hQ => ?_)
  have C : CK k E mX12_see kdX12_see 2 0 0 := ⟨C0, kdX12_see_ok⟩
  have loop : ∀ n i : Nat, i ≤ 144 → 144 - i < n → PT k E Q 0 0 Sh N G (mset (aset M (o + 3) (seeF R (M (o + 3)) i)) o r R) 2 [some (.ref o), some (.int (nI r)), some (.int (nI i))] [] := by
    intro n
    induction n with
    | zero => intro i _ h; omega
    | succ n ih =>
      intro i hi hn
      refine r_iload_n C 2 rfl rfl rfl ?_
      refine r_si (v := nI 144) C rfl (by decide) ?_
      refine r_icmp_ge C 30 rfl (by decide) (fun h => ?_) (fun h => ?_)
      · have h := le_nI (by omega) (by omega) h
        have e : i = 144 := by omega
        subst e
        exact q_vret C hQ rfl rfl ⟨rfl, rfl, rfl, rfl⟩
      · have h := nle_nI (by omega) (by omega) h
        refine r_aload_n C 0 rfl rfl rfl rfl ?_
        refine r_getv C rfl f_X12_16 (by assumption) rfl ?_
        refine r_iload_n C 2 rfl rfl rfl ?_
        refine r_aload_n C 0 rfl rfl rfl rfl ?_
        refine r_iload_n C 1 rfl rfl rfl ?_
        refine r_bi (v := nI 37) C rfl (by decide) ?_
        refine r_iload_n C 2 rfl rfl rfl ?_
        refine r_iadd C rfl ?_
        refine v2_r C rfl mfX12_of lk_X12_238 (by assumption) (s_of hM (37 + i) rfl (by rw [nI_add]) hr (by omega)) ?_
        refine r_iast C rfl (by assumption) (i) rfl (by omega) (by decide) ?_
        refine r_iinc (c := nI 1) C rfl rfl (by decide) ?_
        refine r_goto C 2 rfl (by decide) ?_
        refine r_eqM ?_ (r_eqL ?_ (ih (i + 1) (by omega) (by omega)))
        · rw [aset_up _ _ _ _ _ _ _ _ (by omega), seeF_up]
        · first | rfl | (simp only [sm, add3, nI_add, Int32.add_zero, Int32.zero_add]; rfl)
  refine r_ic (v := nI 0) C rfl (by decide) ?_
  refine r_istore_n C 2 rfl rfl (by exact Nat.le_of_ble_eq_true rfl) ?_
  refine r_eqM ?_ (loop 145 0 (by omega) (by omega))
  rw [show seeF R (M (o + 3)) 0 = M (o + 3) from funext (fun j => if_neg (Nat.not_lt_zero j)), aset_self]
theorem s_move (hM : MO Sh N o) {x : Int32} (dp mn : Nat) (hW : WF R dp mn) (hx : x = nI r) (hr : r < 36) : Con E mX12_move 3 0 0 [.ref o, .int x] Sh N G (mset M o r R) (P1 none Sh N (mset (aset M (o + 3) (seeF R (M (o + 3)) 144)) o r (moveR (fun j => R (37 + j)) dp mn R))) nox := by
  subst hx
  obtain ⟨w0, w1, w2, w3, w4⟩ := hW
  have h0 := hM.1
  refine Con.ofQ (by decide +kernel) (by simp [Value.category]) (Nat.le_of_ble_eq_true rfl) (fun k C0 Q hQ => ?_)
  have C : CK k E mX12_move kdX12_move 3 0 0 := ⟨C0, kdX12_move_ok⟩
  refine r_aload_n C 0 rfl rfl rfl rfl ?_
  refine r_iload_n C 1 rfl rfl rfl ?_
  refine v1_v C rfl mfX12_see lk_X12_292 (by assumption) (s_see hM rfl hr) ?_
  refine r_ic (v := nI 0) C rfl (by decide) ?_
  refine r_istore_n C 2 rfl rfl (by exact Nat.le_of_ble_eq_true rfl) ?_
  have hfl : ∀ (a b : Nat) (q : Int32) (R' : Row), a < 144 → b < 144 → flowS (aset M (o + 3) (seeF R (M (o + 3)) 144) (o + 3)) a b q R' = flowS (fun j => R (37 + j)) a b q R' := fun a b q R' ha hb => by
    rw [aset_own]
    exact flowS_w q R' (seeF_in R _ ha) (seeF_in R _ hb)
  generalize hM1 : aset M (o + 3) (seeF R (M (o + 3)) 144) = M1 at hfl hQ ⊢
  have inner : ∀ (l : Nat) (R' : Row), l < mn → R' 0 = nI dp → R' 1 = nI mn → (PT k E Q 0 0 Sh N G (mset M1 o r (it (fun c => moveS (fun j => R (37 + j)) dp mn l c) dp R')) 96 [some (.ref o), some (.int (nI r)), some (.int (nI l)), some (.int (nI dp))] []) → ∀ n c : Nat, c ≤ dp → dp - c < n → PT k E Q 0 0 Sh N G (mset M1 o r (it (fun c => moveS (fun j => R (37 + j)) dp mn l c) c R')) 19 [some (.ref o), some (.int (nI r)), some (.int (nI l)), some (.int (nI c))] [] := by
    intro l R' hl e0 e1 kk
    intro n
    induction n with
    | zero => intro i _ h; omega
    | succ n ih =>
      intro c hc hn
      have hk0 := (moveI_keep (fun j => R (37 + j)) dp mn l c R' (j := 0) (by decide)).trans e0
      have hk1 := (moveI_keep (fun j => R (37 + j)) dp mn l c R' (j := 1) (by decide)).trans e1
      have hih := fun h1 h2 => ih (c + 1) h1 h2
      rw [it] at hih
      obtain ⟨R2, hR2⟩ : ∃ R2, R2 = it (fun c => moveS (fun j => R (37 + j)) dp mn l c) c R' := ⟨_, rfl⟩
      rw [← hR2] at hk0 hk1 hih ⊢
      refine r_iload_n C 3 rfl rfl rfl ?_
      refine r_aload_n C 0 rfl rfl rfl rfl ?_
      refine r_iload_n C 1 rfl rfl rfl ?_
      refine r_ic (v := nI 0) C rfl (by decide) ?_
      refine v2_r C rfl mfX12_of lk_X12_238 (by assumption) (s_of hM 0 rfl rfl hr (by decide)) ?_
      refine r_top (nI dp) hk0 ?_
      refine r_icmp_ge C 96 rfl (by decide) (fun h => ?_) (fun h => ?_)
      · have h := le_nI (by omega) (by omega) h
        have e : c = dp := by omega
        subst e
        rw [hR2]
        exact kk
      have h := nle_nI (by omega) (by omega) h
      have k90 : ∀ R4 : Row, R4 = moveS (fun j => R (37 + j)) dp mn l c R2 → PT k E Q 0 0 Sh N G (mset M1 o r R4) 90 [some (.ref o), some (.int (nI r)), some (.int (nI l)), some (.int (nI c))] [] := by
        intro R4 hR4
        subst hR4
        refine r_iinc (c := nI 1) C rfl rfl (by decide) ?_
        refine r_goto C 19 rfl (by decide) ?_
        refine r_eqL ?_ (hih (by omega) (by omega))
        first | rfl | (simp only [sm, add3, nI_add, Int32.add_zero, Int32.zero_add]; rfl)
      have k59 : ∀ R3 : Row, R3 = (if c + 1 < dp then flowS (fun j => R (37 + j)) (6 * l + c) (6 * l + (c + 1)) (nI 4) R2 else R2) → PT k E Q 0 0 Sh N G (mset M1 o r R3) 59 [some (.ref o), some (.int (nI r)), some (.int (nI l)), some (.int (nI c))] [] := by
        intro R3 hR3
        have hk : R3 1 = nI mn := by
          rw [hR3]
          split
          · rw [flowS_keep _ _ _ _ _ (by decide)]; exact hk1
          · exact hk1
        refine r_iload_n C 2 rfl rfl rfl ?_
        refine r_ic (v := nI 1) C rfl (by decide) ?_
        refine r_iadd C rfl ?_
        refine r_aload_n C 0 rfl rfl rfl rfl ?_
        refine r_iload_n C 1 rfl rfl rfl ?_
        refine r_ic (v := nI 1) C rfl (by decide) ?_
        refine v2_r C rfl mfX12_of lk_X12_238 (by assumption) (s_of hM 1 rfl rfl hr (by decide)) ?_
        refine r_top (nI mn) hk ?_
        refine r_icmp_ge C 90 rfl (by decide) (fun h2 => ?_) (fun h2 => ?_)
        · rw [nI_add] at h2
          have h2 := le_nI (by omega) (by omega) h2
          refine k90 _ ?_
          simp only [moveS]
          rw [if_neg (by omega), hR3]
        · rw [nI_add] at h2
          have h2 := nle_nI (by omega) (by omega) h2
          refine r_aload_n C 0 rfl rfl rfl rfl ?_
          refine r_iload_n C 1 rfl rfl rfl ?_
          refine r_iload_n C 2 rfl rfl rfl ?_
          refine r_iload_n C 3 rfl rfl rfl ?_
          refine s2_r C rfl mfX12_at lk_X12_241 (c_X12_at l c rfl rfl) ?_
          refine r_iload_n C 2 rfl rfl rfl ?_
          refine r_ic (v := nI 1) C rfl (by decide) ?_
          refine r_iadd C rfl ?_
          refine r_iload_n C 3 rfl rfl rfl ?_
          refine s2_r C rfl mfX12_at lk_X12_241 (c_X12_at (l + 1) c (by rw [nI_add]) rfl) ?_
          refine r_bi (v := nI 8) C rfl (by decide) ?_
          refine v4_v C rfl mfX12_flow lk_X12_295 (by assumption) (s_flow hM (6 * l + c) (6 * (l + 1) + c) rfl rfl rfl hr (by omega) (by omega) (by decide)) ?_
          refine k90 _ ?_
          rw [hfl _ _ _ _ (by omega) (by omega)]
          simp only [moveS]
          rw [if_pos h2, hR3]
      refine r_iload_n C 3 rfl rfl rfl ?_
      refine r_ic (v := nI 1) C rfl (by decide) ?_
      refine r_iadd C rfl ?_
      refine r_aload_n C 0 rfl rfl rfl rfl ?_
      refine r_iload_n C 1 rfl rfl rfl ?_
      refine r_ic (v := nI 0) C rfl (by decide) ?_
      refine v2_r C rfl mfX12_of lk_X12_238 (by assumption) (s_of hM 0 rfl rfl hr (by decide)) ?_
      refine r_top (nI dp) hk0 ?_
      refine r_icmp_ge C 59 rfl (by decide) (fun h2 => ?_) (fun h2 => ?_)
      · rw [nI_add] at h2
        have h2 := le_nI (by omega) (by omega) h2
        exact k59 _ (by rw [if_neg (by omega)])
      · rw [nI_add] at h2
        have h2 := nle_nI (by omega) (by omega) h2
        refine r_aload_n C 0 rfl rfl rfl rfl ?_
        refine r_iload_n C 1 rfl rfl rfl ?_
        refine r_iload_n C 2 rfl rfl rfl ?_
        refine r_iload_n C 3 rfl rfl rfl ?_
        refine s2_r C rfl mfX12_at lk_X12_241 (c_X12_at l c rfl rfl) ?_
        refine r_iload_n C 2 rfl rfl rfl ?_
        refine r_iload_n C 3 rfl rfl rfl ?_
        refine r_ic (v := nI 1) C rfl (by decide) ?_
        refine r_iadd C rfl ?_
        refine s2_r C rfl mfX12_at lk_X12_241 (c_X12_at l (c + 1) rfl (by rw [nI_add])) ?_
        refine r_ic (v := nI 4) C rfl (by decide) ?_
        refine v4_v C rfl mfX12_flow lk_X12_295 (by assumption) (s_flow hM (6 * l + c) (6 * l + (c + 1)) rfl rfl rfl hr (by omega) (by omega) (by decide)) ?_
        exact k59 _ (by rw [hfl _ _ _ _ (by omega) (by omega), if_pos h2])
  have loop : ∀ n i : Nat, i ≤ mn → mn - i < n → ∀ v : Option Value, PT k E Q 0 0 Sh N G (mset M1 o r (it (fun l => it (fun c => moveS (fun j => R (37 + j)) dp mn l c) dp) i R)) 7 [some (.ref o), some (.int (nI r)), some (.int (nI i)), v] [] := by
    intro n
    induction n with
    | zero => intro i _ h; omega
    | succ n ih =>
      intro i hi hn v
      have hk0 := (moveR_keep (fun j => R (37 + j)) dp mn i R (j := 0) (by decide)).trans w0
      have hk1 := (moveR_keep (fun j => R (37 + j)) dp mn i R (j := 1) (by decide)).trans w3
      refine r_iload_n C 2 rfl rfl rfl ?_
      refine r_aload_n C 0 rfl rfl rfl rfl ?_
      refine r_iload_n C 1 rfl rfl rfl ?_
      refine r_ic (v := nI 1) C rfl (by decide) ?_
      refine v2_r C rfl mfX12_of lk_X12_238 (by assumption) (s_of hM 1 rfl rfl hr (by decide)) ?_
      refine r_top (nI mn) hk1 ?_
      refine r_icmp_ge C 102 rfl (by decide) (fun h => ?_) (fun h => ?_)
      · have h := le_nI (by omega) (by omega) h
        have e : i = mn := by omega
        subst e
        exact q_vret C hQ rfl rfl ⟨rfl, rfl, rfl, rfl⟩
      · have h := nle_nI (by omega) (by omega) h
        refine r_ic (v := nI 0) C rfl (by decide) ?_
        refine r_istore_n C 3 rfl rfl (by exact Nat.le_of_ble_eq_true rfl) ?_
        refine r_eqL ?_ (inner i _ h hk0 hk1 ?_ (dp + 1) 0 (by omega) (by omega))
        · first | rfl | (simp only [sm, add3, nI_add, Int32.add_zero, Int32.zero_add]; rfl)
        refine r_iinc (c := nI 1) C rfl rfl (by decide) ?_
        refine r_goto C 7 rfl (by decide) ?_
        refine r_eqL ?_ (ih (i + 1) (by omega) (by omega) (some (.int (nI dp))))
        first | rfl | (simp only [sm, add3, nI_add, Int32.add_zero, Int32.zero_add]; rfl)
  exact loop (mn + 1) 0 (by omega) (by omega) none
theorem s_dry (hM : MO Sh N o) {x air : Int32} (dp mn : Nat) (hW : WF R dp mn) (hx : x = nI r) (hr : r < 36) : Con E mX12_dry 2 0 0 [.ref o, .int x, .int air] Sh N G (mset M o r R) (P1 none Sh N (mset M o r (dryR air dp mn R))) nox := by
  subst hx
  obtain ⟨w0, w1, w2, w3, w4⟩ := hW
  have h0 := hM.1
  refine Con.ofQ (by decide +kernel) (by simp [Value.category]) (Nat.le_of_ble_eq_true rfl) (fun k C0 Q hQ => ?_)
  have C : CK k E mX12_dry kdX12_dry 2 0 0 := ⟨C0, kdX12_dry_ok⟩
  have inner : ∀ (l : Nat) (R' : Row) (v5 v6 v7 : Option Value), l < mn → R' 0 = nI dp → R' 1 = nI mn → (∀ v5 v6 v7 : Option Value, PT k E Q 0 0 Sh N G (mset M o r (it (fun c => dryS air dp mn l c) dp R')) 175 [some (.ref o), some (.int (nI r)), some (.int air), some (.int (nI l)), some (.int (nI dp)), v5, v6, v7] []) → ∀ n c : Nat, c ≤ dp → dp - c < n → ∀ v5 v6 v7 : Option Value, PT k E Q 0 0 Sh N G (mset M o r (it (fun c => dryS air dp mn l c) c R')) 15 [some (.ref o), some (.int (nI r)), some (.int air), some (.int (nI l)), some (.int (nI c)), v5, v6, v7] [] := by
    intro l R' _ _ _ hl e0 e1 kk
    intro n
    induction n with
    | zero => intro i _ h; omega
    | succ n ih =>
      intro c hc hn v5 v6 v7
      have hk0 := (dryI_keep air dp mn l c R' (j := 0) (by decide) (by decide)).trans e0
      have hk1 := (dryI_keep air dp mn l c R' (j := 1) (by decide) (by decide)).trans e1
      have hih := fun h1 h2 => ih (c + 1) h1 h2
      rw [it] at hih
      obtain ⟨R2, hR2⟩ : ∃ R2, R2 = it (fun c => dryS air dp mn l c) c R' := ⟨_, rfl⟩
      rw [← hR2] at hk0 hk1 hih ⊢
      refine r_iload C rfl rfl ?_
      refine r_aload_n C 0 rfl rfl rfl rfl ?_
      refine r_iload_n C 1 rfl rfl rfl ?_
      refine r_ic (v := nI 0) C rfl (by decide) ?_
      refine v2_r C rfl mfX12_of lk_X12_238 (by assumption) (s_of hM 0 rfl rfl hr (by decide)) ?_
      refine r_top (nI dp) hk0 ?_
      refine r_icmp_ge C 175 rfl (by decide) (fun h => ?_) (fun h => ?_)
      · have h := le_nI (by omega) (by omega) h
        have e : c = dp := by omega
        subst e
        rw [hR2]
        exact kk v5 v6 v7
      have h := nle_nI (by omega) (by omega) h
      have k87 : ∀ z : Int32, z = dryN R2 dp mn l c → PT k E Q 0 0 Sh N G (mset M o r R2) 87 [some (.ref o), some (.int (nI r)), some (.int air), some (.int (nI l)), some (.int (nI c)), v5, v6, v7] [.int z] := by
        intro z hz
        refine r_istore C rfl (by exact Nat.le_of_ble_eq_true rfl) ?_
        refine r_bi (v := nI 37) C rfl (by decide) ?_
        refine r_iload_n C 3 rfl rfl rfl ?_
        refine r_iload C rfl rfl ?_
        refine s2_r C rfl mfX12_at lk_X12_241 (c_X12_at l c rfl rfl) ?_
        refine r_iadd C rfl ?_
        refine r_top (nI (37 + (6 * l + c))) (by rw [nI_add]) ?_
        refine r_istore C rfl (by exact Nat.le_of_ble_eq_true rfl) ?_
        refine r_aload_n C 0 rfl rfl rfl rfl ?_
        refine r_iload_n C 1 rfl rfl rfl ?_
        refine r_iload C rfl rfl ?_
        refine v2_r C rfl mfX12_of lk_X12_238 (by assumption) (s_of hM (37 + (6 * l + c)) rfl rfl hr (by omega)) ?_
        refine r_ic (v := nI 0) C rfl (by decide) ?_
        refine r_aload_n C 0 rfl rfl rfl rfl ?_
        refine r_iload_n C 1 rfl rfl rfl ?_
        refine r_iload C rfl rfl ?_
        refine v2_r C rfl mfX12_of lk_X12_238 (by assumption) (s_of hM (37 + (6 * l + c)) rfl rfl hr (by omega)) ?_
        refine r_bi (v := nI 100) C rfl (by decide) ?_
        refine r_isub C rfl ?_
        refine r_max C rfl lk_X12_257 ?_
        refine r_iload_n C 2 rfl rfl rfl ?_
        refine r_imul C rfl ?_
        refine r_iload C rfl rfl ?_
        refine r_imul C rfl ?_
        refine r_si (v := nI 20000) C rfl (by decide) ?_
        refine r_idiv C rfl (by decide) ?_
        refine r_min C rfl lk_X12_130 ?_
        refine r_istore C rfl (by exact Nat.le_of_ble_eq_true rfl) ?_
        refine r_aload_n C 0 rfl rfl rfl rfl ?_
        refine r_iload_n C 1 rfl rfl rfl ?_
        refine r_iload C rfl rfl ?_
        refine r_aload_n C 0 rfl rfl rfl rfl ?_
        refine r_iload_n C 1 rfl rfl rfl ?_
        refine r_iload C rfl rfl ?_
        refine v2_r C rfl mfX12_of lk_X12_238 (by assumption) (s_of hM (37 + (6 * l + c)) rfl rfl hr (by omega)) ?_
        refine r_iload C rfl rfl ?_
        refine r_isub C rfl ?_
        refine v3_v C rfl mfX12_put lk_X12_175 (by assumption) (s_put hM (37 + (6 * l + c)) rfl rfl hr (by omega)) ?_
        refine r_aload_n C 0 rfl rfl rfl rfl ?_
        refine r_iload_n C 1 rfl rfl rfl ?_
        refine r_bi (v := nI 12) C rfl (by decide) ?_
        refine r_aload_n C 0 rfl rfl rfl rfl ?_
        refine r_iload_n C 1 rfl rfl rfl ?_
        refine r_bi (v := nI 12) C rfl (by decide) ?_
        refine v2_r C rfl mfX12_of lk_X12_238 (by assumption) (s_of hM 12 rfl rfl hr (by decide)) ?_
        refine r_iload C rfl rfl ?_
        refine r_iadd C rfl ?_
        refine v3_v C rfl mfX12_put lk_X12_175 (by assumption) (s_put hM 12 rfl rfl hr (by decide)) ?_
        refine r_iinc (c := nI 1) C rfl rfl (by decide) ?_
        refine r_goto C 15 rfl (by decide) ?_
        refine r_eqM ?_ (r_eqL ?_ (hih (by omega) (by omega) (some (.int z)) (some (.int (nI (37 + (6 * l + c))))) (some (.int (dryV R2 air dp mn l c)))))
        · rw [hz]
          congr 1
          simp only [dryS]
          congr 1
          simp only [upd]
          rw [if_neg (by omega)]
          rfl
        · subst hz
          first | rfl | (simp only [sm, add3, nI_add, Int32.add_zero, Int32.zero_add]; rfl)
      have k67 : ∀ z1 z2 : Int32, z1 = (if c = 0 then R2 5 else 0) → z2 = (if c = dp - 1 then R2 6 / nI 2 else 0) → PT k E Q 0 0 Sh N G (mset M o r R2) 67 [some (.ref o), some (.int (nI r)), some (.int air), some (.int (nI l)), some (.int (nI c)), v5, v6, v7] [.int z2, .int z1] := by
        intro z1 z2 hz1 hz2
        refine r_iadd C rfl ?_
        refine r_iload_n C 3 rfl rfl rfl ?_
        refine r_aload_n C 0 rfl rfl rfl rfl ?_
        refine r_iload_n C 1 rfl rfl rfl ?_
        refine r_ic (v := nI 1) C rfl (by decide) ?_
        refine v2_r C rfl mfX12_of lk_X12_238 (by assumption) (s_of hM 1 rfl rfl hr (by decide)) ?_
        refine r_top (nI mn) hk1 ?_
        refine r_ic (v := nI 1) C rfl (by decide) ?_
        refine r_isub C rfl ?_
        refine r_top (nI (mn - 1)) (pk_sub (by omega)) ?_
        refine r_icmp_ne C 85 rfl (by decide) (fun h2 => ?_) (fun h2 => ?_)
        · refine r_ic (v := nI 0) C rfl (by decide) ?_
          refine r_iadd C rfl ?_
          refine k87 _ ?_
          rw [dryN, ← hz1, ← hz2, if_neg (fun q => h2 (by rw [q]))]
          rfl
        · have h2 := (nI_eq (by omega) (by omega)).mp h2
          refine r_bi (v := nI 50) C rfl (by decide) ?_
          refine r_goto C 86 rfl (by decide) ?_
          refine r_iadd C rfl ?_
          refine k87 _ ?_
          rw [dryN, ← hz1, ← hz2, if_pos h2]
      have k41 : ∀ z1 : Int32, z1 = (if c = 0 then R2 5 else 0) → PT k E Q 0 0 Sh N G (mset M o r R2) 41 [some (.ref o), some (.int (nI r)), some (.int air), some (.int (nI l)), some (.int (nI c)), v5, v6, v7] [.int z1] := by
        intro z1 hz1
        refine r_iload C rfl rfl ?_
        refine r_aload_n C 0 rfl rfl rfl rfl ?_
        refine r_iload_n C 1 rfl rfl rfl ?_
        refine r_ic (v := nI 0) C rfl (by decide) ?_
        refine v2_r C rfl mfX12_of lk_X12_238 (by assumption) (s_of hM 0 rfl rfl hr (by decide)) ?_
        refine r_top (nI dp) hk0 ?_
        refine r_ic (v := nI 1) C rfl (by decide) ?_
        refine r_isub C rfl ?_
        refine r_top (nI (dp - 1)) (pk_sub (by omega)) ?_
        refine r_icmp_ne C 66 rfl (by decide) (fun h2 => ?_) (fun h2 => ?_)
        · refine r_ic (v := nI 0) C rfl (by decide) ?_
          exact k67 _ _ hz1 (by rw [if_neg (fun q => h2 (by rw [q]))]; rfl)
        · have h2 := (nI_eq (by omega) (by omega)).mp h2
          refine r_aload_n C 0 rfl rfl rfl rfl ?_
          refine r_iload_n C 1 rfl rfl rfl ?_
          refine r_bi (v := nI 6) C rfl (by decide) ?_
          refine v2_r C rfl mfX12_of lk_X12_238 (by assumption) (s_of hM 6 rfl rfl hr (by decide)) ?_
          refine r_ic (v := nI 2) C rfl (by decide) ?_
          refine r_idiv C rfl (by decide) ?_
          refine r_goto C 67 rfl (by decide) ?_
          exact k67 _ _ hz1 (by rw [if_pos h2])
      refine r_iload C rfl rfl ?_
      refine r_if_ne C 40 rfl (by decide) (fun h2 => ?_) (fun h2 => ?_)
      · refine r_ic (v := nI 0) C rfl (by decide) ?_
        exact k41 _ (by rw [if_neg (fun q => h2 (by rw [q]; rfl))]; rfl)
      · have h2 : c = 0 := (nI_eq (b := 0) (by omega) (by omega)).mp h2
        refine r_aload_n C 0 rfl rfl rfl rfl ?_
        refine r_iload_n C 1 rfl rfl rfl ?_
        refine r_ic (v := nI 5) C rfl (by decide) ?_
        refine v2_r C rfl mfX12_of lk_X12_238 (by assumption) (s_of hM 5 rfl rfl hr (by decide)) ?_
        refine r_goto C 41 rfl (by decide) ?_
        exact k41 _ (by rw [if_pos h2])
  have loop : ∀ n i : Nat, i ≤ mn → mn - i < n → ∀ v4 v5 v6 v7 : Option Value, PT k E Q 0 0 Sh N G (mset M o r (it (fun l => it (fun c => dryS air dp mn l c) dp) i R)) 2 [some (.ref o), some (.int (nI r)), some (.int air), some (.int (nI i)), v4, v5, v6, v7] [] := by
    intro n
    induction n with
    | zero => intro i _ h; omega
    | succ n ih =>
      intro i hi hn v4 v5 v6 v7
      have hk0 := (dryR_keep air dp mn i R (j := 0) (by decide) (by decide)).trans w0
      have hk1 := (dryR_keep air dp mn i R (j := 1) (by decide) (by decide)).trans w3
      refine r_iload_n C 3 rfl rfl rfl ?_
      refine r_aload_n C 0 rfl rfl rfl rfl ?_
      refine r_iload_n C 1 rfl rfl rfl ?_
      refine r_ic (v := nI 1) C rfl (by decide) ?_
      refine v2_r C rfl mfX12_of lk_X12_238 (by assumption) (s_of hM 1 rfl rfl hr (by decide)) ?_
      refine r_top (nI mn) hk1 ?_
      refine r_icmp_ge C 181 rfl (by decide) (fun h => ?_) (fun h => ?_)
      · have h := le_nI (by omega) (by omega) h
        have e : i = mn := by omega
        subst e
        exact q_vret C hQ rfl rfl ⟨rfl, rfl, rfl, rfl⟩
      · have h := nle_nI (by omega) (by omega) h
        refine r_ic (v := nI 0) C rfl (by decide) ?_
        refine r_istore C rfl (by exact Nat.le_of_ble_eq_true rfl) ?_
        refine r_eqL ?_ (inner i _ v5 v6 v7 h hk0 hk1 (fun v5 v6 v7 => ?_) (dp + 1) 0 (by omega) (by omega) v5 v6 v7)
        · first | rfl | (simp only [sm, add3, nI_add, Int32.add_zero, Int32.zero_add]; rfl)
        refine r_iinc (c := nI 1) C rfl rfl (by decide) ?_
        refine r_goto C 2 rfl (by decide) ?_
        refine r_eqL ?_ (ih (i + 1) (by omega) (by omega) (some (.int (nI dp))) v5 v6 v7)
        first | rfl | (simp only [sm, add3, nI_add, Int32.add_zero, Int32.zero_add]; rfl)
  refine r_ic (v := nI 0) C rfl (by decide) ?_
  refine r_istore_n C 3 rfl rfl (by exact Nat.le_of_ble_eq_true rfl) ?_
  exact loop (mn + 1) 0 (by omega) (by omega) none none none none
end MODEL6
end
section
section MODEL7
variable {E : VE} {Sh : Nat → SE} {N : Nat} {G : Bool} {M : MM} {o r : Nat} {R : Row}
theorem s_crack (hM : MO Sh N o) {x : Int32} (fr : Bool) (dp mn : Nat) (hW : WF R dp mn) (hx : x = nI r) (hr : r < 36) : Con E mX12_crack 2 0 0 [.ref o, .int x, .int (bI fr)] Sh N G (mset M o r R) (P1 none Sh N (mset M o r (crackR fr (shr M o) (M (o + 2)) dp mn 0 R))) nox := by
  subst hx
  obtain ⟨w0, w1, w2, w3, w4⟩ := hW
  have h0 := hM.1
  have h1 := hM.ar 1 rfl
  refine Con.ofQ (by decide +kernel) (by simp [Value.category]) (Nat.le_of_ble_eq_true rfl) (fun k C0 Q hQ => ?_)
  have C : CK k E mX12_crack kdX12_crack 2 0 0 := ⟨C0, kdX12_crack_ok⟩
  have inner : ∀ (l : Nat), l < mn → (∀ v5 v6 v7 v8 : Option Value, PT k E Q 0 0 Sh N G (mset M o r (crackR fr (shr M o) (M (o + 2)) dp (l + 1) 0 R)) 160 [some (.ref o), some (.int (nI r)), some (.int (bI fr)), some (.int (nI l)), some (.int (nI dp)), v5, v6, v7, v8] []) → ∀ n c : Nat, c ≤ dp → dp - c < n → ∀ v5 v6 v7 v8 : Option Value, PT k E Q 0 0 Sh N G (mset M o r (crackR fr (shr M o) (M (o + 2)) dp l c R)) 15 [some (.ref o), some (.int (nI r)), some (.int (bI fr)), some (.int (nI l)), some (.int (nI c)), v5, v6, v7, v8] [] := by
    intro l hl kk
    intro n
    induction n with
    | zero => intro i _ h; omega
    | succ n ih =>
      intro c hc hn v5 v6 v7 v8
      have hk0 := (crack_lo fr (shr M o) (M (o + 2)) dp l c R (j := 0) (by decide)).trans w0
      refine r_iload C rfl rfl ?_
      refine r_aload_n C 0 rfl rfl rfl rfl ?_
      refine r_iload_n C 1 rfl rfl rfl ?_
      refine r_ic (v := nI 0) C rfl (by decide) ?_
      refine v2_r C rfl mfX12_of lk_X12_238 (by assumption) (s_of hM 0 rfl rfl hr (by decide)) ?_
      refine r_top (nI dp) hk0 ?_
      refine r_icmp_ge C 160 rfl (by decide) (fun h => ?_) (fun h => ?_)
      · have h := le_nI (by omega) (by omega) h
        have e : c = dp := by omega
        subst e
        rw [crack_row]
        exact kk v5 v6 v7 v8
      have h := nle_nI (by omega) (by omega) h
      have hv := crack_lo fr (shr M o) (M (o + 2)) dp l c R (j := 37 + (6 * l + c)) (by omega)
      have hb : mset M o r (crackR fr (shr M o) (M (o + 2)) dp l c R) (o + 2) = M (o + 2) := mset_cell (by omega)
      have k154 : ∀ R4 v7 v8, R4 = crackR fr (shr M o) (M (o + 2)) dp l (c + 1) R → PT k E Q 0 0 Sh N G (mset M o r R4) 154 [some (.ref o), some (.int (nI r)), some (.int (bI fr)), some (.int (nI l)), some (.int (nI c)), some (.int (nI (6 * l + c))), some (.int (R (37 + (6 * l + c)))), v7, v8] [] := by
        intro R4 v7 v8 hR4
        subst hR4
        refine r_iinc (c := nI 1) C rfl rfl (by decide) ?_
        refine r_goto C 15 rfl (by decide) ?_
        refine r_eqL ?_ (ih (c + 1) (by omega) (by omega) (some (.int (nI (6 * l + c)))) (some (.int (R (37 + (6 * l + c))))) v7 v8)
        first | rfl | (simp only [sm, add3, nI_add, Int32.add_zero, Int32.zero_add]; rfl)
      obtain ⟨cd, hcd⟩ : ∃ cd : Bool, cd = (fr && decide (c = 0) && (decide (nI 180 ≤ M (o + 2) (6 * l + c)) || decide (nI 180 ≤ R (37 + (6 * l + c))))) := ⟨_, rfl⟩
      obtain ⟨cs, hcs⟩ : ∃ cs : Bool, cs = (decide (nI 60 < shr M o) && decide (nI 150 ≤ M (o + 2) (6 * l + c)) && decide (R (37 + (6 * l + c)) < nI 150)) := ⟨_, rfl⟩
      have hcr : cracks fr (shr M o) (M (o + 2) (6 * l + c)) (R (37 + (6 * l + c))) c = (cd || cs) := by rw [hcd, hcs]; rfl
      have k118 : ∀ z : Int32, z = bI cs → PT k E Q 0 0 Sh N G (mset M o r (crackR fr (shr M o) (M (o + 2)) dp l c R)) 118 [some (.ref o), some (.int (nI r)), some (.int (bI fr)), some (.int (nI l)), some (.int (nI c)), some (.int (nI (6 * l + c))), some (.int (R (37 + (6 * l + c)))), some (.int (bI cd)), v8] [.int z] := by
        intro z hz
        subst hz
        have kput : (cd || cs) = true → PT k E Q 0 0 Sh N G (mset M o r (crackR fr (shr M o) (M (o + 2)) dp l c R)) 130 [some (.ref o), some (.int (nI r)), some (.int (bI fr)), some (.int (nI l)), some (.int (nI c)), some (.int (nI (6 * l + c))), some (.int (R (37 + (6 * l + c)))), some (.int (bI cd)), some (.int (bI cs))] [] := by
          intro hy
          refine r_aload_n C 0 rfl rfl rfl rfl ?_
          refine r_iload_n C 1 rfl rfl rfl ?_
          refine r_si (v := nI 181) C rfl (by decide) ?_
          refine r_iload C rfl rfl ?_
          refine r_iadd C rfl ?_
          refine r_aload_n C 0 rfl rfl rfl rfl ?_
          refine r_iload_n C 1 rfl rfl rfl ?_
          refine r_si (v := nI 181) C rfl (by decide) ?_
          refine r_iload C rfl rfl ?_
          refine r_iadd C rfl ?_
          refine v2_r C rfl mfX12_of lk_X12_238 (by assumption) (s_of hM (181 + (6 * l + c)) rfl (by rw [nI_add]) hr (by omega)) ?_
          refine r_top (R (181 + (6 * l + c))) (crack_new _ _ _ _ _ _ _ (by omega)) ?_
          refine r_ic (v := nI 1) C rfl (by decide) ?_
          refine r_ior C rfl ?_
          refine v3_v C rfl mfX12_put lk_X12_175 (by assumption) (s_put hM (181 + (6 * l + c)) rfl (by rw [nI_add]) hr (by omega)) ?_
          exact k154 _ _ _ (crack_yes h w2 (by omega) (by rw [hcr]; exact hy))
        refine r_istore C rfl (by exact Nat.le_of_ble_eq_true rfl) ?_
        refine r_iload C rfl rfl ?_
        refine r_if_ne C 130 rfl (by decide) (fun h2 => ?_) (fun h2 => ?_)
        · exact kput (by rw [bI_1 h2]; rfl)
        · refine r_iload C rfl rfl ?_
          refine r_if_eq C 154 rfl (by decide) (fun h3 => ?_) (fun h3 => ?_)
          · exact k154 _ _ _ (crack_no (by rw [hcr, bI_0 h2, bI_0 h3]; rfl))
          · exact kput (by rw [bI_1 h3, Bool.or_true])
      have k81 : ∀ z : Int32, z = bI cd → PT k E Q 0 0 Sh N G (mset M o r (crackR fr (shr M o) (M (o + 2)) dp l c R)) 81 [some (.ref o), some (.int (nI r)), some (.int (bI fr)), some (.int (nI l)), some (.int (nI c)), some (.int (nI (6 * l + c))), some (.int (R (37 + (6 * l + c)))), v7, v8] [.int z] := by
        intro z hz
        subst hz
        refine r_istore C rfl (by exact Nat.le_of_ble_eq_true rfl) ?_
        refine r_aload_n C 0 rfl rfl rfl rfl ?_
        refine v0_r C rfl mfX12_shrink lk_X12_232 (by assumption) (s_shrink hM) ?_
        refine r_bi (v := nI 60) C rfl (by decide) ?_
        refine r_icmp_le C 117 rfl (by decide) (fun h2 => ?_) (fun h2 => ?_)
        · refine r_ic (v := nI 0) C rfl (by decide) ?_
          exact k118 _ (by rw [hcs, decide_eq_false (Int32.not_lt.mpr h2)]; rfl)
        refine r_aload_n C 0 rfl rfl rfl rfl ?_
        refine r_getv C rfl f_X12_13 (by assumption) rfl ?_
        refine r_iload C rfl rfl ?_
        refine r_iald C rfl (by assumption) (6 * l + c) rfl (by omega) (by decide) ?_
        refine r_si (v := nI 150) C rfl (by decide) ?_
        rw [hb]
        refine r_icmp_lt C 117 rfl (by decide) (fun h3 => ?_) (fun h3 => ?_)
        · refine r_ic (v := nI 0) C rfl (by decide) ?_
          exact k118 _ (by rw [hcs, decide_eq_false (fun q : nI 150 ≤ _ => absurd h3 (Int32.not_lt.mpr q)), Bool.and_false]; rfl)
        refine r_iload C rfl rfl ?_
        refine r_si (v := nI 150) C rfl (by decide) ?_
        refine r_icmp_ge C 117 rfl (by decide) (fun h4 => ?_) (fun h4 => ?_)
        · refine r_ic (v := nI 0) C rfl (by decide) ?_
          exact k118 _ (by rw [hcs, decide_eq_false (Int32.not_lt.mpr h4), Bool.and_false]; rfl)
        refine r_ic (v := nI 1) C rfl (by decide) ?_
        refine r_goto C 118 rfl (by decide) ?_
        exact k118 _ (by rw [hcs, decide_eq_true (Int32.not_le.mp h2), decide_eq_true (Int32.not_lt.mp h3), decide_eq_true (Int32.not_le.mp h4)]; rfl)
      refine r_iload_n C 3 rfl rfl rfl ?_
      refine r_iload C rfl rfl ?_
      refine s2_r C rfl mfX12_at lk_X12_241 (c_X12_at l c rfl rfl) ?_
      refine r_istore C rfl (by exact Nat.le_of_ble_eq_true rfl) ?_
      refine r_aload_n C 0 rfl rfl rfl rfl ?_
      refine r_iload_n C 1 rfl rfl rfl ?_
      refine r_bi (v := nI 37) C rfl (by decide) ?_
      refine r_iload C rfl rfl ?_
      refine r_iadd C rfl ?_
      refine v2_r C rfl mfX12_of lk_X12_238 (by assumption) (s_of hM (37 + (6 * l + c)) rfl (by rw [nI_add]) hr (by omega)) ?_
      refine r_top (R (37 + (6 * l + c))) hv ?_
      refine r_istore C rfl (by exact Nat.le_of_ble_eq_true rfl) ?_
      refine r_iload_n C 2 rfl rfl rfl ?_
      refine r_if_eq C 80 rfl (by decide) (fun h2 => ?_) (fun h2 => ?_)
      · refine r_ic (v := nI 0) C rfl (by decide) ?_
        exact k81 _ (by rw [hcd, bI_0 h2]; rfl)
      have h2 := bI_1 h2
      refine r_iload C rfl rfl ?_
      refine r_if_ne C 80 rfl (by decide) (fun h3 => ?_) (fun h3 => ?_)
      · refine r_ic (v := nI 0) C rfl (by decide) ?_
        exact k81 _ (by rw [hcd, decide_eq_false (fun q : c = 0 => h3 (by rw [q]; rfl)), Bool.and_false]; rfl)
      have h3 : c = 0 := (nI_eq (b := 0) (by omega) (by omega)).mp h3
      refine r_aload_n C 0 rfl rfl rfl rfl ?_
      refine r_getv C rfl f_X12_13 (by assumption) rfl ?_
      refine r_iload C rfl rfl ?_
      refine r_iald C rfl (by assumption) (6 * l + c) rfl (by omega) (by decide) ?_
      refine r_si (v := nI 180) C rfl (by decide) ?_
      rw [hb]
      refine r_icmp_ge C 76 rfl (by decide) (fun h4 => ?_) (fun h4 => ?_)
      · refine r_ic (v := nI 1) C rfl (by decide) ?_
        refine r_goto C 81 rfl (by decide) ?_
        exact k81 _ (by rw [hcd, h2, decide_eq_true h3, decide_eq_true h4]; rfl)
      refine r_iload C rfl rfl ?_
      refine r_si (v := nI 180) C rfl (by decide) ?_
      refine r_icmp_lt C 80 rfl (by decide) (fun h5 => ?_) (fun h5 => ?_)
      · refine r_ic (v := nI 0) C rfl (by decide) ?_
        exact k81 _ (by rw [hcd, decide_eq_false h4, decide_eq_false (fun q : nI 180 ≤ _ => absurd h5 (Int32.not_lt.mpr q)), Bool.or_false, Bool.and_false]; rfl)
      · refine r_ic (v := nI 1) C rfl (by decide) ?_
        refine r_goto C 81 rfl (by decide) ?_
        exact k81 _ (by rw [hcd, h2, decide_eq_true h3, decide_eq_true (Int32.not_lt.mp h5), Bool.or_true]; rfl)
  have loop : ∀ n i : Nat, i ≤ mn → mn - i < n → ∀ v4 v5 v6 v7 v8 : Option Value, PT k E Q 0 0 Sh N G (mset M o r (crackR fr (shr M o) (M (o + 2)) dp i 0 R)) 2 [some (.ref o), some (.int (nI r)), some (.int (bI fr)), some (.int (nI i)), v4, v5, v6, v7, v8] [] := by
    intro n
    induction n with
    | zero => intro i _ h; omega
    | succ n ih =>
      intro i hi hn v4 v5 v6 v7 v8
      have hk1 := (crack_lo fr (shr M o) (M (o + 2)) dp i 0 R (j := 1) (by decide)).trans w3
      refine r_iload_n C 3 rfl rfl rfl ?_
      refine r_aload_n C 0 rfl rfl rfl rfl ?_
      refine r_iload_n C 1 rfl rfl rfl ?_
      refine r_ic (v := nI 1) C rfl (by decide) ?_
      refine v2_r C rfl mfX12_of lk_X12_238 (by assumption) (s_of hM 1 rfl rfl hr (by decide)) ?_
      refine r_top (nI mn) hk1 ?_
      refine r_icmp_ge C 166 rfl (by decide) (fun h => ?_) (fun h => ?_)
      · have h := le_nI (by omega) (by omega) h
        have e : i = mn := by omega
        subst e
        exact q_vret C hQ rfl rfl ⟨rfl, rfl, rfl, rfl⟩
      · have h := nle_nI (by omega) (by omega) h
        refine r_ic (v := nI 0) C rfl (by decide) ?_
        refine r_istore C rfl (by exact Nat.le_of_ble_eq_true rfl) ?_
        refine r_eqL ?_ (inner i h (fun v5 v6 v7 v8 => ?_) (dp + 1) 0 (by omega) (by omega) v5 v6 v7 v8)
        · first | rfl | (simp only [sm, add3, nI_add, Int32.add_zero, Int32.zero_add]; rfl)
        refine r_iinc (c := nI 1) C rfl rfl (by decide) ?_
        refine r_goto C 2 rfl (by decide) ?_
        refine r_eqL ?_ (ih (i + 1) (by omega) (by omega) (some (.int (nI dp))) v5 v6 v7 v8)
        first | rfl | (simp only [sm, add3, nI_add, Int32.add_zero, Int32.zero_add]; rfl)
  refine r_ic (v := nI 0) C rfl (by decide) ?_
  refine r_istore_n C 3 rfl rfl (by exact Nat.le_of_ble_eq_true rfl) ?_
  refine r_eqM ?_ (loop (mn + 1) 0 (by omega) (by omega) none none none none none)
  rw [crack_0]
theorem s_whyOf (hM : MO Sh N o) {x y : Int32} (dp mn l : Nat) (hW : WF R dp mn) (hx : x = nI r) (hy : y = nI l) (hr : r < 36) (hl : l < 24) : Con E mX12_whyOf 3 0 0 [.ref o, .int x, .int y] Sh N G (mset M o r R) (P1 (some (.int (whyR R dp l))) Sh N (mset M o r R)) nox := by
  subst hx; subst hy
  obtain ⟨w0, w1, w2, w3, w4⟩ := hW
  have h0 := hM.1
  refine Con.ofQ (by decide +kernel) (by simp [Value.category]) (Nat.le_of_ble_eq_true rfl) (fun k C0 Q hQ => ?_)
  have C : CK k E mX12_whyOf kdX12_whyOf 3 0 0 := ⟨C0, kdX12_whyOf_ok⟩
  have loop : ∀ n c : Nat, c ≤ dp → dp - c < n → PT k E Q 0 0 Sh N G (mset M o r R) 11 [some (.ref o), some (.int (nI r)), some (.int (nI l)), some (.int (bI (anyB (fun c => decide (R (181 + (6 * l + c)) &&& nI 2 = nI 2)) c))), some (.int (bI (allB (fun c => decide (nI 180 ≤ R (37 + (6 * l + c)))) c))), some (.int (bI (anyB (fun c => decide (R (181 + (6 * l + c)) &&& nI 1 = nI 1)) c))), some (.int (nI c))] [] := by
    intro n
    induction n with
    | zero => intro i _ h; omega
    | succ n ih =>
      intro c hc hn
      refine r_iload C rfl rfl ?_
      refine r_aload_n C 0 rfl rfl rfl rfl ?_
      refine r_iload_n C 1 rfl rfl rfl ?_
      refine r_ic (v := nI 0) C rfl (by decide) ?_
      refine v2_r C rfl mfX12_of lk_X12_238 (by assumption) (s_of hM 0 rfl rfl hr (by decide)) ?_
      refine r_top (nI dp) w0 ?_
      refine r_icmp_ge C 82 rfl (by decide) (fun h => ?_) (fun h => ?_)
      · have h := le_nI (by omega) (by omega) h
        have e : c = dp := by omega
        subst e
        refine r_iload_n C 3 rfl rfl rfl ?_
        refine r_if_eq C 90 rfl (by decide) (fun h2 => ?_) (fun h2 => ?_)
        · refine r_iload C rfl rfl ?_
          refine r_if_eq C 99 rfl (by decide) (fun h3 => ?_) (fun h3 => ?_)
          · refine r_iload C rfl rfl ?_
            refine r_if_eq C 108 rfl (by decide) (fun h4 => ?_) (fun h4 => ?_)
            · refine r_ic (v := nI 4) C rfl (by decide) ?_
              exact q_iret C hQ rfl rfl rfl ⟨by simp only [whyR, bI_0 h2, bI_0 h3, bI_0 h4]; rfl, rfl, rfl, rfl⟩
            · refine r_ic (v := nI 3) C rfl (by decide) ?_
              refine r_goto C 109 rfl (by decide) ?_
              exact q_iret C hQ rfl rfl rfl ⟨by simp only [whyR, bI_0 h2, bI_0 h3, bI_1 h4]; rfl, rfl, rfl, rfl⟩
          · refine r_ic (v := nI 2) C rfl (by decide) ?_
            refine r_goto C 109 rfl (by decide) ?_
            exact q_iret C hQ rfl rfl rfl ⟨by simp only [whyR, bI_0 h2, bI_1 h3]; rfl, rfl, rfl, rfl⟩
        · refine r_ic (v := nI 1) C rfl (by decide) ?_
          refine r_goto C 109 rfl (by decide) ?_
          exact q_iret C hQ rfl rfl rfl ⟨by simp only [whyR, bI_1 h2]; rfl, rfl, rfl, rfl⟩
      · have h := nle_nI (by omega) (by omega) h
        have k60 : ∀ z : Int32, z = bI (decide (nI 180 ≤ R (37 + (6 * l + c)))) → PT k E Q 0 0 Sh N G (mset M o r R) 60 [some (.ref o), some (.int (nI r)), some (.int (nI l)), some (.int (bI (anyB (fun c => decide (R (181 + (6 * l + c)) &&& nI 2 = nI 2)) (c + 1)))), some (.int (bI (allB (fun c => decide (nI 180 ≤ R (37 + (6 * l + c)))) c))), some (.int (bI (anyB (fun c => decide (R (181 + (6 * l + c)) &&& nI 1 = nI 1)) c))), some (.int (nI c))] [.int z, .int (bI (allB (fun c => decide (nI 180 ≤ R (37 + (6 * l + c)))) c))] := by
          intro z hz
          subst hz
          refine r_iand C rfl ?_
          refine r_istore C rfl (by exact Nat.le_of_ble_eq_true rfl) ?_
          refine r_iload C rfl rfl ?_
          refine r_aload_n C 0 rfl rfl rfl rfl ?_
          refine r_iload_n C 1 rfl rfl rfl ?_
          refine r_iload_n C 2 rfl rfl rfl ?_
          refine r_iload C rfl rfl ?_
          refine v3_r C rfl mfX12_isCracked lk_X12_260 (by assumption) (s_isCracked hM l c rfl rfl rfl hr (by omega)) ?_
          refine r_ior C rfl ?_
          refine r_istore C rfl (by exact Nat.le_of_ble_eq_true rfl) ?_
          refine r_iinc (c := nI 1) C rfl rfl (by decide) ?_
          refine r_goto C 11 rfl (by decide) ?_
          refine r_eqL ?_ (ih (c + 1) (by omega) (by omega))
          simp only [bI_if, bI_or, bI_and, nI_add]
          rfl
        refine r_iload_n C 3 rfl rfl rfl ?_
        refine r_aload_n C 0 rfl rfl rfl rfl ?_
        refine r_iload_n C 1 rfl rfl rfl ?_
        refine r_iload_n C 2 rfl rfl rfl ?_
        refine r_iload C rfl rfl ?_
        refine v3_r C rfl mfX12_isHollow lk_X12_254 (by assumption) (s_isHollow hM l c rfl rfl rfl hr (by omega)) ?_
        refine r_ior C rfl ?_
        refine r_istore_n C 3 rfl rfl (by exact Nat.le_of_ble_eq_true rfl) ?_
        refine r_eqL (L' := [some (.ref o), some (.int (nI r)), some (.int (nI l)), some (.int (bI (anyB (fun c => decide (R (181 + (6 * l + c)) &&& nI 2 = nI 2)) (c + 1)))), some (.int (bI (allB (fun c => decide (nI 180 ≤ R (37 + (6 * l + c)))) c))), some (.int (bI (anyB (fun c => decide (R (181 + (6 * l + c)) &&& nI 1 = nI 1)) c))), some (.int (nI c))]) ?_ ?_
        · simp only [bI_if, bI_or]
          rfl
        refine r_iload C rfl rfl ?_
        refine r_aload_n C 0 rfl rfl rfl rfl ?_
        refine r_iload_n C 1 rfl rfl rfl ?_
        refine r_bi (v := nI 37) C rfl (by decide) ?_
        refine r_iload_n C 2 rfl rfl rfl ?_
        refine r_iload C rfl rfl ?_
        refine s2_r C rfl mfX12_at lk_X12_241 (c_X12_at l c rfl rfl) ?_
        refine r_iadd C rfl ?_
        refine v2_r C rfl mfX12_of lk_X12_238 (by assumption) (s_of hM (37 + (6 * l + c)) rfl (by rw [nI_add]) hr (by omega)) ?_
        refine r_si (v := nI 180) C rfl (by decide) ?_
        refine r_icmp_lt C 59 rfl (by decide) (fun h2 => ?_) (fun h2 => ?_)
        · refine r_ic (v := nI 0) C rfl (by decide) ?_
          exact k60 _ (by rw [decide_eq_false (Int32.not_le.mpr h2)]; rfl)
        · refine r_ic (v := nI 1) C rfl (by decide) ?_
          refine r_goto C 60 rfl (by decide) ?_
          exact k60 _ (by rw [decide_eq_true (Int32.not_lt.mp h2)]; rfl)
  refine r_ic (v := nI 0) C rfl (by decide) ?_
  refine r_istore_n C 3 rfl rfl (by exact Nat.le_of_ble_eq_true rfl) ?_
  refine r_ic (v := nI 1) C rfl (by decide) ?_
  refine r_istore C rfl (by exact Nat.le_of_ble_eq_true rfl) ?_
  refine r_ic (v := nI 0) C rfl (by decide) ?_
  refine r_istore C rfl (by exact Nat.le_of_ble_eq_true rfl) ?_
  refine r_ic (v := nI 0) C rfl (by decide) ?_
  refine r_istore C rfl (by exact Nat.le_of_ble_eq_true rfl) ?_
  exact loop (dp + 1) 0 (by omega) (by omega)
end MODEL7
end
section
section MODEL8
variable {E : VE} {Sh : Nat → SE} {N : Nat} {G : Bool} {M : MM} {o r : Nat} {R : Row}
theorem lt0_nI {m : Nat} (hm : m < 1000) : (nI m - nI 1 < 0) ↔ m = 0 := by
  rw [Int32.lt_iff_toInt_lt, pk_sub_toInt (by omega) (by omega)]
  show (m : Int) - (1 : Nat) < 0 ↔ _
  omega
theorem s_sit (hM : MO Sh N o) {x : Int32} (dp mn : Nat) (hW : WF R dp mn) (hx : x = nI r) (hr : r < 36) : Con E mX12_sit 5 0 0 [.ref o, .int x] Sh N G (mset M o r R) (P1 none Sh N (mset M o r (fallR dp mn (sitR (grn M o) (ful M o) dp mn 0 R)))) nox := by
  subst hx
  have hW' := hW
  obtain ⟨w0, w1, w2, w3, w4⟩ := hW
  have h0 := hM.1
  refine Con.ofQ (by decide +kernel) (by simp [Value.category]) (Nat.le_of_ble_eq_true rfl) (fun k C0 Q hQ => ?_)
  have C : CK k E mX12_sit kdX12_sit 5 0 0 := ⟨C0, kdX12_sit_ok⟩
  have hWs : ∀ l, WF (sitR (grn M o) (ful M o) dp mn l R) dp mn := fun l => ⟨by rw [sit_keep _ _ _ _ _ _ w4 (by omega)]; exact w0, w1, w2, by rw [sit_keep _ _ _ _ _ _ w4 (by omega)]; exact w3, w4⟩
  have loop : ∀ n m : Nat, m ≤ mn → m < n → ∀ v4 v5 v6 : Option Value, PT k E Q 0 0 Sh N G (mset M o r (sitR (grn M o) (ful M o) dp mn m R)) 11 [some (.ref o), some (.int (nI r)), some (.int (fI (lowN (sitR (grn M o) (ful M o) dp mn 0 R) m (mn - m)))), some (.int (nI m - nI 1)), v4, v5, v6] [] := by
    intro n
    induction n with
    | zero => intro m _ h; omega
    | succ n ih =>
      intro m hm hn v4 v5 v6
      refine r_iload_n C 3 rfl rfl rfl ?_
      refine r_if_lt C 110 rfl (by decide) (fun h => ?_) (fun h => ?_)
      · have h := (lt0_nI (by omega)).mp h
        subst h
        refine r_iload_n C 2 rfl rfl rfl ?_
        refine r_ic (v := (-1)) C rfl (by decide) ?_
        have hWf := hWs 0
        generalize sitR (grn M o) (ful M o) dp mn 0 R = S at hQ hWf ⊢
        rw [Nat.sub_zero]
        cases hlow : lowN S 0 mn with
        | none =>
          refine r_icmp_ne C 116 rfl (by decide) (fun h => absurd rfl h) (fun h => ?_)
          exact q_vret C hQ rfl rfl ⟨rfl, rfl, rfl, by simp only [fallR, hlow]⟩
        | some fl =>
          have hfl := lowN_lt hlow
          refine r_icmp_ne C 116 rfl (by decide) (fun h => ?_) (fun h => absurd h ?_)
          · show PT k E Q 0 0 Sh N G (mset M o r S) 116 [some (.ref o), some (.int (nI r)), some (.int (nI fl)), some (.int (nI 0 - nI 1)), v4, v5, v6] []
            refine r_aload_n C 0 rfl rfl rfl rfl ?_
            refine r_iload_n C 1 rfl rfl rfl ?_
            refine r_bi (v := nI 10) C rfl (by decide) ?_
            refine r_aload_n C 0 rfl rfl rfl rfl ?_
            refine r_iload_n C 1 rfl rfl rfl ?_
            refine r_iload_n C 2 rfl rfl rfl ?_
            refine v2_r C rfl mfX12_whyOf lk_X12_298 (by assumption) (s_whyOf hM dp mn fl hWf rfl rfl hr (by omega)) ?_
            refine v3_v C rfl mfX12_put lk_X12_175 (by assumption) (s_put hM 10 rfl rfl hr (by decide)) ?_
            refine r_aload_n C 0 rfl rfl rfl rfl ?_
            refine r_iload_n C 1 rfl rfl rfl ?_
            refine r_bi (v := nI 9) C rfl (by decide) ?_
            refine r_aload_n C 0 rfl rfl rfl rfl ?_
            refine r_iload_n C 1 rfl rfl rfl ?_
            refine r_bi (v := nI 9) C rfl (by decide) ?_
            refine v2_r C rfl mfX12_of lk_X12_238 (by assumption) (s_of hM 9 rfl rfl hr (by decide)) ?_
            refine r_ic (v := nI 1) C rfl (by decide) ?_
            refine r_iadd C rfl ?_
            refine v3_v C rfl mfX12_put lk_X12_175 (by assumption) (s_put hM 9 rfl rfl hr (by decide)) ?_
            have hW2 : WF (upd (upd S 10 (whyR S dp fl)) 9 (upd S 10 (whyR S dp fl) 9 + nI 1)) dp mn := ⟨by simpa [upd] using hWf.1, w1, w2, by simpa [upd] using hWf.2.2.2.1, w4⟩
            refine r_aload_n C 0 rfl rfl rfl rfl ?_
            refine r_iload_n C 1 rfl rfl rfl ?_
            refine r_iload_n C 2 rfl rfl rfl ?_
            refine v2_v C rfl mfX12_cut lk_X12_285 (by assumption) (s_cut hM dp mn fl hW2 rfl rfl hr (by omega)) ?_
            refine q_vret C hQ rfl rfl ⟨rfl, rfl, rfl, ?_⟩
            simp only [fallR, hlow]
            rfl
          · show ¬ nI fl = -1
            intro q
            have q2 := congrArg Int32.toInt q
            rw [nI_toInt (by omega)] at q2
            have : (-1 : Int32).toInt = -1 := by decide
            omega
      · have hm0 : m ≠ 0 := fun q => h ((lt0_nI (by omega)).mpr q)
        obtain ⟨l, rfl⟩ : ∃ l, m = l + 1 := ⟨m - 1, by omega⟩
        have hcong : ∀ j, j < 13 ∨ 37 ≤ j → sitR (grn M o) (ful M o) dp mn (l + 1) R j = R j := fun j hj => sit_keep _ _ _ _ _ _ w4 hj
        refine r_eqL (L' := [some (.ref o), some (.int (nI r)), some (.int (fI (lowN (sitR (grn M o) (ful M o) dp mn 0 R) (l + 1) (mn - (l + 1))))), some (.int (nI l)), v4, v5, v6]) (by rw [pk_sub (by omega)]; rfl) ?_
        refine r_aload_n C 0 rfl rfl rfl rfl ?_
        refine r_iload_n C 1 rfl rfl rfl ?_
        refine r_iload_n C 3 rfl rfl rfl ?_
        refine v2_r C rfl mfX12_bears lk_X12_273 (by assumption) (s_bears hM dp mn l (hWs (l + 1)) rfl rfl hr (by omega)) ?_
        refine r_istore C rfl (by exact Nat.le_of_ble_eq_true rfl) ?_
        refine r_aload_n C 0 rfl rfl rfl rfl ?_
        refine r_iload_n C 1 rfl rfl rfl ?_
        refine r_iload_n C 3 rfl rfl rfl ?_
        refine v2_r C rfl mfX12_presses lk_X12_270 (by assumption) (s_presses hM dp mn l (hWs (l + 1)) rfl rfl hr (by omega)) ?_
        refine r_istore C rfl (by exact Nat.le_of_ble_eq_true rfl) ?_
        rw [bear_cong hcong, prs_cong hcong]
        have k104 : ∀ z : Int32, ∀ v4 v5 v6 : Option Value, z = fI (lowN (sitR (grn M o) (ful M o) dp mn 0 R) l (mn - l)) → PT k E Q 0 0 Sh N G (mset M o r (sitR (grn M o) (ful M o) dp mn l R)) 104 [some (.ref o), some (.int (nI r)), some (.int z), some (.int (nI l)), v4, v5, v6] [] := by
          intro z v4 v5 v6 hz
          subst hz
          refine r_iinc (c := (-1)) C rfl rfl (by decide) ?_
          refine r_goto C 11 rfl (by decide) ?_
          refine r_eqL ?_ (ih l (by omega) (by omega) v4 v5 v6)
          rw [show nI l + (-1) = nI l - nI 1 from by rw [Int32.sub_eq_add_neg]; rfl]
          rfl
        have k64 : ∀ z1 z2 : Int32, z1 = (if bear (grn M o) (ful M o) R dp l < prs R dp l (mn - 1 - l) then 1 else 0) → z2 = (if bear (grn M o) (ful M o) R dp l < prs R dp l (mn - 1 - l) ∧ nI 2 * bear (grn M o) (ful M o) R dp l ≤ prs R dp l (mn - 1 - l) then 1 else 0) → PT k E Q 0 0 Sh N G (mset M o r (sitR (grn M o) (ful M o) dp mn (l + 1) R)) 64 [some (.ref o), some (.int (nI r)), some (.int (fI (lowN (sitR (grn M o) (ful M o) dp mn 0 R) (l + 1) (mn - (l + 1))))), some (.int (nI l)), some (.int (bear (grn M o) (ful M o) R dp l)), some (.int (prs R dp l (mn - 1 - l))), v6] [.int z2, .int z1] := by
          intro z1 z2 hz1 hz2
          refine r_iadd C rfl ?_
          refine r_top (more (bear (grn M o) (ful M o) R dp l) (prs R dp l (mn - 1 - l))) (by rw [hz1, hz2]; rfl) ?_
          refine r_istore C rfl (by exact Nat.le_of_ble_eq_true rfl) ?_
          refine r_aload_n C 0 rfl rfl rfl rfl ?_
          refine r_iload_n C 1 rfl rfl rfl ?_
          refine r_bi (v := nI 13) C rfl (by decide) ?_
          refine r_iload_n C 3 rfl rfl rfl ?_
          refine r_iadd C rfl ?_
          refine r_aload_n C 0 rfl rfl rfl rfl ?_
          refine r_iload_n C 1 rfl rfl rfl ?_
          refine r_bi (v := nI 13) C rfl (by decide) ?_
          refine r_iload_n C 3 rfl rfl rfl ?_
          refine r_iadd C rfl ?_
          refine v2_r C rfl mfX12_of lk_X12_238 (by assumption) (s_of hM (13 + l) rfl (by rw [nI_add]) hr (by omega)) ?_
          refine r_top (R (13 + l)) (sit_below _ _ _ _ _ _ (by omega)) ?_
          refine r_iload C rfl rfl ?_
          refine r_iadd C rfl ?_
          refine v3_v C rfl mfX12_put lk_X12_175 (by assumption) (s_put hM (13 + l) rfl (by rw [nI_add]) hr (by omega)) ?_
          rw [sit_step _ _ _ _ _ _ (by omega)]
          refine r_aload_n C 0 rfl rfl rfl rfl ?_
          refine r_iload_n C 1 rfl rfl rfl ?_
          refine r_bi (v := nI 13) C rfl (by decide) ?_
          refine r_iload_n C 3 rfl rfl rfl ?_
          refine r_iadd C rfl ?_
          refine v2_r C rfl mfX12_of lk_X12_238 (by assumption) (s_of hM (13 + l) rfl (by rw [nI_add]) hr (by omega)) ?_
          refine r_bi (v := nI 6) C rfl (by decide) ?_
          have hlow : lowN (sitR (grn M o) (ful M o) dp mn 0 R) l (mn - l) = if nI 6 ≤ sitR (grn M o) (ful M o) dp mn l R (13 + l) then some l else lowN (sitR (grn M o) (ful M o) dp mn 0 R) (l + 1) (mn - (l + 1)) := by
            rw [show mn - l = (mn - (l + 1)) + 1 by omega, lowN, sit_same _ _ _ _ l _ (Nat.le_refl l)]
          refine r_icmp_lt C 104 rfl (by decide) (fun h2 => ?_) (fun h2 => ?_)
          · exact k104 _ _ _ _ (by rw [hlow, if_neg (Int32.not_le.mpr h2)])
          · refine r_iload_n C 3 rfl rfl rfl ?_
            refine r_istore_n C 2 rfl rfl (by exact Nat.le_of_ble_eq_true rfl) ?_
            exact k104 (nI l) _ _ _ (by rw [hlow, if_pos (Int32.not_lt.mp h2)]; rfl)
        have k43 : ∀ z1 : Int32, z1 = (if bear (grn M o) (ful M o) R dp l < prs R dp l (mn - 1 - l) then 1 else 0) → PT k E Q 0 0 Sh N G (mset M o r (sitR (grn M o) (ful M o) dp mn (l + 1) R)) 43 [some (.ref o), some (.int (nI r)), some (.int (fI (lowN (sitR (grn M o) (ful M o) dp mn 0 R) (l + 1) (mn - (l + 1))))), some (.int (nI l)), some (.int (bear (grn M o) (ful M o) R dp l)), some (.int (prs R dp l (mn - 1 - l))), v6] [.int z1] := by
          intro z1 hz1
          refine r_iload C rfl rfl ?_
          refine r_iload C rfl rfl ?_
          refine r_icmp_le C 63 rfl (by decide) (fun h2 => ?_) (fun h2 => ?_)
          · refine r_ic (v := nI 0) C rfl (by decide) ?_
            exact k64 _ _ hz1 (by rw [if_neg (fun q => absurd q.1 (Int32.not_lt.mpr h2))]; rfl)
          refine r_iload C rfl rfl ?_
          refine r_ic (v := nI 2) C rfl (by decide) ?_
          refine r_iload C rfl rfl ?_
          refine r_imul C rfl ?_
          refine r_icmp_lt C 63 rfl (by decide) (fun h3 => ?_) (fun h3 => ?_)
          · refine r_ic (v := nI 0) C rfl (by decide) ?_
            exact k64 _ _ hz1 (by rw [if_neg (fun q => absurd q.2 (Int32.not_le.mpr h3))]; rfl)
          · refine r_ic (v := nI 1) C rfl (by decide) ?_
            refine r_goto C 64 rfl (by decide) ?_
            exact k64 _ _ hz1 (by rw [if_pos ⟨Int32.not_le.mp h2, Int32.not_lt.mp h3⟩]; rfl)
        refine r_iload C rfl rfl ?_
        refine r_iload C rfl rfl ?_
        refine r_icmp_le C 42 rfl (by decide) (fun h2 => ?_) (fun h2 => ?_)
        · refine r_ic (v := nI 0) C rfl (by decide) ?_
          exact k43 _ (by rw [if_neg (Int32.not_lt.mpr h2)]; rfl)
        · refine r_ic (v := nI 1) C rfl (by decide) ?_
          refine r_goto C 43 rfl (by decide) ?_
          exact k43 _ (by rw [if_pos (Int32.not_le.mp h2)]; rfl)
  refine r_ic (v := (-1)) C rfl (by decide) ?_
  refine r_istore_n C 2 rfl rfl (by exact Nat.le_of_ble_eq_true rfl) ?_
  refine r_aload_n C 0 rfl rfl rfl rfl ?_
  refine r_iload_n C 1 rfl rfl rfl ?_
  refine r_ic (v := nI 1) C rfl (by decide) ?_
  refine v2_r C rfl mfX12_of lk_X12_238 (by assumption) (s_of hM 1 rfl rfl hr (by decide)) ?_
  refine r_top (nI mn) w3 ?_
  refine r_ic (v := nI 1) C rfl (by decide) ?_
  refine r_isub C rfl ?_
  refine r_istore_n C 3 rfl rfl (by exact Nat.le_of_ble_eq_true rfl) ?_
  refine r_eqM ?_ (r_eqL ?_ (loop (mn + 1) mn (Nat.le_refl _) (by omega) none none none))
  · rw [sit_end]
  · rw [Nat.sub_self]
    rfl
theorem s_comeIn (hM : MO Sh N o) {x dr : Int32} (dp mn sh : Nat) (hW : WF R dp mn) (hm : 1 ≤ mn) (hsh : R 3 = nI sh) (hs9 : sh ≤ 9) (hx : x = nI r) (hr : r < 36) : Con E mX12_comeIn 3 0 0 [.ref o, .int x, .int dr] Sh N G (mset M o r R) (P1 none Sh N (mset M o r (comeR dp mn dr R))) nox := by
  subst hx
  obtain ⟨w0, w1, w2, w3, w4⟩ := hW
  have h0 := hM.1
  refine Con.ofQ (by decide +kernel) (by simp [Value.category]) (Nat.le_of_ble_eq_true rfl) (fun k C0 Q hQ => ?_)
  have C : CK k E mX12_comeIn kdX12_comeIn 3 0 0 := ⟨C0, kdX12_comeIn_ok⟩
  have hbare : bare R mn = min (3 - sh) mn := by rw [bare, hsh, nI_clamp (by omega)]
  have loop3 : ∀ R2 : Row, R2 2 = R 2 → (PT k E Q 0 0 Sh N G (mset M o r (it (fun c => wetS c (R 2 * mx 0 (nI 3 - R 3) / nI 3)) dp R2)) 142 [some (.ref o), some (.int (nI r)), some (.int dr), some (.int (nI mn)), some (.int (nI dp)), some (.int (nI 3 - R 3)), some (.int (nI dp))] []) → ∀ n c : Nat, c ≤ dp → dp - c < n → PT k E Q 0 0 Sh N G (mset M o r (it (fun c => wetS c (R 2 * mx 0 (nI 3 - R 3) / nI 3)) c R2)) 106 [some (.ref o), some (.int (nI r)), some (.int dr), some (.int (nI mn)), some (.int (nI dp)), some (.int (nI 3 - R 3)), some (.int (nI c))] [] := by
    intro R2 h2 kk
    intro n
    induction n with
    | zero => intro i _ h; omega
    | succ n ih =>
      intro c hc hn
      have hk2 := (it_keep (fun i R' => wetS_keep i (R 2 * mx 0 (nI 3 - R 3) / nI 3) R' (j := 2) (by decide) (by decide)) c R2).trans h2
      refine r_iload C rfl rfl ?_
      refine r_iload C rfl rfl ?_
      refine r_icmp_ge C 142 rfl (by decide) (fun h => ?_) (fun h => ?_)
      · have h := le_nI (by omega) (by omega) h
        have e : c = dp := by omega
        subst e
        exact kk
      · have h := nle_nI (by omega) (by omega) h
        refine r_aload_n C 0 rfl rfl rfl rfl ?_
        refine r_iload_n C 1 rfl rfl rfl ?_
        refine r_ic (v := nI 0) C rfl (by decide) ?_
        refine r_iload C rfl rfl ?_
        refine r_aload_n C 0 rfl rfl rfl rfl ?_
        refine r_iload_n C 1 rfl rfl rfl ?_
        refine r_ic (v := nI 2) C rfl (by decide) ?_
        refine v2_r C rfl mfX12_of lk_X12_238 (by assumption) (s_of hM 2 rfl rfl hr (by decide)) ?_
        refine r_top (R 2) hk2 ?_
        refine r_ic (v := nI 0) C rfl (by decide) ?_
        refine r_iload C rfl rfl ?_
        refine r_max C rfl lk_X12_257 ?_
        refine r_imul C rfl ?_
        refine r_ic (v := nI 3) C rfl (by decide) ?_
        refine r_idiv C rfl (by decide) ?_
        refine v4_v C rfl mfX12_wet lk_X12_288 (by assumption) (s_wet hM 0 c rfl rfl rfl hr (by omega)) ?_
        refine r_iinc (c := nI 1) C rfl rfl (by decide) ?_
        refine r_goto C 106 rfl (by decide) ?_
        refine r_eqM ?_ (r_eqL ?_ (ih (c + 1) (by omega) (by omega)))
        · rw [it, show 6 * 0 + c = c by omega]; rfl
        · first | rfl | (simp only [sm, add3, nI_add, Int32.add_zero, Int32.zero_add]; rfl)
  have loop2 : ∀ R1 : Row, R1 5 = R 5 → (∀ v : Option Value, PT k E Q 0 0 Sh N G (mset M o r (it (fun l => wetS (6 * l) (dr * R 5 / nI 200)) (bare R mn) R1)) 103 [some (.ref o), some (.int (nI r)), some (.int dr), some (.int (nI mn)), some (.int (nI dp)), some (.int (nI 3 - R 3)), v] []) → ∀ n i : Nat, i ≤ bare R mn → bare R mn - i < n → PT k E Q 0 0 Sh N G (mset M o r (it (fun l => wetS (6 * l) (dr * R 5 / nI 200)) i R1)) 64 [some (.ref o), some (.int (nI r)), some (.int dr), some (.int (nI mn)), some (.int (nI dp)), some (.int (nI 3 - R 3)), some (.int (nI i))] [] := by
    intro R1 h5 kk
    rw [hbare] at kk ⊢
    intro n
    induction n with
    | zero => intro i _ h; omega
    | succ n ih =>
      intro c hc hn
      have hk5 := (it_keep (fun i R' => wetS_keep (6 * i) (dr * R 5 / nI 200) R' (j := 5) (by decide) (by decide)) c R1).trans h5
      refine r_iload C rfl rfl ?_
      refine r_iload C rfl rfl ?_
      refine r_icmp_ge C 103 rfl (by decide) (fun h => ?_) (fun h => ?_)
      · rw [hsh] at h
        have h := (bare_le hs9 (by omega)).mp h
        have e : c = min (3 - sh) mn := by omega
        rw [e]
        exact kk _
      rw [hsh] at h
      have h := mt (bare_le hs9 (l := c) (by omega)).mpr h
      refine r_iload C rfl rfl ?_
      refine r_iload_n C 3 rfl rfl rfl ?_
      refine r_icmp_ge C 103 rfl (by decide) (fun h2 => ?_) (fun h2 => ?_)
      · have h2 := le_nI (by omega) (by omega) h2
        have e : c = min (3 - sh) mn := by omega
        rw [e]
        exact kk _
      · have h2 := nle_nI (by omega) (by omega) h2
        refine r_aload_n C 0 rfl rfl rfl rfl ?_
        refine r_iload_n C 1 rfl rfl rfl ?_
        refine r_iload C rfl rfl ?_
        refine r_ic (v := nI 0) C rfl (by decide) ?_
        refine r_iload_n C 2 rfl rfl rfl ?_
        refine r_aload_n C 0 rfl rfl rfl rfl ?_
        refine r_iload_n C 1 rfl rfl rfl ?_
        refine r_ic (v := nI 5) C rfl (by decide) ?_
        refine v2_r C rfl mfX12_of lk_X12_238 (by assumption) (s_of hM 5 rfl rfl hr (by decide)) ?_
        refine r_top (R 5) hk5 ?_
        refine r_imul C rfl ?_
        refine r_si (v := nI 200) C rfl (by decide) ?_
        refine r_idiv C rfl (by decide) ?_
        refine v4_v C rfl mfX12_wet lk_X12_288 (by assumption) (s_wet hM c 0 rfl rfl rfl hr (by omega)) ?_
        refine r_iinc (c := nI 1) C rfl rfl (by decide) ?_
        refine r_goto C 64 rfl (by decide) ?_
        refine r_eqM ?_ (r_eqL ?_ (ih (c + 1) (by omega) (by omega)))
        · rw [it, show 6 * c + 0 = 6 * c by omega]
        · first | rfl | (simp only [sm, add3, nI_add, Int32.add_zero, Int32.zero_add]; rfl)
  have loop1 : R 4 = 0 → (∀ v : Option Value, PT k E Q 0 0 Sh N G (mset M o r (it (fun c => wetS (6 * (mn - 1) + c) dr) dp R)) 61 [some (.ref o), some (.int (nI r)), some (.int dr), some (.int (nI mn)), some (.int (nI dp)), some (.int (nI 3 - R 3)), v] []) → ∀ n c : Nat, c ≤ dp → dp - c < n → PT k E Q 0 0 Sh N G (mset M o r (it (fun c => wetS (6 * (mn - 1) + c) dr) c R)) 28 [some (.ref o), some (.int (nI r)), some (.int dr), some (.int (nI mn)), some (.int (nI dp)), some (.int (nI 3 - R 3)), some (.int (nI c))] [] := by
    intro h4 kk
    intro n
    induction n with
    | zero => intro i _ h; omega
    | succ n ih =>
      intro c hc hn
      have hk4 := (it_keep (fun i R' => wetS_keep (6 * (mn - 1) + i) dr R' (j := 4) (by decide) (by decide)) c R).trans h4
      refine r_iload C rfl rfl ?_
      refine r_iload C rfl rfl ?_
      refine r_icmp_ge C 61 rfl (by decide) (fun h => ?_) (fun h => ?_)
      · have h := le_nI (by omega) (by omega) h
        have e : c = dp := by omega
        subst e
        exact kk _
      have h := nle_nI (by omega) (by omega) h
      refine r_aload_n C 0 rfl rfl rfl rfl ?_
      refine r_iload_n C 1 rfl rfl rfl ?_
      refine r_ic (v := nI 4) C rfl (by decide) ?_
      refine v2_r C rfl mfX12_of lk_X12_238 (by assumption) (s_of hM 4 rfl rfl hr (by decide)) ?_
      refine r_top 0 hk4 ?_
      refine r_if_ne C 61 rfl (by decide) (fun h2 => absurd rfl h2) (fun h2 => ?_)
      refine r_aload_n C 0 rfl rfl rfl rfl ?_
      refine r_iload_n C 1 rfl rfl rfl ?_
      refine r_iload_n C 3 rfl rfl rfl ?_
      refine r_ic (v := nI 1) C rfl (by decide) ?_
      refine r_isub C rfl ?_
      refine r_iload C rfl rfl ?_
      refine r_iload_n C 2 rfl rfl rfl ?_
      refine v4_v C rfl mfX12_wet lk_X12_288 (by assumption) (s_wet hM (mn - 1) c rfl (pk_sub (by omega)) rfl hr (by omega)) ?_
      refine r_iinc (c := nI 1) C rfl rfl (by decide) ?_
      refine r_goto C 28 rfl (by decide) ?_
      refine r_eqM ?_ (r_eqL ?_ (ih (c + 1) (by omega) (by omega)))
      · rw [it]
      · first | rfl | (simp only [sm, add3, nI_add, Int32.add_zero, Int32.zero_add]; rfl)
  have k61 : ∀ R1 : Row, R1 = (if R 4 = 0 then it (fun c => wetS (6 * (mn - 1) + c) dr) dp R else R) → ∀ v : Option Value, PT k E Q 0 0 Sh N G (mset M o r R1) 61 [some (.ref o), some (.int (nI r)), some (.int dr), some (.int (nI mn)), some (.int (nI dp)), some (.int (nI 3 - R 3)), v] [] := by
    intro R1 hR1 v
    have hk : ∀ j, j < 37 → j ≠ 11 → R1 j = R j := by
      intro j h1 h2
      rw [hR1]
      split
      · exact it_keep (fun i R' => wetS_keep (6 * (mn - 1) + i) dr R' h1 h2) dp R
      · rfl
    refine r_ic (v := nI 0) C rfl (by decide) ?_
    refine r_istore C rfl (by exact Nat.le_of_ble_eq_true rfl) ?_
    refine r_eqL ?_ (loop2 R1 (hk 5 (by decide) (by decide)) (fun v => ?_) (bare R mn + 1) 0 (by omega) (by omega))
    · first | rfl | (simp only [sm, add3, nI_add, Int32.add_zero, Int32.zero_add]; rfl)
    have hX2 := (it_keep (fun i R' => wetS_keep (6 * i) (dr * R 5 / nI 200) R' (j := 2) (by decide) (by decide)) (bare R mn) R1).trans (hk 2 (by decide) (by decide))
    obtain ⟨X, hX⟩ : ∃ X, X = it (fun l => wetS (6 * l) (dr * R 5 / nI 200)) (bare R mn) R1 := ⟨_, rfl⟩
    rw [← hX] at hX2 ⊢
    refine r_ic (v := nI 0) C rfl (by decide) ?_
    refine r_istore C rfl (by exact Nat.le_of_ble_eq_true rfl) ?_
    refine r_eqL ?_ (loop3 X hX2 ?_ (dp + 1) 0 (by omega) (by omega))
    · first | rfl | (simp only [sm, add3, nI_add, Int32.add_zero, Int32.zero_add]; rfl)
    exact q_vret C hQ rfl rfl ⟨rfl, rfl, rfl, by rw [comeR, ← hR1, ← hX]⟩
  refine r_aload_n C 0 rfl rfl rfl rfl ?_
  refine r_iload_n C 1 rfl rfl rfl ?_
  refine r_ic (v := nI 1) C rfl (by decide) ?_
  refine v2_r C rfl mfX12_of lk_X12_238 (by assumption) (s_of hM 1 rfl rfl hr (by decide)) ?_
  refine r_top (nI mn) w3 ?_
  refine r_istore_n C 3 rfl rfl (by exact Nat.le_of_ble_eq_true rfl) ?_
  refine r_aload_n C 0 rfl rfl rfl rfl ?_
  refine r_iload_n C 1 rfl rfl rfl ?_
  refine r_ic (v := nI 0) C rfl (by decide) ?_
  refine v2_r C rfl mfX12_of lk_X12_238 (by assumption) (s_of hM 0 rfl rfl hr (by decide)) ?_
  refine r_top (nI dp) w0 ?_
  refine r_istore C rfl (by exact Nat.le_of_ble_eq_true rfl) ?_
  refine r_ic (v := nI 3) C rfl (by decide) ?_
  refine r_aload_n C 0 rfl rfl rfl rfl ?_
  refine r_iload_n C 1 rfl rfl rfl ?_
  refine r_ic (v := nI 3) C rfl (by decide) ?_
  refine v2_r C rfl mfX12_of lk_X12_238 (by assumption) (s_of hM 3 rfl rfl hr (by decide)) ?_
  refine r_isub C rfl ?_
  refine r_istore C rfl (by exact Nat.le_of_ble_eq_true rfl) ?_
  refine r_ic (v := nI 0) C rfl (by decide) ?_
  refine r_istore C rfl (by exact Nat.le_of_ble_eq_true rfl) ?_
  by_cases h4 : R 4 = 0
  · refine r_eqL ?_ (loop1 h4 (fun v => k61 _ (by rw [if_pos h4]) v) (dp + 1) 0 (by omega) (by omega))
    first | rfl | (simp only [sm, add3, nI_add, Int32.add_zero, Int32.zero_add]; rfl)
  · refine r_iload C rfl rfl ?_
    refine r_iload C rfl rfl ?_
    refine r_icmp_ge C 61 rfl (by decide) (fun h => ?_) (fun h => ?_)
    · have h := le_nI (a := dp) (b := 0) (by omega) (by omega) h
      omega
    refine r_aload_n C 0 rfl rfl rfl rfl ?_
    refine r_iload_n C 1 rfl rfl rfl ?_
    refine r_ic (v := nI 4) C rfl (by decide) ?_
    refine v2_r C rfl mfX12_of lk_X12_238 (by assumption) (s_of hM 4 rfl rfl hr (by decide)) ?_
    refine r_if_ne C 61 rfl (by decide) (fun h2 => ?_) (fun h2 => absurd h2 h4)
    refine r_eqL ?_ (k61 R (by rw [if_neg h4]) (some (.int (nI 0))))
    first | rfl | (simp only [sm, add3, nI_add, Int32.add_zero, Int32.zero_add]; rfl)
end MODEL8
end
section
section MODEL9
variable {E : VE} {Sh : Nat → SE} {N : Nat} {G : Bool} {M : MM} {o r : Nat} {R : Row}
theorem sit_keep8 (g f : Int32) (dp mn l : Nat) (R : Row) {j : Nat} (h : j < 13) : sitR g f dp mn l R j = R j := by
  simp only [sitR]
  rw [if_neg (by omega)]
theorem fall_8 (dp mn : Nat) (R : Row) : fallR dp mn R 8 = R 8 := by
  simp only [fallR]
  cases lowN R 0 mn with
  | none => rfl
  | some l => simp [cutR, upd]
theorem weekW_8 (g f sk dr air : Int32) (fr : Bool) (dp mn : Nat) (R : Row) : weekW g f sk dr air fr dp mn R 8 = R 8 := by
  rw [weekW, fall_8, sit_keep8 _ _ _ _ _ _ (by decide), crack_lo _ _ _ _ _ _ _ (by decide), dryR, dryR_keep _ _ _ _ _ (by decide) (by decide), moveR, moveR_keep _ _ _ _ _ (by decide), come_keep _ _ _ _ (by decide) (by decide)]
/-- the week's number among the wk that are told -/
def wkRain (M : MM) (o wk ps : Nat) : Int32 := if wk = 0 then 0 else M (o + 5) (ps % wk)
def wkAir (M : MM) (o wk ps : Nat) : Int32 := if wk = 0 then nI 20 else M (o + 6) (ps % wk)
def wkFrost (M : MM) (o wk ps : Nat) : Bool := if wk = 0 then false else decide (M (o + 7) (ps % wk) = nI 1)
theorem s_week (hM : MO Sh N o) {x : Int32} (dp mn sh wk ps : Nat) (hW : WF R dp mn) (hsh : R 3 = nI sh) (hs9 : sh ≤ 9) (hps : R 8 = nI ps) (hp : ps < 2 ^ 31) (hwk : M (o + 8) 0 = nI wk) (hwk30 : wk ≤ 30) (hx : x = nI r) (hr : r < 36) :
    Con E mX12_week 6 0 0 [.ref o, .int x] Sh N G (mset M o r R) (PR Sh N (fun v M' => v = none ∧ ∃ B F : Nat → Int32, M' = mset (aset (aset M (o + 2) B) (o + 3) F) o r (weekR (grn M o) (ful M o) (shr M o) (wkRain M o wk ps) (wkAir M o wk ps) (wkFrost M o wk ps) dp mn R))) nox := by
  subst hx
  have hW' := hW
  obtain ⟨w0, w1, w2, w3, w4⟩ := hW
  have h0 := hM.1
  have a2 := hM.ar 1 rfl
  have a5 := hM.ar 4 rfl
  have a6 := hM.ar 5 rfl
  have a7 := hM.ar 6 rfl
  have a8 := hM.ar 7 rfl
  refine Con.ofQ (by decide +kernel) (by simp [Value.category]) (Nat.le_of_ble_eq_true rfl) (fun k C0 Q hQ => ?_)
  have C : CK k E mX12_week kdX12_week 6 0 0 := ⟨C0, kdX12_week_ok⟩
  -- kI: the week's number, or -1
  obtain ⟨kI, hkI⟩ : ∃ kI : Int32, kI = (if wk = 0 then -1 else nI (ps % wk)) := ⟨_, rfl⟩
  have k143 : ∀ (R9 : Row) (B F : Nat → Int32) (v2 v3 : Option Value), R9 8 = R 8 → R9 = (if mn = 0 then R else weekW (grn M o) (ful M o) (shr M o) (wkRain M o wk ps) (wkAir M o wk ps) (wkFrost M o wk ps) dp mn R) → PT k E Q 0 0 Sh N G (mset (aset (aset M (o + 2) B) (o + 3) F) o r R9) 143 [some (.ref o), some (.int (nI r)), v2, v3] [] := by
    intro R9 B F v2 v3 h8 hR9
    refine r_aload_n C 0 rfl rfl rfl rfl ?_
    refine r_iload_n C 1 rfl rfl rfl ?_
    refine r_bi (v := nI 8) C rfl (by decide) ?_
    refine r_aload_n C 0 rfl rfl rfl rfl ?_
    refine r_iload_n C 1 rfl rfl rfl ?_
    refine r_bi (v := nI 8) C rfl (by decide) ?_
    refine v2_r C rfl mfX12_of lk_X12_238 (by assumption) (s_of hM 8 rfl rfl hr (by decide)) ?_
    refine r_top (R 8) h8 ?_
    refine r_ic (v := nI 1) C rfl (by decide) ?_
    refine r_iadd C rfl ?_
    refine v3_v C rfl mfX12_put lk_X12_175 (by assumption) (s_put hM 8 rfl rfl hr (by decide)) ?_
    exact q_vret C hQ rfl rfl ⟨rfl, rfl, rfl, B, F, by rw [weekR, ← hR9]⟩
  have k58 : ∀ v3 : Option Value, PT k E Q 0 0 Sh N G (mset (aset M (o + 2) (seeF R (M (o + 2)) 144)) o r R) 58 [some (.ref o), some (.int (nI r)), some (.int kI), v3] [] := by
    intro v3
    obtain ⟨M1, hM1⟩ : ∃ M1, M1 = aset M (o + 2) (seeF R (M (o + 2)) 144) := ⟨_, rfl⟩
    rw [← hM1]
    have e2 : M1 (o + 2) = seeF R (M (o + 2)) 144 := by rw [hM1, aset_own]
    have ex : ∀ a, a ≠ o + 2 → M1 a = M a := fun a h => by rw [hM1, aset_ne _ _ h]
    refine r_aload_n C 0 rfl rfl rfl rfl ?_
    refine r_iload_n C 1 rfl rfl rfl ?_
    refine r_ic (v := nI 1) C rfl (by decide) ?_
    refine v2_r C rfl mfX12_of lk_X12_238 (by assumption) (s_of hM 1 rfl rfl hr (by decide)) ?_
    refine r_top (nI mn) w3 ?_
    refine r_if_le C 143 rfl (by decide) (fun h => ?_) (fun h => ?_)
    · have h := le_nI (a := mn) (b := 0) (by omega) (by omega) h
      refine r_eqM ?_ (k143 R (seeF R (M (o + 2)) 144) (M1 (o + 3)) (some (.int kI)) v3 rfl (by rw [if_pos (by omega)]))
      rw [← hM1, aset_self]
    have hmn : 1 ≤ mn := by
      rcases Nat.eq_zero_or_pos mn with q | q
      · subst q; exact absurd (Int32.le_refl _) h
      · exact q
    have hneg : ∀ i : Nat, i < 1000 → ¬ nI i = -1 := by
      intro i hi q
      have q2 := congrArg Int32.toInt q
      rw [nI_toInt (by omega)] at q2
      have : (-1 : Int32).toInt = -1 := by decide
      omega
    have hmod : wk ≠ 0 → ps % wk < 30 := fun q => by have := Nat.mod_lt ps (Nat.pos_of_ne_zero q); omega
    obtain ⟨R1, hR1⟩ : ∃ R1, R1 = comeR dp mn (wkRain M o wk ps) R := ⟨_, rfl⟩
    have hW1 : WF R1 dp mn := ⟨by rw [hR1, come_keep _ _ _ _ (by decide) (by decide)]; exact w0, w1, w2, by rw [hR1, come_keep _ _ _ _ (by decide) (by decide)]; exact w3, w4⟩
    obtain ⟨R2, hR2⟩ : ∃ R2, R2 = moveR (fun j => R1 (37 + j)) dp mn R1 := ⟨_, rfl⟩
    have hW2 : WF R2 dp mn := ⟨by rw [hR2, moveR, moveR_keep _ _ _ _ _ (by decide)]; exact hW1.1, w1, w2, by rw [hR2, moveR, moveR_keep _ _ _ _ _ (by decide)]; exact hW1.2.2.2.1, w4⟩
    obtain ⟨R3, hR3⟩ : ∃ R3, R3 = dryR (wkAir M o wk ps) dp mn R2 := ⟨_, rfl⟩
    have hW3 : WF R3 dp mn := ⟨by rw [hR3, dryR, dryR_keep _ _ _ _ _ (by decide) (by decide)]; exact hW2.1, w1, w2, by rw [hR3, dryR, dryR_keep _ _ _ _ _ (by decide) (by decide)]; exact hW2.2.2.2.1, w4⟩
    obtain ⟨R4, hR4⟩ : ∃ R4, R4 = crackR (wkFrost M o wk ps) (shr M o) (fun j => R (37 + j)) dp mn 0 R3 := ⟨_, rfl⟩
    have hW4 : WF R4 dp mn := ⟨by rw [hR4, crack_lo _ _ _ _ _ _ _ (by decide)]; exact hW3.1, w1, w2, by rw [hR4, crack_lo _ _ _ _ _ _ _ (by decide)]; exact hW3.2.2.2.1, w4⟩
    have hweek : fallR dp mn (sitR (grn M o) (ful M o) dp mn 0 R4) = weekW (grn M o) (ful M o) (shr M o) (wkRain M o wk ps) (wkAir M o wk ps) (wkFrost M o wk ps) dp mn R := by
      rw [weekW, hR4, hR3, hR2, hR1]
    obtain ⟨F, hF⟩ : ∃ F, F = seeF R1 (M1 (o + 3)) 144 := ⟨_, rfl⟩
    obtain ⟨M2, hM2⟩ : ∃ M2, M2 = aset M1 (o + 3) F := ⟨_, rfl⟩
    have ex2 : ∀ a, a ≠ o + 2 → a ≠ o + 3 → M2 a = M a := fun a h h' => by rw [hM2, aset_ne _ _ h', ex a h]
    have hg2 : grn M2 o = grn M o := by rw [grn, grn, ex2 _ (by omega) (by omega)]
    have hf2 : ful M2 o = ful M o := by rw [ful, ful, ex2 _ (by omega) (by omega)]
    have hs2 : shr M2 o = shr M o := by rw [shr, shr, ex2 _ (by omega) (by omega)]
    have hb2 : ∀ j, j < 144 → M2 (o + 2) j = R (37 + j) := fun j hj => by rw [hM2, aset_ne _ _ (by omega), e2, seeF_in _ _ hj]
    have k135 : ∀ z : Int32, z = bI (wkFrost M o wk ps) → PT k E Q 0 0 Sh N G (mset M2 o r R3) 135 [some (.ref o), some (.int (nI r)), some (.int kI), v3] [.int z, .int (nI r), .ref o] := by
      intro z hz
      subst hz
      refine v2_v C rfl mfX12_crack lk_X12_310 (by assumption) (s_crack hM (wkFrost M o wk ps) dp mn hW3 rfl hr) ?_
      rw [hs2, crackR_w hb2, ← hR4]
      refine r_aload_n C 0 rfl rfl rfl rfl ?_
      refine r_iload_n C 1 rfl rfl rfl ?_
      refine v1_v C rfl mfX12_sit lk_X12_314 (by assumption) (s_sit hM dp mn hW4 rfl hr) ?_
      rw [hg2, hf2, hweek, hM2, hM1]
      exact k143 _ _ _ _ _ (weekW_8 _ _ _ _ _ _ _ _ _) (by rw [if_neg (by omega)])
    have k110 : ∀ z : Int32, z = wkAir M o wk ps → PT k E Q 0 0 Sh N G (mset M2 o r R2) 110 [some (.ref o), some (.int (nI r)), some (.int kI), v3] [.int z, .int (nI r), .ref o] := by
      intro z hz
      subst hz
      refine v2_v C rfl mfX12_dry lk_X12_307 (by assumption) (s_dry hM dp mn hW2 rfl hr) ?_
      refine r_aload_n C 0 rfl rfl rfl rfl ?_
      refine r_iload_n C 1 rfl rfl rfl ?_
      refine r_iload_n C 2 rfl rfl rfl ?_
      refine r_ic (v := (-1)) C rfl (by decide) ?_
      rw [← hR3]
      refine r_icmp_eq C 134 rfl (by decide) (fun h2 => ?_) (fun h2 => ?_)
      · refine r_ic (v := nI 0) C rfl (by decide) ?_
        refine k135 _ ?_
        by_cases q : wk = 0
        · simp only [wkFrost, if_pos q]; rfl
        · rw [hkI, if_neg q] at h2
          exact absurd h2 (hneg _ (by have := hmod q; omega))
      · have q : wk ≠ 0 := fun q => h2 (by rw [hkI, if_pos q])
        have hk2 : kI = nI (ps % wk) := by rw [hkI, if_neg q]
        have hmod := hmod q
        refine r_aload_n C 0 rfl rfl rfl rfl ?_
        refine r_getv C rfl f_X12_28 (by assumption) rfl ?_
        refine r_iload_n C 2 rfl rfl rfl ?_
        refine r_iald C rfl (by assumption) (ps % wk) hk2 (by omega) (by decide) ?_
        refine r_ic (v := nI 1) C rfl (by decide) ?_
        refine r_icmp_ne C 134 rfl (by decide) (fun h3 => ?_) (fun h3 => ?_)
        · refine r_ic (v := nI 0) C rfl (by decide) ?_
          refine k135 _ ?_
          rw [mset_cell (by omega), ex2 _ (by omega) (by omega)] at h3
          simp only [wkFrost, if_neg q, decide_eq_false h3]; rfl
        · refine r_ic (v := nI 1) C rfl (by decide) ?_
          refine r_goto C 135 rfl (by decide) ?_
          refine k135 _ ?_
          rw [mset_cell (by omega), ex2 _ (by omega) (by omega)] at h3
          simp only [wkFrost, if_neg q, decide_eq_true h3]; rfl
    have k84 : ∀ z : Int32, z = wkRain M o wk ps → PT k E Q 0 0 Sh N G (mset M1 o r R) 84 [some (.ref o), some (.int (nI r)), some (.int kI), v3] [.int z, .int (nI r), .ref o] := by
      intro z hz
      subst hz
      refine v2_v C rfl mfX12_comeIn lk_X12_301 (by assumption) (s_comeIn hM dp mn sh hW' hmn hsh hs9 rfl hr) ?_
      rw [← hR1]
      refine r_aload_n C 0 rfl rfl rfl rfl ?_
      refine r_iload_n C 1 rfl rfl rfl ?_
      refine v1_v C rfl mfX12_move lk_X12_304 (by assumption) (s_move hM dp mn hW1 rfl hr) ?_
      refine r_aload_n C 0 rfl rfl rfl rfl ?_
      refine r_iload_n C 1 rfl rfl rfl ?_
      refine r_iload_n C 2 rfl rfl rfl ?_
      refine r_ic (v := (-1)) C rfl (by decide) ?_
      rw [← hR2, ← hF, ← hM2]
      refine r_icmp_ne C 104 rfl (by decide) (fun h2 => ?_) (fun h2 => ?_)
      · have q : wk ≠ 0 := fun q => h2 (by rw [hkI, if_pos q])
        have hk2 : kI = nI (ps % wk) := by rw [hkI, if_neg q]
        have hmod := hmod q
        refine r_aload_n C 0 rfl rfl rfl rfl ?_
        refine r_getv C rfl f_X12_25 (by assumption) rfl ?_
        refine r_iload_n C 2 rfl rfl rfl ?_
        refine r_iald C rfl (by assumption) (ps % wk) hk2 (by omega) (by decide) ?_
        refine k110 _ ?_
        rw [mset_cell (by omega), ex2 _ (by omega) (by omega)]
        simp only [wkAir, if_neg q]
      · refine r_bi (v := nI 20) C rfl (by decide) ?_
        refine r_goto C 110 rfl (by decide) ?_
        refine k110 _ ?_
        by_cases q : wk = 0
        · simp only [wkAir, if_pos q]
        · rw [hkI, if_neg q] at h2
          exact absurd h2 (hneg _ (by have := hmod q; omega))
    refine r_aload_n C 0 rfl rfl rfl rfl ?_
    refine r_iload_n C 1 rfl rfl rfl ?_
    refine r_iload_n C 2 rfl rfl rfl ?_
    refine r_ic (v := (-1)) C rfl (by decide) ?_
    refine r_icmp_ne C 78 rfl (by decide) (fun h2 => ?_) (fun h2 => ?_)
    · have q : wk ≠ 0 := fun q => h2 (by rw [hkI, if_pos q])
      have hk2 : kI = nI (ps % wk) := by rw [hkI, if_neg q]
      have hmod := hmod q
      refine r_aload_n C 0 rfl rfl rfl rfl ?_
      refine r_getv C rfl f_X12_22 (by assumption) rfl ?_
      refine r_iload_n C 2 rfl rfl rfl ?_
      refine r_iald C rfl (by assumption) (ps % wk) hk2 (by omega) (by decide) ?_
      refine k84 _ ?_
      rw [mset_cell (by omega), ex _ (by omega)]
      simp only [wkRain, if_neg q]
    · refine r_ic (v := nI 0) C rfl (by decide) ?_
      refine r_goto C 84 rfl (by decide) ?_
      refine k84 _ ?_
      by_cases q : wk = 0
      · simp only [wkRain, if_pos q]; rfl
      · rw [hkI, if_neg q] at h2
        exact absurd h2 (hneg _ (by have := hmod q; omega))
  have loop : ∀ n i : Nat, i ≤ 144 → 144 - i < n → PT k E Q 0 0 Sh N G (mset (aset M (o + 2) (seeF R (M (o + 2)) i)) o r R) 30 [some (.ref o), some (.int (nI r)), some (.int kI), some (.int (nI i))] [] := by
    intro n
    induction n with
    | zero => intro i _ h; omega
    | succ n ih =>
      intro i hi hn
      refine r_iload_n C 3 rfl rfl rfl ?_
      refine r_si (v := nI 144) C rfl (by decide) ?_
      refine r_icmp_ge C 58 rfl (by decide) (fun h => ?_) (fun h => ?_)
      · have h := le_nI (by omega) (by omega) h
        have e : i = 144 := by omega
        subst e
        exact k58 _
      · have h := nle_nI (by omega) (by omega) h
        refine r_aload_n C 0 rfl rfl rfl rfl ?_
        refine r_getv C rfl f_X12_13 (by assumption) rfl ?_
        refine r_iload_n C 3 rfl rfl rfl ?_
        refine r_aload_n C 0 rfl rfl rfl rfl ?_
        refine r_iload_n C 1 rfl rfl rfl ?_
        refine r_bi (v := nI 37) C rfl (by decide) ?_
        refine r_iload_n C 3 rfl rfl rfl ?_
        refine r_iadd C rfl ?_
        refine v2_r C rfl mfX12_of lk_X12_238 (by assumption) (s_of hM (37 + i) rfl (by rw [nI_add]) hr (by omega)) ?_
        refine r_iast C rfl (by assumption) (i) rfl (by omega) (by decide) ?_
        refine r_iinc (c := nI 1) C rfl rfl (by decide) ?_
        refine r_goto C 30 rfl (by decide) ?_
        refine r_eqM ?_ (r_eqL ?_ (ih (i + 1) (by omega) (by omega)))
        · rw [aset_up _ _ _ _ _ _ _ _ (by omega), seeF_up]
        · first | rfl | (simp only [sm, add3, nI_add, Int32.add_zero, Int32.zero_add]; rfl)
  have k27 : PT k E Q 0 0 Sh N G (mset M o r R) 27 [some (.ref o), some (.int (nI r)), none, none] [.int kI] := by
    refine r_istore_n C 2 rfl rfl (by exact Nat.le_of_ble_eq_true rfl) ?_
    refine r_ic (v := nI 0) C rfl (by decide) ?_
    refine r_istore_n C 3 rfl rfl (by exact Nat.le_of_ble_eq_true rfl) ?_
    refine r_eqM ?_ (r_eqL ?_ (loop 145 0 (by omega) (by omega)))
    · rw [show seeF R (M (o + 2)) 0 = M (o + 2) from funext (fun j => if_neg (Nat.not_lt_zero j)), aset_self]
    · first | rfl | (simp only [sm, add3, nI_add, Int32.add_zero, Int32.zero_add]; rfl)
  refine r_aload_n C 0 rfl rfl rfl rfl ?_
  refine r_getv C rfl f_X12_31 (by assumption) rfl ?_
  refine r_ic (v := nI 0) C rfl (by decide) ?_
  refine r_iald C rfl (by assumption) (0) rfl (by decide) (by decide) ?_
  refine r_top (nI wk) (by rw [mset_cell (by omega)]; exact hwk) ?_
  refine r_if_ne C 13 rfl (by decide) (fun h => ?_) (fun h => ?_)
  · have q : wk ≠ 0 := fun q => h (by rw [q]; rfl)
    refine r_aload_n C 0 rfl rfl rfl rfl ?_
    refine r_iload_n C 1 rfl rfl rfl ?_
    refine r_bi (v := nI 8) C rfl (by decide) ?_
    refine v2_r C rfl mfX12_of lk_X12_238 (by assumption) (s_of hM 8 rfl rfl hr (by decide)) ?_
    refine r_top (nI ps) hps ?_
    refine r_aload_n C 0 rfl rfl rfl rfl ?_
    refine r_getv C rfl f_X12_31 (by assumption) rfl ?_
    refine r_ic (v := nI 0) C rfl (by decide) ?_
    refine r_iald C rfl (by assumption) (0) rfl (by decide) (by decide) ?_
    refine r_top (nI wk) (by rw [mset_cell (by omega)]; exact hwk) ?_
    refine r_irem C rfl (fun z => q ((nI_eq (b := 0) (by omega) (by omega)).mp z)) ?_
    refine r_top kI (by rw [pk_rem hp (by omega) (by omega), hkI, if_neg q]) ?_
    exact k27
  · have q : wk = 0 := (nI_eq (b := 0) (by omega) (by omega)).mp h
    refine r_ic (v := (-1)) C rfl (by decide) ?_
    refine r_goto C 27 rfl (by decide) ?_
    refine r_top kI (by rw [hkI, if_pos q]) ?_
    exact k27
end MODEL9
end
section
section WROW
theorem and2 (x : Int32) (i : Nat) (hi : i < 31) : x &&& nI (2 ^ i) = 0 ∨ x &&& nI (2 ^ i) = nI (2 ^ i) := by
  have h2 : (nI (2 ^ i)).toBitVec = BitVec.twoPow 32 i := by
    apply BitVec.eq_of_toNat_eq
    rw [BitVec.toNat_twoPow]
    rfl
  have h := BitVec.and_twoPow x.toBitVec i
  rw [← h2] at h
  by_cases q : x.toBitVec.getLsbD i
  · rw [if_pos q] at h
    exact Or.inr (Int32.toBitVec_inj.mp (by rw [Int32.toBitVec_and]; exact h))
  · rw [if_neg q] at h
    exact Or.inl (Int32.toBitVec_inj.mp (by rw [Int32.toBitVec_and]; exact h))
theorem or_and (z y m : Int32) : (z ||| y) &&& m = (z &&& m) ||| (y &&& m) := by
  apply Int32.toBitVec_inj.mp
  rw [Int32.toBitVec_and, Int32.toBitVec_or, Int32.toBitVec_or, Int32.toBitVec_and, Int32.toBitVec_and]
  apply BitVec.eq_of_getLsbD_eq
  intro i hi
  simp [Bool.and_or_distrib_right]
theorem hol_iff (x : Int32) : x &&& nI 2 = nI 2 ↔ ¬ x &&& nI 2 = 0 := by
  rcases and2 x 1 (by decide) with h | h
  · exact ⟨fun q => absurd (h.symm.trans q) (by decide), fun q => absurd h q⟩
  · exact ⟨fun _ q => absurd (h.symm.trans q) (by decide), fun _ => h⟩
theorem crk_iff (x : Int32) : x &&& nI 1 = nI 1 ↔ ¬ x &&& nI 1 = 0 := by
  rcases and2 x 0 (by decide) with h | h
  · exact ⟨fun q => absurd (h.symm.trans q) (by decide), fun q => absurd h q⟩
  · exact ⟨fun _ q => absurd (h.symm.trans q) (by decide), fun _ => h⟩
/-- a wall's fields, the yard at yd -/
def waFl (w yd : Nat) : List (Option Value) := [some (.ref yd), some (.ref (w + 1)), some (.ref (w + 2)), some (.ref (w + 3)), none, none, none, none, none, none, none, none, none, none, none, none, none]
def yaFl (yd : Nat) : List (Option Value) := [some (.ref (yd + 1)), some (.ref (yd + 2)), some (.ref (yd + 3)), none, none, none, none, none, none]
def YA (Sh : Nat → SE) (N yd : Nat) : Prop := At Sh N yd (.inr (10, yaFl yd)) ∧ At Sh N (yd + 1) (arE 0 3) ∧ At Sh N (yd + 2) (arE 0 24) ∧ At Sh N (yd + 3) (arE 0 90)
/-- the world holds a wall at w, of the yard at yd -/
def WA (Sh : Nat → SE) (N w yd : Nat) : Prop := At Sh N w (.inr (8, waFl w yd)) ∧ At Sh N (w + 1) (arE 0 144) ∧ At Sh N (w + 2) (arE 0 144) ∧ At Sh N (w + 3) (arE 0 24) ∧ YA Sh N yd ∧ yd + 4 ≤ w
/-- the row of the wall at w -/
def wrow (M : MM) (w : Nat) : Row := fun j => if j < 13 then M w (j + 4) else if j < 37 then M (w + 3) (j - 13) else if j < 181 then M (w + 1) (j - 37) else M (w + 2) (j - 181)
/-- the numbers with another row of the wall at w -/
def wset (M : MM) (w : Nat) (R : Row) : MM := fun a b =>
  if a = w ∧ 4 ≤ b ∧ b < 17 then R (b - 4) else if a = w + 3 ∧ b < 24 then R (13 + b) else if a = w + 1 ∧ b < 144 then R (37 + b) else if a = w + 2 ∧ b < 144 then R (181 + b) else M a b
theorem wset_lo {w a : Nat} (M : MM) (R : Row) {b : Nat} (h : a < w) : wset M w R a b = M a b := by
  simp only [wset]
  rw [if_neg (by omega), if_neg (by omega), if_neg (by omega), if_neg (by omega)]
theorem wset_cell {w a : Nat} (M : MM) (R : Row) (h : a < w ∨ w + 4 ≤ a) : wset M w R a = M a := by
  funext b
  simp only [wset]
  rw [if_neg (by omega), if_neg (by omega), if_neg (by omega), if_neg (by omega)]
theorem wset_row (M : MM) (w : Nat) (R : Row) {j : Nat} (h : j < 325) : wrow (wset M w R) w j = R j := by
  simp only [wrow, wset]
  by_cases h1 : j < 13
  · rw [if_pos h1, if_pos ⟨trivial, by omega, by omega⟩]; congr 1
  · rw [if_neg h1]
    by_cases h2 : j < 37
    · rw [if_pos h2, if_neg (by omega), if_pos ⟨trivial, by omega⟩]; congr 1; omega
    · rw [if_neg h2]
      by_cases h3 : j < 181
      · rw [if_pos h3, if_neg (by omega), if_neg (by omega), if_pos ⟨trivial, by omega⟩]; congr 1; omega
      · rw [if_neg h3, if_neg (by omega), if_neg (by omega), if_neg (by omega), if_pos ⟨trivial, by omega⟩]; exact congrArg R (by omega)
theorem wset_self (M : MM) (w : Nat) : wset M w (wrow M w) = M := by
  funext a b
  simp only [wset, wrow]
  by_cases h1 : a = w ∧ 4 ≤ b ∧ b < 17
  · rw [if_pos h1, if_pos (by omega), h1.1]; congr 1; omega
  · rw [if_neg h1]
    by_cases h2 : a = w + 3 ∧ b < 24
    · rw [if_pos h2, if_neg (by omega), if_pos (by omega), h2.1]; congr 1; omega
    · rw [if_neg h2]
      by_cases h3 : a = w + 1 ∧ b < 144
      · rw [if_pos h3, if_neg (by omega), if_neg (by omega), if_pos (by omega), h3.1]; congr 1; omega
      · rw [if_neg h3]
        by_cases h4 : a = w + 2 ∧ b < 144
        · rw [if_pos h4, if_neg (by omega), if_neg (by omega), if_neg (by omega), h4.1]; exact congrArg (M (w + 2)) (by omega)
        · rw [if_neg h4]
theorem wset_wset (M : MM) (w : Nat) (R R' : Row) : wset (wset M w R) w R' = wset M w R' := by
  funext a b
  simp only [wset]
  by_cases h1 : a = w ∧ 4 ≤ b ∧ b < 17 <;> by_cases h2 : a = w + 3 ∧ b < 24 <;> by_cases h3 : a = w + 1 ∧ b < 144 <;> by_cases h4 : a = w + 2 ∧ b < 144 <;> simp [h1, h2, h3, h4]
theorem wset_cong {M : MM} {w : Nat} {R R' : Row} (h : ∀ j, j < 325 → R j = R' j) : wset M w R = wset M w R' := by
  funext a b
  simp only [wset]
  by_cases h1 : a = w ∧ 4 ≤ b ∧ b < 17
  · rw [if_pos h1, if_pos h1, h _ (by omega)]
  · rw [if_neg h1, if_neg h1]
    by_cases h2 : a = w + 3 ∧ b < 24
    · rw [if_pos h2, if_pos h2, h _ (by omega)]
    · rw [if_neg h2, if_neg h2]
      by_cases h3 : a = w + 1 ∧ b < 144
      · rw [if_pos h3, if_pos h3, h _ (by omega)]
      · rw [if_neg h3, if_neg h3]
        by_cases h4 : a = w + 2 ∧ b < 144
        · rw [if_pos h4, if_pos h4, h _ (by omega)]
        · rw [if_neg h4, if_neg h4]
theorem wg_4 (M : MM) (w : Nat) (R : Row) : wset M w R w 4 = R 0 := by simp [wset]
theorem wp_4 (M : MM) (w : Nat) (R : Row) (v : Int32) : up (wset M w R) w 4 v = wset M w (upd R 0 v) := by
  funext a b
  simp only [up, wset, upd]
  by_cases h1 : a = w ∧ 4 ≤ b ∧ b < 17
  · rw [if_pos h1, if_pos h1]
    by_cases e : b = 4
    · rw [if_pos ⟨h1.1, e⟩, if_pos (by omega)]
    · rw [if_neg (fun q => e q.2), if_neg (by omega)]
  · rw [if_neg h1, if_neg h1, if_neg (fun q => h1 ⟨q.1, by omega, by omega⟩)]
    by_cases h2 : a = w + 3 ∧ b < 24
    · rw [if_pos h2, if_pos h2, if_neg (by omega)]
    · rw [if_neg h2, if_neg h2]
      by_cases h3 : a = w + 1 ∧ b < 144
      · rw [if_pos h3, if_pos h3, if_neg (by omega)]
      · rw [if_neg h3, if_neg h3]
        by_cases h4 : a = w + 2 ∧ b < 144
        · rw [if_pos h4, if_pos h4, if_neg (by omega)]
        · rw [if_neg h4, if_neg h4]
theorem wg_5 (M : MM) (w : Nat) (R : Row) : wset M w R w 5 = R 1 := by simp [wset]
theorem wp_5 (M : MM) (w : Nat) (R : Row) (v : Int32) : up (wset M w R) w 5 v = wset M w (upd R 1 v) := by
  funext a b
  simp only [up, wset, upd]
  by_cases h1 : a = w ∧ 4 ≤ b ∧ b < 17
  · rw [if_pos h1, if_pos h1]
    by_cases e : b = 5
    · rw [if_pos ⟨h1.1, e⟩, if_pos (by omega)]
    · rw [if_neg (fun q => e q.2), if_neg (by omega)]
  · rw [if_neg h1, if_neg h1, if_neg (fun q => h1 ⟨q.1, by omega, by omega⟩)]
    by_cases h2 : a = w + 3 ∧ b < 24
    · rw [if_pos h2, if_pos h2, if_neg (by omega)]
    · rw [if_neg h2, if_neg h2]
      by_cases h3 : a = w + 1 ∧ b < 144
      · rw [if_pos h3, if_pos h3, if_neg (by omega)]
      · rw [if_neg h3, if_neg h3]
        by_cases h4 : a = w + 2 ∧ b < 144
        · rw [if_pos h4, if_pos h4, if_neg (by omega)]
        · rw [if_neg h4, if_neg h4]
theorem wg_6 (M : MM) (w : Nat) (R : Row) : wset M w R w 6 = R 2 := by simp [wset]
theorem wp_6 (M : MM) (w : Nat) (R : Row) (v : Int32) : up (wset M w R) w 6 v = wset M w (upd R 2 v) := by
  funext a b
  simp only [up, wset, upd]
  by_cases h1 : a = w ∧ 4 ≤ b ∧ b < 17
  · rw [if_pos h1, if_pos h1]
    by_cases e : b = 6
    · rw [if_pos ⟨h1.1, e⟩, if_pos (by omega)]
    · rw [if_neg (fun q => e q.2), if_neg (by omega)]
  · rw [if_neg h1, if_neg h1, if_neg (fun q => h1 ⟨q.1, by omega, by omega⟩)]
    by_cases h2 : a = w + 3 ∧ b < 24
    · rw [if_pos h2, if_pos h2, if_neg (by omega)]
    · rw [if_neg h2, if_neg h2]
      by_cases h3 : a = w + 1 ∧ b < 144
      · rw [if_pos h3, if_pos h3, if_neg (by omega)]
      · rw [if_neg h3, if_neg h3]
        by_cases h4 : a = w + 2 ∧ b < 144
        · rw [if_pos h4, if_pos h4, if_neg (by omega)]
        · rw [if_neg h4, if_neg h4]
theorem wg_7 (M : MM) (w : Nat) (R : Row) : wset M w R w 7 = R 3 := by simp [wset]
theorem wp_7 (M : MM) (w : Nat) (R : Row) (v : Int32) : up (wset M w R) w 7 v = wset M w (upd R 3 v) := by
  funext a b
  simp only [up, wset, upd]
  by_cases h1 : a = w ∧ 4 ≤ b ∧ b < 17
  · rw [if_pos h1, if_pos h1]
    by_cases e : b = 7
    · rw [if_pos ⟨h1.1, e⟩, if_pos (by omega)]
    · rw [if_neg (fun q => e q.2), if_neg (by omega)]
  · rw [if_neg h1, if_neg h1, if_neg (fun q => h1 ⟨q.1, by omega, by omega⟩)]
    by_cases h2 : a = w + 3 ∧ b < 24
    · rw [if_pos h2, if_pos h2, if_neg (by omega)]
    · rw [if_neg h2, if_neg h2]
      by_cases h3 : a = w + 1 ∧ b < 144
      · rw [if_pos h3, if_pos h3, if_neg (by omega)]
      · rw [if_neg h3, if_neg h3]
        by_cases h4 : a = w + 2 ∧ b < 144
        · rw [if_pos h4, if_pos h4, if_neg (by omega)]
        · rw [if_neg h4, if_neg h4]
theorem wg_8 (M : MM) (w : Nat) (R : Row) : wset M w R w 8 = R 4 := by simp [wset]
theorem wp_8 (M : MM) (w : Nat) (R : Row) (v : Int32) : up (wset M w R) w 8 v = wset M w (upd R 4 v) := by
  funext a b
  simp only [up, wset, upd]
  by_cases h1 : a = w ∧ 4 ≤ b ∧ b < 17
  · rw [if_pos h1, if_pos h1]
    by_cases e : b = 8
    · rw [if_pos ⟨h1.1, e⟩, if_pos (by omega)]
    · rw [if_neg (fun q => e q.2), if_neg (by omega)]
  · rw [if_neg h1, if_neg h1, if_neg (fun q => h1 ⟨q.1, by omega, by omega⟩)]
    by_cases h2 : a = w + 3 ∧ b < 24
    · rw [if_pos h2, if_pos h2, if_neg (by omega)]
    · rw [if_neg h2, if_neg h2]
      by_cases h3 : a = w + 1 ∧ b < 144
      · rw [if_pos h3, if_pos h3, if_neg (by omega)]
      · rw [if_neg h3, if_neg h3]
        by_cases h4 : a = w + 2 ∧ b < 144
        · rw [if_pos h4, if_pos h4, if_neg (by omega)]
        · rw [if_neg h4, if_neg h4]
theorem wg_9 (M : MM) (w : Nat) (R : Row) : wset M w R w 9 = R 5 := by simp [wset]
theorem wp_9 (M : MM) (w : Nat) (R : Row) (v : Int32) : up (wset M w R) w 9 v = wset M w (upd R 5 v) := by
  funext a b
  simp only [up, wset, upd]
  by_cases h1 : a = w ∧ 4 ≤ b ∧ b < 17
  · rw [if_pos h1, if_pos h1]
    by_cases e : b = 9
    · rw [if_pos ⟨h1.1, e⟩, if_pos (by omega)]
    · rw [if_neg (fun q => e q.2), if_neg (by omega)]
  · rw [if_neg h1, if_neg h1, if_neg (fun q => h1 ⟨q.1, by omega, by omega⟩)]
    by_cases h2 : a = w + 3 ∧ b < 24
    · rw [if_pos h2, if_pos h2, if_neg (by omega)]
    · rw [if_neg h2, if_neg h2]
      by_cases h3 : a = w + 1 ∧ b < 144
      · rw [if_pos h3, if_pos h3, if_neg (by omega)]
      · rw [if_neg h3, if_neg h3]
        by_cases h4 : a = w + 2 ∧ b < 144
        · rw [if_pos h4, if_pos h4, if_neg (by omega)]
        · rw [if_neg h4, if_neg h4]
theorem wg_10 (M : MM) (w : Nat) (R : Row) : wset M w R w 10 = R 6 := by simp [wset]
theorem wp_10 (M : MM) (w : Nat) (R : Row) (v : Int32) : up (wset M w R) w 10 v = wset M w (upd R 6 v) := by
  funext a b
  simp only [up, wset, upd]
  by_cases h1 : a = w ∧ 4 ≤ b ∧ b < 17
  · rw [if_pos h1, if_pos h1]
    by_cases e : b = 10
    · rw [if_pos ⟨h1.1, e⟩, if_pos (by omega)]
    · rw [if_neg (fun q => e q.2), if_neg (by omega)]
  · rw [if_neg h1, if_neg h1, if_neg (fun q => h1 ⟨q.1, by omega, by omega⟩)]
    by_cases h2 : a = w + 3 ∧ b < 24
    · rw [if_pos h2, if_pos h2, if_neg (by omega)]
    · rw [if_neg h2, if_neg h2]
      by_cases h3 : a = w + 1 ∧ b < 144
      · rw [if_pos h3, if_pos h3, if_neg (by omega)]
      · rw [if_neg h3, if_neg h3]
        by_cases h4 : a = w + 2 ∧ b < 144
        · rw [if_pos h4, if_pos h4, if_neg (by omega)]
        · rw [if_neg h4, if_neg h4]
theorem wg_11 (M : MM) (w : Nat) (R : Row) : wset M w R w 11 = R 7 := by simp [wset]
theorem wp_11 (M : MM) (w : Nat) (R : Row) (v : Int32) : up (wset M w R) w 11 v = wset M w (upd R 7 v) := by
  funext a b
  simp only [up, wset, upd]
  by_cases h1 : a = w ∧ 4 ≤ b ∧ b < 17
  · rw [if_pos h1, if_pos h1]
    by_cases e : b = 11
    · rw [if_pos ⟨h1.1, e⟩, if_pos (by omega)]
    · rw [if_neg (fun q => e q.2), if_neg (by omega)]
  · rw [if_neg h1, if_neg h1, if_neg (fun q => h1 ⟨q.1, by omega, by omega⟩)]
    by_cases h2 : a = w + 3 ∧ b < 24
    · rw [if_pos h2, if_pos h2, if_neg (by omega)]
    · rw [if_neg h2, if_neg h2]
      by_cases h3 : a = w + 1 ∧ b < 144
      · rw [if_pos h3, if_pos h3, if_neg (by omega)]
      · rw [if_neg h3, if_neg h3]
        by_cases h4 : a = w + 2 ∧ b < 144
        · rw [if_pos h4, if_pos h4, if_neg (by omega)]
        · rw [if_neg h4, if_neg h4]
theorem wg_12 (M : MM) (w : Nat) (R : Row) : wset M w R w 12 = R 8 := by simp [wset]
theorem wp_12 (M : MM) (w : Nat) (R : Row) (v : Int32) : up (wset M w R) w 12 v = wset M w (upd R 8 v) := by
  funext a b
  simp only [up, wset, upd]
  by_cases h1 : a = w ∧ 4 ≤ b ∧ b < 17
  · rw [if_pos h1, if_pos h1]
    by_cases e : b = 12
    · rw [if_pos ⟨h1.1, e⟩, if_pos (by omega)]
    · rw [if_neg (fun q => e q.2), if_neg (by omega)]
  · rw [if_neg h1, if_neg h1, if_neg (fun q => h1 ⟨q.1, by omega, by omega⟩)]
    by_cases h2 : a = w + 3 ∧ b < 24
    · rw [if_pos h2, if_pos h2, if_neg (by omega)]
    · rw [if_neg h2, if_neg h2]
      by_cases h3 : a = w + 1 ∧ b < 144
      · rw [if_pos h3, if_pos h3, if_neg (by omega)]
      · rw [if_neg h3, if_neg h3]
        by_cases h4 : a = w + 2 ∧ b < 144
        · rw [if_pos h4, if_pos h4, if_neg (by omega)]
        · rw [if_neg h4, if_neg h4]
theorem wg_13 (M : MM) (w : Nat) (R : Row) : wset M w R w 13 = R 9 := by simp [wset]
theorem wp_13 (M : MM) (w : Nat) (R : Row) (v : Int32) : up (wset M w R) w 13 v = wset M w (upd R 9 v) := by
  funext a b
  simp only [up, wset, upd]
  by_cases h1 : a = w ∧ 4 ≤ b ∧ b < 17
  · rw [if_pos h1, if_pos h1]
    by_cases e : b = 13
    · rw [if_pos ⟨h1.1, e⟩, if_pos (by omega)]
    · rw [if_neg (fun q => e q.2), if_neg (by omega)]
  · rw [if_neg h1, if_neg h1, if_neg (fun q => h1 ⟨q.1, by omega, by omega⟩)]
    by_cases h2 : a = w + 3 ∧ b < 24
    · rw [if_pos h2, if_pos h2, if_neg (by omega)]
    · rw [if_neg h2, if_neg h2]
      by_cases h3 : a = w + 1 ∧ b < 144
      · rw [if_pos h3, if_pos h3, if_neg (by omega)]
      · rw [if_neg h3, if_neg h3]
        by_cases h4 : a = w + 2 ∧ b < 144
        · rw [if_pos h4, if_pos h4, if_neg (by omega)]
        · rw [if_neg h4, if_neg h4]
theorem wg_14 (M : MM) (w : Nat) (R : Row) : wset M w R w 14 = R 10 := by simp [wset]
theorem wp_14 (M : MM) (w : Nat) (R : Row) (v : Int32) : up (wset M w R) w 14 v = wset M w (upd R 10 v) := by
  funext a b
  simp only [up, wset, upd]
  by_cases h1 : a = w ∧ 4 ≤ b ∧ b < 17
  · rw [if_pos h1, if_pos h1]
    by_cases e : b = 14
    · rw [if_pos ⟨h1.1, e⟩, if_pos (by omega)]
    · rw [if_neg (fun q => e q.2), if_neg (by omega)]
  · rw [if_neg h1, if_neg h1, if_neg (fun q => h1 ⟨q.1, by omega, by omega⟩)]
    by_cases h2 : a = w + 3 ∧ b < 24
    · rw [if_pos h2, if_pos h2, if_neg (by omega)]
    · rw [if_neg h2, if_neg h2]
      by_cases h3 : a = w + 1 ∧ b < 144
      · rw [if_pos h3, if_pos h3, if_neg (by omega)]
      · rw [if_neg h3, if_neg h3]
        by_cases h4 : a = w + 2 ∧ b < 144
        · rw [if_pos h4, if_pos h4, if_neg (by omega)]
        · rw [if_neg h4, if_neg h4]
theorem wg_15 (M : MM) (w : Nat) (R : Row) : wset M w R w 15 = R 11 := by simp [wset]
theorem wp_15 (M : MM) (w : Nat) (R : Row) (v : Int32) : up (wset M w R) w 15 v = wset M w (upd R 11 v) := by
  funext a b
  simp only [up, wset, upd]
  by_cases h1 : a = w ∧ 4 ≤ b ∧ b < 17
  · rw [if_pos h1, if_pos h1]
    by_cases e : b = 15
    · rw [if_pos ⟨h1.1, e⟩, if_pos (by omega)]
    · rw [if_neg (fun q => e q.2), if_neg (by omega)]
  · rw [if_neg h1, if_neg h1, if_neg (fun q => h1 ⟨q.1, by omega, by omega⟩)]
    by_cases h2 : a = w + 3 ∧ b < 24
    · rw [if_pos h2, if_pos h2, if_neg (by omega)]
    · rw [if_neg h2, if_neg h2]
      by_cases h3 : a = w + 1 ∧ b < 144
      · rw [if_pos h3, if_pos h3, if_neg (by omega)]
      · rw [if_neg h3, if_neg h3]
        by_cases h4 : a = w + 2 ∧ b < 144
        · rw [if_pos h4, if_pos h4, if_neg (by omega)]
        · rw [if_neg h4, if_neg h4]
theorem wg_16 (M : MM) (w : Nat) (R : Row) : wset M w R w 16 = R 12 := by simp [wset]
theorem wp_16 (M : MM) (w : Nat) (R : Row) (v : Int32) : up (wset M w R) w 16 v = wset M w (upd R 12 v) := by
  funext a b
  simp only [up, wset, upd]
  by_cases h1 : a = w ∧ 4 ≤ b ∧ b < 17
  · rw [if_pos h1, if_pos h1]
    by_cases e : b = 16
    · rw [if_pos ⟨h1.1, e⟩, if_pos (by omega)]
    · rw [if_neg (fun q => e q.2), if_neg (by omega)]
  · rw [if_neg h1, if_neg h1, if_neg (fun q => h1 ⟨q.1, by omega, by omega⟩)]
    by_cases h2 : a = w + 3 ∧ b < 24
    · rw [if_pos h2, if_pos h2, if_neg (by omega)]
    · rw [if_neg h2, if_neg h2]
      by_cases h3 : a = w + 1 ∧ b < 144
      · rw [if_pos h3, if_pos h3, if_neg (by omega)]
      · rw [if_neg h3, if_neg h3]
        by_cases h4 : a = w + 2 ∧ b < 144
        · rw [if_pos h4, if_pos h4, if_neg (by omega)]
        · rw [if_neg h4, if_neg h4]
theorem wg_w (M : MM) (w : Nat) (R : Row) {p : Nat} (h : p < 144) : wset M w R (w + 1) p = R (37 + p) := by
  simp only [wset]
  have e0 : ¬ (w + 1 = w ∧ 4 ≤ p ∧ p < 17) := by omega
  rw [if_neg e0, if_neg (by omega), if_pos ⟨trivial, h⟩]
theorem wp_w (M : MM) (w : Nat) (R : Row) (v : Int32) {p : Nat} (h : p < 144) : up (wset M w R) (w + 1) p v = wset M w (upd R (37 + p) v) := by
  funext a b
  simp only [up, wset, upd]
  by_cases h1 : a = w ∧ 4 ≤ b ∧ b < 17
  · rw [if_pos h1, if_pos h1, if_neg (by omega), if_neg (by omega)]
  · rw [if_neg h1, if_neg h1]
    by_cases h2 : a = w + 3 ∧ b < 24
    · rw [if_pos h2, if_pos h2]
      by_cases e : a = w + 1 ∧ b = p
      · rw [if_pos e, if_pos (by omega)]
      · rw [if_neg e, if_neg (by omega)]
    · rw [if_neg h2, if_neg h2]
      by_cases h3 : a = w + 1 ∧ b < 144
      · rw [if_pos h3, if_pos h3]
        by_cases e : a = w + 1 ∧ b = p
        · rw [if_pos e, if_pos (by omega)]
        · rw [if_neg e, if_neg (by omega)]
      · rw [if_neg h3, if_neg h3]
        by_cases h4 : a = w + 2 ∧ b < 144
        · rw [if_pos h4, if_pos h4]
          by_cases e : a = w + 1 ∧ b = p
          · rw [if_pos e, if_pos (by omega)]
          · rw [if_neg e, if_neg (by omega)]
        · rw [if_neg h4, if_neg h4, if_neg (by omega)]
theorem wg_m (M : MM) (w : Nat) (R : Row) {p : Nat} (h : p < 144) : wset M w R (w + 2) p = R (181 + p) := by
  simp only [wset]
  have e0 : ¬ (w + 2 = w ∧ 4 ≤ p ∧ p < 17) := by omega
  rw [if_neg e0, if_neg (by omega), if_neg (by omega), if_pos ⟨trivial, h⟩]
theorem wp_m (M : MM) (w : Nat) (R : Row) (v : Int32) {p : Nat} (h : p < 144) : up (wset M w R) (w + 2) p v = wset M w (upd R (181 + p) v) := by
  funext a b
  simp only [up, wset, upd]
  by_cases h1 : a = w ∧ 4 ≤ b ∧ b < 17
  · rw [if_pos h1, if_pos h1, if_neg (by omega), if_neg (by omega)]
  · rw [if_neg h1, if_neg h1]
    by_cases h2 : a = w + 3 ∧ b < 24
    · rw [if_pos h2, if_pos h2]
      by_cases e : a = w + 2 ∧ b = p
      · rw [if_pos e, if_pos (by omega)]
      · rw [if_neg e, if_neg (by omega)]
    · rw [if_neg h2, if_neg h2]
      by_cases h3 : a = w + 1 ∧ b < 144
      · rw [if_pos h3, if_pos h3]
        by_cases e : a = w + 2 ∧ b = p
        · rw [if_pos e, if_pos (by omega)]
        · rw [if_neg e, if_neg (by omega)]
      · rw [if_neg h3, if_neg h3]
        by_cases h4 : a = w + 2 ∧ b < 144
        · rw [if_pos h4, if_pos h4]
          by_cases e : a = w + 2 ∧ b = p
          · rw [if_pos e, if_pos (by omega)]
          · rw [if_neg e, if_neg (by omega)]
        · rw [if_neg h4, if_neg h4, if_neg (by omega)]
theorem wg_b (M : MM) (w : Nat) (R : Row) {p : Nat} (h : p < 24) : wset M w R (w + 3) p = R (13 + p) := by
  simp only [wset]
  have e0 : ¬ (w + 3 = w ∧ 4 ≤ p ∧ p < 17) := by omega
  rw [if_neg e0, if_pos ⟨trivial, h⟩]
theorem wp_b (M : MM) (w : Nat) (R : Row) (v : Int32) {p : Nat} (h : p < 24) : up (wset M w R) (w + 3) p v = wset M w (upd R (13 + p) v) := by
  funext a b
  simp only [up, wset, upd]
  by_cases h1 : a = w ∧ 4 ≤ b ∧ b < 17
  · rw [if_pos h1, if_pos h1, if_neg (by omega), if_neg (by omega)]
  · rw [if_neg h1, if_neg h1]
    by_cases h2 : a = w + 3 ∧ b < 24
    · rw [if_pos h2, if_pos h2]
      by_cases e : a = w + 3 ∧ b = p
      · rw [if_pos e, if_pos (by omega)]
      · rw [if_neg e, if_neg (by omega)]
    · rw [if_neg h2, if_neg h2]
      by_cases h3 : a = w + 1 ∧ b < 144
      · rw [if_pos h3, if_pos h3]
        by_cases e : a = w + 3 ∧ b = p
        · rw [if_pos e, if_pos (by omega)]
        · rw [if_neg e, if_neg (by omega)]
      · rw [if_neg h3, if_neg h3]
        by_cases h4 : a = w + 2 ∧ b < 144
        · rw [if_pos h4, if_pos h4]
          by_cases e : a = w + 3 ∧ b = p
          · rw [if_pos e, if_pos (by omega)]
          · rw [if_neg e, if_neg (by omega)]
        · rw [if_neg h4, if_neg h4, if_neg (by omega)]
end WROW
end
section
section WALL1
variable {E : VE} {Sh : Nat → SE} {N : Nat} {G : Bool} {M : MM} {w yd : Nat} {R : Row}
theorem w_isHollow (hA : WA Sh N w yd) {x : Int32} (p : Nat) (hx : x = nI p) (hp : p < 144) : Con E mX8_isHollow 1 0 0 [.ref w, .int x] Sh N G (wset M w R) (P1 (some (.int (if R (181 + p) &&& nI 2 = nI 2 then 1 else 0))) Sh N (wset M w R)) nox := by
  subst hx
  obtain ⟨a0, a1, a2, a3, a4, a5⟩ := hA
  refine Con.ofQ (by decide +kernel) (by simp [Value.category]) (Nat.le_of_ble_eq_true rfl) (fun k C0 Q hQ => ?_)
  have C : CK k E mX8_isHollow kdX8_isHollow 1 0 0 := ⟨C0, kdX8_isHollow_ok⟩
  refine r_aload_n C 0 rfl rfl rfl rfl ?_
  refine r_getv C rfl f_X8_15 (by assumption) rfl ?_
  refine r_iload_n C 1 rfl rfl rfl ?_
  refine r_iald C rfl (by assumption) (p) rfl hp (by decide) ?_
  refine r_top _ (wg_m _ _ _ hp) ?_
  refine r_ic (v := nI 2) C rfl (by decide) ?_
  refine r_iand C rfl ?_
  refine r_if_eq C 15 rfl (by decide) (fun h => ?_) (fun h => ?_)
  · refine r_ic (v := nI 0) C rfl (by decide) ?_
    exact q_iret C hQ rfl rfl rfl ⟨by rw [if_neg (fun q => (hol_iff _).mp q h)]; rfl, rfl, rfl, rfl⟩
  · refine r_ic (v := nI 1) C rfl (by decide) ?_
    refine r_goto C 16 rfl (by decide) ?_
    exact q_iret C hQ rfl rfl rfl ⟨by rw [if_pos ((hol_iff _).mpr h)]; rfl, rfl, rfl, rfl⟩
theorem w_isCracked (hA : WA Sh N w yd) {x : Int32} (p : Nat) (hx : x = nI p) (hp : p < 144) : Con E mX8_isCracked 1 0 0 [.ref w, .int x] Sh N G (wset M w R) (P1 (some (.int (if R (181 + p) &&& nI 1 = nI 1 then 1 else 0))) Sh N (wset M w R)) nox := by
  subst hx
  obtain ⟨a0, a1, a2, a3, a4, a5⟩ := hA
  refine Con.ofQ (by decide +kernel) (by simp [Value.category]) (Nat.le_of_ble_eq_true rfl) (fun k C0 Q hQ => ?_)
  have C : CK k E mX8_isCracked kdX8_isCracked 1 0 0 := ⟨C0, kdX8_isCracked_ok⟩
  refine r_aload_n C 0 rfl rfl rfl rfl ?_
  refine r_getv C rfl f_X8_15 (by assumption) rfl ?_
  refine r_iload_n C 1 rfl rfl rfl ?_
  refine r_iald C rfl (by assumption) (p) rfl hp (by decide) ?_
  refine r_top _ (wg_m _ _ _ hp) ?_
  refine r_ic (v := nI 1) C rfl (by decide) ?_
  refine r_iand C rfl ?_
  refine r_if_eq C 15 rfl (by decide) (fun h => ?_) (fun h => ?_)
  · refine r_ic (v := nI 0) C rfl (by decide) ?_
    exact q_iret C hQ rfl rfl rfl ⟨by rw [if_neg (fun q => (crk_iff _).mp q h)]; rfl, rfl, rfl, rfl⟩
  · refine r_ic (v := nI 1) C rfl (by decide) ?_
    refine r_goto C 16 rfl (by decide) ?_
    exact q_iret C hQ rfl rfl rfl ⟨by rw [if_pos ((crk_iff _).mpr h)]; rfl, rfl, rfl, rfl⟩
theorem w_stiff (hA : WA Sh N w yd) {x : Int32} (p : Nat) (hx : x = nI p) (hp : p < 144) : Con E mX8_stiffness 1 0 0 [.ref w, .int x] Sh N G (wset M w R) (P1 (some (.int (if nI 180 ≤ R (37 + p) then nI 2 else if nI 120 < R (37 + p) then nI 1 else nI 0))) Sh N (wset M w R)) nox := by
  subst hx
  obtain ⟨a0, a1, a2, a3, a4, a5⟩ := hA
  refine Con.ofQ (by decide +kernel) (by simp [Value.category]) (Nat.le_of_ble_eq_true rfl) (fun k C0 Q hQ => ?_)
  have C : CK k E mX8_stiffness kdX8_stiffness 1 0 0 := ⟨C0, kdX8_stiffness_ok⟩
  refine r_aload_n C 0 rfl rfl rfl rfl ?_
  refine r_getv C rfl f_X8_9 (by assumption) rfl ?_
  refine r_iload_n C 1 rfl rfl rfl ?_
  refine r_iald C rfl (by assumption) (p) rfl hp (by decide) ?_
  refine r_top _ (wg_w _ _ _ hp) ?_
  refine r_si (v := nI 180) C rfl (by decide) ?_
  refine r_icmp_lt C 14 rfl (by decide) (fun h => ?_) (fun h => ?_)
  · refine r_aload_n C 0 rfl rfl rfl rfl ?_
    refine r_getv C rfl f_X8_9 (by assumption) rfl ?_
    refine r_iload_n C 1 rfl rfl rfl ?_
    refine r_iald C rfl (by assumption) (p) rfl hp (by decide) ?_
    refine r_top _ (wg_w _ _ _ hp) ?_
    refine r_bi (v := nI 120) C rfl (by decide) ?_
    refine r_icmp_gt C 29 rfl (by decide) (fun h2 => ?_) (fun h2 => ?_)
    · refine r_ic (v := nI 1) C rfl (by decide) ?_
      exact q_iret C hQ rfl rfl rfl ⟨by rw [if_neg (Int32.not_le.mpr h), if_pos h2], rfl, rfl, rfl⟩
    · refine r_ic (v := nI 0) C rfl (by decide) ?_
      refine r_goto C 30 rfl (by decide) ?_
      exact q_iret C hQ rfl rfl rfl ⟨by rw [if_neg (Int32.not_le.mpr h), if_neg h2], rfl, rfl, rfl⟩
  · refine r_ic (v := nI 2) C rfl (by decide) ?_
    exact q_iret C hQ rfl rfl rfl ⟨by rw [if_pos (Int32.not_lt.mp h)], rfl, rfl, rfl⟩
theorem clip (x : Int32) : (if x < 0 then nI 0 else if nI 60 < x then nI 60 else x) = mx 0 (mi (nI 60) x) := by
  have z : (nI 60).toInt = 60 := by decide
  have z0 : (0 : Int32).toInt = 0 := by decide
  simp only [mx, mi, Int32.lt_iff_toInt_lt, z, z0]
  by_cases h3 : x.toInt < 60
  · simp only [if_pos h3]
    rw [if_neg (show ¬ 60 < x.toInt by omega)]
    by_cases h : x.toInt < 0
    · rw [if_pos h, if_neg (by omega)]; rfl
    · rw [if_neg h]
      by_cases h4 : 0 < x.toInt
      · rw [if_pos h4]
      · rw [if_neg h4]
        exact Int32.toInt_inj.mp (by rw [z0]; omega)
  · simp only [if_neg h3, z]
    rw [if_neg (show ¬ x.toInt < 0 by omega), if_pos (show (0 : Int) < 60 by decide)]
    by_cases h2 : 60 < x.toInt
    · rw [if_pos h2]
    · rw [if_neg h2]
      exact Int32.toInt_inj.mp (by rw [z]; omega)
theorem w_strength (hA : WA Sh N w yd) {x : Int32} (p : Nat) (hx : x = nI p) (hp : p < 144) : Con E mX8_strength 1 0 0 [.ref w, .int x] Sh N G (wset M w R) (P1 (some (.int (strg (M yd 8) (M yd 6) R p))) Sh N (wset M w R)) nox := by
  subst hx
  obtain ⟨a0, a1, a2, a3, ⟨b0, b1, b2, b3⟩, a5⟩ := hA
  refine Con.ofQ (by decide +kernel) (by simp [Value.category]) (Nat.le_of_ble_eq_true rfl) (fun k C0 Q hQ => ?_)
  have C : CK k E mX8_strength kdX8_strength 1 0 0 := ⟨C0, kdX8_strength_ok⟩
  refine r_aload_n C 0 rfl rfl rfl rfl ?_
  refine r_getv C rfl f_X8_15 (by assumption) rfl ?_
  refine r_iload_n C 1 rfl rfl rfl ?_
  refine r_iald C rfl (by assumption) (p) rfl hp (by decide) ?_
  refine r_top _ (wg_m _ _ _ hp) ?_
  refine r_ic (v := nI 2) C rfl (by decide) ?_
  refine r_iand C rfl ?_
  refine r_if_eq C 13 rfl (by decide) (fun h => ?_) (fun h => ?_)
  · have h : ¬ R (181 + p) &&& nI 2 = nI 2 := fun q => (hol_iff _).mp q h
    have k44 : ∀ z : Int32, z = mx 0 (mi (nI 60) (nI 180 - R (37 + p))) → PT k E Q 0 0 Sh N G (wset M w R) 44 [some (.ref w), some (.int (nI p)), some (.int (nI 180 - R (37 + p))), none, none] [.int z] := by
      intro z hz
      refine r_istore_n C 3 rfl rfl (by exact Nat.le_of_ble_eq_true rfl) ?_
      refine r_aload_n C 0 rfl rfl rfl rfl ?_
      refine r_getv C rfl f_X8_25 (by assumption) rfl ?_
      refine r_geti C rfl f_X8_97 (by assumption) rfl ?_
      refine r_top _ (wset_lo _ _ (by omega)) ?_
      refine r_aload_n C 0 rfl rfl rfl rfl ?_
      refine r_getv C rfl f_X8_25 (by assumption) rfl ?_
      refine r_geti C rfl f_X8_100 (by assumption) rfl ?_
      refine r_top _ (wset_lo _ _ (by omega)) ?_
      refine r_iload_n C 3 rfl rfl rfl ?_
      refine r_imul C rfl ?_
      refine r_bi (v := nI 60) C rfl (by decide) ?_
      refine r_idiv C rfl (by decide) ?_
      refine r_iadd C rfl ?_
      refine r_istore C rfl (by exact Nat.le_of_ble_eq_true rfl) ?_
      refine r_aload_n C 0 rfl rfl rfl rfl ?_
      refine r_getv C rfl f_X8_15 (by assumption) rfl ?_
      refine r_iload_n C 1 rfl rfl rfl ?_
      refine r_iald C rfl (by assumption) (p) rfl hp (by decide) ?_
      refine r_top _ (wg_m _ _ _ hp) ?_
      refine r_ic (v := nI 1) C rfl (by decide) ?_
      refine r_iand C rfl ?_
      refine r_if_eq C 85 rfl (by decide) (fun h2 => ?_) (fun h2 => ?_)
      · have h2 : ¬ R (181 + p) &&& nI 1 = nI 1 := fun q => (crk_iff _).mp q h2
        refine r_iload C rfl rfl ?_
        exact q_iret C hQ rfl rfl rfl ⟨by rw [strg, if_neg h, if_neg h2, hz], rfl, rfl, rfl⟩
      · have h2 := (crk_iff _).mpr h2
        refine r_iload C rfl rfl ?_
        refine r_ic (v := nI 2) C rfl (by decide) ?_
        refine r_idiv C rfl (by decide) ?_
        refine r_goto C 87 rfl (by decide) ?_
        exact q_iret C hQ rfl rfl rfl ⟨by rw [strg, if_neg h, if_pos h2, hz], rfl, rfl, rfl⟩
    refine r_si (v := nI 180) C rfl (by decide) ?_
    refine r_aload_n C 0 rfl rfl rfl rfl ?_
    refine r_getv C rfl f_X8_9 (by assumption) rfl ?_
    refine r_iload_n C 1 rfl rfl rfl ?_
    refine r_iald C rfl (by assumption) (p) rfl hp (by decide) ?_
    refine r_top _ (wg_w _ _ _ hp) ?_
    refine r_isub C rfl ?_
    refine r_istore_n C 2 rfl rfl (by exact Nat.le_of_ble_eq_true rfl) ?_
    refine r_iload_n C 2 rfl rfl rfl ?_
    refine r_if_ge C 32 rfl (by decide) (fun h2 => ?_) (fun h2 => ?_)
    · refine r_iload_n C 2 rfl rfl rfl ?_
      refine r_bi (v := nI 60) C rfl (by decide) ?_
      refine r_icmp_le C 43 rfl (by decide) (fun h3 => ?_) (fun h3 => ?_)
      · refine r_iload_n C 2 rfl rfl rfl ?_
        exact k44 _ (by rw [← clip, if_neg (Int32.not_lt.mpr h2), if_neg (Int32.not_lt.mpr h3)])
      · refine r_bi (v := nI 60) C rfl (by decide) ?_
        refine r_goto C 44 rfl (by decide) ?_
        exact k44 _ (by rw [← clip, if_neg (Int32.not_lt.mpr h2), if_pos (Int32.not_le.mp h3)])
    · refine r_ic (v := nI 0) C rfl (by decide) ?_
      refine r_goto C 44 rfl (by decide) ?_
      exact k44 _ (by rw [← clip, if_pos (Int32.not_le.mp h2)])
  · refine r_ic (v := nI 0) C rfl (by decide) ?_
    exact q_iret C hQ rfl rfl rfl ⟨by rw [strg, if_pos ((hol_iff _).mpr h)]; rfl, rfl, rfl, rfl⟩
theorem w_load (hA : WA Sh N w yd) {x : Int32} (p : Nat) (hx : x = nI p) (hp : p < 144) : Con E mX8_load 1 0 0 [.ref w, .int x] Sh N G (wset M w R) (P1 (some (.int (lod R p))) Sh N (wset M w R)) nox := by
  subst hx
  obtain ⟨a0, a1, a2, a3, a4, a5⟩ := hA
  refine Con.ofQ (by decide +kernel) (by simp [Value.category]) (Nat.le_of_ble_eq_true rfl) (fun k C0 Q hQ => ?_)
  have C : CK k E mX8_load kdX8_load 1 0 0 := ⟨C0, kdX8_load_ok⟩
  refine r_aload_n C 0 rfl rfl rfl rfl ?_
  refine r_getv C rfl f_X8_15 (by assumption) rfl ?_
  refine r_iload_n C 1 rfl rfl rfl ?_
  refine r_iald C rfl (by assumption) (p) rfl hp (by decide) ?_
  refine r_top _ (wg_m _ _ _ hp) ?_
  refine r_ic (v := nI 2) C rfl (by decide) ?_
  refine r_iand C rfl ?_
  refine r_if_eq C 15 rfl (by decide) (fun h => ?_) (fun h => ?_)
  · refine r_bi (v := nI 10) C rfl (by decide) ?_
    refine r_aload_n C 0 rfl rfl rfl rfl ?_
    refine r_getv C rfl f_X8_9 (by assumption) rfl ?_
    refine r_iload_n C 1 rfl rfl rfl ?_
    refine r_iald C rfl (by assumption) (p) rfl hp (by decide) ?_
    refine r_top _ (wg_w _ _ _ hp) ?_
    refine r_bi (v := nI 50) C rfl (by decide) ?_
    refine r_idiv C rfl (by decide) ?_
    refine r_iadd C rfl ?_
    exact q_iret C hQ rfl rfl rfl ⟨by rw [lod, if_neg (fun q => (hol_iff _).mp q h)], rfl, rfl, rfl⟩
  · refine r_ic (v := nI 0) C rfl (by decide) ?_
    refine r_goto C 27 rfl (by decide) ?_
    exact q_iret C hQ rfl rfl rfl ⟨by rw [lod, if_pos ((hol_iff _).mpr h)]; rfl, rfl, rfl, rfl⟩
theorem w_propBears (hA : WA Sh N w yd) (h7 : R 7 = 0 ∨ R 7 = 1) : Con E mX8_propBears 1 0 0 [.ref w] Sh N G (wset M w R) (P1 (some (.int (R 7 * nI 50))) Sh N (wset M w R)) nox := by
  obtain ⟨a0, a1, a2, a3, a4, a5⟩ := hA
  refine Con.ofQ (by decide +kernel) (by simp [Value.category]) (Nat.le_of_ble_eq_true rfl) (fun k C0 Q hQ => ?_)
  have C : CK k E mX8_propBears kdX8_propBears 1 0 0 := ⟨C0, kdX8_propBears_ok⟩
  refine r_aload_n C 0 rfl rfl rfl rfl ?_
  refine r_geti C rfl f_X8_59 (by assumption) rfl ?_
  refine r_top _ (wg_11 _ _ _) ?_
  refine r_if_eq C 12 rfl (by decide) (fun h => ?_) (fun h => ?_)
  · refine r_ic (v := nI 0) C rfl (by decide) ?_
    exact q_iret C hQ rfl rfl rfl ⟨by rw [h]; rfl, rfl, rfl, rfl⟩
  · refine r_bi (v := nI 50) C rfl (by decide) ?_
    refine r_goto C 13 rfl (by decide) ?_
    have h : R 7 = 1 := h7.resolve_left h
    exact q_iret C hQ rfl rfl rfl ⟨by rw [h]; rfl, rfl, rfl, rfl⟩
theorem w_bears (hA : WA Sh N w yd) {x : Int32} (dp mn l : Nat) (hW : WF R dp mn) (h7 : R 7 = 0 ∨ R 7 = 1) (hx : x = nI l) (hl : l < 24) : Con E mX8_bears 2 0 0 [.ref w, .int x] Sh N G (wset M w R) (P1 (some (.int (bear (M yd 8) (M yd 6) R dp l))) Sh N (wset M w R)) nox := by
  subst hx
  obtain ⟨w0, w1, w2, w3, w4⟩ := hW
  have hA' := hA
  obtain ⟨a0, a1, a2, a3, a4, a5⟩ := hA
  refine Con.ofQ (by decide +kernel) (by simp [Value.category]) (Nat.le_of_ble_eq_true rfl) (fun k C0 Q hQ => ?_)
  have C : CK k E mX8_bears kdX8_bears 2 0 0 := ⟨C0, kdX8_bears_ok⟩
  have loop : ∀ n c : Nat, c ≤ dp → dp - c < n → PT k E Q 0 0 Sh N G (wset M w R) 13 [some (.ref w), some (.int (nI l)), some (.int (nI (6 * l))), some (.int (R 7 * nI 50 + sm (fun c => strg (M yd 8) (M yd 6) R (6 * l + c)) c)), some (.int (nI (6 * l + c)))] [] := by
    intro n
    induction n with
    | zero => intro i _ h; omega
    | succ n ih =>
      intro c hc hn
      refine r_iload C rfl rfl ?_
      refine r_iload_n C 2 rfl rfl rfl ?_
      refine r_aload_n C 0 rfl rfl rfl rfl ?_
      refine r_geti C rfl f_X8_21 (by assumption) rfl ?_
      refine r_top _ (wg_4 _ _ _) ?_
      refine r_iadd C rfl ?_
      refine r_top (nI (6 * l + dp)) (by rw [w0, nI_add]) ?_
      refine r_icmp_ge C 39 rfl (by decide) (fun h => ?_) (fun h => ?_)
      · have h := le_nI (by omega) (by omega) h
        have e : c = dp := by omega
        subst e
        refine r_iload_n C 3 rfl rfl rfl ?_
        exact q_iret C hQ rfl rfl rfl ⟨rfl, rfl, rfl, rfl⟩
      · have h := nle_nI (by omega) (by omega) h
        refine r_iload_n C 3 rfl rfl rfl ?_
        refine r_aload_n C 0 rfl rfl rfl rfl ?_
        refine r_iload C rfl rfl ?_
        refine v1_r C rfl mfX8_strength lk_X8_107 (by assumption) (w_strength hA' (6 * l + c) rfl (by omega)) ?_
        refine r_iadd C rfl ?_
        refine r_istore_n C 3 rfl rfl (by exact Nat.le_of_ble_eq_true rfl) ?_
        refine r_iinc (c := nI 1) C rfl rfl (by decide) ?_
        refine r_goto C 13 rfl (by decide) ?_
        refine r_eqL ?_ (ih (c + 1) (by omega) (by omega))
        rw [show 6 * l + (c + 1) = 6 * l + c + 1 by omega]
        first | rfl | (simp only [sm, add3, nI_add, Int32.add_zero, Int32.zero_add]; rfl)
  refine r_iload_n C 1 rfl rfl rfl ?_
  refine r_bi (v := nI 6) C rfl (by decide) ?_
  refine r_imul C rfl ?_
  refine r_top (nI (6 * l)) (by rw [pk_mul, Nat.mul_comm]) ?_
  refine r_istore_n C 2 rfl rfl (by exact Nat.le_of_ble_eq_true rfl) ?_
  refine r_aload_n C 0 rfl rfl rfl rfl ?_
  refine v0_r C rfl mfX8_propBears lk_X8_103 (by assumption) (w_propBears hA' h7) ?_
  refine r_istore_n C 3 rfl rfl (by exact Nat.le_of_ble_eq_true rfl) ?_
  refine r_iload_n C 2 rfl rfl rfl ?_
  refine r_istore C rfl (by exact Nat.le_of_ble_eq_true rfl) ?_
  exact r_eqL (by first | rfl | (simp only [sm, Int32.add_zero]; rfl)) (loop (dp + 1) 0 (by omega) (by omega))
theorem w_loads (hA : WA Sh N w yd) {x : Int32} (dp mn l : Nat) (hW : WF R dp mn) (hx : x = nI l) (hl : l < 24) : Con E mX8_loads 2 0 0 [.ref w, .int x] Sh N G (wset M w R) (P1 (some (.int (lods R dp l))) Sh N (wset M w R)) nox := by
  subst hx
  obtain ⟨w0, w1, w2, w3, w4⟩ := hW
  have hA' := hA
  obtain ⟨a0, a1, a2, a3, a4, a5⟩ := hA
  refine Con.ofQ (by decide +kernel) (by simp [Value.category]) (Nat.le_of_ble_eq_true rfl) (fun k C0 Q hQ => ?_)
  have C : CK k E mX8_loads kdX8_loads 2 0 0 := ⟨C0, kdX8_loads_ok⟩
  have loop : ∀ n c : Nat, c ≤ dp → dp - c < n → PT k E Q 0 0 Sh N G (wset M w R) 10 [some (.ref w), some (.int (nI l)), some (.int (nI (6 * l))), some (.int (sm (fun c => lod R (6 * l + c)) c)), some (.int (nI (6 * l + c)))] [] := by
    intro n
    induction n with
    | zero => intro i _ h; omega
    | succ n ih =>
      intro c hc hn
      refine r_iload C rfl rfl ?_
      refine r_iload_n C 2 rfl rfl rfl ?_
      refine r_aload_n C 0 rfl rfl rfl rfl ?_
      refine r_geti C rfl f_X8_21 (by assumption) rfl ?_
      refine r_top _ (wg_4 _ _ _) ?_
      refine r_iadd C rfl ?_
      refine r_top (nI (6 * l + dp)) (by rw [w0, nI_add]) ?_
      refine r_icmp_ge C 36 rfl (by decide) (fun h => ?_) (fun h => ?_)
      · have h := le_nI (by omega) (by omega) h
        have e : c = dp := by omega
        subst e
        refine r_iload_n C 3 rfl rfl rfl ?_
        exact q_iret C hQ rfl rfl rfl ⟨rfl, rfl, rfl, rfl⟩
      · have h := nle_nI (by omega) (by omega) h
        refine r_iload_n C 3 rfl rfl rfl ?_
        refine r_aload_n C 0 rfl rfl rfl rfl ?_
        refine r_iload C rfl rfl ?_
        refine v1_r C rfl mfX8_load lk_X8_110 (by assumption) (w_load hA' (6 * l + c) rfl (by omega)) ?_
        refine r_iadd C rfl ?_
        refine r_istore_n C 3 rfl rfl (by exact Nat.le_of_ble_eq_true rfl) ?_
        refine r_iinc (c := nI 1) C rfl rfl (by decide) ?_
        refine r_goto C 10 rfl (by decide) ?_
        refine r_eqL ?_ (ih (c + 1) (by omega) (by omega))
        rw [show 6 * l + (c + 1) = 6 * l + c + 1 by omega]
        first | rfl | (simp only [sm, add3, nI_add, Int32.add_zero, Int32.zero_add]; rfl)
  refine r_iload_n C 1 rfl rfl rfl ?_
  refine r_bi (v := nI 6) C rfl (by decide) ?_
  refine r_imul C rfl ?_
  refine r_top (nI (6 * l)) (by rw [pk_mul, Nat.mul_comm]) ?_
  refine r_istore_n C 2 rfl rfl (by exact Nat.le_of_ble_eq_true rfl) ?_
  refine r_ic (v := nI 0) C rfl (by decide) ?_
  refine r_istore_n C 3 rfl rfl (by exact Nat.le_of_ble_eq_true rfl) ?_
  refine r_iload_n C 2 rfl rfl rfl ?_
  refine r_istore C rfl (by exact Nat.le_of_ble_eq_true rfl) ?_
  exact loop (dp + 1) 0 (by omega) (by omega)
theorem w_presses (hA : WA Sh N w yd) {x : Int32} (dp mn l : Nat) (hW : WF R dp mn) (hx : x = nI l) (hl : l < mn) : Con E mX8_presses 3 0 0 [.ref w, .int x] Sh N G (wset M w R) (P1 (some (.int (prs R dp l (mn - 1 - l)))) Sh N (wset M w R)) nox := by
  subst hx
  have hW' := hW
  obtain ⟨w0, w1, w2, w3, w4⟩ := hW
  have hA' := hA
  obtain ⟨a0, a1, a2, a3, a4, a5⟩ := hA
  refine Con.ofQ (by decide +kernel) (by simp [Value.category]) (Nat.le_of_ble_eq_true rfl) (fun k C0 Q hQ => ?_)
  have C : CK k E mX8_presses kdX8_presses 3 0 0 := ⟨C0, kdX8_presses_ok⟩
  have loop : ∀ n i : Nat, l + 1 + i ≤ mn → mn - (l + 1 + i) < n → PT k E Q 0 0 Sh N G (wset M w R) 6 [some (.ref w), some (.int (nI l)), some (.int (prs R dp l i)), some (.int (nI (l + 1 + i)))] [] := by
    intro n
    induction n with
    | zero => intro i _ h; omega
    | succ n ih =>
      intro i hi hn
      refine r_iload_n C 3 rfl rfl rfl ?_
      refine r_aload_n C 0 rfl rfl rfl rfl ?_
      refine r_geti C rfl f_X8_62 (by assumption) rfl ?_
      refine r_top _ (wg_5 _ _ _) ?_
      refine r_top (nI mn) w3 ?_
      refine r_icmp_ge C 28 rfl (by decide) (fun h => ?_) (fun h => ?_)
      · have h := le_nI (by omega) (by omega) h
        refine r_iload_n C 2 rfl rfl rfl ?_
        exact q_iret C hQ rfl rfl rfl ⟨by rw [show mn - 1 - l = i by omega], rfl, rfl, rfl⟩
      · have h := nle_nI (by omega) (by omega) h
        refine r_iload_n C 2 rfl rfl rfl ?_
        refine r_aload_n C 0 rfl rfl rfl rfl ?_
        refine r_iload_n C 3 rfl rfl rfl ?_
        refine v1_r C rfl mfX8_loads lk_X8_113 (by assumption) (w_loads hA' dp mn (l + 1 + i) hW' rfl (by omega)) ?_
        refine r_iadd C rfl ?_
        refine r_istore_n C 2 rfl rfl (by exact Nat.le_of_ble_eq_true rfl) ?_
        refine r_iinc (c := nI 1) C rfl rfl (by decide) ?_
        refine r_goto C 6 rfl (by decide) ?_
        refine r_eqL ?_ (ih (i + 1) (by omega) (by omega))
        rw [show l + 1 + (i + 1) = l + 1 + i + 1 by omega]
        simp only [nI_add]
        rfl
  refine r_ic (v := nI 0) C rfl (by decide) ?_
  refine r_istore_n C 2 rfl rfl (by exact Nat.le_of_ble_eq_true rfl) ?_
  refine r_iload_n C 1 rfl rfl rfl ?_
  refine r_ic (v := nI 1) C rfl (by decide) ?_
  refine r_iadd C rfl ?_
  refine r_istore_n C 3 rfl rfl (by exact Nat.le_of_ble_eq_true rfl) ?_
  refine r_eqL ?_ (loop (mn + 1) 0 (by omega) (by omega))
  simp only [nI_add]
  rfl
theorem w_pour (hA : WA Sh N w yd) {x v : Int32} (p : Nat) (hx : x = nI p) (hp : p < 144) : Con E mX8_pour 1 0 0 [.ref w, .int x, .int v] Sh N G (wset M w R) (P1 none Sh N (wset M w (wetS p v R))) nox := by
  subst hx
  obtain ⟨a0, a1, a2, a3, a4, a5⟩ := hA
  refine Con.ofQ (by decide +kernel) (by simp [Value.category]) (Nat.le_of_ble_eq_true rfl) (fun k C0 Q hQ => ?_)
  have C : CK k E mX8_pour kdX8_pour 1 0 0 := ⟨C0, kdX8_pour_ok⟩
  refine r_iload_n C 2 rfl rfl rfl ?_
  refine r_si (v := nI 400) C rfl (by decide) ?_
  refine r_aload_n C 0 rfl rfl rfl rfl ?_
  refine r_getv C rfl f_X8_9 (by assumption) rfl ?_
  refine r_iload_n C 1 rfl rfl rfl ?_
  refine r_iald C rfl (by assumption) (p) rfl hp (by decide) ?_
  refine r_top _ (wg_w _ _ _ hp) ?_
  refine r_isub C rfl ?_
  refine r_min C rfl lk_X8_34 ?_
  refine r_istore_n C 3 rfl rfl (by exact Nat.le_of_ble_eq_true rfl) ?_
  refine r_aload_n C 0 rfl rfl rfl rfl ?_
  refine r_getv C rfl f_X8_9 (by assumption) rfl ?_
  refine r_iload_n C 1 rfl rfl rfl ?_
  refine r_dup2 C rfl rfl rfl ?_
  refine r_iald C rfl (by assumption) (p) rfl hp (by decide) ?_
  refine r_top _ (wg_w _ _ _ hp) ?_
  refine r_iload_n C 3 rfl rfl rfl ?_
  refine r_iadd C rfl ?_
  refine r_iast C rfl (by assumption) (p) rfl hp (by decide) ?_
  refine r_eqM (wp_w _ _ _ _ hp) ?_
  refine r_aload_n C 0 rfl rfl rfl rfl ?_
  refine r_dup C rfl rfl ?_
  refine r_geti C rfl f_X8_74 (by assumption) rfl ?_
  refine r_top _ (wg_15 _ _ _) ?_
  refine r_iload_n C 3 rfl rfl rfl ?_
  refine r_iadd C rfl ?_
  refine r_puti C rfl f_X8_74 (by assumption) rfl rfl rfl ?_
  refine r_eqM (wp_15 _ _ _ _) ?_
  refine q_vret C hQ rfl rfl ⟨rfl, rfl, rfl, ?_⟩
  rw [wetS]
  congr 2
  simp only [upd]
  rw [if_neg (by omega)]
theorem w_crack (hA : WA Sh N w yd) {x : Int32} (p : Nat) (hx : x = nI p) (hp : p < 144) : Con E mX8_crack 1 0 0 [.ref w, .int x] Sh N G (wset M w R) (P1 none Sh N (wset M w (upd R (181 + p) (R (181 + p) ||| nI 1)))) nox := by
  subst hx
  obtain ⟨a0, a1, a2, a3, a4, a5⟩ := hA
  refine Con.ofQ (by decide +kernel) (by simp [Value.category]) (Nat.le_of_ble_eq_true rfl) (fun k C0 Q hQ => ?_)
  have C : CK k E mX8_crack kdX8_crack 1 0 0 := ⟨C0, kdX8_crack_ok⟩
  refine r_aload_n C 0 rfl rfl rfl rfl ?_
  refine r_getv C rfl f_X8_15 (by assumption) rfl ?_
  refine r_iload_n C 1 rfl rfl rfl ?_
  refine r_dup2 C rfl rfl rfl ?_
  refine r_iald C rfl (by assumption) (p) rfl hp (by decide) ?_
  refine r_top _ (wg_m _ _ _ hp) ?_
  refine r_ic (v := nI 1) C rfl (by decide) ?_
  refine r_ior C rfl ?_
  refine r_iast C rfl (by assumption) (p) rfl hp (by decide) ?_
  refine r_eqM (wp_m _ _ _ _ hp) ?_
  exact q_vret C hQ rfl rfl ⟨rfl, rfl, rfl, rfl⟩
theorem w_makeHollow (hA : WA Sh N w yd) {x : Int32} (p : Nat) (hx : x = nI p) (hp : p < 144) : Con E mX8_makeHollow 1 0 0 [.ref w, .int x] Sh N G (wset M w R) (P1 none Sh N (wset M w (upd R (181 + p) (R (181 + p) ||| nI 2)))) nox := by
  subst hx
  obtain ⟨a0, a1, a2, a3, a4, a5⟩ := hA
  refine Con.ofQ (by decide +kernel) (by simp [Value.category]) (Nat.le_of_ble_eq_true rfl) (fun k C0 Q hQ => ?_)
  have C : CK k E mX8_makeHollow kdX8_makeHollow 1 0 0 := ⟨C0, kdX8_makeHollow_ok⟩
  refine r_aload_n C 0 rfl rfl rfl rfl ?_
  refine r_getv C rfl f_X8_15 (by assumption) rfl ?_
  refine r_iload_n C 1 rfl rfl rfl ?_
  refine r_dup2 C rfl rfl rfl ?_
  refine r_iald C rfl (by assumption) (p) rfl hp (by decide) ?_
  refine r_top _ (wg_m _ _ _ hp) ?_
  refine r_ic (v := nI 2) C rfl (by decide) ?_
  refine r_ior C rfl ?_
  refine r_iast C rfl (by assumption) (p) rfl hp (by decide) ?_
  refine r_eqM (wp_m _ _ _ _ hp) ?_
  exact q_vret C hQ rfl rfl ⟨rfl, rfl, rfl, rfl⟩
theorem w_evaporate (hA : WA Sh N w yd) {x v : Int32} (p : Nat) (hx : x = nI p) (hp : p < 144) : Con E mX8_evaporate 1 0 0 [.ref w, .int x, .int v] Sh N G (wset M w R) (P1 none Sh N (wset M w (upd (upd R (37 + p) (R (37 + p) - mi v (R (37 + p)))) 12 (R 12 + mi v (R (37 + p)))))) nox := by
  subst hx
  obtain ⟨a0, a1, a2, a3, a4, a5⟩ := hA
  refine Con.ofQ (by decide +kernel) (by simp [Value.category]) (Nat.le_of_ble_eq_true rfl) (fun k C0 Q hQ => ?_)
  have C : CK k E mX8_evaporate kdX8_evaporate 1 0 0 := ⟨C0, kdX8_evaporate_ok⟩
  refine r_iload_n C 2 rfl rfl rfl ?_
  refine r_aload_n C 0 rfl rfl rfl rfl ?_
  refine r_getv C rfl f_X8_9 (by assumption) rfl ?_
  refine r_iload_n C 1 rfl rfl rfl ?_
  refine r_iald C rfl (by assumption) (p) rfl hp (by decide) ?_
  refine r_top _ (wg_w _ _ _ hp) ?_
  refine r_min C rfl lk_X8_34 ?_
  refine r_istore_n C 3 rfl rfl (by exact Nat.le_of_ble_eq_true rfl) ?_
  refine r_aload_n C 0 rfl rfl rfl rfl ?_
  refine r_getv C rfl f_X8_9 (by assumption) rfl ?_
  refine r_iload_n C 1 rfl rfl rfl ?_
  refine r_dup2 C rfl rfl rfl ?_
  refine r_iald C rfl (by assumption) (p) rfl hp (by decide) ?_
  refine r_top _ (wg_w _ _ _ hp) ?_
  refine r_iload_n C 3 rfl rfl rfl ?_
  refine r_isub C rfl ?_
  refine r_iast C rfl (by assumption) (p) rfl hp (by decide) ?_
  refine r_eqM (wp_w _ _ _ _ hp) ?_
  refine r_aload_n C 0 rfl rfl rfl rfl ?_
  refine r_dup C rfl rfl ?_
  refine r_geti C rfl f_X8_77 (by assumption) rfl ?_
  refine r_top _ (wg_16 _ _ _) ?_
  refine r_iload_n C 3 rfl rfl rfl ?_
  refine r_iadd C rfl ?_
  refine r_puti C rfl f_X8_77 (by assumption) rfl rfl rfl ?_
  refine r_eqM (wp_16 _ _ _ _) ?_
  refine q_vret C hQ rfl rfl ⟨rfl, rfl, rfl, ?_⟩
  congr 2
  simp only [upd]
  rw [if_neg (by omega)]
end WALL1
end
section
section WALL2
variable {E : VE} {Sh : Nat → SE} {N : Nat} {G : Bool} {M : MM} {w yd : Nat} {R : Row}
theorem w_waterFrom (hA : WA Sh N w yd) {x : Int32} (dp mn l : Nat) (hW : WF R dp mn) (hx : x = nI l) (hl : l ≤ mn) : Con E mX8_waterFrom 1 0 0 [.ref w, .int x] Sh N G (wset M w R) (P1 (some (.int (wat R dp l (mn - l)))) Sh N (wset M w R)) nox := by
  subst hx
  obtain ⟨w0, w1, w2, w3, w4⟩ := hW
  obtain ⟨a0, a1, a2, a3, a4, a5⟩ := hA
  refine Con.ofQ (by decide +kernel) (by simp [Value.category]) (Nat.le_of_ble_eq_true rfl) (fun k C0 Q hQ => ?_)
  have C : CK k E mX8_waterFrom kdX8_waterFrom 1 0 0 := ⟨C0, kdX8_waterFrom_ok⟩
  have inner : ∀ (i : Nat), l + i < mn → (∀ z : Int32, z = wat R dp l (i + 1) → ∀ v4 v5 : Option Value, PT k E Q 0 0 Sh N G (wset M w R) 54 [some (.ref w), some (.int (nI l)), some (.int z), some (.int (nI (l + i))), v4, v5] []) → ∀ n c : Nat, c ≤ dp → dp - c < n → PT k E Q 0 0 Sh N G (wset M w R) 26 [some (.ref w), some (.int (nI l)), some (.int (wat R dp l i + sm (fun c => R (37 + (6 * (l + i) + c))) c)), some (.int (nI (l + i))), some (.int (nI (6 * (l + i)))), some (.int (nI (6 * (l + i) + c)))] [] := by
    intro i hi kk
    intro n
    induction n with
    | zero => intro i _ h; omega
    | succ n ih =>
      intro c hc hn
      refine r_iload C rfl rfl ?_
      refine r_iload C rfl rfl ?_
      refine r_aload_n C 0 rfl rfl rfl rfl ?_
      refine r_geti C rfl f_X8_21 (by assumption) rfl ?_
      refine r_top _ (wg_4 _ _ _) ?_
      refine r_iadd C rfl ?_
      refine r_top (nI (6 * (l + i) + dp)) (by rw [w0, nI_add]) ?_
      refine r_icmp_ge C 54 rfl (by decide) (fun h => ?_) (fun h => ?_)
      · have h := le_nI (by omega) (by omega) h
        have e : c = dp := by omega
        subst e
        exact kk _ rfl _ _
      · have h := nle_nI (by omega) (by omega) h
        refine r_iload_n C 2 rfl rfl rfl ?_
        refine r_aload_n C 0 rfl rfl rfl rfl ?_
        refine r_getv C rfl f_X8_9 (by assumption) rfl ?_
        refine r_iload C rfl rfl ?_
        refine r_iald C rfl (by assumption) (6 * (l + i) + c) rfl (by omega) (by decide) ?_
        refine r_top _ (wg_w _ _ _ (by omega)) ?_
        refine r_iadd C rfl ?_
        refine r_istore_n C 2 rfl rfl (by exact Nat.le_of_ble_eq_true rfl) ?_
        refine r_iinc (c := nI 1) C rfl rfl (by decide) ?_
        refine r_goto C 26 rfl (by decide) ?_
        refine r_eqL ?_ (ih (c + 1) (by omega) (by omega))
        rw [show 6 * (l + i) + (c + 1) = 6 * (l + i) + c + 1 by omega]
        first | rfl | (simp only [sm, add3, nI_add, Int32.add_zero, Int32.zero_add]; rfl)
  have loop : ∀ n i : Nat, l + i ≤ mn → mn - (l + i) < n → ∀ v4 v5 : Option Value, PT k E Q 0 0 Sh N G (wset M w R) 4 [some (.ref w), some (.int (nI l)), some (.int (wat R dp l i)), some (.int (nI (l + i))), v4, v5] [] := by
    intro n
    induction n with
    | zero => intro i _ h; omega
    | succ n ih =>
      intro i hi hn v4 v5
      refine r_iload_n C 3 rfl rfl rfl ?_
      refine r_if_lt C 60 rfl (by decide) (fun h => absurd h (nI_pos (by omega))) (fun _ => ?_)
      refine r_iload_n C 3 rfl rfl rfl ?_
      refine r_aload_n C 0 rfl rfl rfl rfl ?_
      refine r_geti C rfl f_X8_62 (by assumption) rfl ?_
      refine r_top _ (wg_5 _ _ _) ?_
      refine r_top (nI mn) w3 ?_
      refine r_icmp_ge C 60 rfl (by decide) (fun h => ?_) (fun h => ?_)
      · have h := le_nI (by omega) (by omega) h
        refine r_iload_n C 2 rfl rfl rfl ?_
        exact q_iret C hQ rfl rfl rfl ⟨by rw [show mn - l = i by omega], rfl, rfl, rfl⟩
      · have h := nle_nI (by omega) (by omega) h
        refine r_iload_n C 3 rfl rfl rfl ?_
        refine r_bi (v := nI 6) C rfl (by decide) ?_
        refine r_imul C rfl ?_
        refine r_top (nI (6 * (l + i))) (by rw [pk_mul, Nat.mul_comm]) ?_
        refine r_istore C rfl (by exact Nat.le_of_ble_eq_true rfl) ?_
        refine r_iload C rfl rfl ?_
        refine r_istore C rfl (by exact Nat.le_of_ble_eq_true rfl) ?_
        refine r_eqL ?_ (inner i h (fun z hz v4 v5 => ?_) (dp + 1) 0 (by omega) (by omega))
        · first | rfl | (simp only [sm, add3, nI_add, Int32.add_zero, Int32.zero_add]; rfl)
        · subst hz
          refine r_iinc (c := nI 1) C rfl rfl (by decide) ?_
          refine r_goto C 4 rfl (by decide) ?_
          refine r_eqL ?_ (ih (i + 1) (by omega) (by omega) v4 v5)
          rw [show l + (i + 1) = l + i + 1 by omega]
          first | rfl | (simp only [sm, add3, nI_add, Int32.add_zero, Int32.zero_add]; rfl)
  refine r_ic (v := nI 0) C rfl (by decide) ?_
  refine r_istore_n C 2 rfl rfl (by exact Nat.le_of_ble_eq_true rfl) ?_
  refine r_iload_n C 1 rfl rfl rfl ?_
  refine r_istore_n C 3 rfl rfl (by exact Nat.le_of_ble_eq_true rfl) ?_
  exact loop (mn + 1) 0 (by omega) (by omega) none none
theorem w_dropFrom (hA : WA Sh N w yd) {x : Int32} (dp mn l : Nat) (hW : WF R dp mn) (hx : x = nI l) (hl : l < mn) : Con E mX8_dropFrom 2 0 0 [.ref w, .int x] Sh N G (wset M w R) (P1 none Sh N (wset M w (cutR dp mn l R))) nox := by
  subst hx
  have hW' := hW
  obtain ⟨w0, w1, w2, w3, w4⟩ := hW
  have hA' := hA
  obtain ⟨a0, a1, a2, a3, a4, a5⟩ := hA
  refine Con.ofQ (by decide +kernel) (by simp [Value.category]) (Nat.le_of_ble_eq_true rfl) (fun k C0 Q hQ => ?_)
  have C : CK k E mX8_dropFrom kdX8_dropFrom 2 0 0 := ⟨C0, kdX8_dropFrom_ok⟩
  refine r_iload_n C 1 rfl rfl rfl ?_
  refine r_if_lt C 31 rfl (by decide) (fun h => absurd h (nI_pos (by omega))) (fun _ => ?_)
  refine r_iload_n C 1 rfl rfl rfl ?_
  refine r_aload_n C 0 rfl rfl rfl rfl ?_
  refine r_geti C rfl f_X8_62 (by assumption) rfl ?_
  refine r_top _ (wg_5 _ _ _) ?_
  refine r_top (nI mn) w3 ?_
  refine r_icmp_ge C 31 rfl (by decide) (fun h => ?_) (fun h => ?_)
  · have h := le_nI (by omega) (by omega) h
    omega
  refine r_aload_n C 0 rfl rfl rfl rfl ?_
  refine r_dup C rfl rfl ?_
  refine r_geti C rfl f_X8_77 (by assumption) rfl ?_
  refine r_top _ (wg_16 _ _ _) ?_
  refine r_aload_n C 0 rfl rfl rfl rfl ?_
  refine r_iload_n C 1 rfl rfl rfl ?_
  refine v1_r C rfl mfX8_waterFrom lk_X8_86 (by assumption) (w_waterFrom hA' dp mn l hW' rfl (by omega)) ?_
  refine r_iadd C rfl ?_
  refine r_puti C rfl f_X8_77 (by assumption) rfl rfl rfl ?_
  refine r_eqM (wp_16 _ _ _ _) ?_
  refine r_aload_n C 0 rfl rfl rfl rfl ?_
  refine r_iload_n C 1 rfl rfl rfl ?_
  refine r_puti C rfl f_X8_62 (by assumption) rfl rfl rfl ?_
  refine r_eqM (wp_5 _ _ _ _) ?_
  refine q_vret C hQ rfl rfl ⟨rfl, rfl, rfl, ?_⟩
  congr 1
  funext j
  simp only [upd, cutR]
  grind
theorem w_whyGivesWay (hA : WA Sh N w yd) {x : Int32} (dp mn l : Nat) (hW : WF R dp mn) (hx : x = nI l) (hl : l < 24) : Con E mX8_whyGivesWay 1 0 0 [.ref w, .int x] Sh N G (wset M w R) (P1 (some (.int (whyR R dp l))) Sh N (wset M w R)) nox := by
  subst hx
  obtain ⟨w0, w1, w2, w3, w4⟩ := hW
  obtain ⟨a0, a1, a2, a3, a4, a5⟩ := hA
  refine Con.ofQ (by decide +kernel) (by simp [Value.category]) (Nat.le_of_ble_eq_true rfl) (fun k C0 Q hQ => ?_)
  have C : CK k E mX8_whyGivesWay kdX8_whyGivesWay 1 0 0 := ⟨C0, kdX8_whyGivesWay_ok⟩
  have loop : ∀ n c : Nat, c ≤ dp → dp - c < n → ∀ z : Int32, (¬ z &&& nI 2 = 0 ↔ anyB (fun c => decide (R (181 + (6 * l + c)) &&& nI 2 = nI 2)) c = true) → (¬ z &&& nI 1 = 0 ↔ anyB (fun c => decide (R (181 + (6 * l + c)) &&& nI 1 = nI 1)) c = true) → PT k E Q 0 0 Sh N G (wset M w R) 13 [some (.ref w), some (.int (nI l)), some (.int (nI (6 * l))), some (.int z), some (.int (bI (allB (fun c => decide (nI 180 ≤ R (37 + (6 * l + c)))) c))), some (.int (nI (6 * l + c)))] [] := by
    intro n
    induction n with
    | zero => intro i _ h; omega
    | succ n ih =>
      intro c hc hn z hz2 hz1
      refine r_iload C rfl rfl ?_
      refine r_iload_n C 2 rfl rfl rfl ?_
      refine r_aload_n C 0 rfl rfl rfl rfl ?_
      refine r_geti C rfl f_X8_21 (by assumption) rfl ?_
      refine r_top _ (wg_4 _ _ _) ?_
      refine r_iadd C rfl ?_
      refine r_top (nI (6 * l + dp)) (by rw [w0, nI_add]) ?_
      refine r_icmp_ge C 65 rfl (by decide) (fun h => ?_) (fun h => ?_)
      · have h := le_nI (by omega) (by omega) h
        have e : c = dp := by omega
        subst e
        refine r_iload_n C 3 rfl rfl rfl ?_
        refine r_ic (v := nI 2) C rfl (by decide) ?_
        refine r_iand C rfl ?_
        refine r_if_eq C 73 rfl (by decide) (fun h2 => ?_) (fun h2 => ?_)
        · have h2 := fun q => hz2.mpr q h2
          refine r_iload C rfl rfl ?_
          refine r_if_eq C 80 rfl (by decide) (fun h3 => ?_) (fun h3 => ?_)
          · refine r_iload_n C 3 rfl rfl rfl ?_
            refine r_ic (v := nI 1) C rfl (by decide) ?_
            refine r_iand C rfl ?_
            refine r_if_eq C 90 rfl (by decide) (fun h4 => ?_) (fun h4 => ?_)
            · refine r_ic (v := nI 4) C rfl (by decide) ?_
              exact q_iret C hQ rfl rfl rfl ⟨by rw [whyR, if_neg h2, bI_0 h3, if_neg (by decide), if_neg (fun q => hz1.mpr q h4)], rfl, rfl, rfl⟩
            · refine r_ic (v := nI 3) C rfl (by decide) ?_
              refine r_goto C 91 rfl (by decide) ?_
              exact q_iret C hQ rfl rfl rfl ⟨by rw [whyR, if_neg h2, bI_0 h3, if_neg (by decide), if_pos (hz1.mp h4)], rfl, rfl, rfl⟩
          · refine r_ic (v := nI 2) C rfl (by decide) ?_
            exact q_iret C hQ rfl rfl rfl ⟨by rw [whyR, if_neg h2, if_pos (bI_1 h3)], rfl, rfl, rfl⟩
        · refine r_ic (v := nI 1) C rfl (by decide) ?_
          exact q_iret C hQ rfl rfl rfl ⟨by rw [whyR, if_pos (hz2.mp h2)], rfl, rfl, rfl⟩
      · have h := nle_nI (by omega) (by omega) h
        have hor : ∀ i : Nat, i < 31 → ∀ y : Int32, (¬ (z ||| y) &&& nI (2 ^ i) = 0 ↔ (¬ z &&& nI (2 ^ i) = 0) ∨ ¬ y &&& nI (2 ^ i) = 0) := by
          intro i hi y
          rw [or_and]
          have h2 : ¬ nI (2 ^ i) = 0 := fun q => by
            have := (nI_eq (b := 0) (Nat.pow_lt_pow_right (by decide) hi) (by decide)).mp q
            exact absurd this (Nat.ne_of_gt (Nat.two_pow_pos i))
          rcases and2 z i hi with p1 | p1 <;> rcases and2 y i hi with p2 | p2 <;> rw [p1, p2] <;> simp [h2]
        have k57 : ∀ b : Int32, b = bI (allB (fun c => decide (nI 180 ≤ R (37 + (6 * l + c)))) (c + 1)) → PT k E Q 0 0 Sh N G (wset M w R) 57 [some (.ref w), some (.int (nI l)), some (.int (nI (6 * l))), some (.int (z ||| R (181 + (6 * l + c)))), some (.int (bI (allB (fun c => decide (nI 180 ≤ R (37 + (6 * l + c)))) c))), some (.int (nI (6 * l + c)))] [.int b] := by
          intro b hb
          subst hb
          refine r_istore C rfl (by exact Nat.le_of_ble_eq_true rfl) ?_
          refine r_iinc (c := nI 1) C rfl rfl (by decide) ?_
          refine r_goto C 13 rfl (by decide) ?_
          refine r_eqL ?_ (ih (c + 1) (by omega) (by omega) (z ||| R (181 + (6 * l + c))) ?_ ?_)
          · rw [show 6 * l + (c + 1) = 6 * l + c + 1 by omega]
            first | rfl | (simp only [sm, add3, nI_add, Int32.add_zero, Int32.zero_add]; rfl)
          · rw [anyB, Bool.or_eq_true, ← hz2, decide_eq_true_iff, hol_iff]
            exact hor 1 (by decide) _
          · rw [anyB, Bool.or_eq_true, ← hz1, decide_eq_true_iff, crk_iff]
            exact hor 0 (by decide) _
        refine r_iload_n C 3 rfl rfl rfl ?_
        refine r_aload_n C 0 rfl rfl rfl rfl ?_
        refine r_getv C rfl f_X8_15 (by assumption) rfl ?_
        refine r_iload C rfl rfl ?_
        refine r_iald C rfl (by assumption) (6 * l + c) rfl (by omega) (by decide) ?_
        refine r_top _ (wg_m _ _ _ (by omega)) ?_
        refine r_ior C rfl ?_
        refine r_istore_n C 3 rfl rfl (by exact Nat.le_of_ble_eq_true rfl) ?_
        refine r_iload C rfl rfl ?_
        refine r_if_eq C 56 rfl (by decide) (fun h2 => ?_) (fun h2 => ?_)
        · refine r_ic (v := nI 0) C rfl (by decide) ?_
          exact k57 _ (by rw [allB, bI_0 h2]; rfl)
        refine r_aload_n C 0 rfl rfl rfl rfl ?_
        refine r_getv C rfl f_X8_9 (by assumption) rfl ?_
        refine r_iload C rfl rfl ?_
        refine r_iald C rfl (by assumption) (6 * l + c) rfl (by omega) (by decide) ?_
        refine r_top _ (wg_w _ _ _ (by omega)) ?_
        refine r_si (v := nI 180) C rfl (by decide) ?_
        refine r_icmp_lt C 56 rfl (by decide) (fun h3 => ?_) (fun h3 => ?_)
        · refine r_ic (v := nI 0) C rfl (by decide) ?_
          exact k57 _ (by rw [allB, decide_eq_false (Int32.not_le.mpr h3), Bool.and_false]; rfl)
        · refine r_ic (v := nI 1) C rfl (by decide) ?_
          refine r_goto C 57 rfl (by decide) ?_
          exact k57 _ (by rw [allB, bI_1 h2, decide_eq_true (Int32.not_lt.mp h3)]; rfl)
  refine r_iload_n C 1 rfl rfl rfl ?_
  refine r_bi (v := nI 6) C rfl (by decide) ?_
  refine r_imul C rfl ?_
  refine r_top (nI (6 * l)) (by rw [pk_mul, Nat.mul_comm]) ?_
  refine r_istore_n C 2 rfl rfl (by exact Nat.le_of_ble_eq_true rfl) ?_
  refine r_ic (v := nI 0) C rfl (by decide) ?_
  refine r_istore_n C 3 rfl rfl (by exact Nat.le_of_ble_eq_true rfl) ?_
  refine r_ic (v := nI 1) C rfl (by decide) ?_
  refine r_istore C rfl (by exact Nat.le_of_ble_eq_true rfl) ?_
  refine r_iload_n C 2 rfl rfl rfl ?_
  refine r_istore C rfl (by exact Nat.le_of_ble_eq_true rfl) ?_
  exact loop (dp + 1) 0 (by omega) (by omega) (nI 0) ⟨fun h => absurd (by decide) h, fun h => absurd h (by simp [anyB])⟩ ⟨fun h => absurd (by decide) h, fun h => absurd h (by simp [anyB])⟩
theorem w_fallFrom (hA : WA Sh N w yd) {x : Int32} (dp mn l : Nat) (hW : WF R dp mn) (hx : x = nI l) (hl : l < mn) : Con E mX8_fallFrom 3 0 0 [.ref w, .int x] Sh N G (wset M w R) (P1 none Sh N (wset M w (cutR dp mn l (upd (upd R 10 (whyR R dp l)) 9 (R 9 + nI 1))))) nox := by
  subst hx
  have hW' := hW
  obtain ⟨w0, w1, w2, w3, w4⟩ := hW
  have hA' := hA
  obtain ⟨a0, a1, a2, a3, a4, a5⟩ := hA
  refine Con.ofQ (by decide +kernel) (by simp [Value.category]) (Nat.le_of_ble_eq_true rfl) (fun k C0 Q hQ => ?_)
  have C : CK k E mX8_fallFrom kdX8_fallFrom 3 0 0 := ⟨C0, kdX8_fallFrom_ok⟩
  refine r_iload_n C 1 rfl rfl rfl ?_
  refine r_if_lt C 36 rfl (by decide) (fun h => absurd h (nI_pos (by omega))) (fun _ => ?_)
  refine r_iload_n C 1 rfl rfl rfl ?_
  refine r_aload_n C 0 rfl rfl rfl rfl ?_
  refine r_geti C rfl f_X8_62 (by assumption) rfl ?_
  refine r_top _ (wg_5 _ _ _) ?_
  refine r_top (nI mn) w3 ?_
  refine r_icmp_ge C 36 rfl (by decide) (fun h => ?_) (fun h => ?_)
  · have h := le_nI (by omega) (by omega) h
    omega
  refine r_aload_n C 0 rfl rfl rfl rfl ?_
  refine r_aload_n C 0 rfl rfl rfl rfl ?_
  refine r_iload_n C 1 rfl rfl rfl ?_
  refine v1_r C rfl mfX8_whyGivesWay lk_X8_90 (by assumption) (w_whyGivesWay hA' dp mn l hW' rfl (by omega)) ?_
  refine r_puti C rfl f_X8_71 (by assumption) rfl rfl rfl ?_
  refine r_eqM (wp_14 _ _ _ _) ?_
  refine r_aload_n C 0 rfl rfl rfl rfl ?_
  refine r_dup C rfl rfl ?_
  refine r_geti C rfl f_X8_68 (by assumption) rfl ?_
  refine r_top _ (wg_13 _ _ _) ?_
  refine r_ic (v := nI 1) C rfl (by decide) ?_
  refine r_iadd C rfl ?_
  refine r_puti C rfl f_X8_68 (by assumption) rfl rfl rfl ?_
  refine r_eqM (wp_13 _ _ _ _) ?_
  have hW2 : WF (upd (upd R 10 (whyR R dp l)) 9 (upd R 10 (whyR R dp l) 9 + nI 1)) dp mn := ⟨by simpa [upd] using w0, w1, w2, by simpa [upd] using w3, w4⟩
  refine r_aload_n C 0 rfl rfl rfl rfl ?_
  refine r_iload_n C 1 rfl rfl rfl ?_
  refine v1_v C rfl mfX8_dropFrom lk_X8_93 (by assumption) (w_dropFrom hA' dp mn l hW2 rfl hl) ?_
  exact q_vret C hQ rfl rfl ⟨rfl, rfl, rfl, rfl⟩
theorem rIn_step2 (R : Row) (l c : Nat) (h : 6 * l + c < 144) (hl : l < 24) : upd (upd (fun j => if j = 13 + l then R j else rIn R l c j) (37 + (6 * l + c)) (nI 200)) (181 + (6 * l + c)) (nI 0) = fun j => if j = 13 + l then R j else rIn R l (c + 1) j := by
  rw [← rIn_step R l c h hl]
  funext j
  simp only [upd]
  by_cases q1 : j = 181 + (6 * l + c)
  · rw [if_pos q1, if_neg (by omega), if_pos q1]; rfl
  · rw [if_neg q1]
    by_cases q2 : j = 37 + (6 * l + c)
    · rw [if_pos q2, if_neg (by omega), if_neg q1, if_pos q2]
    · rw [if_neg q2]
      by_cases q3 : j = 13 + l
      · rw [if_pos q3, if_pos q3]
      · rw [if_neg q3, if_neg q3, if_neg q1, if_neg q2]
theorem w_raise (hA : WA Sh N w yd) {x : Int32} (dp mn n : Nat) (hW : WF R dp mn) (hx : x = nI n) (hn : mn + n ≤ 24) : Con E mX8_raise 1 0 0 [.ref w, .int x] Sh N G (wset M w R) (P1 none Sh N (wset M w (raisR dp mn n R))) nox := by
  subst hx
  obtain ⟨a0, a1, a2, a3, a4, a5⟩ := hA
  refine Con.ofQ (by decide +kernel) (by simp [Value.category]) (Nat.le_of_ble_eq_true rfl) (fun k C0 Q hQ => ?_)
  have C : CK k E mX8_raise kdX8_raise 1 0 0 := ⟨C0, kdX8_raise_ok⟩
  have inner : ∀ (R' : Row) (l i : Nat), WF R' dp l → l < 24 → (PT k E Q 0 0 Sh N G (wset M w (fun j => if j = 13 + l then R' j else rIn R' l dp j)) 62 [some (.ref w), some (.int (nI n)), some (.int (nI i)), some (.int (nI (6 * l))), some (.int (nI (6 * l + dp)))] []) → ∀ m c : Nat, c ≤ dp → dp - c < m → PT k E Q 0 0 Sh N G (wset M w (fun j => if j = 13 + l then R' j else rIn R' l c j)) 27 [some (.ref w), some (.int (nI n)), some (.int (nI i)), some (.int (nI (6 * l))), some (.int (nI (6 * l + c)))] [] := by
    intro R' l i hW' hl kk m
    obtain ⟨w0, w1, w2, w3, w4⟩ := hW'
    induction m with
    | zero => intro c _ h; omega
    | succ m ih =>
      intro c hc hm
      refine r_iload C rfl rfl ?_
      refine r_iload_n C 3 rfl rfl rfl ?_
      refine r_aload_n C 0 rfl rfl rfl rfl ?_
      refine r_geti C rfl f_X8_21 (by assumption) rfl ?_
      refine r_top _ (wg_4 _ _ _) ?_
      refine r_iadd C rfl ?_
      refine r_top (nI (6 * l + dp)) (by rw [if_neg (by omega), rIn_lo _ _ _ (by decide), w0, nI_add]) ?_
      refine r_icmp_ge C 62 rfl (by decide) (fun h => ?_) (fun h => ?_)
      · have h := le_nI (by omega) (by omega) h
        have e : c = dp := by omega
        subst e
        exact kk
      · have h := nle_nI (by omega) (by omega) h
        refine r_aload_n C 0 rfl rfl rfl rfl ?_
        refine r_getv C rfl f_X8_9 (by assumption) rfl ?_
        refine r_iload C rfl rfl ?_
        refine r_si (v := nI 200) C rfl (by decide) ?_
        refine r_iast C rfl (by assumption) (6 * l + c) rfl (by omega) (by decide) ?_
        refine r_eqM (wp_w _ _ _ _ (by omega)) ?_
        refine r_aload_n C 0 rfl rfl rfl rfl ?_
        refine r_getv C rfl f_X8_15 (by assumption) rfl ?_
        refine r_iload C rfl rfl ?_
        refine r_ic (v := nI 0) C rfl (by decide) ?_
        refine r_iast C rfl (by assumption) (6 * l + c) rfl (by omega) (by decide) ?_
        refine r_eqM (wp_m _ _ _ _ (by omega)) ?_
        refine r_iinc (c := nI 1) C rfl rfl (by decide) ?_
        refine r_goto C 27 rfl (by decide) ?_
        refine r_eqM ?_ (r_eqL ?_ (ih (c + 1) (by omega) (by omega)))
        · exact congrArg (wset M w) (rIn_step2 R' l c (by omega) hl)
        · rw [show 6 * l + (c + 1) = 6 * l + c + 1 by omega]
          first | rfl | (simp only [sm, add3, nI_add, Int32.add_zero, Int32.zero_add]; rfl)
  have loop : ∀ m i : Nat, i ≤ n → n - i < m → ∀ v3 v4 : Option Value, PT k E Q 0 0 Sh N G (wset M w (raisR dp mn i R)) 2 [some (.ref w), some (.int (nI n)), some (.int (nI i)), v3, v4] [] := by
    intro m
    induction m with
    | zero => intro i _ h; omega
    | succ m ih =>
      intro i hi hm v3 v4
      refine r_iload_n C 2 rfl rfl rfl ?_
      refine r_iload_n C 1 rfl rfl rfl ?_
      refine r_icmp_ge C 105 rfl (by decide) (fun h => ?_) (fun h => ?_)
      · have h := le_nI (by omega) (by omega) h
        have e : i = n := by omega
        subst e
        exact q_vret C hQ rfl rfl ⟨rfl, rfl, rfl, rfl⟩
      have h := nle_nI (by omega) (by omega) h
      have hW' := wf_raisR hW (n := i) (by omega)
      generalize hR' : raisR dp mn i R = R' at hW' ⊢
      refine r_aload_n C 0 rfl rfl rfl rfl ?_
      refine r_geti C rfl f_X8_62 (by assumption) rfl ?_
      refine r_top _ (wg_5 _ _ _) ?_
      refine r_top (nI (mn + i)) hW'.2.2.2.1 ?_
      refine r_bi (v := nI 24) C rfl (by decide) ?_
      refine r_icmp_ge C 105 rfl (by decide) (fun h2 => ?_) (fun h2 => ?_)
      · have h2 := le_nI (by omega) (by omega) h2
        omega
      refine r_aload_n C 0 rfl rfl rfl rfl ?_
      refine r_geti C rfl f_X8_62 (by assumption) rfl ?_
      refine r_top _ (wg_5 _ _ _) ?_
      refine r_top (nI (mn + i)) hW'.2.2.2.1 ?_
      refine r_bi (v := nI 6) C rfl (by decide) ?_
      refine r_imul C rfl ?_
      refine r_top (nI (6 * (mn + i))) (by rw [pk_mul, Nat.mul_comm]) ?_
      refine r_istore_n C 3 rfl rfl (by exact Nat.le_of_ble_eq_true rfl) ?_
      refine r_iload_n C 3 rfl rfl rfl ?_
      refine r_istore C rfl (by exact Nat.le_of_ble_eq_true rfl) ?_
      refine r_eqM ?_ (r_eqL ?_ (inner R' (mn + i) i hW' (by omega) ?_ (dp + 1) 0 (by omega) (by omega)))
      · congr 1
        funext j
        by_cases q : j = 13 + (mn + i)
        · rw [if_pos q]
        · rw [if_neg q, rIn, if_neg q, if_neg (by omega), if_neg (by omega)]
      · first | rfl | (simp only [sm, add3, nI_add, Int32.add_zero, Int32.zero_add]; rfl)
      refine r_aload_n C 0 rfl rfl rfl rfl ?_
      refine r_getv C rfl f_X8_18 (by assumption) rfl ?_
      refine r_aload_n C 0 rfl rfl rfl rfl ?_
      refine r_geti C rfl f_X8_62 (by assumption) rfl ?_
      refine r_top _ (wg_5 _ _ _) ?_
      refine r_top (nI (mn + i)) (by rw [if_neg (by omega), rIn_lo _ _ _ (by decide)]; exact hW'.2.2.2.1) ?_
      refine r_ic (v := nI 0) C rfl (by decide) ?_
      refine r_iast C rfl (by assumption) (mn + i) rfl (by omega) (by decide) ?_
      refine r_eqM (wp_b _ _ _ _ (by omega)) ?_
      have hu : upd (fun j => if j = 13 + (mn + i) then R' j else rIn R' (mn + i) dp j) (13 + (mn + i)) (nI 0) = rIn R' (mn + i) dp := by
        funext j
        simp only [upd]
        by_cases q : j = 13 + (mn + i)
        · rw [if_pos q, rIn, if_pos q]; rfl
        · rw [if_neg q, if_neg q]
      refine r_eqM (congrArg (wset M w) hu) ?_
      refine r_aload_n C 0 rfl rfl rfl rfl ?_
      refine r_dup C rfl rfl ?_
      refine r_geti C rfl f_X8_74 (by assumption) rfl ?_
      refine r_top _ (wg_15 _ _ _) ?_
      refine r_top (R' 11) (rIn_lo _ _ _ (by decide)) ?_
      refine r_aload_n C 0 rfl rfl rfl rfl ?_
      refine r_geti C rfl f_X8_21 (by assumption) rfl ?_
      refine r_top _ (wg_4 _ _ _) ?_
      refine r_top (nI dp) (by rw [rIn_lo _ _ _ (by decide)]; exact hW'.1) ?_
      refine r_si (v := nI 200) C rfl (by decide) ?_
      refine r_imul C rfl ?_
      refine r_iadd C rfl ?_
      refine r_puti C rfl f_X8_74 (by assumption) rfl rfl rfl ?_
      refine r_eqM (wp_15 _ _ _ _) ?_
      refine r_aload_n C 0 rfl rfl rfl rfl ?_
      refine r_dup C rfl rfl ?_
      refine r_geti C rfl f_X8_62 (by assumption) rfl ?_
      refine r_top _ (wg_5 _ _ _) ?_
      refine r_top (nI (mn + i)) (by simp only [upd]; rw [if_neg (by decide), rIn_lo _ _ _ (by decide)]; exact hW'.2.2.2.1) ?_
      refine r_ic (v := nI 1) C rfl (by decide) ?_
      refine r_iadd C rfl ?_
      refine r_puti C rfl f_X8_62 (by assumption) rfl rfl rfl ?_
      refine r_eqM (wp_5 _ _ _ _) ?_
      refine r_iinc (c := nI 1) C rfl rfl (by decide) ?_
      refine r_goto C 2 rfl (by decide) ?_
      refine r_eqM ?_ (r_eqL ?_ (ih (i + 1) (by omega) (by omega) (some (.int (nI (6 * (mn + i))))) (some (.int (nI (6 * (mn + i) + dp))))))
      · show _ = wset M w (rais1 dp (mn + i) (raisR dp mn i R))
        rw [hR']
        rw [← rais1_eq, nI_add, Int32.mul_comm]
      · first | rfl | (simp only [sm, add3, nI_add, Int32.add_zero, Int32.zero_add]; rfl)
  refine r_ic (v := nI 0) C rfl (by decide) ?_
  refine r_istore_n C 2 rfl rfl (by exact Nat.le_of_ble_eq_true rfl) ?_
  exact loop (n + 1) 0 (by omega) (by omega) none none
end WALL2
end
section
section WEATHER
def taFl (t yd : Nat) : List (Option Value) := [some (.ref yd), some (.ref (t + 1)), some (.ref (t + 2))]
/-- the weather at t, of the yard at yd -/
def TA (Sh : Nat → SE) (N t yd : Nat) : Prop := At Sh N t (.inr (9, taFl t yd)) ∧ At Sh N (t + 1) (arE 0 144) ∧ At Sh N (t + 2) (arE 0 144) ∧ yd + 4 ≤ t
variable {E : VE} {Sh : Nat → SE} {N : Nat} {G : Bool} {M : MM} {w yd t : Nat} {R : Row}
theorem t_wet (hA : WA Sh N w yd) (hT : TA Sh N t yd) {dr : Int32} (dp mn sh : Nat) (hW : WF R dp mn) (hsh : R 3 = nI sh) (hs9 : sh ≤ 9) : Con E mX9_wet 2 0 0 [.ref t, .ref w, .int dr] Sh N G (wset M w R) (P1 none Sh N (wset M w (if mn = 0 then R else comeR dp mn dr R))) nox := by
  obtain ⟨w0, w1, w2, w3, w4⟩ := hW
  have hA' := hA
  obtain ⟨a0, a1, a2, a3, a4, a5⟩ := hA
  obtain ⟨t0, t1, t2, t3⟩ := hT
  refine Con.ofQ (by decide +kernel) (by simp [Value.category]) (Nat.le_of_ble_eq_true rfl) (fun k C0 Q hQ => ?_)
  have C : CK k E mX9_wet kdX9_wet 2 0 0 := ⟨C0, kdX9_wet_ok⟩
  have hbare : bare R mn = min (3 - sh) mn := by rw [bare, hsh, nI_clamp (by omega)]
  refine r_aload_n C 1 rfl rfl rfl rfl ?_
  refine r_geti C rfl f_X9_45 (by assumption) rfl ?_
  refine r_top _ (wg_5 _ _ _) ?_
  refine r_top (nI mn) w3 ?_
  refine r_if_ne C 8 rfl (by decide) (fun hm => ?_) (fun hm => ?_)
  rotate_left
  · have hm : mn = 0 := (nI_eq (b := 0) (by omega) (by omega)).mp hm
    exact q_vret C hQ rfl rfl ⟨rfl, rfl, rfl, by rw [if_pos hm]⟩
  have hm : 1 ≤ mn := by
    rcases Nat.eq_zero_or_pos mn with q | q
    · subst q; exact absurd rfl hm
    · exact q
  have loop3 : ∀ R2 : Row, R2 0 = nI dp → ∀ tv : Int32, (PT k E Q 0 0 Sh N G (wset M w (it (fun c => wetS c (R 2 * mx 0 (nI 3 - R 3) / nI 3)) dp R2)) 149 [some (.ref t), some (.ref w), some (.int dr), some (.int (nI (6 * (mn - 1)))), some (.int tv), some (.int (R 2 * mx 0 (nI 3 - R 3) / nI 3)), some (.int (nI dp))] []) → ∀ n c : Nat, c ≤ dp → dp - c < n → PT k E Q 0 0 Sh N G (wset M w (it (fun c => wetS c (R 2 * mx 0 (nI 3 - R 3) / nI 3)) c R2)) 126 [some (.ref t), some (.ref w), some (.int dr), some (.int (nI (6 * (mn - 1)))), some (.int tv), some (.int (R 2 * mx 0 (nI 3 - R 3) / nI 3)), some (.int (nI c))] [] := by
    intro R2 h0 tv kk
    intro n
    induction n with
    | zero => intro i _ h; omega
    | succ n ih =>
      intro c hc hn
      have hk0 := (it_keep (fun i R' => wetS_keep i (R 2 * mx 0 (nI 3 - R 3) / nI 3) R' (j := 0) (by decide) (by decide)) c R2).trans h0
      refine r_iload C rfl rfl ?_
      refine r_aload_n C 1 rfl rfl rfl rfl ?_
      refine r_geti C rfl f_X9_77 (by assumption) rfl ?_
      refine r_top _ (wg_4 _ _ _) ?_
      refine r_top (nI dp) hk0 ?_
      refine r_icmp_ge C 149 rfl (by decide) (fun h => ?_) (fun h => ?_)
      · have h := le_nI (by omega) (by omega) h
        have e : c = dp := by omega
        subst e
        exact kk
      · have h := nle_nI (by omega) (by omega) h
        refine r_aload_n C 1 rfl rfl rfl rfl ?_
        refine r_iload C rfl rfl ?_
        refine r_iload C rfl rfl ?_
        refine v2_v C rfl mfX8_pour lk_X9_84 (by assumption) (w_pour hA' c rfl (by omega)) ?_
        refine r_iinc (c := nI 1) C rfl rfl (by decide) ?_
        refine r_goto C 126 rfl (by decide) ?_
        refine r_eqM ?_ (r_eqL ?_ (ih (c + 1) (by omega) (by omega)))
        · rw [it]
        · first | rfl | (simp only [sm, add3, nI_add, Int32.add_zero, Int32.zero_add]; rfl)
  have loop2 : ∀ R1 : Row, R1 3 = R 3 → R1 1 = nI mn → (∀ v5 v6 : Option Value, PT k E Q 0 0 Sh N G (wset M w (it (fun l => wetS (6 * l) (dr * R 5 / nI 200)) (bare R mn) R1)) 104 [some (.ref t), some (.ref w), some (.int dr), some (.int (nI (6 * (mn - 1)))), some (.int (dr * R 5 / nI 200)), v5, v6] []) → ∀ n i : Nat, i ≤ bare R mn → bare R mn - i < n → ∀ v6 : Option Value, PT k E Q 0 0 Sh N G (wset M w (it (fun l => wetS (6 * l) (dr * R 5 / nI 200)) i R1)) 67 [some (.ref t), some (.ref w), some (.int dr), some (.int (nI (6 * (mn - 1)))), some (.int (dr * R 5 / nI 200)), some (.int (nI i)), v6] [] := by
    intro R1 h3 h1 kk
    rw [hbare] at kk ⊢
    intro n
    induction n with
    | zero => intro i _ h; omega
    | succ n ih =>
      intro c hc hn v6
      have hk3 := (it_keep (fun i R' => wetS_keep (6 * i) (dr * R 5 / nI 200) R' (j := 3) (by decide) (by decide)) c R1).trans (h3.trans hsh)
      have hk1 := (it_keep (fun i R' => wetS_keep (6 * i) (dr * R 5 / nI 200) R' (j := 1) (by decide) (by decide)) c R1).trans h1
      refine r_iload C rfl rfl ?_
      refine r_ic (v := nI 3) C rfl (by decide) ?_
      refine r_aload_n C 1 rfl rfl rfl rfl ?_
      refine r_geti C rfl f_X9_91 (by assumption) rfl ?_
      refine r_top _ (wg_7 _ _ _) ?_
      refine r_top (nI sh) hk3 ?_
      refine r_isub C rfl ?_
      refine r_icmp_ge C 104 rfl (by decide) (fun h => ?_) (fun h => ?_)
      · have h := (bare_le hs9 (by omega)).mp h
        have e : c = min (3 - sh) mn := by omega
        rw [e]
        exact kk _ _
      have h := mt (bare_le hs9 (l := c) (by omega)).mpr h
      refine r_iload C rfl rfl ?_
      refine r_aload_n C 1 rfl rfl rfl rfl ?_
      refine r_geti C rfl f_X9_45 (by assumption) rfl ?_
      refine r_top _ (wg_5 _ _ _) ?_
      refine r_top (nI mn) hk1 ?_
      refine r_icmp_ge C 104 rfl (by decide) (fun h2 => ?_) (fun h2 => ?_)
      · have h2 := le_nI (by omega) (by omega) h2
        have e : c = min (3 - sh) mn := by omega
        rw [e]
        exact kk _ _
      · have h2 := nle_nI (by omega) (by omega) h2
        refine r_aload_n C 1 rfl rfl rfl rfl ?_
        refine r_iload C rfl rfl ?_
        refine r_bi (v := nI 6) C rfl (by decide) ?_
        refine r_imul C rfl ?_
        refine r_iload C rfl rfl ?_
        refine v2_v C rfl mfX8_pour lk_X9_84 (by assumption) (w_pour hA' (6 * c) (by rw [pk_mul, Nat.mul_comm]) (by omega)) ?_
        refine r_iinc (c := nI 1) C rfl rfl (by decide) ?_
        refine r_goto C 67 rfl (by decide) ?_
        refine r_eqM ?_ (r_eqL ?_ (ih (c + 1) (by omega) (by omega) v6))
        · rw [it]
        · first | rfl | (simp only [sm, add3, nI_add, Int32.add_zero, Int32.zero_add]; rfl)
  have k52 : ∀ R1 : Row, R1 = (if R 4 = 0 then it (fun c => wetS (6 * (mn - 1) + c) dr) dp R else R) → ∀ v4 v5 v6 : Option Value, PT k E Q 0 0 Sh N G (wset M w R1) 52 [some (.ref t), some (.ref w), some (.int dr), some (.int (nI (6 * (mn - 1)))), v4, v5, v6] [] := by
    intro R1 hR1 v4 v5 v6
    have hk : ∀ j, j < 37 → j ≠ 11 → R1 j = R j := by
      intro j h1 h2
      rw [hR1]
      split
      · exact it_keep (fun i R' => wetS_keep (6 * (mn - 1) + i) dr R' h1 h2) dp R
      · rfl
    refine r_iload_n C 2 rfl rfl rfl ?_
    refine r_aload_n C 1 rfl rfl rfl rfl ?_
    refine r_geti C rfl f_X9_88 (by assumption) rfl ?_
    refine r_top _ (wg_9 _ _ _) ?_
    refine r_top (R 5) (hk 5 (by decide) (by decide)) ?_
    refine r_imul C rfl ?_
    refine r_si (v := nI 200) C rfl (by decide) ?_
    refine r_idiv C rfl (by decide) ?_
    refine r_istore C rfl (by exact Nat.le_of_ble_eq_true rfl) ?_
    refine r_ic (v := nI 0) C rfl (by decide) ?_
    refine r_istore C rfl (by exact Nat.le_of_ble_eq_true rfl) ?_
    refine r_eqL ?_ (loop2 R1 (hk 3 (by decide) (by decide)) ((hk 1 (by decide) (by decide)).trans w3) (fun v5 v6 => ?_) (bare R mn + 1) 0 (by omega) (by omega) v6)
    · first | rfl | (simp only [sm, add3, nI_add, Int32.add_zero, Int32.zero_add]; rfl)
    have hX := fun j h1 h2 => (it_keep (fun i R' => wetS_keep (6 * i) (dr * R 5 / nI 200) R' (j := j) h1 h2) (bare R mn) R1).trans (hk j h1 h2)
    obtain ⟨X, hXe⟩ : ∃ X, X = it (fun l => wetS (6 * l) (dr * R 5 / nI 200)) (bare R mn) R1 := ⟨_, rfl⟩
    rw [← hXe] at hX ⊢
    refine r_aload_n C 1 rfl rfl rfl rfl ?_
    refine r_geti C rfl f_X9_94 (by assumption) rfl ?_
    refine r_top _ (wg_6 _ _ _) ?_
    refine r_top (R 2) (hX 2 (by decide) (by decide)) ?_
    refine r_ic (v := nI 0) C rfl (by decide) ?_
    refine r_ic (v := nI 3) C rfl (by decide) ?_
    refine r_aload_n C 1 rfl rfl rfl rfl ?_
    refine r_geti C rfl f_X9_91 (by assumption) rfl ?_
    refine r_top _ (wg_7 _ _ _) ?_
    refine r_top (R 3) (hX 3 (by decide) (by decide)) ?_
    refine r_isub C rfl ?_
    refine r_max C rfl lk_X9_97 ?_
    refine r_imul C rfl ?_
    refine r_ic (v := nI 3) C rfl (by decide) ?_
    refine r_idiv C rfl (by decide) ?_
    refine r_istore C rfl (by exact Nat.le_of_ble_eq_true rfl) ?_
    refine r_ic (v := nI 0) C rfl (by decide) ?_
    refine r_istore C rfl (by exact Nat.le_of_ble_eq_true rfl) ?_
    refine r_eqL ?_ (loop3 X ((hX 0 (by decide) (by decide)).trans w0) (dr * R 5 / nI 200) ?_ (dp + 1) 0 (by omega) (by omega))
    · first | rfl | (simp only [sm, add3, nI_add, Int32.add_zero, Int32.zero_add]; rfl)
    exact q_vret C hQ rfl rfl ⟨rfl, rfl, rfl, by rw [if_neg (by omega), comeR, ← hR1, ← hXe]⟩
  have loop1 : R 4 = 0 → ∀ n c : Nat, c ≤ dp → dp - c < n → ∀ v5 v6 : Option Value, PT k E Q 0 0 Sh N G (wset M w (it (fun c => wetS (6 * (mn - 1) + c) dr) c R)) 21 [some (.ref t), some (.ref w), some (.int dr), some (.int (nI (6 * (mn - 1)))), some (.int (nI c)), v5, v6] [] := by
    intro h4
    intro n
    induction n with
    | zero => intro i _ h; omega
    | succ n ih =>
      intro c hc hn v5 v6
      have hk4 := (it_keep (fun i R' => wetS_keep (6 * (mn - 1) + i) dr R' (j := 4) (by decide) (by decide)) c R).trans h4
      have hk0 := (it_keep (fun i R' => wetS_keep (6 * (mn - 1) + i) dr R' (j := 0) (by decide) (by decide)) c R).trans w0
      refine r_iload C rfl rfl ?_
      refine r_aload_n C 1 rfl rfl rfl rfl ?_
      refine r_geti C rfl f_X9_77 (by assumption) rfl ?_
      refine r_top _ (wg_4 _ _ _) ?_
      refine r_top (nI dp) hk0 ?_
      refine r_icmp_ge C 52 rfl (by decide) (fun h => ?_) (fun h => ?_)
      · have h := le_nI (by omega) (by omega) h
        have e : c = dp := by omega
        subst e
        exact k52 _ (by rw [if_pos h4]) _ _ _
      have h := nle_nI (by omega) (by omega) h
      refine r_aload_n C 1 rfl rfl rfl rfl ?_
      refine r_geti C rfl f_X9_80 (by assumption) rfl ?_
      refine r_top _ (wg_8 _ _ _) ?_
      refine r_top 0 hk4 ?_
      refine r_if_ne C 52 rfl (by decide) (fun h2 => absurd rfl h2) (fun h2 => ?_)
      refine r_aload_n C 1 rfl rfl rfl rfl ?_
      refine r_iload_n C 3 rfl rfl rfl ?_
      refine r_iload C rfl rfl ?_
      refine r_iadd C rfl ?_
      refine r_iload_n C 2 rfl rfl rfl ?_
      refine v2_v C rfl mfX8_pour lk_X9_84 (by assumption) (w_pour hA' (6 * (mn - 1) + c) (by rw [nI_add]) (by omega)) ?_
      refine r_iinc (c := nI 1) C rfl rfl (by decide) ?_
      refine r_goto C 21 rfl (by decide) ?_
      refine r_eqM ?_ (r_eqL ?_ (ih (c + 1) (by omega) (by omega) v5 v6))
      · rw [it]
      · first | rfl | (simp only [sm, add3, nI_add, Int32.add_zero, Int32.zero_add]; rfl)
  refine r_aload_n C 1 rfl rfl rfl rfl ?_
  refine r_geti C rfl f_X9_45 (by assumption) rfl ?_
  refine r_top _ (wg_5 _ _ _) ?_
  refine r_top (nI mn) w3 ?_
  refine r_ic (v := nI 1) C rfl (by decide) ?_
  refine r_isub C rfl ?_
  refine r_bi (v := nI 6) C rfl (by decide) ?_
  refine r_imul C rfl ?_
  refine r_top (nI (6 * (mn - 1))) (by rw [pk_sub hm, pk_mul, Nat.mul_comm]) ?_
  refine r_istore_n C 3 rfl rfl (by exact Nat.le_of_ble_eq_true rfl) ?_
  refine r_ic (v := nI 0) C rfl (by decide) ?_
  refine r_istore C rfl (by exact Nat.le_of_ble_eq_true rfl) ?_
  by_cases h4 : R 4 = 0
  · refine r_eqL ?_ (loop1 h4 (dp + 1) 0 (by omega) (by omega) none none)
    first | rfl | (simp only [sm, add3, nI_add, Int32.add_zero, Int32.zero_add]; rfl)
  · refine r_iload C rfl rfl ?_
    refine r_aload_n C 1 rfl rfl rfl rfl ?_
    refine r_geti C rfl f_X9_77 (by assumption) rfl ?_
    refine r_top _ (wg_4 _ _ _) ?_
    refine r_top (nI dp) w0 ?_
    refine r_icmp_ge C 52 rfl (by decide) (fun h => ?_) (fun h => ?_)
    · have h := le_nI (a := dp) (b := 0) (by omega) (by omega) h
      omega
    refine r_aload_n C 1 rfl rfl rfl rfl ?_
    refine r_geti C rfl f_X9_80 (by assumption) rfl ?_
    refine r_top _ (wg_8 _ _ _) ?_
    refine r_if_ne C 52 rfl (by decide) (fun h2 => ?_) (fun h2 => absurd h2 h4)
    refine r_eqL ?_ (k52 R (by rw [if_neg h4]) (some (.int (nI 0))) none none)
    first | rfl | (simp only [sm, add3, nI_add, Int32.add_zero, Int32.zero_add]; rfl)
theorem t_flow (hA : WA Sh N w yd) (hT : TA Sh N t yd) (hdis : t + 3 ≤ w ∨ w + 4 ≤ t) {y z q : Int32} (a b : Nat) (hy : y = nI a) (hz : z = nI b) (ha : a < 144) (hb : b < 144) (hq : 0 < q) : Con E mX9_flow 1 0 0 [.ref t, .ref w, .int y, .int z, .int q] Sh N G (wset M w R) (P1 none Sh N (wset M w (flowS (M (t + 2)) a b q R))) nox := by
  subst hy; subst hz
  obtain ⟨a0, a1, a2, a3, a4, a5⟩ := hA
  obtain ⟨t0, t1, t2, t3⟩ := hT
  have hb2 : ∀ R' : Row, wset M w R' (t + 2) = M (t + 2) := fun R' => wset_cell M R' (by omega)
  refine Con.ofQ (by decide +kernel) (by simp [Value.category]) (Nat.le_of_ble_eq_true rfl) (fun k C0 Q hQ => ?_)
  have C : CK k E mX9_flow kdX9_flow 1 0 0 := ⟨C0, kdX9_flow_ok⟩
  refine r_iload C rfl rfl ?_
  refine r_if_gt C 6 rfl (by decide) (fun h => ?_) (fun h => absurd hq h)
  refine r_aload_n C 0 rfl rfl rfl rfl ?_
  refine r_getv C rfl f_X9_15 (by assumption) rfl ?_
  refine r_iload_n C 2 rfl rfl rfl ?_
  refine r_iald C rfl (by assumption) (a) rfl ha (by decide) ?_
  refine r_aload_n C 0 rfl rfl rfl rfl ?_
  refine r_getv C rfl f_X9_15 (by assumption) rfl ?_
  refine r_iload_n C 3 rfl rfl rfl ?_
  refine r_iald C rfl (by assumption) (b) rfl hb (by decide) ?_
  refine r_isub C rfl ?_
  refine r_iload C rfl rfl ?_
  refine r_idiv C rfl (fun e => by rw [e] at hq; exact absurd hq (by decide)) ?_
  refine r_istore C rfl (by exact Nat.le_of_ble_eq_true rfl) ?_
  refine r_aload_n C 1 rfl rfl rfl rfl ?_
  refine r_getv C rfl f_X9_42 (by assumption) rfl ?_
  refine r_iload_n C 2 rfl rfl rfl ?_
  refine r_dup2 C rfl rfl rfl ?_
  refine r_iald C rfl (by assumption) (a) rfl ha (by decide) ?_
  refine r_top _ (wg_w _ _ _ ha) ?_
  refine r_iload C rfl rfl ?_
  refine r_isub C rfl ?_
  refine r_iast C rfl (by assumption) (a) rfl ha (by decide) ?_
  refine r_eqM (wp_w _ _ _ _ ha) ?_
  refine r_aload_n C 1 rfl rfl rfl rfl ?_
  refine r_getv C rfl f_X9_42 (by assumption) rfl ?_
  refine r_iload_n C 3 rfl rfl rfl ?_
  refine r_dup2 C rfl rfl rfl ?_
  refine r_iald C rfl (by assumption) (b) rfl hb (by decide) ?_
  refine r_top _ (wg_w _ _ _ hb) ?_
  refine r_iload C rfl rfl ?_
  refine r_iadd C rfl ?_
  refine r_iast C rfl (by assumption) (b) rfl hb (by decide) ?_
  refine r_eqM (wp_w _ _ _ _ hb) ?_
  refine q_vret C hQ rfl rfl ⟨rfl, rfl, rfl, ?_⟩
  rw [hb2]
  rfl
end WEATHER
end
section
section WEATHER2
variable {E : VE} {Sh : Nat → SE} {N : Nat} {G : Bool} {M : MM} {w yd t : Nat} {R : Row}
theorem wset_aset (M : MM) (w a : Nat) (R : Row) (F : Nat → Int32) (h : a < w ∨ w + 4 ≤ a) : aset (wset M w R) a F = wset (aset M a F) w R := by
  funext x y
  simp only [aset, wset]
  by_cases e : x = a
  · subst e
    rw [if_pos rfl, if_neg (by omega), if_neg (by omega), if_neg (by omega), if_neg (by omega), if_pos rfl]
  · simp only [if_neg e]
theorem cpy_lo {f g : Nat → Int32} {n j : Nat} (h : j < n) : va_cpy f g 0 0 n j = f j := by
  simp only [va_cpy]
  rw [if_pos (by omega)]
  congr 1; omega
theorem t_move (hA : WA Sh N w yd) (hT : TA Sh N t yd) (hdis : t + 3 ≤ w ∨ w + 4 ≤ t) (dp mn : Nat) (hW : WF R dp mn) : Con E mX9_move 2 0 0 [.ref t, .ref w] Sh N G (wset M w R) (P1 none Sh N (wset (aset M (t + 2) (va_cpy (wset M w R (w + 1)) (M (t + 2)) 0 0 (6 * mn))) w (moveR (fun j => R (37 + j)) dp mn R))) nox := by
  obtain ⟨w0, w1, w2, w3, w4⟩ := hW
  have hA' := hA
  have hT' := hT
  obtain ⟨a0, a1, a2, a3, a4, a5⟩ := hA
  obtain ⟨t0, t1, t2, t3⟩ := hT
  refine Con.ofQ (by decide +kernel) (by simp [Value.category]) (Nat.le_of_ble_eq_true rfl) (fun k C0 Q hQ => ?_)
  have C : CK k E mX9_move kdX9_move 2 0 0 := ⟨C0, kdX9_move_ok⟩
  refine r_aload_n C 1 rfl rfl rfl rfl ?_
  refine r_getv C rfl f_X9_42 (by assumption) rfl ?_
  refine r_ic (v := nI 0) C rfl (by decide) ?_
  refine r_aload_n C 0 rfl rfl rfl rfl ?_
  refine r_getv C rfl f_X9_15 (by assumption) rfl ?_
  refine r_ic (v := nI 0) C rfl (by decide) ?_
  refine r_aload_n C 1 rfl rfl rfl rfl ?_
  refine r_geti C rfl f_X9_45 (by assumption) rfl ?_
  refine r_top _ (wg_5 _ _ _) ?_
  refine r_top (nI mn) w3 ?_
  refine r_bi (v := nI 6) C rfl (by decide) ?_
  refine r_imul C rfl ?_
  refine r_acopy C 0 0 (6 * mn) rfl lkac_X9_48 a1 t2 rfl rfl (by rw [pk_mul, Nat.mul_comm]) (by omega) (by omega) (by decide) (by decide) ?_
  rw [wset_aset _ _ _ _ _ (by omega), wset_cell M R (a := t + 2) (by omega)]
  have hfl : ∀ (a b : Nat) (q : Int32) (R' : Row), a < 6 * mn → b < 6 * mn → flowS (aset M (t + 2) (va_cpy (wset M w R (w + 1)) (M (t + 2)) 0 0 (6 * mn)) (t + 2)) a b q R' = flowS (fun j => R (37 + j)) a b q R' := fun a b q R' ha hb => by
    rw [aset_own]
    exact flowS_w q R' ((cpy_lo ha).trans (wg_w M w R (by omega))) ((cpy_lo hb).trans (wg_w M w R (by omega)))
  generalize hM1 : aset M (t + 2) (va_cpy (wset M w R (w + 1)) (M (t + 2)) 0 0 (6 * mn)) = M1 at hfl hQ ⊢
  have inner : ∀ (l : Nat) (R' : Row), l < mn → R' 0 = nI dp → R' 1 = nI mn → (∀ v5 : Option Value, PT k E Q 0 0 Sh N G (wset M1 w (it (fun c => moveS (fun j => R (37 + j)) dp mn l c) dp R')) 106 [some (.ref t), some (.ref w), some (.int (nI l)), some (.int (nI (6 * l))), some (.int (nI dp)), v5] []) → ∀ n c : Nat, c ≤ dp → dp - c < n → ∀ v5 : Option Value, PT k E Q 0 0 Sh N G (wset M1 w (it (fun c => moveS (fun j => R (37 + j)) dp mn l c) c R')) 38 [some (.ref t), some (.ref w), some (.int (nI l)), some (.int (nI (6 * l))), some (.int (nI c)), v5] [] := by
    intro l R' hl e0 e1 kk
    intro n
    induction n with
    | zero => intro i _ h; omega
    | succ n ih =>
      intro c hc hn v5
      have hk0 := (moveI_keep (fun j => R (37 + j)) dp mn l c R' (j := 0) (by decide)).trans e0
      have hk1 := (moveI_keep (fun j => R (37 + j)) dp mn l c R' (j := 1) (by decide)).trans e1
      have hih := fun h1 h2 v => ih (c + 1) h1 h2 v
      rw [it] at hih
      obtain ⟨R2, hR2⟩ : ∃ R2, R2 = it (fun c => moveS (fun j => R (37 + j)) dp mn l c) c R' := ⟨_, rfl⟩
      rw [← hR2] at hk0 hk1 hih ⊢
      refine r_iload C rfl rfl ?_
      refine r_aload_n C 1 rfl rfl rfl rfl ?_
      refine r_geti C rfl f_X9_77 (by assumption) rfl ?_
      refine r_top _ (wg_4 _ _ _) ?_
      refine r_top (nI dp) hk0 ?_
      refine r_icmp_ge C 106 rfl (by decide) (fun h => ?_) (fun h => ?_)
      · have h := le_nI (by omega) (by omega) h
        have e : c = dp := by omega
        subst e
        rw [hR2]
        exact kk _
      have h := nle_nI (by omega) (by omega) h
      have k100 : ∀ R4 : Row, R4 = moveS (fun j => R (37 + j)) dp mn l c R2 → PT k E Q 0 0 Sh N G (wset M1 w R4) 100 [some (.ref t), some (.ref w), some (.int (nI l)), some (.int (nI (6 * l))), some (.int (nI c)), some (.int (nI (6 * l + c)))] [] := by
        intro R4 hR4
        subst hR4
        refine r_iinc (c := nI 1) C rfl rfl (by decide) ?_
        refine r_goto C 38 rfl (by decide) ?_
        refine r_eqL ?_ (hih (by omega) (by omega) (some (.int (nI (6 * l + c)))))
        first | rfl | (simp only [sm, add3, nI_add, Int32.add_zero, Int32.zero_add]; rfl)
      have k76 : ∀ R3 : Row, R3 = (if c + 1 < dp then flowS (fun j => R (37 + j)) (6 * l + c) (6 * l + (c + 1)) (nI 4) R2 else R2) → PT k E Q 0 0 Sh N G (wset M1 w R3) 76 [some (.ref t), some (.ref w), some (.int (nI l)), some (.int (nI (6 * l))), some (.int (nI c)), some (.int (nI (6 * l + c)))] [] := by
        intro R3 hR3
        have hk : R3 1 = nI mn := by
          rw [hR3]
          split
          · rw [flowS_keep _ _ _ _ _ (by decide)]; exact hk1
          · exact hk1
        refine r_iload_n C 2 rfl rfl rfl ?_
        refine r_ic (v := nI 1) C rfl (by decide) ?_
        refine r_iadd C rfl ?_
        refine r_aload_n C 1 rfl rfl rfl rfl ?_
        refine r_geti C rfl f_X9_45 (by assumption) rfl ?_
        refine r_top _ (wg_5 _ _ _) ?_
        refine r_top (nI mn) hk ?_
        refine r_icmp_ge C 100 rfl (by decide) (fun h2 => ?_) (fun h2 => ?_)
        · rw [nI_add] at h2
          have h2 := le_nI (by omega) (by omega) h2
          refine k100 _ ?_
          simp only [moveS]
          rw [if_neg (by omega), hR3]
        · rw [nI_add] at h2
          have h2 := nle_nI (by omega) (by omega) h2
          refine r_aload_n C 0 rfl rfl rfl rfl ?_
          refine r_aload_n C 1 rfl rfl rfl rfl ?_
          refine r_iload C rfl rfl ?_
          refine r_iload C rfl rfl ?_
          refine r_bi (v := nI 6) C rfl (by decide) ?_
          refine r_iadd C rfl ?_
          refine r_bi (v := nI 8) C rfl (by decide) ?_
          refine v4_v C rfl mfX9_flow lk_X9_100 (by assumption) (t_flow hA' hT' hdis (6 * l + c) (6 * (l + 1) + c) rfl (by rw [nI_add, show 6 * l + c + 6 = 6 * (l + 1) + c by omega]) (by omega) (by omega) (by decide)) ?_
          refine k100 _ ?_
          rw [hfl _ _ _ _ (by omega) (by omega)]
          simp only [moveS]
          rw [if_pos h2, hR3]
      refine r_iload_n C 3 rfl rfl rfl ?_
      refine r_iload C rfl rfl ?_
      refine r_iadd C rfl ?_
      refine r_top (nI (6 * l + c)) (by rw [nI_add]) ?_
      refine r_istore C rfl (by exact Nat.le_of_ble_eq_true rfl) ?_
      refine r_iload C rfl rfl ?_
      refine r_ic (v := nI 1) C rfl (by decide) ?_
      refine r_iadd C rfl ?_
      refine r_aload_n C 1 rfl rfl rfl rfl ?_
      refine r_geti C rfl f_X9_77 (by assumption) rfl ?_
      refine r_top _ (wg_4 _ _ _) ?_
      refine r_top (nI dp) hk0 ?_
      refine r_icmp_ge C 76 rfl (by decide) (fun h2 => ?_) (fun h2 => ?_)
      · rw [nI_add] at h2
        have h2 := le_nI (by omega) (by omega) h2
        exact k76 _ (by rw [if_neg (by omega)])
      · rw [nI_add] at h2
        have h2 := nle_nI (by omega) (by omega) h2
        refine r_aload_n C 0 rfl rfl rfl rfl ?_
        refine r_aload_n C 1 rfl rfl rfl rfl ?_
        refine r_iload C rfl rfl ?_
        refine r_iload C rfl rfl ?_
        refine r_ic (v := nI 1) C rfl (by decide) ?_
        refine r_iadd C rfl ?_
        refine r_ic (v := nI 4) C rfl (by decide) ?_
        refine v4_v C rfl mfX9_flow lk_X9_100 (by assumption) (t_flow hA' hT' hdis (6 * l + c) (6 * l + (c + 1)) rfl (by rw [nI_add, show 6 * l + c + 1 = 6 * l + (c + 1) by omega]) (by omega) (by omega) (by decide)) ?_
        exact k76 _ (by rw [hfl _ _ _ _ (by omega) (by omega), if_pos h2])
  have loop : ∀ n i : Nat, i ≤ mn → mn - i < n → ∀ v3 v4 v5 : Option Value, PT k E Q 0 0 Sh N G (wset M1 w (it (fun l => it (fun c => moveS (fun j => R (37 + j)) dp mn l c) dp) i R)) 22 [some (.ref t), some (.ref w), some (.int (nI i)), v3, v4, v5] [] := by
    intro n
    induction n with
    | zero => intro i _ h; omega
    | succ n ih =>
      intro i hi hn v3 v4 v5
      have hk0 := (moveR_keep (fun j => R (37 + j)) dp mn i R (j := 0) (by decide)).trans w0
      have hk1 := (moveR_keep (fun j => R (37 + j)) dp mn i R (j := 1) (by decide)).trans w3
      refine r_iload_n C 2 rfl rfl rfl ?_
      refine r_aload_n C 1 rfl rfl rfl rfl ?_
      refine r_geti C rfl f_X9_45 (by assumption) rfl ?_
      refine r_top _ (wg_5 _ _ _) ?_
      refine r_top (nI mn) hk1 ?_
      refine r_icmp_ge C 112 rfl (by decide) (fun h => ?_) (fun h => ?_)
      · have h := le_nI (by omega) (by omega) h
        have e : i = mn := by omega
        subst e
        exact q_vret C hQ rfl rfl ⟨rfl, rfl, rfl, rfl⟩
      · have h := nle_nI (by omega) (by omega) h
        refine r_iload_n C 2 rfl rfl rfl ?_
        refine r_bi (v := nI 6) C rfl (by decide) ?_
        refine r_imul C rfl ?_
        refine r_top (nI (6 * i)) (by rw [pk_mul, Nat.mul_comm]) ?_
        refine r_istore_n C 3 rfl rfl (by exact Nat.le_of_ble_eq_true rfl) ?_
        refine r_ic (v := nI 0) C rfl (by decide) ?_
        refine r_istore C rfl (by exact Nat.le_of_ble_eq_true rfl) ?_
        refine r_eqL ?_ (inner i _ h hk0 hk1 (fun v5 => ?_) (dp + 1) 0 (by omega) (by omega) v5)
        · first | rfl | (simp only [sm, add3, nI_add, Int32.add_zero, Int32.zero_add]; rfl)
        refine r_iinc (c := nI 1) C rfl rfl (by decide) ?_
        refine r_goto C 22 rfl (by decide) ?_
        refine r_eqL ?_ (ih (i + 1) (by omega) (by omega) (some (.int (nI (6 * i)))) (some (.int (nI dp))) v5)
        first | rfl | (simp only [sm, add3, nI_add, Int32.add_zero, Int32.zero_add]; rfl)
  refine r_ic (v := nI 0) C rfl (by decide) ?_
  refine r_istore_n C 2 rfl rfl (by exact Nat.le_of_ble_eq_true rfl) ?_
  exact loop (mn + 1) 0 (by omega) (by omega) none none none
theorem mi_comm (a b : Int32) : mi a b = mi b a := by
  simp only [mi, Int32.lt_iff_toInt_lt]
  by_cases h1 : b.toInt < a.toInt
  · rw [if_pos h1, if_neg (by omega)]
  · rw [if_neg h1]
    by_cases h2 : a.toInt < b.toInt
    · rw [if_pos h2]
    · rw [if_neg h2]; exact Int32.toInt_inj.mp (by omega)
theorem t_dry (hA : WA Sh N w yd) (hT : TA Sh N t yd) {air : Int32} (dp mn : Nat) (hW : WF R dp mn) : Con E mX9_dry 2 0 0 [.ref t, .ref w, .int air] Sh N G (wset M w R) (P1 none Sh N (wset M w (dryR air dp mn R))) nox := by
  obtain ⟨w0, w1, w2, w3, w4⟩ := hW
  have hA' := hA
  obtain ⟨a0, a1, a2, a3, a4, a5⟩ := hA
  obtain ⟨t0, t1, t2, t3⟩ := hT
  refine Con.ofQ (by decide +kernel) (by simp [Value.category]) (Nat.le_of_ble_eq_true rfl) (fun k C0 Q hQ => ?_)
  have C : CK k E mX9_dry kdX9_dry 2 0 0 := ⟨C0, kdX9_dry_ok⟩
  have inner : ∀ (l : Nat) (R' : Row), l < mn → R' 0 = nI dp → (∀ v7 v8 : Option Value, PT k E Q 0 0 Sh N G (wset M w (it (fun c => dryS air dp mn l c) dp R')) 139 [some (.ref t), some (.ref w), some (.int air), some (.int (nI l)), some (.int (nI (6 * l))), some (.int (if l = mn - 1 then nI 50 else 0)), some (.int (nI dp)), v7, v8] []) → ∀ n c : Nat, c ≤ dp → dp - c < n → ∀ v7 v8 : Option Value, PT k E Q 0 0 Sh N G (wset M w (it (fun c => dryS air dp mn l c) c R')) 37 [some (.ref t), some (.ref w), some (.int air), some (.int (nI l)), some (.int (nI (6 * l))), some (.int (if l = mn - 1 then nI 50 else 0)), some (.int (nI c)), v7, v8] [] := by
    intro l R' hl e0 kk
    intro n
    induction n with
    | zero => intro i _ h; omega
    | succ n ih =>
      intro c hc hn v7 v8
      have hk0 := (dryI_keep air dp mn l c R' (j := 0) (by decide) (by decide)).trans e0
      have hih := fun h1 h2 => ih (c + 1) h1 h2
      rw [it] at hih
      obtain ⟨R2, hR2⟩ : ∃ R2, R2 = it (fun c => dryS air dp mn l c) c R' := ⟨_, rfl⟩
      rw [← hR2] at hk0 hih ⊢
      refine r_iload C rfl rfl ?_
      refine r_aload_n C 1 rfl rfl rfl rfl ?_
      refine r_geti C rfl f_X9_77 (by assumption) rfl ?_
      refine r_top _ (wg_4 _ _ _) ?_
      refine r_top (nI dp) hk0 ?_
      refine r_icmp_ge C 139 rfl (by decide) (fun h => ?_) (fun h => ?_)
      · have h := le_nI (by omega) (by omega) h
        have e : c = dp := by omega
        subst e
        rw [hR2]
        exact kk _ _
      have h := nle_nI (by omega) (by omega) h
      have k91 : ∀ z1 z2 : Int32, z1 = (if c = 0 then R2 5 else 0) → z2 = (if c = dp - 1 then R2 6 / nI 2 else 0) → PT k E Q 0 0 Sh N G (wset M w R2) 91 [some (.ref t), some (.ref w), some (.int air), some (.int (nI l)), some (.int (nI (6 * l))), some (.int (if l = mn - 1 then nI 50 else 0)), some (.int (nI c)), some (.int ((if l = mn - 1 then nI 50 else 0) + z1)), v8] [.int z2, .int ((if l = mn - 1 then nI 50 else 0) + z1)] := by
        intro z1 z2 hz1 hz2
        refine r_iadd C rfl ?_
        refine r_istore C rfl (by exact Nat.le_of_ble_eq_true rfl) ?_
        refine r_ic (v := nI 0) C rfl (by decide) ?_
        refine r_aload_n C 1 rfl rfl rfl rfl ?_
        refine r_getv C rfl f_X9_42 (by assumption) rfl ?_
        refine r_iload C rfl rfl ?_
        refine r_iload C rfl rfl ?_
        refine r_iadd C rfl ?_
        refine r_iald C rfl (by assumption) (6 * l + c) (by rw [nI_add]) (by omega) (by decide) ?_
        refine r_top _ (wg_w _ _ _ (by omega)) ?_
        refine r_bi (v := nI 100) C rfl (by decide) ?_
        refine r_isub C rfl ?_
        refine r_max C rfl lk_X9_97 ?_
        refine r_istore C rfl (by exact Nat.le_of_ble_eq_true rfl) ?_
        refine r_aload_n C 1 rfl rfl rfl rfl ?_
        refine r_iload C rfl rfl ?_
        refine r_iload C rfl rfl ?_
        refine r_iadd C rfl ?_
        refine r_iload C rfl rfl ?_
        refine r_iload_n C 2 rfl rfl rfl ?_
        refine r_imul C rfl ?_
        refine r_iload C rfl rfl ?_
        refine r_imul C rfl ?_
        refine r_si (v := nI 20000) C rfl (by decide) ?_
        refine r_idiv C rfl (by decide) ?_
        refine v2_v C rfl mfX8_evaporate lk_X9_107 (by assumption) (w_evaporate hA' (6 * l + c) (by rw [nI_add]) (by omega)) ?_
        have hlets : (if l = mn - 1 then nI 50 else 0) + z1 + z2 = dryN R2 dp mn l c := by
          rw [hz1, hz2, dryN, Int32.add_comm (if l = mn - 1 then nI 50 else 0), add3, Int32.add_comm (if l = mn - 1 then nI 50 else 0), ← add3]
        rw [hlets, mi_comm]
        refine r_iinc (c := nI 1) C rfl rfl (by decide) ?_
        refine r_goto C 37 rfl (by decide) ?_
        refine r_eqM ?_ (r_eqL ?_ (hih (by omega) (by omega) (some (.int (dryN R2 dp mn l c))) (some (.int (mx 0 (R2 (37 + (6 * l + c)) - nI 100))))))
        · rfl
        · first | rfl | (simp only [sm, add3, nI_add, Int32.add_zero, Int32.zero_add]; rfl)
      have k65 : ∀ z1 : Int32, z1 = (if c = 0 then R2 5 else 0) → PT k E Q 0 0 Sh N G (wset M w R2) 65 [some (.ref t), some (.ref w), some (.int air), some (.int (nI l)), some (.int (nI (6 * l))), some (.int (if l = mn - 1 then nI 50 else 0)), some (.int (nI c)), some (.int (if l = mn - 1 then nI 50 else 0)), v8] [.int z1, .int (if l = mn - 1 then nI 50 else 0)] := by
        intro z1 hz1
        refine r_iadd C rfl ?_
        refine r_istore C rfl (by exact Nat.le_of_ble_eq_true rfl) ?_
        refine r_iload C rfl rfl ?_
        refine r_iload C rfl rfl ?_
        refine r_aload_n C 1 rfl rfl rfl rfl ?_
        refine r_geti C rfl f_X9_77 (by assumption) rfl ?_
        refine r_top _ (wg_4 _ _ _) ?_
        refine r_top (nI dp) hk0 ?_
        refine r_ic (v := nI 1) C rfl (by decide) ?_
        refine r_isub C rfl ?_
        refine r_top (nI (dp - 1)) (pk_sub (by omega)) ?_
        refine r_icmp_ne C 90 rfl (by decide) (fun h2 => ?_) (fun h2 => ?_)
        · refine r_ic (v := nI 0) C rfl (by decide) ?_
          exact k91 _ _ hz1 (by rw [if_neg (fun q => h2 (by rw [q]))]; rfl)
        · have h2 := (nI_eq (by omega) (by omega)).mp h2
          refine r_aload_n C 1 rfl rfl rfl rfl ?_
          refine r_geti C rfl f_X9_104 (by assumption) rfl ?_
          refine r_top _ (wg_10 _ _ _) ?_
          refine r_ic (v := nI 2) C rfl (by decide) ?_
          refine r_idiv C rfl (by decide) ?_
          refine r_goto C 91 rfl (by decide) ?_
          exact k91 _ _ hz1 (by rw [if_pos h2])
      refine r_iload C rfl rfl ?_
      refine r_istore C rfl (by exact Nat.le_of_ble_eq_true rfl) ?_
      refine r_iload C rfl rfl ?_
      refine r_iload C rfl rfl ?_
      refine r_if_ne C 64 rfl (by decide) (fun h2 => ?_) (fun h2 => ?_)
      · refine r_ic (v := nI 0) C rfl (by decide) ?_
        exact k65 _ (by rw [if_neg (fun q => h2 (by rw [q]; rfl))]; rfl)
      · have h2 : c = 0 := (nI_eq (b := 0) (by omega) (by omega)).mp h2
        refine r_aload_n C 1 rfl rfl rfl rfl ?_
        refine r_geti C rfl f_X9_88 (by assumption) rfl ?_
        refine r_top _ (wg_9 _ _ _) ?_
        refine r_goto C 65 rfl (by decide) ?_
        exact k65 _ (by rw [if_pos h2])
  have loop : ∀ n i : Nat, i ≤ mn → mn - i < n → ∀ v4 v5 v6 v7 v8 : Option Value, PT k E Q 0 0 Sh N G (wset M w (it (fun l => it (fun c => dryS air dp mn l c) dp) i R)) 2 [some (.ref t), some (.ref w), some (.int air), some (.int (nI i)), v4, v5, v6, v7, v8] [] := by
    intro n
    induction n with
    | zero => intro i _ h; omega
    | succ n ih =>
      intro i hi hn v4 v5 v6 v7 v8
      have hk0 := (dryR_keep air dp mn i R (j := 0) (by decide) (by decide)).trans w0
      have hk1 := (dryR_keep air dp mn i R (j := 1) (by decide) (by decide)).trans w3
      refine r_iload_n C 3 rfl rfl rfl ?_
      refine r_aload_n C 1 rfl rfl rfl rfl ?_
      refine r_geti C rfl f_X9_45 (by assumption) rfl ?_
      refine r_top _ (wg_5 _ _ _) ?_
      refine r_top (nI mn) hk1 ?_
      refine r_icmp_ge C 145 rfl (by decide) (fun h => ?_) (fun h => ?_)
      · have h := le_nI (by omega) (by omega) h
        have e : i = mn := by omega
        subst e
        exact q_vret C hQ rfl rfl ⟨rfl, rfl, rfl, rfl⟩
      have h := nle_nI (by omega) (by omega) h
      have k32 : ∀ z : Int32, z = (if i = mn - 1 then nI 50 else 0) → PT k E Q 0 0 Sh N G (wset M w (it (fun l => it (fun c => dryS air dp mn l c) dp) i R)) 32 [some (.ref t), some (.ref w), some (.int air), some (.int (nI i)), some (.int (nI (6 * i))), v5, v6, v7, v8] [.int z] := by
        intro z hz
        subst hz
        refine r_istore C rfl (by exact Nat.le_of_ble_eq_true rfl) ?_
        refine r_ic (v := nI 0) C rfl (by decide) ?_
        refine r_istore C rfl (by exact Nat.le_of_ble_eq_true rfl) ?_
        refine r_eqL ?_ (inner i _ h hk0 (fun v7 v8 => ?_) (dp + 1) 0 (by omega) (by omega) v7 v8)
        · first | rfl | (simp only [sm, add3, nI_add, Int32.add_zero, Int32.zero_add]; rfl)
        refine r_iinc (c := nI 1) C rfl rfl (by decide) ?_
        refine r_goto C 2 rfl (by decide) ?_
        refine r_eqL ?_ (ih (i + 1) (by omega) (by omega) (some (.int (nI (6 * i)))) (some (.int (if i = mn - 1 then nI 50 else 0))) (some (.int (nI dp))) v7 v8)
        first | rfl | (simp only [sm, add3, nI_add, Int32.add_zero, Int32.zero_add]; rfl)
      refine r_iload_n C 3 rfl rfl rfl ?_
      refine r_bi (v := nI 6) C rfl (by decide) ?_
      refine r_imul C rfl ?_
      refine r_top (nI (6 * i)) (by rw [pk_mul, Nat.mul_comm]) ?_
      refine r_istore C rfl (by exact Nat.le_of_ble_eq_true rfl) ?_
      refine r_iload_n C 3 rfl rfl rfl ?_
      refine r_aload_n C 1 rfl rfl rfl rfl ?_
      refine r_geti C rfl f_X9_45 (by assumption) rfl ?_
      refine r_top _ (wg_5 _ _ _) ?_
      refine r_top (nI mn) hk1 ?_
      refine r_ic (v := nI 1) C rfl (by decide) ?_
      refine r_isub C rfl ?_
      refine r_top (nI (mn - 1)) (pk_sub (by omega)) ?_
      refine r_icmp_ne C 31 rfl (by decide) (fun h2 => ?_) (fun h2 => ?_)
      · refine r_ic (v := nI 0) C rfl (by decide) ?_
        exact k32 _ (by rw [if_neg (fun q => h2 (by rw [q]))]; rfl)
      · have h2 := (nI_eq (by omega) (by omega)).mp h2
        refine r_bi (v := nI 50) C rfl (by decide) ?_
        refine r_goto C 32 rfl (by decide) ?_
        exact k32 _ (by rw [if_pos h2])
  refine r_ic (v := nI 0) C rfl (by decide) ?_
  refine r_istore_n C 3 rfl rfl (by exact Nat.le_of_ble_eq_true rfl) ?_
  exact loop (mn + 1) 0 (by omega) (by omega) none none none none none
end WEATHER2
end
section
section WEATHER3
variable {E : VE} {Sh : Nat → SE} {N : Nat} {G : Bool} {M : MM} {w yd t : Nat} {R : Row}
/-- a cell cracks by frost, by shrinking -/
def coldB (fr : Bool) (a v : Int32) (c : Nat) : Bool := fr && decide (c = 0) && (decide (nI 180 ≤ a) || decide (nI 180 ≤ v))
def shrB (sk a v : Int32) : Bool := decide (nI 60 < sk) && decide (nI 150 ≤ a) && decide (v < nI 150)
theorem cracks_eq (fr : Bool) (sk a v : Int32) (c : Nat) : cracks fr sk a v c = (coldB fr a v c || shrB sk a v) := rfl
/-- behind the layers below l, the frost on l, and c cells of it that shrink -/
def crackL (fr : Bool) (sk : Int32) (u : Nat → Int32) (dp l c : Nat) (R : Row) : Row := fun j =>
  if 181 ≤ j ∧ j < 325 ∧ (j - 181) % 6 < dp ∧ (((j - 181) / 6 < l ∧ cracks fr sk (u (j - 181)) (R (37 + (j - 181))) ((j - 181) % 6) = true) ∨ ((j - 181) / 6 = l ∧ (coldB fr (u (j - 181)) (R (37 + (j - 181))) ((j - 181) % 6) = true ∨ ((j - 181) % 6 < c ∧ shrB sk (u (j - 181)) (R (37 + (j - 181))) = true)))) then R j ||| nI 1 else R j
theorem or1 (x : Int32) : (x ||| nI 1) ||| nI 1 = x ||| nI 1 := by rw [Int32.or_assoc]; congr 1
theorem crackL_lo {fr : Bool} {sk : Int32} {u : Nat → Int32} {dp l c : Nat} {R : Row} {j : Nat} (h : j < 181) : crackL fr sk u dp l c R j = R j := by
  simp only [crackL]
  rw [if_neg (by omega)]
theorem crackL_cold {fr : Bool} {sk : Int32} {u : Nat → Int32} {dp l : Nat} {R : Row} (hd : 1 ≤ dp) (hl : l < 24) (h : coldB fr (u (6 * l)) (R (37 + 6 * l)) 0 = true) : upd (crackR fr sk u dp l 0 R) (181 + 6 * l) (crackR fr sk u dp l 0 R (181 + 6 * l) ||| nI 1) = crackL fr sk u dp l 0 R := by
  funext j
  simp only [upd]
  by_cases e : j = 181 + 6 * l
  · subst e
    rw [if_pos rfl]
    have e1 : (181 + 6 * l - 181) = 6 * l := by omega
    have e2 : (6 * l) % 6 = 0 := by omega
    have e3 : (6 * l) / 6 = l := by omega
    simp only [crackR, crackL, e1, e2, e3]
    rw [if_neg (by omega), if_pos ⟨by omega, by omega, by omega, Or.inr ⟨trivial, Or.inl h⟩⟩]
  · rw [if_neg e]
    simp only [crackR, crackL]
    by_cases q : 181 ≤ j ∧ j < 325 ∧ (j - 181) % 6 < dp
    · by_cases q1 : (j - 181) / 6 < l
      · have q3 : ¬ (j - 181) / 6 = l := by omega
        simp [q, q1, q3]
      · by_cases q2 : (j - 181) / 6 = l
        · have hc : (j - 181) % 6 ≠ 0 := by omega
          have hcold : coldB fr (u (j - 181)) (R (37 + (j - 181))) ((j - 181) % 6) = false := by simp [coldB, hc]
          simp [q, q1, q2, hcold]
        · simp [q, q1, q2]
    · rw [if_neg (fun z => q ⟨z.1, z.2.1, z.2.2.1⟩), if_neg (fun z => q ⟨z.1, z.2.1, z.2.2.1⟩)]
theorem crackL_warm {fr : Bool} {sk : Int32} {u : Nat → Int32} {dp l : Nat} {R : Row} (h : coldB fr (u (6 * l)) (R (37 + 6 * l)) 0 = false) : crackR fr sk u dp l 0 R = crackL fr sk u dp l 0 R := by
  funext j
  simp only [crackR, crackL]
  by_cases q : 181 ≤ j ∧ j < 325 ∧ (j - 181) % 6 < dp
  · by_cases q1 : (j - 181) / 6 < l
    · have q3 : ¬ (j - 181) / 6 = l := by omega
      simp [q, q1, q3]
    · by_cases q2 : (j - 181) / 6 = l
      · have hcold : coldB fr (u (j - 181)) (R (37 + (j - 181))) ((j - 181) % 6) = false := by
          by_cases hc : (j - 181) % 6 = 0
          · rw [hc, show j - 181 = 6 * l by omega]; exact h
          · simp [coldB, hc]
        simp [q, q1, q2, hcold]
      · simp [q, q1, q2]
  · rw [if_neg (fun z => q ⟨z.1, z.2.1, z.2.2.1⟩), if_neg (fun z => q ⟨z.1, z.2.1, z.2.2.1⟩)]
theorem crackL_yes {fr : Bool} {sk : Int32} {u : Nat → Int32} {dp l c : Nat} {R : Row} (hc : c < dp) (hd : dp ≤ 6) (hl : l < 24) (h : shrB sk (u (6 * l + c)) (R (37 + (6 * l + c))) = true) : upd (crackL fr sk u dp l c R) (181 + (6 * l + c)) (crackL fr sk u dp l c R (181 + (6 * l + c)) ||| nI 1) = crackL fr sk u dp l (c + 1) R := by
  funext j
  simp only [upd]
  by_cases e : j = 181 + (6 * l + c)
  · subst e
    rw [if_pos rfl]
    have e1 : (181 + (6 * l + c) - 181) = 6 * l + c := by omega
    have e2 : (6 * l + c) % 6 = c := by omega
    have e3 : (6 * l + c) / 6 = l := by omega
    simp only [crackL, e1, e2, e3]
    rw [if_pos (c := _ ∧ _ ∧ _ ∧ (_ ∨ (_ ∧ (_ ∨ (c < c + 1 ∧ _))))) ⟨by omega, by omega, hc, Or.inr ⟨trivial, Or.inr ⟨by omega, h⟩⟩⟩]
    split
    · exact or1 _
    · rfl
  · rw [if_neg e]
    simp only [crackL]
    by_cases q : 181 ≤ j ∧ j < 325 ∧ (j - 181) % 6 < dp
    · by_cases q2 : (j - 181) / 6 = l
      · have e9 : ((j - 181) % 6 < c) = ((j - 181) % 6 < c + 1) := propext (by omega)
        simp [q, q2, e9]
      · simp [q, q2]
    · rw [if_neg (fun z => q ⟨z.1, z.2.1, z.2.2.1⟩), if_neg (fun z => q ⟨z.1, z.2.1, z.2.2.1⟩)]
theorem crackL_no {fr : Bool} {sk : Int32} {u : Nat → Int32} {dp l c : Nat} {R : Row} (h : shrB sk (u (6 * l + c)) (R (37 + (6 * l + c))) = false) : crackL fr sk u dp l c R = crackL fr sk u dp l (c + 1) R := by
  funext j
  simp only [crackL]
  by_cases q : 181 ≤ j ∧ j < 325 ∧ (j - 181) % 6 < dp
  · by_cases q2 : (j - 181) / 6 = l
    · by_cases q3 : (j - 181) % 6 = c
      · have e9 : j - 181 = 6 * l + c := by omega
        simp [q, q2, q3, e9, h]
      · have e9 : ((j - 181) % 6 < c) = ((j - 181) % 6 < c + 1) := propext (by omega)
        simp [q, q2, e9]
    · simp [q, q2]
  · rw [if_neg (fun z => q ⟨z.1, z.2.1, z.2.2.1⟩), if_neg (fun z => q ⟨z.1, z.2.1, z.2.2.1⟩)]
theorem crackL_row {fr : Bool} {sk : Int32} {u : Nat → Int32} {dp l c : Nat} {R : Row} (h : dp ≤ c ∨ ¬ nI 60 < sk) : crackL fr sk u dp l c R = crackR fr sk u dp (l + 1) 0 R := by
  funext j
  simp only [crackL, crackR]
  by_cases q : 181 ≤ j ∧ j < 325 ∧ (j - 181) % 6 < dp
  · by_cases q1 : (j - 181) / 6 < l
    · have q2 : (j - 181) / 6 < l + 1 := by omega
      have q3 : ¬ (j - 181) / 6 = l := by omega
      simp [q, q1, q2, q3]
    · by_cases q2 : (j - 181) / 6 = l
      · have e9 : ((j - 181) % 6 < c ∧ shrB sk (u (j - 181)) (R (37 + (j - 181))) = true) = (shrB sk (u (j - 181)) (R (37 + (j - 181))) = true) := propext ⟨fun z => z.2, fun z => by
          rcases h with h | h
          · exact ⟨by omega, z⟩
          · simp [shrB, h] at z⟩
        simp only [cracks_eq, Bool.or_eq_true]
        simp [q, q2, e9]
      · have q3 : ¬ (j - 181) / 6 < l + 1 := by omega
        simp [q, q1, q2, q3]
  · rw [if_neg (fun z => q ⟨z.1, z.2.1, z.2.2.1⟩), if_neg (fun z => q ⟨z.1, z.2.1, z.2.2.1⟩)]
theorem mx180 (a v : Int32) : nI 180 ≤ mx a v ↔ nI 180 ≤ a ∨ nI 180 ≤ v := by
  simp only [mx, Int32.le_iff_toInt_le, Int32.lt_iff_toInt_lt]
  split <;> omega
theorem t_crackAll (hA : WA Sh N w yd) (hT : TA Sh N t yd) (hdis : t + 3 ≤ w ∨ w + 4 ≤ t) (fr : Bool) (dp mn : Nat) (hW : WF R dp mn) : Con E mX9_crackAll 2 0 0 [.ref t, .ref w, .int (bI fr)] Sh N G (wset M w R) (P1 none Sh N (wset M w (crackR fr (M yd 7) (M (t + 1)) dp mn 0 R))) nox := by
  obtain ⟨w0, w1, w2, w3, w4⟩ := hW
  have hA' := hA
  obtain ⟨a0, a1, a2, a3, ⟨b0, b1, b2, b3⟩, a5⟩ := hA
  obtain ⟨t0, t1, t2, t3⟩ := hT
  have hb1 : ∀ R' : Row, wset M w R' (t + 1) = M (t + 1) := fun R' => wset_cell M R' (by omega)
  refine Con.ofQ (by decide +kernel) (by simp [Value.category]) (Nat.le_of_ble_eq_true rfl) (fun k C0 Q hQ => ?_)
  have C : CK k E mX9_crackAll kdX9_crackAll 2 0 0 := ⟨C0, kdX9_crackAll_ok⟩
  have inner : ∀ (l : Nat), l < mn → (∀ v6 : Option Value, PT k E Q 0 0 Sh N G (wset M w (crackR fr (M yd 7) (M (t + 1)) dp (l + 1) 0 R)) 128 [some (.ref t), some (.ref w), some (.int (bI fr)), some (.int (bI (decide (nI 60 < M yd 7)))), some (.int (nI l)), some (.int (nI (6 * l))), v6] []) → ∀ n c : Nat, c ≤ dp → dp - c < n → PT k E Q 0 0 Sh N G (wset M w (crackL fr (M yd 7) (M (t + 1)) dp l c R)) 74 [some (.ref t), some (.ref w), some (.int (bI fr)), some (.int (bI (decide (nI 60 < M yd 7)))), some (.int (nI l)), some (.int (nI (6 * l))), some (.int (nI (6 * l + c)))] [] := by
    intro l hl kk
    intro n
    induction n with
    | zero => intro i _ h; omega
    | succ n ih =>
      intro c hc hn
      refine r_iload_n C 3 rfl rfl rfl ?_
      refine r_if_eq C 128 rfl (by decide) (fun h => ?_) (fun h => ?_)
      · have h := of_decide_eq_false (bI_0 h)
        rw [crackL_row (Or.inr h)]
        exact kk _
      have hsk := of_decide_eq_true (bI_1 h)
      refine r_iload C rfl rfl ?_
      refine r_iload C rfl rfl ?_
      refine r_aload_n C 1 rfl rfl rfl rfl ?_
      refine r_geti C rfl f_X9_77 (by assumption) rfl ?_
      refine r_top _ (wg_4 _ _ _) ?_
      refine r_top (nI dp) (by rw [crackL_lo (by decide)]; exact w0) ?_
      refine r_iadd C rfl ?_
      refine r_top (nI (6 * l + dp)) (by rw [nI_add]) ?_
      refine r_icmp_ge C 128 rfl (by decide) (fun h => ?_) (fun h => ?_)
      · have h := le_nI (by omega) (by omega) h
        rw [crackL_row (Or.inl (by omega))]
        exact kk _
      have h := nle_nI (by omega) (by omega) h
      have k122 : ∀ R4 : Row, R4 = crackL fr (M yd 7) (M (t + 1)) dp l (c + 1) R → PT k E Q 0 0 Sh N G (wset M w R4) 122 [some (.ref t), some (.ref w), some (.int (bI fr)), some (.int (bI (decide (nI 60 < M yd 7)))), some (.int (nI l)), some (.int (nI (6 * l))), some (.int (nI (6 * l + c)))] [] := by
        intro R4 hR4
        subst hR4
        refine r_iinc (c := nI 1) C rfl rfl (by decide) ?_
        refine r_goto C 74 rfl (by decide) ?_
        refine r_eqL ?_ (ih (c + 1) (by omega) (by omega))
        rw [show 6 * l + (c + 1) = 6 * l + c + 1 by omega]
        first | rfl | (simp only [sm, add3, nI_add, Int32.add_zero, Int32.zero_add]; rfl)
      refine r_aload_n C 0 rfl rfl rfl rfl ?_
      refine r_getv C rfl f_X9_9 (by assumption) rfl ?_
      refine r_iload C rfl rfl ?_
      refine r_iald C rfl (by assumption) (6 * l + c) rfl (by omega) (by decide) ?_
      refine r_si (v := nI 150) C rfl (by decide) ?_
      rw [hb1]
      refine r_icmp_lt C 122 rfl (by decide) (fun h2 => ?_) (fun h2 => ?_)
      · exact k122 _ (crackL_no (by simp only [shrB]; rw [decide_eq_false (fun q : nI 150 ≤ _ => absurd h2 (Int32.not_lt.mpr q)), Bool.and_false, Bool.false_and]))
      refine r_aload_n C 1 rfl rfl rfl rfl ?_
      refine r_getv C rfl f_X9_42 (by assumption) rfl ?_
      refine r_iload C rfl rfl ?_
      refine r_iald C rfl (by assumption) (6 * l + c) rfl (by omega) (by decide) ?_
      refine r_top _ (wg_w _ _ _ (by omega)) ?_
      refine r_top (R (37 + (6 * l + c))) (crackL_lo (by omega)) ?_
      refine r_si (v := nI 150) C rfl (by decide) ?_
      refine r_icmp_ge C 122 rfl (by decide) (fun h3 => ?_) (fun h3 => ?_)
      · exact k122 _ (crackL_no (by simp only [shrB]; rw [decide_eq_false (Int32.not_lt.mpr h3), Bool.and_false]))
      refine r_aload_n C 1 rfl rfl rfl rfl ?_
      refine r_iload C rfl rfl ?_
      refine v1_v C rfl mfX8_crack lk_X9_113 (by assumption) (w_crack hA' (6 * l + c) rfl (by omega)) ?_
      exact k122 _ (crackL_yes (by omega) w2 (by omega) (by simp only [shrB]; rw [decide_eq_true hsk, decide_eq_true (Int32.not_lt.mp h2), decide_eq_true (Int32.not_le.mp h3)]; rfl))
  have loop : ∀ n i : Nat, i ≤ mn → mn - i < n → ∀ v5 v6 : Option Value, PT k E Q 0 0 Sh N G (wset M w (crackR fr (M yd 7) (M (t + 1)) dp i 0 R)) 21 [some (.ref t), some (.ref w), some (.int (bI fr)), some (.int (bI (decide (nI 60 < M yd 7)))), some (.int (nI i)), v5, v6] [] := by
    intro n
    induction n with
    | zero => intro i _ h; omega
    | succ n ih =>
      intro i hi hn v5 v6
      refine r_iload C rfl rfl ?_
      refine r_aload_n C 1 rfl rfl rfl rfl ?_
      refine r_geti C rfl f_X9_45 (by assumption) rfl ?_
      refine r_top _ (wg_5 _ _ _) ?_
      refine r_top (nI mn) ((crack_lo _ _ _ _ _ _ _ (by decide)).trans w3) ?_
      refine r_icmp_ge C 134 rfl (by decide) (fun h => ?_) (fun h => ?_)
      · have h := le_nI (by omega) (by omega) h
        have e : i = mn := by omega
        subst e
        exact q_vret C hQ rfl rfl ⟨rfl, rfl, rfl, rfl⟩
      have h := nle_nI (by omega) (by omega) h
      refine r_iload C rfl rfl ?_
      refine r_bi (v := nI 6) C rfl (by decide) ?_
      refine r_imul C rfl ?_
      refine r_top (nI (6 * i)) (by rw [pk_mul, Nat.mul_comm]) ?_
      have k70 : ∀ R4 : Row, R4 = crackL fr (M yd 7) (M (t + 1)) dp i 0 R → PT k E Q 0 0 Sh N G (wset M w R4) 70 [some (.ref t), some (.ref w), some (.int (bI fr)), some (.int (bI (decide (nI 60 < M yd 7)))), some (.int (nI i)), some (.int (nI (6 * i))), v6] [] := by
        intro R4 hR4
        subst hR4
        refine r_iload C rfl rfl ?_
        refine r_istore C rfl (by exact Nat.le_of_ble_eq_true rfl) ?_
        refine r_eqL ?_ (inner i h (fun v6 => ?_) (dp + 1) 0 (by omega) (by omega))
        · first | rfl | (simp only [sm, add3, nI_add, Int32.add_zero, Int32.zero_add]; rfl)
        refine r_iinc (c := nI 1) C rfl rfl (by decide) ?_
        refine r_goto C 21 rfl (by decide) ?_
        refine r_eqL ?_ (ih (i + 1) (by omega) (by omega) (some (.int (nI (6 * i)))) v6)
        first | rfl | (simp only [sm, add3, nI_add, Int32.add_zero, Int32.zero_add]; rfl)
      refine r_istore C rfl (by exact Nat.le_of_ble_eq_true rfl) ?_
      refine r_iload_n C 2 rfl rfl rfl ?_
      refine r_if_eq C 70 rfl (by decide) (fun h2 => ?_) (fun h2 => ?_)
      · refine r_eqL ?_ (k70 _ (crackL_warm (by simp only [coldB]; rw [bI_0 h2]; rfl)))
        first | rfl | (simp only [sm, add3, nI_add, Int32.add_zero, Int32.zero_add]; rfl)
      have h2 := bI_1 h2
      refine r_aload_n C 0 rfl rfl rfl rfl ?_
      refine r_getv C rfl f_X9_9 (by assumption) rfl ?_
      refine r_iload C rfl rfl ?_
      refine r_iald C rfl (by assumption) (6 * i) rfl (by omega) (by decide) ?_
      refine r_aload_n C 1 rfl rfl rfl rfl ?_
      refine r_getv C rfl f_X9_42 (by assumption) rfl ?_
      refine r_iload C rfl rfl ?_
      refine r_iald C rfl (by assumption) (6 * i) rfl (by omega) (by decide) ?_
      refine r_top _ (wg_w _ _ _ (by omega)) ?_
      refine r_top (R (37 + 6 * i)) (crack_lo _ _ _ _ _ _ _ (by omega)) ?_
      rw [hb1]
      refine r_max C rfl lk_X9_97 ?_
      refine r_si (v := nI 180) C rfl (by decide) ?_
      refine r_icmp_lt C 70 rfl (by decide) (fun h3 => ?_) (fun h3 => ?_)
      · refine r_eqL ?_ (k70 _ (crackL_warm ?_))
        · first | rfl | (simp only [sm, add3, nI_add, Int32.add_zero, Int32.zero_add]; rfl)
        · have h4 := mt (mx180 _ _).mpr (Int32.not_le.mpr h3)
          simp only [coldB]
          rw [decide_eq_false (fun q => h4 (Or.inl q)), decide_eq_false (fun q => h4 (Or.inr q)), Bool.or_false, Bool.and_false]
      · have h4 := (mx180 _ _).mp (Int32.not_lt.mp h3)
        refine r_aload_n C 1 rfl rfl rfl rfl ?_
        refine r_iload C rfl rfl ?_
        refine v1_v C rfl mfX8_crack lk_X9_113 (by assumption) (w_crack hA' (6 * i) rfl (by omega)) ?_
        refine r_eqL ?_ (k70 _ (crackL_cold w1 (by omega) ?_))
        · first | rfl | (simp only [sm, add3, nI_add, Int32.add_zero, Int32.zero_add]; rfl)
        · simp only [coldB]
          rw [h2]
          rcases h4 with h4 | h4
          · rw [decide_eq_true h4]; rfl
          · rw [decide_eq_true h4, Bool.or_true]; rfl
  have k17 : ∀ z : Int32, z = bI (decide (nI 60 < M yd 7)) → PT k E Q 0 0 Sh N G (wset M w R) 17 [some (.ref t), some (.ref w), some (.int (bI fr)), none, none, none, none] [.int z] := by
    intro z hz
    subst hz
    refine r_istore_n C 3 rfl rfl (by exact Nat.le_of_ble_eq_true rfl) ?_
    refine r_ic (v := nI 0) C rfl (by decide) ?_
    refine r_istore C rfl (by exact Nat.le_of_ble_eq_true rfl) ?_
    refine r_eqM ?_ (loop (mn + 1) 0 (by omega) (by omega) none none)
    rw [crack_0]
  refine r_aload_n C 0 rfl rfl rfl rfl ?_
  refine r_getv C rfl f_X9_18 (by assumption) rfl ?_
  refine r_geti C rfl f_X9_110 (by assumption) rfl ?_
  refine r_top _ (wset_lo _ _ (by omega)) ?_
  refine r_bi (v := nI 60) C rfl (by decide) ?_
  refine r_icmp_le C 16 rfl (by decide) (fun h => ?_) (fun h => ?_)
  · refine r_ic (v := nI 0) C rfl (by decide) ?_
    exact k17 _ (by rw [decide_eq_false (Int32.not_lt.mpr h)]; rfl)
  · refine r_ic (v := nI 1) C rfl (by decide) ?_
    refine r_goto C 17 rfl (by decide) ?_
    exact k17 _ (by rw [decide_eq_true (Int32.not_le.mp h)]; rfl)
end WEATHER3
end
section
section WEATHER4
variable {E : VE} {Sh : Nat → SE} {N : Nat} {G : Bool} {M : MM} {w yd t : Nat} {R : Row}
theorem sm_shift (f : Nat → Int32) : ∀ n : Nat, sm f (n + 1) = f 0 + sm (fun i => f (i + 1)) n
  | 0 => by simp only [sm]; rw [Int32.add_comm]
  | n + 1 => by rw [sm, sm_shift f n, sm, add3]
theorem upd_same {f : Nat → Int32} {i : Nat} : upd f i (f i) = f := by
  funext j
  simp only [upd]
  by_cases h : j = i
  · rw [if_pos h, h]
  · rw [if_neg h]
theorem lods_cong {R R' : Row} (h : ∀ j, j < 13 ∨ 37 ≤ j → R j = R' j) (dp l : Nat) : lods R dp l = lods R' dp l := by
  simp only [lods]; exact sm_cong (fun c _ => lod_cong h _)
/-- the loads of the layers from m on -/
def pab (R : Row) (dp mn m : Nat) : Int32 := sm (fun i => lods R dp (m + i)) (mn - m)
theorem pab_prs (R : Row) (dp mn l : Nat) : pab R dp mn (l + 1) = prs R dp l (mn - 1 - l) := by
  rw [pab, prs, show mn - (l + 1) = mn - 1 - l by omega]
theorem pab_step (R : Row) (dp mn l : Nat) (h : l < mn) : pab R dp mn (l + 1) + lods R dp l = pab R dp mn l := by
  rw [pab, pab, show mn - l = (mn - (l + 1)) + 1 by omega, sm_shift, Int32.add_comm]
  congr 1
  exact sm_cong (fun i _ => by rw [show l + 1 + i = l + (i + 1) by omega])
theorem t_settle (hA : WA Sh N w yd) (hT : TA Sh N t yd) (dp mn : Nat) (hW : WF R dp mn) (h7 : R 7 = 0 ∨ R 7 = 1) : Con E mX9_settle 3 0 0 [.ref t, .ref w] Sh N G (wset M w R) (P1 (some (.int (fI (lowN (sitR (M yd 8) (M yd 6) dp mn 0 R) 0 mn)))) Sh N (wset M w (sitR (M yd 8) (M yd 6) dp mn 0 R))) nox := by
  obtain ⟨w0, w1, w2, w3, w4⟩ := hW
  have hA' := hA
  obtain ⟨a0, a1, a2, a3, a4, a5⟩ := hA
  obtain ⟨t0, t1, t2, t3⟩ := hT
  refine Con.ofQ (by decide +kernel) (by simp [Value.category]) (Nat.le_of_ble_eq_true rfl) (fun k C0 Q hQ => ?_)
  have C : CK k E mX9_settle kdX9_settle 3 0 0 := ⟨C0, kdX9_settle_ok⟩
  have hWs : ∀ l, WF (sitR (M yd 8) (M yd 6) dp mn l R) dp mn := fun l => ⟨by rw [sit_keep _ _ _ _ _ _ w4 (by omega)]; exact w0, w1, w2, by rw [sit_keep _ _ _ _ _ _ w4 (by omega)]; exact w3, w4⟩
  have h7s : ∀ l, sitR (M yd 8) (M yd 6) dp mn l R 7 = 0 ∨ sitR (M yd 8) (M yd 6) dp mn l R 7 = 1 := fun l => by rw [sit_keep _ _ _ _ _ _ w4 (by omega)]; exact h7
  have loop : ∀ n m : Nat, m ≤ mn → m < n → ∀ v5 : Option Value, PT k E Q 0 0 Sh N G (wset M w (sitR (M yd 8) (M yd 6) dp mn m R)) 12 [some (.ref t), some (.ref w), some (.int (pab R dp mn m)), some (.int (fI (lowN (sitR (M yd 8) (M yd 6) dp mn 0 R) m (mn - m)))), some (.int (nI m - nI 1)), v5] [] := by
    intro n
    induction n with
    | zero => intro m _ h; omega
    | succ n ih =>
      intro m hm hn v5
      refine r_iload C rfl rfl ?_
      refine r_if_lt C 84 rfl (by decide) (fun h => ?_) (fun h => ?_)
      · have h := (lt0_nI (by omega)).mp h
        subst h
        refine r_iload_n C 3 rfl rfl rfl ?_
        exact q_iret C hQ rfl rfl rfl ⟨by rw [Nat.sub_zero], rfl, rfl, rfl⟩
      have hm0 : m ≠ 0 := fun q => h ((lt0_nI (by omega)).mpr q)
      obtain ⟨l, rfl⟩ : ∃ l, m = l + 1 := ⟨m - 1, by omega⟩
      have hcong : ∀ l', ∀ j, j < 13 ∨ 37 ≤ j → sitR (M yd 8) (M yd 6) dp mn l' R j = R j := fun l' j hj => sit_keep _ _ _ _ _ _ w4 hj
      refine r_eqL (L' := [some (.ref t), some (.ref w), some (.int (pab R dp mn (l + 1))), some (.int (fI (lowN (sitR (M yd 8) (M yd 6) dp mn 0 R) (l + 1) (mn - (l + 1))))), some (.int (nI l)), v5]) (by rw [pk_sub (by omega)]; rfl) ?_
      refine r_aload_n C 1 rfl rfl rfl rfl ?_
      refine r_iload C rfl rfl ?_
      refine v1_r C rfl mfX8_bears lk_X9_116 (by assumption) (w_bears hA' dp mn l (hWs (l + 1)) (h7s (l + 1)) rfl (by omega)) ?_
      rw [bear_cong (hcong (l + 1))]
      have k69 : ∀ z : Int32, z = fI (lowN (sitR (M yd 8) (M yd 6) dp mn 0 R) l (mn - l)) → PT k E Q 0 0 Sh N G (wset M w (sitR (M yd 8) (M yd 6) dp mn l R)) 69 [some (.ref t), some (.ref w), some (.int (pab R dp mn (l + 1))), some (.int z), some (.int (nI l)), some (.int (bear (M yd 8) (M yd 6) R dp l))] [] := by
        intro z hz
        subst hz
        refine r_iload_n C 2 rfl rfl rfl ?_
        refine r_aload_n C 1 rfl rfl rfl rfl ?_
        refine r_iload C rfl rfl ?_
        refine v1_r C rfl mfX8_loads lk_X9_123 (by assumption) (w_loads hA' dp mn l (hWs l) rfl (by omega)) ?_
        rw [lods_cong (hcong l)]
        refine r_iadd C rfl ?_
        rw [pab_step R dp mn l (by omega)]
        refine r_istore_n C 2 rfl rfl (by exact Nat.le_of_ble_eq_true rfl) ?_
        refine r_iinc (c := (-1)) C rfl rfl (by decide) ?_
        refine r_goto C 12 rfl (by decide) ?_
        refine r_eqL ?_ (ih l (by omega) (by omega) (some (.int (bear (M yd 8) (M yd 6) R dp l))))
        rw [show nI l + (-1) = nI l - nI 1 from by rw [Int32.sub_eq_add_neg]; rfl]
        rfl
      have k54 : ∀ X : Row, X = sitR (M yd 8) (M yd 6) dp mn l R → PT k E Q 0 0 Sh N G (wset M w X) 54 [some (.ref t), some (.ref w), some (.int (pab R dp mn (l + 1))), some (.int (fI (lowN (sitR (M yd 8) (M yd 6) dp mn 0 R) (l + 1) (mn - (l + 1))))), some (.int (nI l)), some (.int (bear (M yd 8) (M yd 6) R dp l))] [] := by
        intro X hX
        subst hX
        have hlow : lowN (sitR (M yd 8) (M yd 6) dp mn 0 R) l (mn - l) = if nI 6 ≤ sitR (M yd 8) (M yd 6) dp mn l R (13 + l) then some l else lowN (sitR (M yd 8) (M yd 6) dp mn 0 R) (l + 1) (mn - (l + 1)) := by
          rw [show mn - l = (mn - (l + 1)) + 1 by omega, lowN, sit_same _ _ _ _ l _ (Nat.le_refl l)]
        refine r_aload_n C 1 rfl rfl rfl rfl ?_
        refine r_getv C rfl f_X9_120 (by assumption) rfl ?_
        refine r_iload C rfl rfl ?_
        refine r_iald C rfl (by assumption) (l) rfl (by omega) (by decide) ?_
        refine r_top _ (wg_b _ _ _ (by omega)) ?_
        refine r_bi (v := nI 6) C rfl (by decide) ?_
        refine r_icmp_lt C 69 rfl (by decide) (fun h2 => ?_) (fun h2 => ?_)
        · exact k69 _ (by rw [hlow, if_neg (Int32.not_le.mpr h2)])
        · refine r_iload C rfl rfl ?_
          refine r_istore_n C 3 rfl rfl (by exact Nat.le_of_ble_eq_true rfl) ?_
          exact k69 (nI l) (by rw [hlow, if_pos (Int32.not_lt.mp h2)]; rfl)
      refine r_istore C rfl (by exact Nat.le_of_ble_eq_true rfl) ?_
      refine r_iload_n C 2 rfl rfl rfl ?_
      refine r_iload C rfl rfl ?_
      refine r_icmp_le C 54 rfl (by decide) (fun h2 => ?_) (fun h2 => ?_)
      · refine k54 _ ?_
        rw [pab_prs] at h2
        rw [← sit_step _ _ _ _ _ _ (show l < mn by omega), more, if_neg (Int32.not_lt.mpr h2), if_neg (fun q => absurd q.1 (Int32.not_lt.mpr h2)), show R (13 + l) + ((0 : Int32) + 0) = sitR (M yd 8) (M yd 6) dp mn (l + 1) R (13 + l) from by rw [sit_below _ _ _ _ _ _ (by omega)]; simp, upd_same]
      have h2 := Int32.not_le.mp h2
      have k52 : ∀ z : Int32, z = more (bear (M yd 8) (M yd 6) R dp l) (prs R dp l (mn - 1 - l)) → PT k E Q 0 0 Sh N G (wset M w (sitR (M yd 8) (M yd 6) dp mn (l + 1) R)) 52 [some (.ref t), some (.ref w), some (.int (pab R dp mn (l + 1))), some (.int (fI (lowN (sitR (M yd 8) (M yd 6) dp mn 0 R) (l + 1) (mn - (l + 1))))), some (.int (nI l)), some (.int (bear (M yd 8) (M yd 6) R dp l))] [.int z, .int (R (13 + l)), .int (nI l), .ref (w + 3)] := by
        intro z hz
        refine r_iadd C rfl ?_
        refine r_iast C rfl (by assumption) (l) rfl (by omega) (by decide) ?_
        refine r_eqM (wp_b _ _ _ _ (by omega)) ?_
        exact k54 _ (by rw [hz, sit_step _ _ _ _ _ _ (by omega)])
      refine r_aload_n C 1 rfl rfl rfl rfl ?_
      refine r_getv C rfl f_X9_120 (by assumption) rfl ?_
      refine r_iload C rfl rfl ?_
      refine r_dup2 C rfl rfl rfl ?_
      refine r_iald C rfl (by assumption) (l) rfl (by omega) (by decide) ?_
      refine r_top _ (wg_b _ _ _ (by omega)) ?_
      refine r_top (R (13 + l)) (sit_below _ _ _ _ _ _ (by omega)) ?_
      refine r_iload_n C 2 rfl rfl rfl ?_
      refine r_ic (v := nI 2) C rfl (by decide) ?_
      refine r_iload C rfl rfl ?_
      refine r_imul C rfl ?_
      refine r_icmp_lt C 51 rfl (by decide) (fun h3 => ?_) (fun h3 => ?_)
      · refine r_ic (v := nI 1) C rfl (by decide) ?_
        refine k52 _ ?_
        rw [pab_prs] at h2 h3
        rw [more, if_pos h2, if_neg (fun q => absurd q.2 (Int32.not_le.mpr h3))]
        rfl
      · refine r_ic (v := nI 2) C rfl (by decide) ?_
        refine r_goto C 52 rfl (by decide) ?_
        refine k52 _ ?_
        rw [pab_prs] at h2 h3
        rw [more, if_pos h2, if_pos ⟨h2, Int32.not_lt.mp h3⟩]
        rfl
  refine r_ic (v := nI 0) C rfl (by decide) ?_
  refine r_istore_n C 2 rfl rfl (by exact Nat.le_of_ble_eq_true rfl) ?_
  refine r_ic (v := (-1)) C rfl (by decide) ?_
  refine r_istore_n C 3 rfl rfl (by exact Nat.le_of_ble_eq_true rfl) ?_
  refine r_aload_n C 1 rfl rfl rfl rfl ?_
  refine r_geti C rfl f_X9_45 (by assumption) rfl ?_
  refine r_top _ (wg_5 _ _ _) ?_
  refine r_top (nI mn) w3 ?_
  refine r_ic (v := nI 1) C rfl (by decide) ?_
  refine r_isub C rfl ?_
  refine r_istore C rfl (by exact Nat.le_of_ble_eq_true rfl) ?_
  refine r_eqM ?_ (r_eqL ?_ (loop (mn + 1) mn (Nat.le_refl _) (by omega) none))
  · rw [sit_end]
  · rw [Nat.sub_self, pab, Nat.sub_self]
    rfl
end WEATHER4
end
section
section WEATHER5
variable {E : VE} {Sh : Nat → SE} {N : Nat} {G : Bool} {M : MM} {w yd t : Nat} {R : Row}
theorem crackR_w2 {fr : Bool} {sk : Int32} {u u' : Nat → Int32} {dp l : Nat} {R : Row} (h : ∀ j, j < 6 * l → u j = u' j) : crackR fr sk u dp l 0 R = crackR fr sk u' dp l 0 R := by
  funext j
  simp only [crackR]
  by_cases q : 181 ≤ j ∧ (j - 181) / 6 < l
  · rw [h (j - 181) (by omega)]
  · rw [if_neg (by omega), if_neg (by omega)]
/-- a week, up to where layers fall -/
def weekS (g f sk dr air : Int32) (fr : Bool) (dp mn : Nat) (R : Row) : Row :=
  sitR g f dp mn 0 (crackR fr sk (fun j => R (37 + j)) dp mn 0 (dryR air dp mn (moveR (fun j => comeR dp mn dr R (37 + j)) dp mn (comeR dp mn dr R))))
theorem weekW_S (g f sk dr air : Int32) (fr : Bool) (dp mn : Nat) (R : Row) : weekW g f sk dr air fr dp mn R = fallR dp mn (weekS g f sk dr air fr dp mn R) := rfl
theorem wat_up (R : Row) (dp l n : Nat) {j : Nat} (v : Int32) (h : j < 37) : wat (upd R j v) dp l n = wat R dp l n := by
  simp only [wat]
  exact sm_cong (fun i _ => sm_cong (fun c _ => by simp only [upd]; rw [if_neg (by omega)]))
theorem cut_up (R : Row) (dp mn l : Nat) {j : Nat} (v : Int32) (h : j < 37) (h1 : j ≠ 1) (h2 : j ≠ 12) : cutR dp mn l (upd R j v) = upd (cutR dp mn l R) j v := by
  have hw := wat_up R dp l (mn - l) v h
  funext i
  show (if i = 12 then upd R j v 12 + wat (upd R j v) dp l (mn - l) else if i = 1 then nI l else upd R j v i) = (if i = j then v else if i = 12 then R 12 + wat R dp l (mn - l) else if i = 1 then nI l else R i)
  rw [hw]
  simp only [upd]
  by_cases e12 : i = 12
  · rw [if_pos e12, if_neg (by omega), if_neg (by omega), if_pos e12]
  · rw [if_neg e12]
    by_cases e1 : i = 1
    · rw [if_pos e1, if_neg (by omega), if_neg e12, if_pos e1]
    · rw [if_neg e1]
      by_cases ej : i = j
      · rw [if_pos ej, if_pos ej]
      · rw [if_neg ej, if_neg ej, if_neg e12, if_neg e1]
theorem anyB_cong {p q : Nat → Bool} : ∀ {n : Nat}, (∀ i, i < n → p i = q i) → anyB p n = anyB q n
  | 0, _ => rfl
  | n + 1, h => by rw [anyB, anyB, anyB_cong (fun i hi => h i (by omega)), h n (by omega)]
theorem allB_cong {p q : Nat → Bool} : ∀ {n : Nat}, (∀ i, i < n → p i = q i) → allB p n = allB q n
  | 0, _ => rfl
  | n + 1, h => by rw [allB, allB, allB_cong (fun i hi => h i (by omega)), h n (by omega)]
theorem why_cong {R R' : Row} {dp l : Nat} (h : ∀ c, c < dp → R (181 + (6 * l + c)) = R' (181 + (6 * l + c)) ∧ R (37 + (6 * l + c)) = R' (37 + (6 * l + c))) : whyR R dp l = whyR R' dp l := by
  simp only [whyR]
  rw [anyB_cong (fun c hc => by rw [(h c hc).1]), allB_cong (fun c hc => by rw [(h c hc).2]), anyB_cong (p := fun c => decide (R (181 + (6 * l + c)) &&& nI 1 = nI 1)) (fun c hc => by rw [(h c hc).1])]
theorem why_up (R : Row) (dp l : Nat) {j : Nat} (v : Int32) (h : j < 37) : whyR (upd R j v) dp l = whyR R dp l :=
  why_cong (fun c _ => ⟨by simp only [upd]; rw [if_neg (by omega)], by simp only [upd]; rw [if_neg (by omega)]⟩)
theorem low_up (R : Row) {j : Nat} (v : Int32) (h : j < 13) : ∀ (n l : Nat), lowN (upd R j v) l n = lowN R l n
  | 0, _ => rfl
  | n + 1, l => by
    have e : upd R j v (13 + l) = R (13 + l) := by simp only [upd]; rw [if_neg (by omega)]
    rw [lowN, lowN, low_up R v h n (l + 1), e]
theorem upd_comm (f : Nat → Int32) {i j : Nat} (x y : Int32) (h : i ≠ j) : upd (upd f i x) j y = upd (upd f j y) i x := by
  funext q
  simp only [upd]
  by_cases e : q = i <;> by_cases e2 : q = j
  · omega
  · rw [if_neg e2, if_pos e, if_pos e]
  · rw [if_pos e2, if_neg e, if_pos e2]
  · rw [if_neg e2, if_neg e, if_neg e, if_neg e2]
/-- the yard's week -/
def yRain (M : MM) (yd wk ps : Nat) : Int32 := if wk = 0 then 0 else M (yd + 3) (3 * (ps % wk))
def yAir (M : MM) (yd wk ps : Nat) : Int32 := if wk = 0 then nI 20 else M (yd + 3) (3 * (ps % wk) + 1)
def yFrost (M : MM) (yd wk ps : Nat) : Bool := if wk = 0 then false else decide (M (yd + 3) (3 * (ps % wk) + 2) = nI 1)
theorem t_pass (hA : WA Sh N w yd) (hT : TA Sh N t yd) (hdis : t + 3 ≤ w ∨ w + 4 ≤ t) (dp mn sh wk ps : Nat) (hW : WF R dp mn) (h7 : R 7 = 0 ∨ R 7 = 1) (hsh : R 3 = nI sh) (hs9 : sh ≤ 9) (hps : R 8 = nI ps) (hp : ps < 2 ^ 31) (hwk : M yd 5 = nI wk) (hwk30 : wk ≤ 30) :
    Con E mX9_pass 4 0 0 [.ref t, .ref w] Sh N G (wset M w R) (PR Sh N (fun v M' => v = some (.int (bI (lowN (weekS (M yd 8) (M yd 6) (M yd 7) (yRain M yd wk ps) (yAir M yd wk ps) (yFrost M yd wk ps) dp mn R) 0 mn).isSome)) ∧ ∃ A S : Nat → Int32, M' = wset (aset (aset M (t + 1) A) (t + 2) S) w (weekR (M yd 8) (M yd 6) (M yd 7) (yRain M yd wk ps) (yAir M yd wk ps) (yFrost M yd wk ps) dp mn R))) nox := by
  have hW' := hW
  obtain ⟨w0, w1, w2, w3, w4⟩ := hW
  have hA' := hA
  have hT' := hT
  obtain ⟨a0, a1, a2, a3, ⟨b0, b1, b2, b3⟩, a5⟩ := hA
  obtain ⟨t0, t1, t2, t3⟩ := hT
  refine Con.ofQ (by decide +kernel) (by simp [Value.category]) (Nat.le_of_ble_eq_true rfl) (fun k C0 Q hQ => ?_)
  have C : CK k E mX9_pass kdX9_pass 4 0 0 := ⟨C0, kdX9_pass_ok⟩
  have k83 : ∀ (dr air : Int32) (fr : Bool) (v5 : Option Value), dr = yRain M yd wk ps → air = yAir M yd wk ps → fr = yFrost M yd wk ps → PT k E Q 0 0 Sh N G (wset M w R) 83 [some (.ref t), some (.ref w), some (.int dr), some (.int air), some (.int (bI fr)), v5] [] := by
    intro dr air fr v5 hdr hair hfr
    subst hdr; subst hair; subst hfr
    generalize yRain M yd wk ps = dr at hQ ⊢
    generalize yAir M yd wk ps = air at hQ ⊢
    generalize yFrost M yd wk ps = fr at hQ ⊢
    refine r_aload_n C 1 rfl rfl rfl rfl ?_
    refine r_getv C rfl f_X9_42 (by assumption) rfl ?_
    refine r_ic (v := nI 0) C rfl (by decide) ?_
    refine r_aload_n C 0 rfl rfl rfl rfl ?_
    refine r_getv C rfl f_X9_9 (by assumption) rfl ?_
    refine r_ic (v := nI 0) C rfl (by decide) ?_
    refine r_aload_n C 1 rfl rfl rfl rfl ?_
    refine r_geti C rfl f_X9_45 (by assumption) rfl ?_
    refine r_top _ (wg_5 _ _ _) ?_
    refine r_top (nI mn) w3 ?_
    refine r_bi (v := nI 6) C rfl (by decide) ?_
    refine r_imul C rfl ?_
    refine r_acopy C 0 0 (6 * mn) rfl lkac_X9_48 a1 t1 rfl rfl (by rw [pk_mul, Nat.mul_comm]) (by omega) (by omega) (by decide) (by decide) ?_
    rw [wset_aset _ _ _ _ _ (by omega), wset_cell M R (a := t + 1) (by omega)]
    obtain ⟨A, hAe⟩ : ∃ A, A = va_cpy (wset M w R (w + 1)) (M (t + 1)) 0 0 (6 * mn) := ⟨_, rfl⟩
    have hAj : ∀ j, j < 6 * mn → A j = R (37 + j) := fun j hj => by rw [hAe, cpy_lo hj, wg_w M w R (by omega)]
    rw [← hAe]
    obtain ⟨M1, hM1⟩ : ∃ M1, M1 = aset M (t + 1) A := ⟨_, rfl⟩
    rw [← hM1]
    refine r_aload_n C 0 rfl rfl rfl rfl ?_
    refine r_aload_n C 1 rfl rfl rfl rfl ?_
    refine r_iload_n C 2 rfl rfl rfl ?_
    refine v2_v C rfl mfX9_wet lk_X9_54 (by assumption) (t_wet hA' hT' dp mn sh hW' hsh hs9) ?_
    obtain ⟨R1, hR1⟩ : ∃ R1, R1 = (if mn = 0 then R else comeR dp mn dr R) := ⟨_, rfl⟩
    rw [← hR1]
    have hk1 : ∀ j, j < 37 → j ≠ 11 → R1 j = R j := by
      intro j h1 h2
      rw [hR1]
      split
      · rfl
      · exact come_keep _ _ _ _ h1 h2
    have hW1 : WF R1 dp mn := ⟨(hk1 0 (by decide) (by decide)).trans w0, w1, w2, (hk1 1 (by decide) (by decide)).trans w3, w4⟩
    refine r_aload_n C 0 rfl rfl rfl rfl ?_
    refine r_aload_n C 1 rfl rfl rfl rfl ?_
    refine v1_v C rfl mfX9_move lk_X9_58 (by assumption) (t_move hA' hT' hdis dp mn hW1) ?_
    obtain ⟨R2, hR2⟩ : ∃ R2, R2 = moveR (fun j => R1 (37 + j)) dp mn R1 := ⟨_, rfl⟩
    rw [← hR2]
    have hk2 : ∀ j, j < 37 → R2 j = R1 j := fun j h => by rw [hR2, moveR, moveR_keep _ _ _ _ _ h]
    have hW2 : WF R2 dp mn := ⟨(hk2 0 (by decide)).trans hW1.1, w1, w2, (hk2 1 (by decide)).trans hW1.2.2.2.1, w4⟩
    generalize va_cpy (wset M1 w R1 (w + 1)) (M1 (t + 2)) 0 0 (6 * mn) = S
    obtain ⟨M2, hM2⟩ : ∃ M2, M2 = aset M1 (t + 2) S := ⟨_, rfl⟩
    rw [← hM2]
    have ex2 : ∀ a, a ≠ t + 1 → a ≠ t + 2 → M2 a = M a := fun a h h' => by rw [hM2, aset_ne _ _ h', hM1, aset_ne _ _ h]
    have e1 : M2 (t + 1) = A := by rw [hM2, aset_ne _ _ (by omega), hM1, aset_own]
    have ey : M2 yd = M yd := ex2 yd (by omega) (by omega)
    refine r_aload_n C 0 rfl rfl rfl rfl ?_
    refine r_aload_n C 1 rfl rfl rfl rfl ?_
    refine r_iload_n C 3 rfl rfl rfl ?_
    refine v2_v C rfl mfX9_dry lk_X9_62 (by assumption) (t_dry hA' hT' dp mn hW2) ?_
    obtain ⟨R3, hR3⟩ : ∃ R3, R3 = dryR air dp mn R2 := ⟨_, rfl⟩
    rw [← hR3]
    have hk3 : ∀ j, j < 37 → j ≠ 12 → R3 j = R2 j := fun j h h' => by rw [hR3, dryR, dryR_keep _ _ _ _ _ h h']
    have hW3 : WF R3 dp mn := ⟨(hk3 0 (by decide) (by decide)).trans hW2.1, w1, w2, (hk3 1 (by decide) (by decide)).trans hW2.2.2.2.1, w4⟩
    refine r_aload_n C 0 rfl rfl rfl rfl ?_
    refine r_aload_n C 1 rfl rfl rfl rfl ?_
    refine r_iload C rfl rfl ?_
    refine v2_v C rfl mfX9_crackAll lk_X9_65 (by assumption) (t_crackAll hA' hT' hdis fr dp mn hW3) ?_
    rw [e1, ey, crackR_w2 hAj]
    obtain ⟨R4, hR4⟩ : ∃ R4, R4 = crackR fr (M yd 7) (fun j => R (37 + j)) dp mn 0 R3 := ⟨_, rfl⟩
    rw [← hR4]
    have hk4 : ∀ j, j < 181 → R4 j = R3 j := fun j h => by rw [hR4, crack_lo _ _ _ _ _ _ _ h]
    have hW4 : WF R4 dp mn := ⟨(hk4 0 (by decide)).trans hW3.1, w1, w2, (hk4 1 (by decide)).trans hW3.2.2.2.1, w4⟩
    have hR7 : R4 7 = 0 ∨ R4 7 = 1 := by
      rw [hk4 7 (by decide), hk3 7 (by decide) (by decide), hk2 7 (by decide), hk1 7 (by decide) (by decide)]
      exact h7
    have hR8 : R4 8 = R 8 := by rw [hk4 8 (by decide), hk3 8 (by decide) (by decide), hk2 8 (by decide), hk1 8 (by decide) (by decide)]
    refine r_aload_n C 0 rfl rfl rfl rfl ?_
    refine r_aload_n C 1 rfl rfl rfl rfl ?_
    refine v1_r C rfl mfX9_settle lk_X9_69 (by assumption) (t_settle hA' hT' dp mn hW4 hR7) ?_
    rw [ey]
    obtain ⟨S5, hS5⟩ : ∃ S5, S5 = sitR (M yd 8) (M yd 6) dp mn 0 R4 := ⟨_, rfl⟩
    rw [← hS5]
    have hW5 : WF S5 dp mn := ⟨by rw [hS5, sit_keep _ _ _ _ _ _ w4 (by omega)]; exact hW4.1, w1, w2, by rw [hS5, sit_keep _ _ _ _ _ _ w4 (by omega)]; exact hW4.2.2.2.1, w4⟩
    have hS8 : S5 8 = R 8 := by rw [hS5, sit_keep _ _ _ _ _ _ w4 (by omega)]; exact hR8
    have hlw : lowN (weekS (M yd 8) (M yd 6) (M yd 7) dr air fr dp mn R) 0 mn = lowN S5 0 mn := by
      by_cases q : mn = 0
      · subst q; rfl
      · rw [if_neg q] at hR1
        rw [hS5, hR4, hR3, hR2, hR1]; rfl
    have hwk : upd (fallR dp mn S5) 8 (R 8 + nI 1) = weekR (M yd 8) (M yd 6) (M yd 7) dr air fr dp mn R := by
      rw [weekR]
      by_cases q : mn = 0
      · rw [if_pos q]
        congr 1
        rw [if_pos q] at hR1
        subst q
        have e0 : S5 = R := by
          rw [hS5, sit_end, hR4, crack_0, hR3, hR2, hR1]
          rfl
        rw [e0]
        rfl
      · rw [if_neg q, weekW_S]
        rw [if_neg q] at hR1
        rw [hS5, hR4, hR3, hR2, hR1]; rfl
    refine r_istore C rfl (by exact Nat.le_of_ble_eq_true rfl) ?_
    refine r_aload_n C 1 rfl rfl rfl rfl ?_
    refine r_dup C rfl rfl ?_
    refine r_geti C rfl f_X9_28 (by assumption) rfl ?_
    refine r_top _ (wg_12 _ _ _) ?_
    refine r_ic (v := nI 1) C rfl (by decide) ?_
    refine r_iadd C rfl ?_
    refine r_puti C rfl f_X9_28 (by assumption) rfl rfl rfl ?_
    refine r_eqM (wp_12 _ _ _ _) ?_
    rw [hS8]
    refine r_iload C rfl rfl ?_
    refine r_ic (v := (-1)) C rfl (by decide) ?_
    cases hlow : lowN S5 0 mn with
    | none =>
      refine r_icmp_ne C 152 rfl (by decide) (fun h => absurd rfl h) (fun h => ?_)
      refine r_ic (v := nI 0) C rfl (by decide) ?_
      refine q_iret C hQ rfl rfl rfl ⟨rfl, rfl, by rw [hlw, hlow]; rfl, A, S, ?_⟩
      rw [← hwk, ← hM1, ← hM2]
      simp only [fallR, hlow]
    | some fl =>
      have hfl := lowN_lt hlow
      refine r_icmp_ne C 152 rfl (by decide) (fun h => ?_) (fun h => absurd h ?_)
      · have hW6 : WF (upd S5 8 (R 8 + nI 1)) dp mn := ⟨by simpa [upd] using hW5.1, w1, w2, by simpa [upd] using hW5.2.2.2.1, w4⟩
        show PT k E Q 0 0 Sh N G (wset M2 w (upd S5 8 (R 8 + nI 1))) 152 [some (.ref t), some (.ref w), some (.int dr), some (.int air), some (.int (bI fr)), some (.int (nI fl))] []
        refine r_aload_n C 1 rfl rfl rfl rfl ?_
        refine r_iload C rfl rfl ?_
        refine v1_v C rfl mfX8_fallFrom lk_X9_73 (by assumption) (w_fallFrom hA' dp mn fl hW6 rfl (by omega)) ?_
        refine r_ic (v := nI 1) C rfl (by decide) ?_
        refine q_iret C hQ rfl rfl rfl ⟨rfl, rfl, by rw [hlw, hlow]; rfl, A, S, ?_⟩
        rw [← hwk, ← hM1, ← hM2]
        simp only [fallR, hlow]
        congr 1
        rw [why_up _ _ _ _ (by decide), upd_comm S5 _ _ (show 8 ≠ 10 by decide), show upd S5 8 (R 8 + nI 1) 9 = S5 9 by simp [upd], upd_comm _ _ _ (show 8 ≠ 9 by decide), cut_up _ _ _ _ _ (by decide) (by decide) (by decide)]
      · show ¬ nI fl = -1
        intro q
        have q2 := congrArg Int32.toInt q
        rw [nI_toInt (by omega)] at q2
        have : (-1 : Int32).toInt = -1 := by decide
        omega
  have hy3 : ∀ j, wset M w R (yd + 3) j = M (yd + 3) j := fun j => wset_lo M R (by omega)
  refine r_ic (v := nI 0) C rfl (by decide) ?_
  refine r_istore_n C 2 rfl rfl (by exact Nat.le_of_ble_eq_true rfl) ?_
  refine r_bi (v := nI 20) C rfl (by decide) ?_
  refine r_istore_n C 3 rfl rfl (by exact Nat.le_of_ble_eq_true rfl) ?_
  refine r_ic (v := nI 0) C rfl (by decide) ?_
  refine r_istore C rfl (by exact Nat.le_of_ble_eq_true rfl) ?_
  refine r_aload_n C 0 rfl rfl rfl rfl ?_
  refine r_getv C rfl f_X9_18 (by assumption) rfl ?_
  refine r_geti C rfl f_X9_22 (by assumption) rfl ?_
  refine r_top _ (wset_lo _ _ (by omega)) ?_
  refine r_top (nI wk) hwk ?_
  refine r_if_le C 83 rfl (by decide) (fun h => ?_) (fun h => ?_)
  · have h := le_nI (a := wk) (b := 0) (by omega) (by omega) h
    have q : wk = 0 := by omega
    refine r_eqL ?_ (k83 (nI 0) (nI 20) false none (by rw [yRain, if_pos q]; rfl) (by rw [yAir, if_pos q]) (by rw [yFrost, if_pos q]))
    rfl
  have q : wk ≠ 0 := by
    intro q
    subst q
    exact absurd (Int32.le_refl _) h
  have hmod := Nat.mod_lt ps (Nat.pos_of_ne_zero q)
  refine r_aload_n C 1 rfl rfl rfl rfl ?_
  refine r_geti C rfl f_X9_28 (by assumption) rfl ?_
  refine r_top _ (wg_12 _ _ _) ?_
  refine r_top (nI ps) hps ?_
  refine r_aload_n C 0 rfl rfl rfl rfl ?_
  refine r_getv C rfl f_X9_18 (by assumption) rfl ?_
  refine r_geti C rfl f_X9_22 (by assumption) rfl ?_
  refine r_top _ (wset_lo _ _ (by omega)) ?_
  refine r_top (nI wk) hwk ?_
  refine s2_r C rfl mfJ9_floorMod_7cf53 lk_X9_33 (c_floorMod ps wk rfl rfl hp (by omega) (by omega)) ?_
  refine r_ic (v := nI 3) C rfl (by decide) ?_
  refine r_imul C rfl ?_
  refine r_top (nI (3 * (ps % wk))) (by rw [pk_mul, Nat.mul_comm]) ?_
  refine r_istore C rfl (by exact Nat.le_of_ble_eq_true rfl) ?_
  refine r_aload_n C 0 rfl rfl rfl rfl ?_
  refine r_getv C rfl f_X9_18 (by assumption) rfl ?_
  refine r_getv C rfl f_X9_39 (by assumption) rfl ?_
  refine r_iload C rfl rfl ?_
  refine r_iald C rfl (by assumption) (3 * (ps % wk)) rfl (by omega) (by decide) ?_
  refine r_top _ (hy3 _) ?_
  refine r_istore_n C 2 rfl rfl (by exact Nat.le_of_ble_eq_true rfl) ?_
  refine r_aload_n C 0 rfl rfl rfl rfl ?_
  refine r_getv C rfl f_X9_18 (by assumption) rfl ?_
  refine r_getv C rfl f_X9_39 (by assumption) rfl ?_
  refine r_iload C rfl rfl ?_
  refine r_ic (v := nI 1) C rfl (by decide) ?_
  refine r_iadd C rfl ?_
  refine r_iald C rfl (by assumption) (3 * (ps % wk) + 1) (by rw [nI_add]) (by omega) (by decide) ?_
  refine r_top _ (hy3 _) ?_
  refine r_istore_n C 3 rfl rfl (by exact Nat.le_of_ble_eq_true rfl) ?_
  refine r_aload_n C 0 rfl rfl rfl rfl ?_
  refine r_getv C rfl f_X9_18 (by assumption) rfl ?_
  refine r_getv C rfl f_X9_39 (by assumption) rfl ?_
  refine r_iload C rfl rfl ?_
  refine r_ic (v := nI 2) C rfl (by decide) ?_
  refine r_iadd C rfl ?_
  refine r_iald C rfl (by assumption) (3 * (ps % wk) + 2) (by rw [nI_add]) (by omega) (by decide) ?_
  refine r_top _ (hy3 _) ?_
  refine r_ic (v := nI 1) C rfl (by decide) ?_
  refine r_icmp_ne C 80 rfl (by decide) (fun h2 => ?_) (fun h2 => ?_)
  · refine r_ic (v := nI 0) C rfl (by decide) ?_
    refine r_istore C rfl (by exact Nat.le_of_ble_eq_true rfl) ?_
    refine r_eqL ?_ (k83 (M (yd + 3) (3 * (ps % wk))) (M (yd + 3) (3 * (ps % wk) + 1)) false (some (.int (nI (3 * (ps % wk))))) (by rw [yRain, if_neg q]) (by rw [yAir, if_neg q]) (by rw [yFrost, if_neg q, decide_eq_false h2]))
    rfl
  · refine r_ic (v := nI 1) C rfl (by decide) ?_
    refine r_goto C 81 rfl (by decide) ?_
    refine r_istore C rfl (by exact Nat.le_of_ble_eq_true rfl) ?_
    refine r_eqL ?_ (k83 (M (yd + 3) (3 * (ps % wk))) (M (yd + 3) (3 * (ps % wk) + 1)) true (some (.int (nI (3 * (ps % wk))))) (by rw [yRain, if_neg q]) (by rw [yAir, if_neg q]) (by rw [yFrost, if_neg q, decide_eq_true h2]))
    rfl
end WEATHER5
end
