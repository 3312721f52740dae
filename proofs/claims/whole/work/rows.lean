section
-- ===== PART A: goes FIRST, ahead of the names: the tables' words, and 'selects' of the private methods out of them =====
/-- a private method of a class that the tables say can be made, by its rows of tables_1 -/
def lw_okq (q : MethodName × Nat) : Prop := (q.1.cls ≠ "java/lang/invoke/MethodHandle" ∧ q.1.cls ≠ "java/lang/invoke/VarHandle") ∧ Cond.instantiable q.1.cls q.2 ∈ tables_1 ∧ Cond.privateMethod q.1 ∈ tables_1 ∧ Cond.instanceMethod q.1 ∈ tables_1
theorem lw_p0 : lw_okq (⟨"TowerWarns", "found", "(I)I"⟩, 9) := ⟨⟨by decide +kernel, by decide +kernel⟩, List.mem_of_getElem? (i := 22) (by decide +kernel), List.mem_of_getElem? (i := 255) (by decide +kernel), List.mem_of_getElem? (i := 256) (by decide +kernel)⟩
theorem lw_p1 : lw_okq (⟨"TowerWarns$Sea", "burnsAt", "(I)Z"⟩, 7) := ⟨⟨by decide +kernel, by decide +kernel⟩, List.mem_of_getElem? (i := 73) (by decide +kernel), List.mem_of_getElem? (i := 294) (by decide +kernel), List.mem_of_getElem? (i := 295) (by decide +kernel)⟩
theorem lw_p2 : lw_okq (⟨"TowerWarns", "isShip", "(I)Z"⟩, 9) := ⟨⟨by decide +kernel, by decide +kernel⟩, List.mem_of_getElem? (i := 22) (by decide +kernel), List.mem_of_getElem? (i := 332) (by decide +kernel), List.mem_of_getElem? (i := 333) (by decide +kernel)⟩
theorem lw_p3 : lw_okq (⟨"TowerWarns$Sea", "passHour", "(LTowerWarns$Vessel;I)V"⟩, 7) := ⟨⟨by decide +kernel, by decide +kernel⟩, List.mem_of_getElem? (i := 73) (by decide +kernel), List.mem_of_getElem? (i := 522) (by decide +kernel), List.mem_of_getElem? (i := 523) (by decide +kernel)⟩
theorem lw_p4 : lw_okq (⟨"TowerWarns$Sea", "turnAway", "(LTowerWarns$Vessel;I)V"⟩, 7) := ⟨⟨by decide +kernel, by decide +kernel⟩, List.mem_of_getElem? (i := 73) (by decide +kernel), List.mem_of_getElem? (i := 533) (by decide +kernel), List.mem_of_getElem? (i := 534) (by decide +kernel)⟩
theorem lw_p5 : lw_okq (⟨"TowerWarns$Sea", "advance", "(LTowerWarns$Vessel;I)V"⟩, 7) := ⟨⟨by decide +kernel, by decide +kernel⟩, List.mem_of_getElem? (i := 73) (by decide +kernel), List.mem_of_getElem? (i := 538) (by decide +kernel), List.mem_of_getElem? (i := 539) (by decide +kernel)⟩
theorem lw_p6 : lw_okq (⟨"TowerWarns", "tryAlone", "(I)V"⟩, 9) := ⟨⟨by decide +kernel, by decide +kernel⟩, List.mem_of_getElem? (i := 22) (by decide +kernel), List.mem_of_getElem? (i := 546) (by decide +kernel), List.mem_of_getElem? (i := 547) (by decide +kernel)⟩
theorem lw_p7 : lw_okq (⟨"TowerWarns$Sea", "becomeEmptied", "(LTowerWarns$Sea;)V"⟩, 7) := ⟨⟨by decide +kernel, by decide +kernel⟩, List.mem_of_getElem? (i := 73) (by decide +kernel), List.mem_of_getElem? (i := 554) (by decide +kernel), List.mem_of_getElem? (i := 555) (by decide +kernel)⟩
theorem lw_p8 : lw_okq (⟨"TowerWarns", "hoursUntilBy", "()I"⟩, 9) := ⟨⟨by decide +kernel, by decide +kernel⟩, List.mem_of_getElem? (i := 22) (by decide +kernel), List.mem_of_getElem? (i := 574) (by decide +kernel), List.mem_of_getElem? (i := 575) (by decide +kernel)⟩
theorem lw_p9 : lw_okq (⟨"TowerWarns", "hoursUntilEnd", "()I"⟩, 9) := ⟨⟨by decide +kernel, by decide +kernel⟩, List.mem_of_getElem? (i := 22) (by decide +kernel), List.mem_of_getElem? (i := 578) (by decide +kernel), List.mem_of_getElem? (i := 579) (by decide +kernel)⟩
theorem lw_p10 : lw_okq (⟨"TowerWarns", "amissUnderWay", "(I)I"⟩, 9) := ⟨⟨by decide +kernel, by decide +kernel⟩, List.mem_of_getElem? (i := 22) (by decide +kernel), List.mem_of_getElem? (i := 592) (by decide +kernel), List.mem_of_getElem? (i := 593) (by decide +kernel)⟩
theorem lw_p11 : lw_okq (⟨"TowerWarns$SeaText", "next", "()V"⟩, 7) := ⟨⟨by decide +kernel, by decide +kernel⟩, List.mem_of_getElem? (i := 169) (by decide +kernel), List.mem_of_getElem? (i := 655) (by decide +kernel), List.mem_of_getElem? (i := 656) (by decide +kernel)⟩
theorem lw_p12 : lw_okq (⟨"TowerWarns$SeaText", "takeItem", "(LTowerWarns$Sea;)Z"⟩, 7) := ⟨⟨by decide +kernel, by decide +kernel⟩, List.mem_of_getElem? (i := 169) (by decide +kernel), List.mem_of_getElem? (i := 667) (by decide +kernel), List.mem_of_getElem? (i := 668) (by decide +kernel)⟩
theorem lw_p13 : lw_okq (⟨"TowerWarns$SeaText", "isWord", "(Ljava/lang/String;)Z"⟩, 7) := ⟨⟨by decide +kernel, by decide +kernel⟩, List.mem_of_getElem? (i := 169) (by decide +kernel), List.mem_of_getElem? (i := 697) (by decide +kernel), List.mem_of_getElem? (i := 698) (by decide +kernel)⟩
theorem lw_p14 : lw_okq (⟨"TowerWarns$SeaText", "takeShip", "(LTowerWarns$Sea;LTowerWarns$Ship;)Z"⟩, 7) := ⟨⟨by decide +kernel, by decide +kernel⟩, List.mem_of_getElem? (i := 169) (by decide +kernel), List.mem_of_getElem? (i := 749) (by decide +kernel), List.mem_of_getElem? (i := 750) (by decide +kernel)⟩
theorem lw_p15 : lw_okq (⟨"TowerWarns$SeaText", "takeNumber", "(I)Z"⟩, 7) := ⟨⟨by decide +kernel, by decide +kernel⟩, List.mem_of_getElem? (i := 169) (by decide +kernel), List.mem_of_getElem? (i := 754) (by decide +kernel), List.mem_of_getElem? (i := 755) (by decide +kernel)⟩
def lw_privs_1 : List (MethodName × Nat) := [(⟨"TowerWarns", "found", "(I)I"⟩, 9), (⟨"TowerWarns$Sea", "burnsAt", "(I)Z"⟩, 7), (⟨"TowerWarns", "isShip", "(I)Z"⟩, 9), (⟨"TowerWarns$Sea", "passHour", "(LTowerWarns$Vessel;I)V"⟩, 7), (⟨"TowerWarns$Sea", "turnAway", "(LTowerWarns$Vessel;I)V"⟩, 7), (⟨"TowerWarns$Sea", "advance", "(LTowerWarns$Vessel;I)V"⟩, 7), (⟨"TowerWarns", "tryAlone", "(I)V"⟩, 9), (⟨"TowerWarns$Sea", "becomeEmptied", "(LTowerWarns$Sea;)V"⟩, 7), (⟨"TowerWarns", "hoursUntilBy", "()I"⟩, 9), (⟨"TowerWarns", "hoursUntilEnd", "()I"⟩, 9), (⟨"TowerWarns", "amissUnderWay", "(I)I"⟩, 9), (⟨"TowerWarns$SeaText", "next", "()V"⟩, 7), (⟨"TowerWarns$SeaText", "takeItem", "(LTowerWarns$Sea;)Z"⟩, 7), (⟨"TowerWarns$SeaText", "isWord", "(Ljava/lang/String;)Z"⟩, 7), (⟨"TowerWarns$SeaText", "takeShip", "(LTowerWarns$Sea;LTowerWarns$Ship;)Z"⟩, 7), (⟨"TowerWarns$SeaText", "takeNumber", "(I)Z"⟩, 7)]
theorem lw_r1 : ∀ q ∈ lw_privs_1, lw_okq q := List.forall_mem_cons.mpr ⟨lw_p0, List.forall_mem_cons.mpr ⟨lw_p1, List.forall_mem_cons.mpr ⟨lw_p2, List.forall_mem_cons.mpr ⟨lw_p3, List.forall_mem_cons.mpr ⟨lw_p4, List.forall_mem_cons.mpr ⟨lw_p5, List.forall_mem_cons.mpr ⟨lw_p6, List.forall_mem_cons.mpr ⟨lw_p7, List.forall_mem_cons.mpr ⟨lw_p8, List.forall_mem_cons.mpr ⟨lw_p9, List.forall_mem_cons.mpr ⟨lw_p10, List.forall_mem_cons.mpr ⟨lw_p11, List.forall_mem_cons.mpr ⟨lw_p12, List.forall_mem_cons.mpr ⟨lw_p13, List.forall_mem_cons.mpr ⟨lw_p14, List.forall_mem_cons.mpr ⟨lw_p15, fun _ h => absurd h List.not_mem_nil⟩⟩⟩⟩⟩⟩⟩⟩⟩⟩⟩⟩⟩⟩⟩⟩
theorem lw_p16 : lw_okq (⟨"TowerWarns$SeaText", "takeTower", "(LTowerWarns$Sea;)Z"⟩, 7) := ⟨⟨by decide +kernel, by decide +kernel⟩, List.mem_of_getElem? (i := 169) (by decide +kernel), List.mem_of_getElem? (i := 761) (by decide +kernel), List.mem_of_getElem? (i := 762) (by decide +kernel)⟩
theorem lw_p17 : lw_okq (⟨"TowerWarns$SeaText", "takeLamp", "(LTowerWarns$Sea;Z)Z"⟩, 7) := ⟨⟨by decide +kernel, by decide +kernel⟩, List.mem_of_getElem? (i := 169) (by decide +kernel), List.mem_of_getElem? (i := 766) (by decide +kernel), List.mem_of_getElem? (i := 767) (by decide +kernel)⟩
theorem lw_p18 : lw_okq (⟨"TowerWarns$SeaText", "takeReach", "(LTowerWarns$Sea;)Z"⟩, 7) := ⟨⟨by decide +kernel, by decide +kernel⟩, List.mem_of_getElem? (i := 169) (by decide +kernel), List.mem_of_getElem? (i := 772) (by decide +kernel), List.mem_of_getElem? (i := 773) (by decide +kernel)⟩
theorem lw_p19 : lw_okq (⟨"TowerWarns", "amissInSheet", "(I)I"⟩, 9) := ⟨⟨by decide +kernel, by decide +kernel⟩, List.mem_of_getElem? (i := 22) (by decide +kernel), List.mem_of_getElem? (i := 792) (by decide +kernel), List.mem_of_getElem? (i := 793) (by decide +kernel)⟩
theorem lw_p20 : lw_okq (⟨"TowerWarns", "goesAsTold", "(LTowerWarns$Sheet;)Z"⟩, 9) := ⟨⟨by decide +kernel, by decide +kernel⟩, List.mem_of_getElem? (i := 22) (by decide +kernel), List.mem_of_getElem? (i := 837) (by decide +kernel), List.mem_of_getElem? (i := 838) (by decide +kernel)⟩
theorem lw_p21 : lw_okq (⟨"TowerWarnsModel", "finds", "(I)I"⟩, 19) := ⟨⟨by decide +kernel, by decide +kernel⟩, List.mem_of_getElem? (i := 861) (by decide +kernel), List.mem_of_getElem? (i := 936) (by decide +kernel), List.mem_of_getElem? (i := 937) (by decide +kernel)⟩
theorem lw_p22 : lw_okq (⟨"TowerWarnsModel", "place", "()I"⟩, 19) := ⟨⟨by decide +kernel, by decide +kernel⟩, List.mem_of_getElem? (i := 861) (by decide +kernel), List.mem_of_getElem? (i := 940) (by decide +kernel), List.mem_of_getElem? (i := 941) (by decide +kernel)⟩
theorem lw_p23 : lw_okq (⟨"TowerWarnsModel", "stands", "(I)V"⟩, 19) := ⟨⟨by decide +kernel, by decide +kernel⟩, List.mem_of_getElem? (i := 861) (by decide +kernel), List.mem_of_getElem? (i := 944) (by decide +kernel), List.mem_of_getElem? (i := 945) (by decide +kernel)⟩
theorem lw_p24 : lw_okq (⟨"TowerWarnsModel", "becomes", "(II)I"⟩, 19) := ⟨⟨by decide +kernel, by decide +kernel⟩, List.mem_of_getElem? (i := 861) (by decide +kernel), List.mem_of_getElem? (i := 952) (by decide +kernel), List.mem_of_getElem? (i := 953) (by decide +kernel)⟩
theorem lw_p25 : lw_okq (⟨"TowerWarnsModel", "isNight", "()Z"⟩, 19) := ⟨⟨by decide +kernel, by decide +kernel⟩, List.mem_of_getElem? (i := 861) (by decide +kernel), List.mem_of_getElem? (i := 964) (by decide +kernel), List.mem_of_getElem? (i := 965) (by decide +kernel)⟩
theorem lw_p26 : lw_okq (⟨"TowerWarnsModel", "isBurning", "()Z"⟩, 19) := ⟨⟨by decide +kernel, by decide +kernel⟩, List.mem_of_getElem? (i := 861) (by decide +kernel), List.mem_of_getElem? (i := 968) (by decide +kernel), List.mem_of_getElem? (i := 969) (by decide +kernel)⟩
theorem lw_p27 : lw_okq (⟨"TowerWarnsModel", "setOf", "(I)I"⟩, 19) := ⟨⟨by decide +kernel, by decide +kernel⟩, List.mem_of_getElem? (i := 861) (by decide +kernel), List.mem_of_getElem? (i := 972) (by decide +kernel), List.mem_of_getElem? (i := 973) (by decide +kernel)⟩
theorem lw_p28 : lw_okq (⟨"TowerWarnsModel", "its", "(II)I"⟩, 19) := ⟨⟨by decide +kernel, by decide +kernel⟩, List.mem_of_getElem? (i := 861) (by decide +kernel), List.mem_of_getElem? (i := 976) (by decide +kernel), List.mem_of_getElem? (i := 977) (by decide +kernel)⟩
theorem lw_p29 : lw_okq (⟨"TowerWarnsModel", "adds", "(III)V"⟩, 19) := ⟨⟨by decide +kernel, by decide +kernel⟩, List.mem_of_getElem? (i := 861) (by decide +kernel), List.mem_of_getElem? (i := 988) (by decide +kernel), List.mem_of_getElem? (i := 989) (by decide +kernel)⟩
theorem lw_p30 : lw_okq (⟨"TowerWarnsModel", "puts", "(III)V"⟩, 19) := ⟨⟨by decide +kernel, by decide +kernel⟩, List.mem_of_getElem? (i := 861) (by decide +kernel), List.mem_of_getElem? (i := 992) (by decide +kernel), List.mem_of_getElem? (i := 993) (by decide +kernel)⟩
theorem lw_p31 : lw_okq (⟨"TowerWarnsModel", "isOne", "(I)Z"⟩, 19) := ⟨⟨by decide +kernel, by decide +kernel⟩, List.mem_of_getElem? (i := 861) (by decide +kernel), List.mem_of_getElem? (i := 1000) (by decide +kernel), List.mem_of_getElem? (i := 1001) (by decide +kernel)⟩
def lw_privs_2 : List (MethodName × Nat) := [(⟨"TowerWarns$SeaText", "takeTower", "(LTowerWarns$Sea;)Z"⟩, 7), (⟨"TowerWarns$SeaText", "takeLamp", "(LTowerWarns$Sea;Z)Z"⟩, 7), (⟨"TowerWarns$SeaText", "takeReach", "(LTowerWarns$Sea;)Z"⟩, 7), (⟨"TowerWarns", "amissInSheet", "(I)I"⟩, 9), (⟨"TowerWarns", "goesAsTold", "(LTowerWarns$Sheet;)Z"⟩, 9), (⟨"TowerWarnsModel", "finds", "(I)I"⟩, 19), (⟨"TowerWarnsModel", "place", "()I"⟩, 19), (⟨"TowerWarnsModel", "stands", "(I)V"⟩, 19), (⟨"TowerWarnsModel", "becomes", "(II)I"⟩, 19), (⟨"TowerWarnsModel", "isNight", "()Z"⟩, 19), (⟨"TowerWarnsModel", "isBurning", "()Z"⟩, 19), (⟨"TowerWarnsModel", "setOf", "(I)I"⟩, 19), (⟨"TowerWarnsModel", "its", "(II)I"⟩, 19), (⟨"TowerWarnsModel", "adds", "(III)V"⟩, 19), (⟨"TowerWarnsModel", "puts", "(III)V"⟩, 19), (⟨"TowerWarnsModel", "isOne", "(I)Z"⟩, 19)]
theorem lw_r2 : ∀ q ∈ lw_privs_2, lw_okq q := List.forall_mem_cons.mpr ⟨lw_p16, List.forall_mem_cons.mpr ⟨lw_p17, List.forall_mem_cons.mpr ⟨lw_p18, List.forall_mem_cons.mpr ⟨lw_p19, List.forall_mem_cons.mpr ⟨lw_p20, List.forall_mem_cons.mpr ⟨lw_p21, List.forall_mem_cons.mpr ⟨lw_p22, List.forall_mem_cons.mpr ⟨lw_p23, List.forall_mem_cons.mpr ⟨lw_p24, List.forall_mem_cons.mpr ⟨lw_p25, List.forall_mem_cons.mpr ⟨lw_p26, List.forall_mem_cons.mpr ⟨lw_p27, List.forall_mem_cons.mpr ⟨lw_p28, List.forall_mem_cons.mpr ⟨lw_p29, List.forall_mem_cons.mpr ⟨lw_p30, List.forall_mem_cons.mpr ⟨lw_p31, fun _ h => absurd h List.not_mem_nil⟩⟩⟩⟩⟩⟩⟩⟩⟩⟩⟩⟩⟩⟩⟩⟩
theorem lw_p32 : lw_okq (⟨"TowerWarnsModel", "distance", "(I)I"⟩, 19) := ⟨⟨by decide +kernel, by decide +kernel⟩, List.mem_of_getElem? (i := 861) (by decide +kernel), List.mem_of_getElem? (i := 1004) (by decide +kernel), List.mem_of_getElem? (i := 1005) (by decide +kernel)⟩
theorem lw_p33 : lw_okq (⟨"TowerWarnsModel", "isSeeing", "(I)Z"⟩, 19) := ⟨⟨by decide +kernel, by decide +kernel⟩, List.mem_of_getElem? (i := 861) (by decide +kernel), List.mem_of_getElem? (i := 1011) (by decide +kernel), List.mem_of_getElem? (i := 1012) (by decide +kernel)⟩
theorem lw_p34 : lw_okq (⟨"TowerWarnsModel", "speed", "(I)I"⟩, 19) := ⟨⟨by decide +kernel, by decide +kernel⟩, List.mem_of_getElem? (i := 861) (by decide +kernel), List.mem_of_getElem? (i := 1015) (by decide +kernel), List.mem_of_getElem? (i := 1016) (by decide +kernel)⟩
theorem lw_p35 : lw_okq (⟨"TowerWarnsModel", "keepsOff", "(I)I"⟩, 19) := ⟨⟨by decide +kernel, by decide +kernel⟩, List.mem_of_getElem? (i := 861) (by decide +kernel), List.mem_of_getElem? (i := 1019) (by decide +kernel), List.mem_of_getElem? (i := 1020) (by decide +kernel)⟩
theorem lw_p36 : lw_okq (⟨"TowerWarnsModel", "isStanding", "(I)Z"⟩, 19) := ⟨⟨by decide +kernel, by decide +kernel⟩, List.mem_of_getElem? (i := 861) (by decide +kernel), List.mem_of_getElem? (i := 1023) (by decide +kernel), List.mem_of_getElem? (i := 1024) (by decide +kernel)⟩
theorem lw_p37 : lw_okq (⟨"TowerWarnsModel", "passes", "(I)V"⟩, 19) := ⟨⟨by decide +kernel, by decide +kernel⟩, List.mem_of_getElem? (i := 861) (by decide +kernel), List.mem_of_getElem? (i := 1049) (by decide +kernel), List.mem_of_getElem? (i := 1050) (by decide +kernel)⟩
theorem lw_p38 : lw_okq (⟨"TowerWarnsModel", "oneHour", "()V"⟩, 19) := ⟨⟨by decide +kernel, by decide +kernel⟩, List.mem_of_getElem? (i := 861) (by decide +kernel), List.mem_of_getElem? (i := 1053) (by decide +kernel), List.mem_of_getElem? (i := 1054) (by decide +kernel)⟩
theorem lw_p39 : lw_okq (⟨"TowerWarnsModel", "sails", "(I)V"⟩, 19) := ⟨⟨by decide +kernel, by decide +kernel⟩, List.mem_of_getElem? (i := 861) (by decide +kernel), List.mem_of_getElem? (i := 1057) (by decide +kernel), List.mem_of_getElem? (i := 1058) (by decide +kernel)⟩
theorem lw_p40 : lw_okq (⟨"TowerWarnsModel", "costs", "(I)V"⟩, 19) := ⟨⟨by decide +kernel, by decide +kernel⟩, List.mem_of_getElem? (i := 861) (by decide +kernel), List.mem_of_getElem? (i := 1061) (by decide +kernel), List.mem_of_getElem? (i := 1062) (by decide +kernel)⟩
theorem lw_p41 : lw_okq (⟨"TowerWarnsModel", "turnsOff", "(I)V"⟩, 19) := ⟨⟨by decide +kernel, by decide +kernel⟩, List.mem_of_getElem? (i := 861) (by decide +kernel), List.mem_of_getElem? (i := 1068) (by decide +kernel), List.mem_of_getElem? (i := 1069) (by decide +kernel)⟩
theorem lw_p42 : lw_okq (⟨"TowerWarnsModel", "goesOn", "(I)V"⟩, 19) := ⟨⟨by decide +kernel, by decide +kernel⟩, List.mem_of_getElem? (i := 861) (by decide +kernel), List.mem_of_getElem? (i := 1072) (by decide +kernel), List.mem_of_getElem? (i := 1073) (by decide +kernel)⟩
theorem lw_p43 : lw_okq (⟨"TowerWarnsModel", "moveAll", "(Z[I)V"⟩, 19) := ⟨⟨by decide +kernel, by decide +kernel⟩, List.mem_of_getElem? (i := 861) (by decide +kernel), List.mem_of_getElem? (i := 1080) (by decide +kernel), List.mem_of_getElem? (i := 1081) (by decide +kernel)⟩
theorem lw_p44 : lw_okq (⟨"TowerWarnsModel", "whenFirst", "(II)I"⟩, 19) := ⟨⟨by decide +kernel, by decide +kernel⟩, List.mem_of_getElem? (i := 861) (by decide +kernel), List.mem_of_getElem? (i := 1092) (by decide +kernel), List.mem_of_getElem? (i := 1093) (by decide +kernel)⟩
theorem lw_p45 : lw_okq (⟨"TowerWarnsModel", "soonest", "(II)I"⟩, 19) := ⟨⟨by decide +kernel, by decide +kernel⟩, List.mem_of_getElem? (i := 861) (by decide +kernel), List.mem_of_getElem? (i := 1096) (by decide +kernel), List.mem_of_getElem? (i := 1097) (by decide +kernel)⟩
theorem lw_p46 : lw_okq (⟨"TowerWarnsModel", "bestOf", "(III)I"⟩, 19) := ⟨⟨by decide +kernel, by decide +kernel⟩, List.mem_of_getElem? (i := 861) (by decide +kernel), List.mem_of_getElem? (i := 1109) (by decide +kernel), List.mem_of_getElem? (i := 1110) (by decide +kernel)⟩
theorem lw_p47 : lw_okq (⟨"TowerWarnsModel", "costOfAll", "()I"⟩, 19) := ⟨⟨by decide +kernel, by decide +kernel⟩, List.mem_of_getElem? (i := 861) (by decide +kernel), List.mem_of_getElem? (i := 1128) (by decide +kernel), List.mem_of_getElem? (i := 1129) (by decide +kernel)⟩
def lw_privs_3 : List (MethodName × Nat) := [(⟨"TowerWarnsModel", "distance", "(I)I"⟩, 19), (⟨"TowerWarnsModel", "isSeeing", "(I)Z"⟩, 19), (⟨"TowerWarnsModel", "speed", "(I)I"⟩, 19), (⟨"TowerWarnsModel", "keepsOff", "(I)I"⟩, 19), (⟨"TowerWarnsModel", "isStanding", "(I)Z"⟩, 19), (⟨"TowerWarnsModel", "passes", "(I)V"⟩, 19), (⟨"TowerWarnsModel", "oneHour", "()V"⟩, 19), (⟨"TowerWarnsModel", "sails", "(I)V"⟩, 19), (⟨"TowerWarnsModel", "costs", "(I)V"⟩, 19), (⟨"TowerWarnsModel", "turnsOff", "(I)V"⟩, 19), (⟨"TowerWarnsModel", "goesOn", "(I)V"⟩, 19), (⟨"TowerWarnsModel", "moveAll", "(Z[I)V"⟩, 19), (⟨"TowerWarnsModel", "whenFirst", "(II)I"⟩, 19), (⟨"TowerWarnsModel", "soonest", "(II)I"⟩, 19), (⟨"TowerWarnsModel", "bestOf", "(III)I"⟩, 19), (⟨"TowerWarnsModel", "costOfAll", "()I"⟩, 19)]
theorem lw_r3 : ∀ q ∈ lw_privs_3, lw_okq q := List.forall_mem_cons.mpr ⟨lw_p32, List.forall_mem_cons.mpr ⟨lw_p33, List.forall_mem_cons.mpr ⟨lw_p34, List.forall_mem_cons.mpr ⟨lw_p35, List.forall_mem_cons.mpr ⟨lw_p36, List.forall_mem_cons.mpr ⟨lw_p37, List.forall_mem_cons.mpr ⟨lw_p38, List.forall_mem_cons.mpr ⟨lw_p39, List.forall_mem_cons.mpr ⟨lw_p40, List.forall_mem_cons.mpr ⟨lw_p41, List.forall_mem_cons.mpr ⟨lw_p42, List.forall_mem_cons.mpr ⟨lw_p43, List.forall_mem_cons.mpr ⟨lw_p44, List.forall_mem_cons.mpr ⟨lw_p45, List.forall_mem_cons.mpr ⟨lw_p46, List.forall_mem_cons.mpr ⟨lw_p47, fun _ h => absurd h List.not_mem_nil⟩⟩⟩⟩⟩⟩⟩⟩⟩⟩⟩⟩⟩⟩⟩⟩
theorem lw_p48 : lw_okq (⟨"TowerWarnsModel", "advance", "()V"⟩, 19) := ⟨⟨by decide +kernel, by decide +kernel⟩, List.mem_of_getElem? (i := 861) (by decide +kernel), List.mem_of_getElem? (i := 1153) (by decide +kernel), List.mem_of_getElem? (i := 1154) (by decide +kernel)⟩
theorem lw_p49 : lw_okq (⟨"TowerWarnsModel", "byteAt", "(I)I"⟩, 19) := ⟨⟨by decide +kernel, by decide +kernel⟩, List.mem_of_getElem? (i := 861) (by decide +kernel), List.mem_of_getElem? (i := 1157) (by decide +kernel), List.mem_of_getElem? (i := 1158) (by decide +kernel)⟩
theorem lw_p50 : lw_okq (⟨"TowerWarnsModel", "wantItem", "()V"⟩, 19) := ⟨⟨by decide +kernel, by decide +kernel⟩, List.mem_of_getElem? (i := 861) (by decide +kernel), List.mem_of_getElem? (i := 1170) (by decide +kernel), List.mem_of_getElem? (i := 1171) (by decide +kernel)⟩
theorem lw_p51 : lw_okq (⟨"TowerWarnsModel", "kindHere", "()I"⟩, 19) := ⟨⟨by decide +kernel, by decide +kernel⟩, List.mem_of_getElem? (i := 861) (by decide +kernel), List.mem_of_getElem? (i := 1174) (by decide +kernel), List.mem_of_getElem? (i := 1175) (by decide +kernel)⟩
theorem lw_p52 : lw_okq (⟨"TowerWarnsModel", "isWord", "(J)Z"⟩, 19) := ⟨⟨by decide +kernel, by decide +kernel⟩, List.mem_of_getElem? (i := 861) (by decide +kernel), List.mem_of_getElem? (i := 1179) (by decide +kernel), List.mem_of_getElem? (i := 1180) (by decide +kernel)⟩
theorem lw_p53 : lw_okq (⟨"TowerWarnsModel", "wantOne", "(I)V"⟩, 19) := ⟨⟨by decide +kernel, by decide +kernel⟩, List.mem_of_getElem? (i := 861) (by decide +kernel), List.mem_of_getElem? (i := 1188) (by decide +kernel), List.mem_of_getElem? (i := 1189) (by decide +kernel)⟩
theorem lw_p54 : lw_okq (⟨"TowerWarnsModel", "wantNumber", "(II)I"⟩, 19) := ⟨⟨by decide +kernel, by decide +kernel⟩, List.mem_of_getElem? (i := 861) (by decide +kernel), List.mem_of_getElem? (i := 1192) (by decide +kernel), List.mem_of_getElem? (i := 1193) (by decide +kernel)⟩
theorem lw_p55 : lw_okq (⟨"TowerWarnsModel", "mayWant", "(JIII)I"⟩, 19) := ⟨⟨by decide +kernel, by decide +kernel⟩, List.mem_of_getElem? (i := 861) (by decide +kernel), List.mem_of_getElem? (i := 1197) (by decide +kernel), List.mem_of_getElem? (i := 1198) (by decide +kernel)⟩
theorem lw_p56 : lw_okq (⟨"TowerWarnsModel", "wantTower", "()V"⟩, 19) := ⟨⟨by decide +kernel, by decide +kernel⟩, List.mem_of_getElem? (i := 861) (by decide +kernel), List.mem_of_getElem? (i := 1202) (by decide +kernel), List.mem_of_getElem? (i := 1203) (by decide +kernel)⟩
theorem lw_p57 : lw_okq (⟨"TowerWarnsModel", "wantLamp", "(I)V"⟩, 19) := ⟨⟨by decide +kernel, by decide +kernel⟩, List.mem_of_getElem? (i := 861) (by decide +kernel), List.mem_of_getElem? (i := 1207) (by decide +kernel), List.mem_of_getElem? (i := 1208) (by decide +kernel)⟩
theorem lw_p58 : lw_okq (⟨"TowerWarnsModel", "isPart", "(III)Z"⟩, 19) := ⟨⟨by decide +kernel, by decide +kernel⟩, List.mem_of_getElem? (i := 861) (by decide +kernel), List.mem_of_getElem? (i := 1233) (by decide +kernel), List.mem_of_getElem? (i := 1234) (by decide +kernel)⟩
theorem lw_p59 : lw_okq (⟨"TowerWarnsModel", "badSheet", "(I)I"⟩, 19) := ⟨⟨by decide +kernel, by decide +kernel⟩, List.mem_of_getElem? (i := 861) (by decide +kernel), List.mem_of_getElem? (i := 1241) (by decide +kernel), List.mem_of_getElem? (i := 1242) (by decide +kernel)⟩
theorem lw_p60 : lw_okq (⟨"TowerWarnsModel", "isSo", "(II)Z"⟩, 19) := ⟨⟨by decide +kernel, by decide +kernel⟩, List.mem_of_getElem? (i := 861) (by decide +kernel), List.mem_of_getElem? (i := 1254) (by decide +kernel), List.mem_of_getElem? (i := 1255) (by decide +kernel)⟩
def lw_privs_4 : List (MethodName × Nat) := [(⟨"TowerWarnsModel", "advance", "()V"⟩, 19), (⟨"TowerWarnsModel", "byteAt", "(I)I"⟩, 19), (⟨"TowerWarnsModel", "wantItem", "()V"⟩, 19), (⟨"TowerWarnsModel", "kindHere", "()I"⟩, 19), (⟨"TowerWarnsModel", "isWord", "(J)Z"⟩, 19), (⟨"TowerWarnsModel", "wantOne", "(I)V"⟩, 19), (⟨"TowerWarnsModel", "wantNumber", "(II)I"⟩, 19), (⟨"TowerWarnsModel", "mayWant", "(JIII)I"⟩, 19), (⟨"TowerWarnsModel", "wantTower", "()V"⟩, 19), (⟨"TowerWarnsModel", "wantLamp", "(I)V"⟩, 19), (⟨"TowerWarnsModel", "isPart", "(III)Z"⟩, 19), (⟨"TowerWarnsModel", "badSheet", "(I)I"⟩, 19), (⟨"TowerWarnsModel", "isSo", "(II)Z"⟩, 19)]
theorem lw_r4 : ∀ q ∈ lw_privs_4, lw_okq q := List.forall_mem_cons.mpr ⟨lw_p48, List.forall_mem_cons.mpr ⟨lw_p49, List.forall_mem_cons.mpr ⟨lw_p50, List.forall_mem_cons.mpr ⟨lw_p51, List.forall_mem_cons.mpr ⟨lw_p52, List.forall_mem_cons.mpr ⟨lw_p53, List.forall_mem_cons.mpr ⟨lw_p54, List.forall_mem_cons.mpr ⟨lw_p55, List.forall_mem_cons.mpr ⟨lw_p56, List.forall_mem_cons.mpr ⟨lw_p57, List.forall_mem_cons.mpr ⟨lw_p58, List.forall_mem_cons.mpr ⟨lw_p59, List.forall_mem_cons.mpr ⟨lw_p60, fun _ h => absurd h List.not_mem_nil⟩⟩⟩⟩⟩⟩⟩⟩⟩⟩⟩⟩⟩
def lw_privs : List (MethodName × Nat) := lw_privs_1 ++ (lw_privs_2 ++ (lw_privs_3 ++ (lw_privs_4)))
def lw_tbl : List Cond := k2_sels lw_privs ++ tables_1
theorem lw_privs_ok : ∀ q ∈ lw_privs, lw_okq q := by
  show ∀ q ∈ lw_privs_1 ++ (lw_privs_2 ++ (lw_privs_3 ++ (lw_privs_4))), lw_okq q
  exact List.forall_mem_append.mpr ⟨lw_r1, List.forall_mem_append.mpr ⟨lw_r2, List.forall_mem_append.mpr ⟨lw_r3, lw_r4⟩⟩⟩
end
section
def RX0 : String := "TowerWarns$Boat"
def TX0 : u_T := fun k => match k with
  | _ => ("", "", "", false)
def tyX0 : Nat → FieldType := fun k => match k with
  | _ => .int
abbrev wsX00 : List Cond := u_ws RX0 TX0 0
theorem nmX0 : ∀ a, a < 0 → ∀ b, b < 0 → a ≠ b → (TX0 a).2.1 ≠ (TX0 b).2.1 := by decide +kernel
theorem tyX0_ok : ∀ k, k < 0 → parseFieldDescriptor (TX0 k).2.2.1 = some (tyX0 k) := by decide +kernel
abbrev cX0_init : ByteArray := prog_2_method_1_code
def yX0_init : MethodName := ⟨RX0, "<init>", "()V"⟩
abbrev cX0_number : ByteArray := prog_2_method_2_code
def yX0_number : MethodName := ⟨RX0, "number", "()I"⟩
abbrev cX0_title : ByteArray := prog_2_method_3_code
def yX0_title : MethodName := ⟨RX0, "title", "()Ljava/lang/String;"⟩
abbrev cX0_isUnder : ByteArray := prog_2_method_4_code
def yX0_isUnder : MethodName := ⟨RX0, "isUnder", "(I)Z"⟩
abbrev cX0_sees : ByteArray := prog_2_method_5_code
def yX0_sees : MethodName := ⟨RX0, "sees", "(IZZI)Z"⟩
abbrev cX0_keepsOff : ByteArray := prog_2_method_6_code
def yX0_keepsOff : MethodName := ⟨RX0, "keepsOff", "(I)I"⟩
def RX1 : String := "TowerWarns$Drifter"
def TX1 : u_T := fun k => match k with
  | _ => ("", "", "", false)
def tyX1 : Nat → FieldType := fun k => match k with
  | _ => .int
abbrev wsX10 : List Cond := u_ws RX1 TX1 0
theorem nmX1 : ∀ a, a < 0 → ∀ b, b < 0 → a ≠ b → (TX1 a).2.1 ≠ (TX1 b).2.1 := by decide +kernel
theorem tyX1_ok : ∀ k, k < 0 → parseFieldDescriptor (TX1 k).2.2.1 = some (tyX1 k) := by decide +kernel
abbrev cX1_init : ByteArray := prog_3_method_1_code
def yX1_init : MethodName := ⟨RX1, "<init>", "()V"⟩
abbrev cX1_number : ByteArray := prog_3_method_2_code
def yX1_number : MethodName := ⟨RX1, "number", "()I"⟩
abbrev cX1_title : ByteArray := prog_3_method_3_code
def yX1_title : MethodName := ⟨RX1, "title", "()Ljava/lang/String;"⟩
abbrev cX1_isUnder : ByteArray := prog_3_method_4_code
def yX1_isUnder : MethodName := ⟨RX1, "isUnder", "(I)Z"⟩
abbrev cX1_sees : ByteArray := prog_3_method_5_code
def yX1_sees : MethodName := ⟨RX1, "sees", "(IZZI)Z"⟩
abbrev cX1_speed : ByteArray := prog_3_method_6_code
def yX1_speed : MethodName := ⟨RX1, "speed", "(IZ)I"⟩
abbrev cX1_keepsOff : ByteArray := prog_3_method_7_code
def yX1_keepsOff : MethodName := ⟨RX1, "keepsOff", "(I)I"⟩
def RX2 : String := "TowerWarns$Gig"
def TX2 : u_T := fun k => match k with
  | _ => ("", "", "", false)
def tyX2 : Nat → FieldType := fun k => match k with
  | _ => .int
abbrev wsX20 : List Cond := u_ws RX2 TX2 0
theorem nmX2 : ∀ a, a < 0 → ∀ b, b < 0 → a ≠ b → (TX2 a).2.1 ≠ (TX2 b).2.1 := by decide +kernel
theorem tyX2_ok : ∀ k, k < 0 → parseFieldDescriptor (TX2 k).2.2.1 = some (tyX2 k) := by decide +kernel
abbrev cX2_init : ByteArray := prog_4_method_1_code
def yX2_init : MethodName := ⟨RX2, "<init>", "()V"⟩
abbrev cX2_number : ByteArray := prog_4_method_2_code
def yX2_number : MethodName := ⟨RX2, "number", "()I"⟩
abbrev cX2_title : ByteArray := prog_4_method_3_code
def yX2_title : MethodName := ⟨RX2, "title", "()Ljava/lang/String;"⟩
abbrev cX2_isUnder : ByteArray := prog_4_method_4_code
def yX2_isUnder : MethodName := ⟨RX2, "isUnder", "(I)Z"⟩
abbrev cX2_sees : ByteArray := prog_4_method_5_code
def yX2_sees : MethodName := ⟨RX2, "sees", "(IZZI)Z"⟩
abbrev cX2_speed : ByteArray := prog_4_method_6_code
def yX2_speed : MethodName := ⟨RX2, "speed", "(IZ)I"⟩
abbrev cX2_keepsOff : ByteArray := prog_4_method_7_code
def yX2_keepsOff : MethodName := ⟨RX2, "keepsOff", "(I)I"⟩
def RX3 : String := "TowerWarns$Mail"
def TX3 : u_T := fun k => match k with
  | _ => ("", "", "", false)
def tyX3 : Nat → FieldType := fun k => match k with
  | _ => .int
abbrev wsX30 : List Cond := u_ws RX3 TX3 0
theorem nmX3 : ∀ a, a < 0 → ∀ b, b < 0 → a ≠ b → (TX3 a).2.1 ≠ (TX3 b).2.1 := by decide +kernel
theorem tyX3_ok : ∀ k, k < 0 → parseFieldDescriptor (TX3 k).2.2.1 = some (tyX3 k) := by decide +kernel
abbrev cX3_init : ByteArray := prog_5_method_1_code
def yX3_init : MethodName := ⟨RX3, "<init>", "()V"⟩
abbrev cX3_number : ByteArray := prog_5_method_2_code
def yX3_number : MethodName := ⟨RX3, "number", "()I"⟩
abbrev cX3_title : ByteArray := prog_5_method_3_code
def yX3_title : MethodName := ⟨RX3, "title", "()Ljava/lang/String;"⟩
abbrev cX3_isUnder : ByteArray := prog_5_method_4_code
def yX3_isUnder : MethodName := ⟨RX3, "isUnder", "(I)Z"⟩
abbrev cX3_sees : ByteArray := prog_5_method_5_code
def yX3_sees : MethodName := ⟨RX3, "sees", "(IZZI)Z"⟩
abbrev cX3_speed : ByteArray := prog_5_method_6_code
def yX3_speed : MethodName := ⟨RX3, "speed", "(IZ)I"⟩
abbrev cX3_keepsOff : ByteArray := prog_5_method_7_code
def yX3_keepsOff : MethodName := ⟨RX3, "keepsOff", "(I)I"⟩
abbrev cX3_stands : ByteArray := prog_5_method_8_code
def yX3_stands : MethodName := ⟨RX3, "stands", "(IZI)Z"⟩
def RX4 : String := "TowerWarns$Sea"
def TX4 : u_T := fun k => match k with
  | 0 => ("TowerWarns$Sea", "hour", "I", false)
  | 1 => ("TowerWarns$Sea", "towerColumn", "I", false)
  | 2 => ("TowerWarns$Sea", "towerRow", "I", false)
  | 3 => ("TowerWarns$Sea", "lamp", "I", false)
  | 4 => ("TowerWarns$Sea", "reach", "I", false)
  | 5 => ("TowerWarns$Sea", "vessels", "[LTowerWarns$Vessel;", true)
  | _ => ("TowerWarns$Sea", "size", "I", false)
def tyX4 : Nat → FieldType := fun k => match k with
  | 0 => .int
  | 1 => .int
  | 2 => .int
  | 3 => .int
  | 4 => .int
  | 5 => .array (.object "TowerWarns$Vessel")
  | _ => .int
abbrev wsX40 : List Cond := u_ws RX4 TX4 7
theorem nmX4 : ∀ a, a < 7 → ∀ b, b < 7 → a ≠ b → (TX4 a).2.1 ≠ (TX4 b).2.1 := by decide +kernel
theorem tyX4_ok : ∀ k, k < 7 → parseFieldDescriptor (TX4 k).2.2.1 = some (tyX4 k) := by decide +kernel
abbrev cX4_init : ByteArray := prog_6_method_1_code
def yX4_init : MethodName := ⟨RX4, "<init>", "(LTowerWarns$Ship;)V"⟩
abbrev cX4_become : ByteArray := prog_6_method_2_code
def yX4_become : MethodName := ⟨RX4, "become", "(LTowerWarns$Sea;)V"⟩
abbrev cX4_becomeWithOne : ByteArray := prog_6_method_3_code
def yX4_becomeWithOne : MethodName := ⟨RX4, "becomeWithOne", "(LTowerWarns$Sea;I)V"⟩
abbrev cX4_becomeEmptied : ByteArray := prog_6_method_4_code
def yX4_becomeEmptied : MethodName := ⟨RX4, "becomeEmptied", "(LTowerWarns$Sea;)V"⟩
abbrev cX4_isFull : ByteArray := prog_6_method_5_code
def yX4_isFull : MethodName := ⟨RX4, "isFull", "()Z"⟩
abbrev cX4_launch : ByteArray := prog_6_method_6_code
def yX4_launch : MethodName := ⟨RX4, "launch", "(LTowerWarns$Ship;II)V"⟩
abbrev cX4_hourOfDay : ByteArray := prog_6_method_7_code
def yX4_hourOfDay : MethodName := ⟨RX4, "hourOfDay", "()I"⟩
abbrev cX4_isNight : ByteArray := prog_6_method_8_code
def yX4_isNight : MethodName := ⟨RX4, "isNight", "()Z"⟩
abbrev cX4_burns : ByteArray := prog_6_method_9_code
def yX4_burns : MethodName := ⟨RX4, "burns", "()Z"⟩
abbrev cX4_isNightAt : ByteArray := prog_6_method_10_code
def yX4_isNightAt : MethodName := ⟨RX4, "isNightAt", "(I)Z"⟩
abbrev cX4_burnsAt : ByteArray := prog_6_method_11_code
def yX4_burnsAt : MethodName := ⟨RX4, "burnsAt", "(I)Z"⟩
abbrev cX4_towerPlace : ByteArray := prog_6_method_12_code
def yX4_towerPlace : MethodName := ⟨RX4, "towerPlace", "()I"⟩
abbrev cX4_distanceOf : ByteArray := prog_6_method_13_code
def yX4_distanceOf : MethodName := ⟨RX4, "distanceOf", "(LTowerWarns$Vessel;)I"⟩
abbrev cX4_bearing : ByteArray := prog_6_method_14_code
def yX4_bearing : MethodName := ⟨RX4, "bearing", "(LTowerWarns$Vessel;I)I"⟩
abbrev cX4_pass : ByteArray := prog_6_method_15_code
def yX4_pass : MethodName := ⟨RX4, "pass", "(I)V"⟩
abbrev cX4_passHour : ByteArray := prog_6_method_16_code
def yX4_passHour : MethodName := ⟨RX4, "passHour", "(LTowerWarns$Vessel;I)V"⟩
abbrev cX4_turnAway : ByteArray := prog_6_method_17_code
def yX4_turnAway : MethodName := ⟨RX4, "turnAway", "(LTowerWarns$Vessel;I)V"⟩
abbrev cX4_advance : ByteArray := prog_6_method_18_code
def yX4_advance : MethodName := ⟨RX4, "advance", "(LTowerWarns$Vessel;I)V"⟩
abbrev cX4_lostOnes : ByteArray := prog_6_method_19_code
def yX4_lostOnes : MethodName := ⟨RX4, "lostOnes", "()I"⟩
abbrev cX4_onesBy : ByteArray := prog_6_method_20_code
def yX4_onesBy : MethodName := ⟨RX4, "onesBy", "()I"⟩
abbrev cX4_costOfAll : ByteArray := prog_6_method_21_code
def yX4_costOfAll : MethodName := ⟨RX4, "costOfAll", "()I"⟩
abbrev cX4_nearestOne : ByteArray := prog_6_method_22_code
def yX4_nearestOne : MethodName := ⟨RX4, "nearestOne", "()I"⟩
def RX5 : String := "TowerWarns$SeaText"
def TX5 : u_T := fun k => match k with
  | 0 => ("TowerWarns$SeaText", "tape", "LTowerWarns$Tape;", true)
  | 1 => ("TowerWarns$SeaText", "kinds", "[LTowerWarns$Ship;", true)
  | 2 => ("TowerWarns$SeaText", "token", "I", false)
  | 3 => ("TowerWarns$SeaText", "start", "I", false)
  | 4 => ("TowerWarns$SeaText", "end", "I", false)
  | 5 => ("TowerWarns$SeaText", "value", "I", false)
  | _ => ("TowerWarns$SeaText", "taken", "I", false)
def tyX5 : Nat → FieldType := fun k => match k with
  | 0 => .object "TowerWarns$Tape"
  | 1 => .array (.object "TowerWarns$Ship")
  | 2 => .int
  | 3 => .int
  | 4 => .int
  | 5 => .int
  | _ => .int
abbrev wsX50 : List Cond := u_ws RX5 TX5 7
theorem nmX5 : ∀ a, a < 7 → ∀ b, b < 7 → a ≠ b → (TX5 a).2.1 ≠ (TX5 b).2.1 := by decide +kernel
theorem tyX5_ok : ∀ k, k < 7 → parseFieldDescriptor (TX5 k).2.2.1 = some (tyX5 k) := by decide +kernel
abbrev cX5_init : ByteArray := prog_7_method_1_code
def yX5_init : MethodName := ⟨RX5, "<init>", "(LTowerWarns$Tape;[LTowerWarns$Ship;)V"⟩
abbrev cX5_tell : ByteArray := prog_7_method_2_code
def yX5_tell : MethodName := ⟨RX5, "tell", "(LTowerWarns$Sea;)I"⟩
abbrev cX5_takeItem : ByteArray := prog_7_method_3_code
def yX5_takeItem : MethodName := ⟨RX5, "takeItem", "(LTowerWarns$Sea;)Z"⟩
abbrev cX5_takeShip : ByteArray := prog_7_method_4_code
def yX5_takeShip : MethodName := ⟨RX5, "takeShip", "(LTowerWarns$Sea;LTowerWarns$Ship;)Z"⟩
abbrev cX5_takeTower : ByteArray := prog_7_method_5_code
def yX5_takeTower : MethodName := ⟨RX5, "takeTower", "(LTowerWarns$Sea;)Z"⟩
abbrev cX5_takeLamp : ByteArray := prog_7_method_6_code
def yX5_takeLamp : MethodName := ⟨RX5, "takeLamp", "(LTowerWarns$Sea;Z)Z"⟩
abbrev cX5_takeReach : ByteArray := prog_7_method_7_code
def yX5_takeReach : MethodName := ⟨RX5, "takeReach", "(LTowerWarns$Sea;)Z"⟩
abbrev cX5_takeNumber : ByteArray := prog_7_method_8_code
def yX5_takeNumber : MethodName := ⟨RX5, "takeNumber", "(I)Z"⟩
abbrev cX5_next : ByteArray := prog_7_method_9_code
def yX5_next : MethodName := ⟨RX5, "next", "()V"⟩
abbrev cX5_sortOf : ByteArray := prog_7_method_10_code
def yX5_sortOf : MethodName := ⟨RX5, "sortOf", "(I)I"⟩
abbrev cX5_isWord : ByteArray := prog_7_method_11_code
def yX5_isWord : MethodName := ⟨RX5, "isWord", "(Ljava/lang/String;)Z"⟩
def RX6 : String := "TowerWarns$Sheet"
def TX6 : u_T := fun k => match k with
  | 0 => ("TowerWarns$Sheet", "bits", "I", false)
  | 1 => ("TowerWarns$Sheet", "size", "I", false)
  | _ => ("TowerWarns$Sheet", "numbers", "[J", true)
def tyX6 : Nat → FieldType := fun k => match k with
  | 0 => .int
  | 1 => .int
  | _ => .array .long
abbrev wsX60 : List Cond := u_ws RX6 TX6 3
theorem nmX6 : ∀ a, a < 3 → ∀ b, b < 3 → a ≠ b → (TX6 a).2.1 ≠ (TX6 b).2.1 := by decide +kernel
theorem tyX6_ok : ∀ k, k < 3 → parseFieldDescriptor (TX6 k).2.2.1 = some (tyX6 k) := by decide +kernel
abbrev cX6_init : ByteArray := prog_8_method_1_code
def yX6_init : MethodName := ⟨RX6, "<init>", "()V"⟩
abbrev cX6_isMissing : ByteArray := prog_8_method_2_code
def yX6_isMissing : MethodName := ⟨RX6, "isMissing", "()Z"⟩
abbrev cX6_lay : ByteArray := prog_8_method_3_code
def yX6_lay : MethodName := ⟨RX6, "lay", "(II)V"⟩
abbrev cX6_has : ByteArray := prog_8_method_4_code
def yX6_has : MethodName := ⟨RX6, "has", "(I)Z"⟩
abbrev cX6_hasRange : ByteArray := prog_8_method_5_code
def yX6_hasRange : MethodName := ⟨RX6, "hasRange", "(II)Z"⟩
abbrev cX6_at : ByteArray := prog_8_method_6_code
def yX6_at : MethodName := ⟨RX6, "at", "(I)J"⟩
abbrev cX6_put : ByteArray := prog_8_method_7_code
def yX6_put : MethodName := ⟨RX6, "put", "(IJ)V"⟩
def RX7 : String := "TowerWarns$Ship"
def TX7 : u_T := fun k => match k with
  | _ => ("", "", "", false)
def tyX7 : Nat → FieldType := fun k => match k with
  | _ => .int
abbrev wsX70 : List Cond := u_ws RX7 TX7 0
theorem nmX7 : ∀ a, a < 0 → ∀ b, b < 0 → a ≠ b → (TX7 a).2.1 ≠ (TX7 b).2.1 := by decide +kernel
theorem tyX7_ok : ∀ k, k < 0 → parseFieldDescriptor (TX7 k).2.2.1 = some (tyX7 k) := by decide +kernel
abbrev cX7_init : ByteArray := prog_9_method_1_code
def yX7_init : MethodName := ⟨RX7, "<init>", "()V"⟩
abbrev cX7_number : ByteArray := prog_9_method_2_code
def yX7_number : MethodName := ⟨RX7, "number", "()I"⟩
abbrev cX7_title : ByteArray := prog_9_method_3_code
def yX7_title : MethodName := ⟨RX7, "title", "()Ljava/lang/String;"⟩
abbrev cX7_isUnder : ByteArray := prog_9_method_4_code
def yX7_isUnder : MethodName := ⟨RX7, "isUnder", "(I)Z"⟩
abbrev cX7_sees : ByteArray := prog_9_method_5_code
def yX7_sees : MethodName := ⟨RX7, "sees", "(IZZI)Z"⟩
abbrev cX7_speed : ByteArray := prog_9_method_6_code
def yX7_speed : MethodName := ⟨RX7, "speed", "(IZ)I"⟩
abbrev cX7_keepsOff : ByteArray := prog_9_method_7_code
def yX7_keepsOff : MethodName := ⟨RX7, "keepsOff", "(I)I"⟩
abbrev cX7_stands : ByteArray := prog_9_method_8_code
def yX7_stands : MethodName := ⟨RX7, "stands", "(IZI)Z"⟩
def RX8 : String := "TowerWarns$Steamer"
def TX8 : u_T := fun k => match k with
  | _ => ("", "", "", false)
def tyX8 : Nat → FieldType := fun k => match k with
  | _ => .int
abbrev wsX80 : List Cond := u_ws RX8 TX8 0
theorem nmX8 : ∀ a, a < 0 → ∀ b, b < 0 → a ≠ b → (TX8 a).2.1 ≠ (TX8 b).2.1 := by decide +kernel
theorem tyX8_ok : ∀ k, k < 0 → parseFieldDescriptor (TX8 k).2.2.1 = some (tyX8 k) := by decide +kernel
abbrev cX8_init : ByteArray := prog_10_method_1_code
def yX8_init : MethodName := ⟨RX8, "<init>", "()V"⟩
abbrev cX8_number : ByteArray := prog_10_method_2_code
def yX8_number : MethodName := ⟨RX8, "number", "()I"⟩
abbrev cX8_title : ByteArray := prog_10_method_3_code
def yX8_title : MethodName := ⟨RX8, "title", "()Ljava/lang/String;"⟩
abbrev cX8_isUnder : ByteArray := prog_10_method_4_code
def yX8_isUnder : MethodName := ⟨RX8, "isUnder", "(I)Z"⟩
abbrev cX8_sees : ByteArray := prog_10_method_5_code
def yX8_sees : MethodName := ⟨RX8, "sees", "(IZZI)Z"⟩
abbrev cX8_speed : ByteArray := prog_10_method_6_code
def yX8_speed : MethodName := ⟨RX8, "speed", "(IZ)I"⟩
abbrev cX8_stands : ByteArray := prog_10_method_7_code
def yX8_stands : MethodName := ⟨RX8, "stands", "(IZI)Z"⟩
def RX9 : String := "TowerWarns$Tape"
def TX9 : u_T := fun k => match k with
  | 0 => ("TowerWarns$Tape", "bytes", "[B", true)
  | _ => ("TowerWarns$Tape", "length", "I", false)
def tyX9 : Nat → FieldType := fun k => match k with
  | 0 => .array .byte
  | _ => .int
abbrev wsX90 : List Cond := u_ws RX9 TX9 2
theorem nmX9 : ∀ a, a < 2 → ∀ b, b < 2 → a ≠ b → (TX9 a).2.1 ≠ (TX9 b).2.1 := by decide +kernel
theorem tyX9_ok : ∀ k, k < 2 → parseFieldDescriptor (TX9 k).2.2.1 = some (tyX9 k) := by decide +kernel
abbrev cX9_init : ByteArray := prog_11_method_1_code
def yX9_init : MethodName := ⟨RX9, "<init>", "()V"⟩
abbrev cX9_add : ByteArray := prog_11_method_2_code
def yX9_add : MethodName := ⟨RX9, "add", "(B)V"⟩
abbrev cX9_at : ByteArray := prog_11_method_3_code
def yX9_at : MethodName := ⟨RX9, "at", "(I)I"⟩
abbrev cX9_empty : ByteArray := prog_11_method_4_code
def yX9_empty : MethodName := ⟨RX9, "empty", "()I"⟩
def RX10 : String := "TowerWarns$Vessel"
def TX10 : u_T := fun k => match k with
  | 0 => ("TowerWarns$Vessel", "kind", "LTowerWarns$Ship;", false)
  | 1 => ("TowerWarns$Vessel", "column", "I", false)
  | 2 => ("TowerWarns$Vessel", "row", "I", false)
  | 3 => ("TowerWarns$Vessel", "cost", "I", false)
  | 4 => ("TowerWarns$Vessel", "near", "I", false)
  | 5 => ("TowerWarns$Vessel", "lost", "Z", false)
  | _ => ("TowerWarns$Vessel", "by", "Z", false)
def tyX10 : Nat → FieldType := fun k => match k with
  | 0 => .object "TowerWarns$Ship"
  | 1 => .int
  | 2 => .int
  | 3 => .int
  | 4 => .int
  | 5 => .boolean
  | _ => .boolean
abbrev wsX100 : List Cond := u_ws RX10 TX10 7
theorem nmX10 : ∀ a, a < 7 → ∀ b, b < 7 → a ≠ b → (TX10 a).2.1 ≠ (TX10 b).2.1 := by decide +kernel
theorem tyX10_ok : ∀ k, k < 7 → parseFieldDescriptor (TX10 k).2.2.1 = some (tyX10 k) := by decide +kernel
abbrev cX10_init : ByteArray := prog_12_method_1_code
def yX10_init : MethodName := ⟨RX10, "<init>", "(LTowerWarns$Ship;)V"⟩
abbrev cX10_begin : ByteArray := prog_12_method_2_code
def yX10_begin : MethodName := ⟨RX10, "begin", "(LTowerWarns$Ship;II)V"⟩
abbrev cX10_become : ByteArray := prog_12_method_3_code
def yX10_become : MethodName := ⟨RX10, "become", "(LTowerWarns$Vessel;)V"⟩
abbrev cX10_isUnderWay : ByteArray := prog_12_method_4_code
def yX10_isUnderWay : MethodName := ⟨RX10, "isUnderWay", "()Z"⟩
abbrev cX10_figure : ByteArray := prog_12_method_5_code
def yX10_figure : MethodName := ⟨RX10, "figure", "(I)I"⟩
abbrev cX10_mostOf : ByteArray := prog_12_method_6_code
def yX10_mostOf : MethodName := ⟨RX10, "mostOf", "(I)I"⟩
abbrev cX10_put : ByteArray := prog_12_method_7_code
def yX10_put : MethodName := ⟨RX10, "put", "(II)V"⟩
abbrev cX10_pay : ByteArray := prog_12_method_8_code
def yX10_pay : MethodName := ⟨RX10, "pay", "()V"⟩
def RX11 : String := "TowerWarns"
def TX11 : u_T := fun k => match k with
  | 0 => ("TowerWarns", "kinds", "[LTowerWarns$Ship;", true)
  | 1 => ("TowerWarns", "present", "LTowerWarns$Sea;", true)
  | 2 => ("TowerWarns", "kept", "LTowerWarns$Sea;", true)
  | 3 => ("TowerWarns", "trial", "LTowerWarns$Sea;", true)
  | 4 => ("TowerWarns", "somethingKept", "Z", false)
  | 5 => ("TowerWarns", "tape", "LTowerWarns$Tape;", true)
  | 6 => ("TowerWarns", "text", "LTowerWarns$SeaText;", true)
  | 7 => ("TowerWarns", "sheets", "[LTowerWarns$Sheet;", true)
  | _ => ("TowerWarns", "findings", "[I", true)
def tyX11 : Nat → FieldType := fun k => match k with
  | 0 => .array (.object "TowerWarns$Ship")
  | 1 => .object "TowerWarns$Sea"
  | 2 => .object "TowerWarns$Sea"
  | 3 => .object "TowerWarns$Sea"
  | 4 => .boolean
  | 5 => .object "TowerWarns$Tape"
  | 6 => .object "TowerWarns$SeaText"
  | 7 => .array (.object "TowerWarns$Sheet")
  | _ => .array .int
abbrev wsX110 : List Cond := u_ws RX11 TX11 9
theorem nmX11 : ∀ a, a < 9 → ∀ b, b < 9 → a ≠ b → (TX11 a).2.1 ≠ (TX11 b).2.1 := by decide +kernel
theorem tyX11_ok : ∀ k, k < 9 → parseFieldDescriptor (TX11 k).2.2.1 = some (tyX11 k) := by decide +kernel
abbrev cX11_init : ByteArray := prog_1_method_1_code
def yX11_init : MethodName := ⟨RX11, "<init>", "()V"⟩
abbrev cX11_tower : ByteArray := prog_1_method_2_code
def yX11_tower : MethodName := ⟨RX11, "tower", "(II)I"⟩
abbrev cX11_lamp : ByteArray := prog_1_method_3_code
def yX11_lamp : MethodName := ⟨RX11, "lamp", "(I)I"⟩
abbrev cX11_reach : ByteArray := prog_1_method_4_code
def yX11_reach : MethodName := ⟨RX11, "reach", "(I)I"⟩
abbrev cX11_now : ByteArray := prog_1_method_5_code
def yX11_now : MethodName := ⟨RX11, "now", "(I)I"⟩
abbrev cX11_ship : ByteArray := prog_1_method_6_code
def yX11_ship : MethodName := ⟨RX11, "ship", "(II)I"⟩
abbrev cX11_of : ByteArray := prog_1_method_7_code
def yX11_of : MethodName := ⟨RX11, "of", "(II)I"⟩
abbrev cX11_set : ByteArray := prog_1_method_8_code
def yX11_set : MethodName := ⟨RX11, "set", "(III)I"⟩
abbrev cX11_turn : ByteArray := prog_1_method_9_code
def yX11_turn : MethodName := ⟨RX11, "turn", "(II)I"⟩
abbrev cX11_as : ByteArray := prog_1_method_10_code
def yX11_as : MethodName := ⟨RX11, "as", "(II)I"⟩
abbrev cX11_hours : ByteArray := prog_1_method_11_code
def yX11_hours : MethodName := ⟨RX11, "hours", "(I)I"⟩
abbrev cX11_on : ByteArray := prog_1_method_12_code
def yX11_on : MethodName := ⟨RX11, "on", "(III)I"⟩
abbrev cX11_then : ByteArray := prog_1_method_13_code
def yX11_then : MethodName := ⟨RX11, "then", "(II)I"⟩
abbrev cX11_comes : ByteArray := prog_1_method_14_code
def yX11_comes : MethodName := ⟨RX11, "comes", "(I)I"⟩
abbrev cX11_wrecks : ByteArray := prog_1_method_15_code
def yX11_wrecks : MethodName := ⟨RX11, "wrecks", "(I)I"⟩
abbrev cX11_row : ByteArray := prog_1_method_16_code
def yX11_row : MethodName := ⟨RX11, "row", "(I)I"⟩
abbrev cX11_kind : ByteArray := prog_1_method_17_code
def yX11_kind : MethodName := ⟨RX11, "kind", "(I)I"⟩
abbrev cX11_shine : ByteArray := prog_1_method_18_code
def yX11_shine : MethodName := ⟨RX11, "shine", "(I)I"⟩
abbrev cX11_hour : ByteArray := prog_1_method_19_code
def yX11_hour : MethodName := ⟨RX11, "hour", "(I)I"⟩
abbrev cX11_site : ByteArray := prog_1_method_20_code
def yX11_site : MethodName := ⟨RX11, "site", "(I)I"⟩
abbrev cX11_nearest : ByteArray := prog_1_method_21_code
def yX11_nearest : MethodName := ⟨RX11, "nearest", "(I)I"⟩
abbrev cX11_feed : ByteArray := prog_1_method_22_code
def yX11_feed : MethodName := ⟨RX11, "feed", "(II)I"⟩
abbrev cX11_wipe : ByteArray := prog_1_method_23_code
def yX11_wipe : MethodName := ⟨RX11, "wipe", "()I"⟩
abbrev cX11_sea : ByteArray := prog_1_method_24_code
def yX11_sea : MethodName := ⟨RX11, "sea", "()I"⟩
abbrev cX11_sheet : ByteArray := prog_1_method_25_code
def yX11_sheet : MethodName := ⟨RX11, "sheet", "(III)I"⟩
abbrev cX11_write : ByteArray := prog_1_method_26_code
def yX11_write : MethodName := ⟨RX11, "write", "(IIJ)J"⟩
abbrev cX11_copy : ByteArray := prog_1_method_27_code
def yX11_copy : MethodName := ⟨RX11, "copy", "(IIIII)I"⟩
abbrev cX11_lays : ByteArray := prog_1_method_28_code
def yX11_lays : MethodName := ⟨RX11, "lays", "(I)I"⟩
abbrev cX11_book : ByteArray := prog_1_method_29_code
def yX11_book : MethodName := ⟨RX11, "book", "(II)I"⟩
abbrev cX11_read : ByteArray := prog_1_method_30_code
def yX11_read : MethodName := ⟨RX11, "read", "(II)I"⟩
abbrev cX11_image : ByteArray := prog_1_method_31_code
def yX11_image : MethodName := ⟨RX11, "image", "()I"⟩
abbrev cX11_undo : ByteArray := prog_1_method_32_code
def yX11_undo : MethodName := ⟨RX11, "undo", "()I"⟩
abbrev cX11_tear : ByteArray := prog_1_method_33_code
def yX11_tear : MethodName := ⟨RX11, "tear", "()I"⟩
abbrev cX11_count : ByteArray := prog_1_method_34_code
def yX11_count : MethodName := ⟨RX11, "count", "(I)I"⟩
abbrev cX11_status : ByteArray := prog_1_method_35_code
def yX11_status : MethodName := ⟨RX11, "status", "(I)I"⟩
abbrev cX11_found : ByteArray := prog_1_method_36_code
def yX11_found : MethodName := ⟨RX11, "found", "(I)I"⟩
abbrev cX11_isShip : ByteArray := prog_1_method_37_code
def yX11_isShip : MethodName := ⟨RX11, "isShip", "(I)Z"⟩
abbrev cX11_amissUnderWay : ByteArray := prog_1_method_38_code
def yX11_amissUnderWay : MethodName := ⟨RX11, "amissUnderWay", "(I)I"⟩
abbrev cX11_amissInSheet : ByteArray := prog_1_method_39_code
def yX11_amissInSheet : MethodName := ⟨RX11, "amissInSheet", "(I)I"⟩
abbrev cX11_isKind : ByteArray := prog_1_method_40_code
def yX11_isKind : MethodName := ⟨RX11, "isKind", "(I)Z"⟩
abbrev cX11_isSheet : ByteArray := prog_1_method_41_code
def yX11_isSheet : MethodName := ⟨RX11, "isSheet", "(I)Z"⟩
abbrev cX11_isWithin : ByteArray := prog_1_method_42_code
def yX11_isWithin : MethodName := ⟨RX11, "isWithin", "(III)Z"⟩
abbrev cX11_asNumber : ByteArray := prog_1_method_43_code
def yX11_asNumber : MethodName := ⟨RX11, "asNumber", "(Z)I"⟩
abbrev cX11_tryAlone : ByteArray := prog_1_method_44_code
def yX11_tryAlone : MethodName := ⟨RX11, "tryAlone", "(I)V"⟩
abbrev cX11_hoursUntilEnd : ByteArray := prog_1_method_45_code
def yX11_hoursUntilEnd : MethodName := ⟨RX11, "hoursUntilEnd", "()I"⟩
abbrev cX11_hoursUntilBy : ByteArray := prog_1_method_46_code
def yX11_hoursUntilBy : MethodName := ⟨RX11, "hoursUntilBy", "()I"⟩
abbrev cX11_goesAsTold : ByteArray := prog_1_method_47_code
def yX11_goesAsTold : MethodName := ⟨RX11, "goesAsTold", "(LTowerWarns$Sheet;)Z"⟩
def RX12 : String := "TowerWarnsModel"
def TX12 : u_T := fun k => match k with
  | 0 => ("TowerWarnsModel", "row", "[I", true)
  | 1 => ("TowerWarnsModel", "found", "[I", true)
  | 2 => ("TowerWarnsModel", "tried", "[I", true)
  | 3 => ("TowerWarnsModel", "before1", "[I", true)
  | 4 => ("TowerWarnsModel", "tape", "[I", true)
  | 5 => ("TowerWarnsModel", "tapeMany", "I", false)
  | 6 => ("TowerWarnsModel", "sort", "I", false)
  | 7 => ("TowerWarnsModel", "begins", "I", false)
  | 8 => ("TowerWarnsModel", "tokenEnds", "I", false)
  | 9 => ("TowerWarnsModel", "word", "J", false)
  | 10 => ("TowerWarnsModel", "value", "I", false)
  | 11 => ("TowerWarnsModel", "good", "Z", false)
  | 12 => ("TowerWarnsModel", "bitsOf", "[I", true)
  | 13 => ("TowerWarnsModel", "sizeOf", "[I", true)
  | 14 => ("TowerWarnsModel", "sheets", "[J", true)
  | 15 => ("TowerWarnsModel", "lent", "[J", true)
  | 16 => ("TowerWarnsModel", "image", "[I", true)
  | 17 => ("TowerWarnsModel", "before", "[I", true)
  | _ => ("TowerWarnsModel", "isKept", "Z", false)
def tyX12 : Nat → FieldType := fun k => match k with
  | 0 => .array .int
  | 1 => .array .int
  | 2 => .array .int
  | 3 => .array .int
  | 4 => .array .int
  | 5 => .int
  | 6 => .int
  | 7 => .int
  | 8 => .int
  | 9 => .long
  | 10 => .int
  | 11 => .boolean
  | 12 => .array .int
  | 13 => .array .int
  | 14 => .array .long
  | 15 => .array .long
  | 16 => .array .int
  | 17 => .array .int
  | _ => .boolean
abbrev wsX120 : List Cond := u_ws RX12 TX12 19
theorem nmX12 : ∀ a, a < 19 → ∀ b, b < 19 → a ≠ b → (TX12 a).2.1 ≠ (TX12 b).2.1 := by decide +kernel
theorem tyX12_ok : ∀ k, k < 19 → parseFieldDescriptor (TX12 k).2.2.1 = some (tyX12 k) := by decide +kernel
abbrev cX12_init : ByteArray := prog_14_method_1_code
def yX12_init : MethodName := ⟨RX12, "<init>", "()V"⟩
abbrev cX12_in : ByteArray := prog_14_method_2_code
def yX12_in : MethodName := ⟨RX12, "in", "(III)Z"⟩
abbrev cX12_finds : ByteArray := prog_14_method_3_code
def yX12_finds : MethodName := ⟨RX12, "finds", "(I)I"⟩
abbrev cX12_held : ByteArray := prog_14_method_4_code
def yX12_held : MethodName := ⟨RX12, "held", "(III)I"⟩
abbrev cX12_its : ByteArray := prog_14_method_5_code
def yX12_its : MethodName := ⟨RX12, "its", "(II)I"⟩
abbrev cX12_puts : ByteArray := prog_14_method_6_code
def yX12_puts : MethodName := ⟨RX12, "puts", "(III)V"⟩
abbrev cX12_becomes : ByteArray := prog_14_method_7_code
def yX12_becomes : MethodName := ⟨RX12, "becomes", "(II)I"⟩
abbrev cX12_isOne : ByteArray := prog_14_method_8_code
def yX12_isOne : MethodName := ⟨RX12, "isOne", "(I)Z"⟩
abbrev cX12_isKind : ByteArray := prog_14_method_9_code
def yX12_isKind : MethodName := ⟨RX12, "isKind", "(I)Z"⟩
abbrev cX12_isRow : ByteArray := prog_14_method_10_code
def yX12_isRow : MethodName := ⟨RX12, "isRow", "(I)Z"⟩
abbrev cX12_bits : ByteArray := prog_14_method_11_code
def yX12_bits : MethodName := ⟨RX12, "bits", "(I)I"⟩
abbrev cX12_isNight : ByteArray := prog_14_method_12_code
def yX12_isNight : MethodName := ⟨RX12, "isNight", "()Z"⟩
abbrev cX12_isBurning : ByteArray := prog_14_method_13_code
def yX12_isBurning : MethodName := ⟨RX12, "isBurning", "()Z"⟩
abbrev cX12_place : ByteArray := prog_14_method_14_code
def yX12_place : MethodName := ⟨RX12, "place", "()I"⟩
abbrev cX12_stands : ByteArray := prog_14_method_15_code
def yX12_stands : MethodName := ⟨RX12, "stands", "(I)V"⟩
abbrev cX12_tower : ByteArray := prog_14_method_16_code
def yX12_tower : MethodName := ⟨RX12, "tower", "(II)I"⟩
abbrev cX12_lamp : ByteArray := prog_14_method_17_code
def yX12_lamp : MethodName := ⟨RX12, "lamp", "(I)I"⟩
abbrev cX12_reach : ByteArray := prog_14_method_18_code
def yX12_reach : MethodName := ⟨RX12, "reach", "(I)I"⟩
abbrev cX12_setOf : ByteArray := prog_14_method_19_code
def yX12_setOf : MethodName := ⟨RX12, "setOf", "(I)I"⟩
abbrev cX12_costOfAll : ByteArray := prog_14_method_20_code
def yX12_costOfAll : MethodName := ⟨RX12, "costOfAll", "()I"⟩
abbrev cX12_now : ByteArray := prog_14_method_21_code
def yX12_now : MethodName := ⟨RX12, "now", "(I)I"⟩
abbrev cX12_apart : ByteArray := prog_14_method_22_code
def yX12_apart : MethodName := ⟨RX12, "apart", "(II)I"⟩
abbrev cX12_distance : ByteArray := prog_14_method_23_code
def yX12_distance : MethodName := ⟨RX12, "distance", "(I)I"⟩
abbrev cX12_isSeeing : ByteArray := prog_14_method_24_code
def yX12_isSeeing : MethodName := ⟨RX12, "isSeeing", "(I)Z"⟩
abbrev cX12_speed : ByteArray := prog_14_method_25_code
def yX12_speed : MethodName := ⟨RX12, "speed", "(I)I"⟩
abbrev cX12_keepsOff : ByteArray := prog_14_method_26_code
def yX12_keepsOff : MethodName := ⟨RX12, "keepsOff", "(I)I"⟩
abbrev cX12_isStanding : ByteArray := prog_14_method_27_code
def yX12_isStanding : MethodName := ⟨RX12, "isStanding", "(I)Z"⟩
abbrev cX12_adds : ByteArray := prog_14_method_28_code
def yX12_adds : MethodName := ⟨RX12, "adds", "(III)V"⟩
abbrev cX12_ship : ByteArray := prog_14_method_29_code
def yX12_ship : MethodName := ⟨RX12, "ship", "(II)I"⟩
abbrev cX12_of : ByteArray := prog_14_method_30_code
def yX12_of : MethodName := ⟨RX12, "of", "(II)I"⟩
abbrev cX12_isPart : ByteArray := prog_14_method_31_code
def yX12_isPart : MethodName := ⟨RX12, "isPart", "(II)Z"⟩
abbrev cX12_set : ByteArray := prog_14_method_32_code
def yX12_set : MethodName := ⟨RX12, "set", "(III)I"⟩
abbrev cX12_turn : ByteArray := prog_14_method_33_code
def yX12_turn : MethodName := ⟨RX12, "turn", "(II)I"⟩
abbrev cX12_as : ByteArray := prog_14_method_34_code
def yX12_as : MethodName := ⟨RX12, "as", "(II)I"⟩
abbrev cX12_costs : ByteArray := prog_14_method_35_code
def yX12_costs : MethodName := ⟨RX12, "costs", "(I)V"⟩
abbrev cX12_turnsOff : ByteArray := prog_14_method_36_code
def yX12_turnsOff : MethodName := ⟨RX12, "turnsOff", "(I)V"⟩
abbrev cX12_goesOn : ByteArray := prog_14_method_37_code
def yX12_goesOn : MethodName := ⟨RX12, "goesOn", "(I)V"⟩
abbrev cX12_sails : ByteArray := prog_14_method_38_code
def yX12_sails : MethodName := ⟨RX12, "sails", "(I)V"⟩
abbrev cX12_oneHour : ByteArray := prog_14_method_39_code
def yX12_oneHour : MethodName := ⟨RX12, "oneHour", "()V"⟩
abbrev cX12_passes : ByteArray := prog_14_method_40_code
def yX12_passes : MethodName := ⟨RX12, "passes", "(I)V"⟩
abbrev cX12_hours : ByteArray := prog_14_method_41_code
def yX12_hours : MethodName := ⟨RX12, "hours", "(I)I"⟩
abbrev cX12_on : ByteArray := prog_14_method_42_code
def yX12_on : MethodName := ⟨RX12, "on", "(III)I"⟩
abbrev cX12_then : ByteArray := prog_14_method_43_code
def yX12_then : MethodName := ⟨RX12, "then", "(II)I"⟩
abbrev cX12_soonest : ByteArray := prog_14_method_44_code
def yX12_soonest : MethodName := ⟨RX12, "soonest", "(II)I"⟩
abbrev cX12_whenFirst : ByteArray := prog_14_method_45_code
def yX12_whenFirst : MethodName := ⟨RX12, "whenFirst", "(II)I"⟩
abbrev cX12_comes : ByteArray := prog_14_method_46_code
def yX12_comes : MethodName := ⟨RX12, "comes", "(I)I"⟩
abbrev cX12_wrecks : ByteArray := prog_14_method_47_code
def yX12_wrecks : MethodName := ⟨RX12, "wrecks", "(I)I"⟩
abbrev cX12_bestOf : ByteArray := prog_14_method_48_code
def yX12_bestOf : MethodName := ⟨RX12, "bestOf", "(III)I"⟩
abbrev cX12_row : ByteArray := prog_14_method_49_code
def yX12_row : MethodName := ⟨RX12, "row", "(I)I"⟩
abbrev cX12_kind : ByteArray := prog_14_method_50_code
def yX12_kind : MethodName := ⟨RX12, "kind", "(I)I"⟩
abbrev cX12_shine : ByteArray := prog_14_method_51_code
def yX12_shine : MethodName := ⟨RX12, "shine", "(I)I"⟩
abbrev cX12_hour : ByteArray := prog_14_method_52_code
def yX12_hour : MethodName := ⟨RX12, "hour", "(I)I"⟩
abbrev cX12_site : ByteArray := prog_14_method_53_code
def yX12_site : MethodName := ⟨RX12, "site", "(I)I"⟩
abbrev cX12_nearest : ByteArray := prog_14_method_54_code
def yX12_nearest : MethodName := ⟨RX12, "nearest", "(I)I"⟩
abbrev cX12_feed : ByteArray := prog_14_method_55_code
def yX12_feed : MethodName := ⟨RX12, "feed", "(II)I"⟩
abbrev cX12_wipe : ByteArray := prog_14_method_56_code
def yX12_wipe : MethodName := ⟨RX12, "wipe", "()I"⟩
abbrev cX12_byteAt : ByteArray := prog_14_method_57_code
def yX12_byteAt : MethodName := ⟨RX12, "byteAt", "(I)I"⟩
abbrev cX12_isLetter : ByteArray := prog_14_method_58_code
def yX12_isLetter : MethodName := ⟨RX12, "isLetter", "(I)Z"⟩
abbrev cX12_isDigit : ByteArray := prog_14_method_59_code
def yX12_isDigit : MethodName := ⟨RX12, "isDigit", "(I)Z"⟩
abbrev cX12_advance : ByteArray := prog_14_method_60_code
def yX12_advance : MethodName := ⟨RX12, "advance", "()V"⟩
abbrev cX12_isWord : ByteArray := prog_14_method_61_code
def yX12_isWord : MethodName := ⟨RX12, "isWord", "(J)Z"⟩
abbrev cX12_kindHere : ByteArray := prog_14_method_62_code
def yX12_kindHere : MethodName := ⟨RX12, "kindHere", "()I"⟩
abbrev cX12_wantNumber : ByteArray := prog_14_method_63_code
def yX12_wantNumber : MethodName := ⟨RX12, "wantNumber", "(II)I"⟩
abbrev cX12_mayWant : ByteArray := prog_14_method_64_code
def yX12_mayWant : MethodName := ⟨RX12, "mayWant", "(JIII)I"⟩
abbrev cX12_wantOne : ByteArray := prog_14_method_65_code
def yX12_wantOne : MethodName := ⟨RX12, "wantOne", "(I)V"⟩
abbrev cX12_wantTower : ByteArray := prog_14_method_66_code
def yX12_wantTower : MethodName := ⟨RX12, "wantTower", "()V"⟩
abbrev cX12_wantLamp : ByteArray := prog_14_method_67_code
def yX12_wantLamp : MethodName := ⟨RX12, "wantLamp", "(I)V"⟩
abbrev cX12_wantItem : ByteArray := prog_14_method_68_code
def yX12_wantItem : MethodName := ⟨RX12, "wantItem", "()V"⟩
abbrev cX12_sea : ByteArray := prog_14_method_69_code
def yX12_sea : MethodName := ⟨RX12, "sea", "()I"⟩
abbrev cX12_isSheet : ByteArray := prog_14_method_70_code
def yX12_isSheet : MethodName := ⟨RX12, "isSheet", "(I)Z"⟩
abbrev cX12_narrow : ByteArray := prog_14_method_71_code
def yX12_narrow : MethodName := ⟨RX12, "narrow", "(IJ)J"⟩
abbrev cX12_sheet : ByteArray := prog_14_method_72_code
def yX12_sheet : MethodName := ⟨RX12, "sheet", "(III)I"⟩
abbrev cX12_write : ByteArray := prog_14_method_73_code
def yX12_write : MethodName := ⟨RX12, "write", "(IIJ)J"⟩
abbrev cX12_isPart_ : ByteArray := prog_14_method_74_code
def yX12_isPart_ : MethodName := ⟨RX12, "isPart", "(III)Z"⟩
abbrev cX12_copy : ByteArray := prog_14_method_75_code
def yX12_copy : MethodName := ⟨RX12, "copy", "(IIIII)I"⟩
abbrev cX12_badSheet : ByteArray := prog_14_method_76_code
def yX12_badSheet : MethodName := ⟨RX12, "badSheet", "(I)I"⟩
abbrev cX12_lays : ByteArray := prog_14_method_77_code
def yX12_lays : MethodName := ⟨RX12, "lays", "(I)I"⟩
abbrev cX12_book : ByteArray := prog_14_method_78_code
def yX12_book : MethodName := ⟨RX12, "book", "(II)I"⟩
abbrev cX12_isSo : ByteArray := prog_14_method_79_code
def yX12_isSo : MethodName := ⟨RX12, "isSo", "(II)Z"⟩
abbrev cX12_read : ByteArray := prog_14_method_80_code
def yX12_read : MethodName := ⟨RX12, "read", "(II)I"⟩
abbrev cX12_moveAll : ByteArray := prog_14_method_81_code
def yX12_moveAll : MethodName := ⟨RX12, "moveAll", "(Z[I)V"⟩
abbrev cX12_image : ByteArray := prog_14_method_82_code
def yX12_image : MethodName := ⟨RX12, "image", "()I"⟩
abbrev cX12_undo : ByteArray := prog_14_method_83_code
def yX12_undo : MethodName := ⟨RX12, "undo", "()I"⟩
abbrev cX12_tear : ByteArray := prog_14_method_84_code
def yX12_tear : MethodName := ⟨RX12, "tear", "()I"⟩
abbrev cX12_count : ByteArray := prog_14_method_85_code
def yX12_count : MethodName := ⟨RX12, "count", "(I)I"⟩
abbrev cX12_status : ByteArray := prog_14_method_86_code
def yX12_status : MethodName := ⟨RX12, "status", "(I)I"⟩
def RJ6 : String := "java/lang/Integer"
def TJ6 : u_T := fun k => match k with
  | _ => ("", "", "", false)
def tyJ6 : Nat → FieldType := fun k => match k with
  | _ => .int
abbrev wsJ60 : List Cond := u_ws RJ6 TJ6 0
theorem nmJ6 : ∀ a, a < 0 → ∀ b, b < 0 → a ≠ b → (TJ6 a).2.1 ≠ (TJ6 b).2.1 := by decide +kernel
theorem tyJ6_ok : ∀ k, k < 0 → parseFieldDescriptor (TJ6 k).2.2.1 = some (tyJ6 k) := by decide +kernel
abbrev cJ6_bitCount_0f7a4 : ByteArray := prog_15_method_49_code
def yJ6_bitCount_0f7a4 : MethodName := ⟨RJ6, "bitCount", "(I)I"⟩
def RJ9 : String := "java/lang/Math"
def TJ9 : u_T := fun k => match k with
  | _ => ("", "", "", false)
def tyJ9 : Nat → FieldType := fun k => match k with
  | _ => .int
abbrev wsJ90 : List Cond := u_ws RJ9 TJ9 0
theorem nmJ9 : ∀ a, a < 0 → ∀ b, b < 0 → a ≠ b → (TJ9 a).2.1 ≠ (TJ9 b).2.1 := by decide +kernel
theorem tyJ9_ok : ∀ k, k < 0 → parseFieldDescriptor (TJ9 k).2.2.1 = some (tyJ9 k) := by decide +kernel
abbrev cJ9_abs_0f7a4 : ByteArray := prog_16_method_59_code
def yJ9_abs_0f7a4 : MethodName := ⟨RJ9, "abs", "(I)I"⟩
abbrev cJ9_max_7cf53 : ByteArray := prog_16_method_65_code
def yJ9_max_7cf53 : MethodName := ⟨RJ9, "max", "(II)I"⟩
abbrev cJ9_min_7cf53 : ByteArray := prog_16_method_69_code
def yJ9_min_7cf53 : MethodName := ⟨RJ9, "min", "(II)I"⟩
def RJ0 : String := "java/lang/String"
def TJ0 : u_T := fun k => match k with
  | _ => ("", "", "", false)
def tyJ0 : Nat → FieldType := fun k => match k with
  | _ => .int
abbrev wsJ00 : List Cond := u_ws RJ0 TJ0 0
theorem nmJ0 : ∀ a, a < 0 → ∀ b, b < 0 → a ≠ b → (TJ0 a).2.1 ≠ (TJ0 b).2.1 := by decide +kernel
theorem tyJ0_ok : ∀ k, k < 0 → parseFieldDescriptor (TJ0 k).2.2.1 = some (tyJ0 k) := by decide +kernel
abbrev cJ0_length_8abf5 : ByteArray := prog_17_method_54_code
def yJ0_length_8abf5 : MethodName := ⟨RJ0, "length", "()I"⟩
abbrev cJ0_charAt_5068e : ByteArray := prog_17_method_56_code
def yJ0_charAt_5068e : MethodName := ⟨RJ0, "charAt", "(I)C"⟩
abbrev cJ0_coder_7d493 : ByteArray := prog_17_method_152_code
def yJ0_coder_7d493 : MethodName := ⟨RJ0, "coder", "()B"⟩
abbrev cJ0_isLatin1_aae02 : ByteArray := prog_17_method_154_code
def yJ0_isLatin1_aae02 : MethodName := ⟨RJ0, "isLatin1", "()Z"⟩
abbrev cJ0_checkIndex_df160 : ByteArray := prog_17_method_155_code
def yJ0_checkIndex_df160 : MethodName := ⟨RJ0, "checkIndex", "(II)V"⟩
def RJ1 : String := "java/lang/StringLatin1"
def TJ1 : u_T := fun k => match k with
  | _ => ("", "", "", false)
def tyJ1 : Nat → FieldType := fun k => match k with
  | _ => .int
abbrev wsJ10 : List Cond := u_ws RJ1 TJ1 0
theorem nmJ1 : ∀ a, a < 0 → ∀ b, b < 0 → a ≠ b → (TJ1 a).2.1 ≠ (TJ1 b).2.1 := by decide +kernel
theorem tyJ1_ok : ∀ k, k < 0 → parseFieldDescriptor (TJ1 k).2.2.1 = some (tyJ1 k) := by decide +kernel
abbrev cJ1_charAt_3b067 : ByteArray := prog_18_method_2_code
def yJ1_charAt_3b067 : MethodName := ⟨RJ1, "charAt", "([BI)C"⟩
def RJ2 : String := "java/lang/StringUTF16"
def TJ2 : u_T := fun k => match k with
  | _ => ("", "", "", false)
def tyJ2 : Nat → FieldType := fun k => match k with
  | _ => .int
abbrev wsJ20 : List Cond := u_ws RJ2 TJ2 0
theorem nmJ2 : ∀ a, a < 0 → ∀ b, b < 0 → a ≠ b → (TJ2 a).2.1 ≠ (TJ2 b).2.1 := by decide +kernel
theorem tyJ2_ok : ∀ k, k < 0 → parseFieldDescriptor (TJ2 k).2.2.1 = some (tyJ2 k) := by decide +kernel
abbrev cJ2_getChar_3b067 : ByteArray := prog_19_method_5_code
def yJ2_getChar_3b067 : MethodName := ⟨RJ2, "getChar", "([BI)C"⟩
abbrev cJ2_length_9d52b : ByteArray := prog_19_method_6_code
def yJ2_length_9d52b : MethodName := ⟨RJ2, "length", "([B)I"⟩
abbrev cJ2_charAt_3b067 : ByteArray := prog_19_method_83_code
def yJ2_charAt_3b067 : MethodName := ⟨RJ2, "charAt", "([BI)C"⟩
abbrev cJ2_checkIndex_2214a : ByteArray := prog_19_method_91_code
def yJ2_checkIndex_2214a : MethodName := ⟨RJ2, "checkIndex", "(I[B)V"⟩
def RJ10 : String := "java/lang/System"
def TJ10 : u_T := fun k => match k with
  | _ => ("", "", "", false)
def tyJ10 : Nat → FieldType := fun k => match k with
  | _ => .int
abbrev wsJ100 : List Cond := u_ws RJ10 TJ10 0
theorem nmJ10 : ∀ a, a < 0 → ∀ b, b < 0 → a ≠ b → (TJ10 a).2.1 ≠ (TJ10 b).2.1 := by decide +kernel
theorem tyJ10_ok : ∀ k, k < 0 → parseFieldDescriptor (TJ10 k).2.2.1 = some (tyJ10 k) := by decide +kernel
def RJ3 : String := "jdk/internal/util/Preconditions"
def TJ3 : u_T := fun k => match k with
  | _ => ("", "", "", false)
def tyJ3 : Nat → FieldType := fun k => match k with
  | _ => .int
abbrev wsJ30 : List Cond := u_ws RJ3 TJ3 0
theorem nmJ3 : ∀ a, a < 0 → ∀ b, b < 0 → a ≠ b → (TJ3 a).2.1 ≠ (TJ3 b).2.1 := by decide +kernel
theorem tyJ3_ok : ∀ k, k < 0 → parseFieldDescriptor (TJ3 k).2.2.1 = some (tyJ3 k) := by decide +kernel
abbrev cJ3_checkIndex_8e157 : ByteArray := prog_21_method_11_code
def yJ3_checkIndex_8e157 : MethodName := ⟨RJ3, "checkIndex", "(IILjava/util/function/BiFunction;)I"⟩
def RL : String := "TowerWarnsLaw"
abbrev cL_law : ByteArray := code
def yL_law : MethodName := ⟨RL, "law", "([I)Z"⟩
abbrev vwCl : List vw_C := [(RX0, TX0, 0), (RX1, TX1, 0), (RX2, TX2, 0), (RX3, TX3, 0), (RX4, TX4, 7), (RX5, TX5, 7), (RX6, TX6, 3), (RX7, TX7, 0), (RX8, TX8, 0), (RX9, TX9, 2), (RX10, TX10, 7), (RX11, TX11, 9), (RX12, TX12, 19)]
def gw : List Cond := lw_tbl.filter goodWord
theorem gw_of {w : Cond} (i : Nat) (h : lw_tbl[i]? = some w) (hg : goodWord w = true) : w ∈ gw := List.mem_filter.mpr ⟨List.mem_of_getElem? h, hg⟩
theorem gw_in {w : Cond} (h : w ∈ gw) : w ∈ lw_tbl := (List.mem_filter.mp h).1
theorem gw_good : GoodIn gw gw := fun w h => ⟨h, good_of_word (List.mem_filter.mp h).2⟩
theorem u_ws_mem {C : String} {T : u_T} {N : Nat} {L : List Cond} (h : ∀ k, k < N → u_lay C T k ∈ L) : ∀ w ∈ u_ws C T N, w ∈ L := by
  intro w hw
  obtain ⟨k, hk, rfl⟩ := List.mem_map.mp hw
  exact h k (List.mem_range.mp hk)
theorem ig0 : ∀ w ∈ u_ws RX0 TX0 0, w ∈ gw := u_ws_mem (fun k hk => absurd hk (Nat.not_lt_zero k))
theorem ig1 : ∀ w ∈ u_ws RX1 TX1 0, w ∈ gw := u_ws_mem (fun k hk => absurd hk (Nat.not_lt_zero k))
theorem ig2 : ∀ w ∈ u_ws RX2 TX2 0, w ∈ gw := u_ws_mem (fun k hk => absurd hk (Nat.not_lt_zero k))
theorem ig3 : ∀ w ∈ u_ws RX3 TX3 0, w ∈ gw := u_ws_mem (fun k hk => absurd hk (Nat.not_lt_zero k))
theorem ig4_0 : u_lay RX4 TX4 0 ∈ gw := gw_of 198 (by decide +kernel) (by decide +kernel)
theorem ig4_1 : u_lay RX4 TX4 1 ∈ gw := gw_of 200 (by decide +kernel) (by decide +kernel)
theorem ig4_2 : u_lay RX4 TX4 2 ∈ gw := gw_of 202 (by decide +kernel) (by decide +kernel)
theorem ig4_3 : u_lay RX4 TX4 3 ∈ gw := gw_of 204 (by decide +kernel) (by decide +kernel)
theorem ig4_4 : u_lay RX4 TX4 4 ∈ gw := gw_of 206 (by decide +kernel) (by decide +kernel)
theorem ig4_5 : u_lay RX4 TX4 5 ∈ gw := gw_of 208 (by decide +kernel) (by decide +kernel)
theorem ig4_6 : u_lay RX4 TX4 6 ∈ gw := gw_of 210 (by decide +kernel) (by decide +kernel)
theorem ig4 : ∀ w ∈ u_ws RX4 TX4 7, w ∈ gw := u_ws_mem (fun k hk => by
  match k, hk with
  | 0, _ => exact ig4_0
  | 1, _ => exact ig4_1
  | 2, _ => exact ig4_2
  | 3, _ => exact ig4_3
  | 4, _ => exact ig4_4
  | 5, _ => exact ig4_5
  | 6, _ => exact ig4_6
  | k + 7, hk => exact absurd hk (by omega))
theorem ig5_0 : u_lay RX5 TX5 0 ∈ gw := gw_of 242 (by decide +kernel) (by decide +kernel)
theorem ig5_1 : u_lay RX5 TX5 1 ∈ gw := gw_of 244 (by decide +kernel) (by decide +kernel)
theorem ig5_2 : u_lay RX5 TX5 2 ∈ gw := gw_of 246 (by decide +kernel) (by decide +kernel)
theorem ig5_3 : u_lay RX5 TX5 3 ∈ gw := gw_of 248 (by decide +kernel) (by decide +kernel)
theorem ig5_4 : u_lay RX5 TX5 4 ∈ gw := gw_of 250 (by decide +kernel) (by decide +kernel)
theorem ig5_5 : u_lay RX5 TX5 5 ∈ gw := gw_of 252 (by decide +kernel) (by decide +kernel)
theorem ig5_6 : u_lay RX5 TX5 6 ∈ gw := gw_of 254 (by decide +kernel) (by decide +kernel)
theorem ig5 : ∀ w ∈ u_ws RX5 TX5 7, w ∈ gw := u_ws_mem (fun k hk => by
  match k, hk with
  | 0, _ => exact ig5_0
  | 1, _ => exact ig5_1
  | 2, _ => exact ig5_2
  | 3, _ => exact ig5_3
  | 4, _ => exact ig5_4
  | 5, _ => exact ig5_5
  | 6, _ => exact ig5_6
  | k + 7, hk => exact absurd hk (by omega))
theorem ig6_0 : u_lay RX6 TX6 0 ∈ gw := gw_of 270 (by decide +kernel) (by decide +kernel)
theorem ig6_1 : u_lay RX6 TX6 1 ∈ gw := gw_of 272 (by decide +kernel) (by decide +kernel)
theorem ig6_2 : u_lay RX6 TX6 2 ∈ gw := gw_of 274 (by decide +kernel) (by decide +kernel)
theorem ig6 : ∀ w ∈ u_ws RX6 TX6 3, w ∈ gw := u_ws_mem (fun k hk => by
  match k, hk with
  | 0, _ => exact ig6_0
  | 1, _ => exact ig6_1
  | 2, _ => exact ig6_2
  | k + 3, hk => exact absurd hk (by omega))
theorem ig7 : ∀ w ∈ u_ws RX7 TX7 0, w ∈ gw := u_ws_mem (fun k hk => absurd hk (Nat.not_lt_zero k))
theorem ig8 : ∀ w ∈ u_ws RX8 TX8 0, w ∈ gw := u_ws_mem (fun k hk => absurd hk (Nat.not_lt_zero k))
theorem ig9_0 : u_lay RX9 TX9 0 ∈ gw := gw_of 223 (by decide +kernel) (by decide +kernel)
theorem ig9_1 : u_lay RX9 TX9 1 ∈ gw := gw_of 225 (by decide +kernel) (by decide +kernel)
theorem ig9 : ∀ w ∈ u_ws RX9 TX9 2, w ∈ gw := u_ws_mem (fun k hk => by
  match k, hk with
  | 0, _ => exact ig9_0
  | 1, _ => exact ig9_1
  | k + 2, hk => exact absurd hk (by omega))
theorem ig10_0 : u_lay RX10 TX10 0 ∈ gw := gw_of 165 (by decide +kernel) (by decide +kernel)
theorem ig10_1 : u_lay RX10 TX10 1 ∈ gw := gw_of 167 (by decide +kernel) (by decide +kernel)
theorem ig10_2 : u_lay RX10 TX10 2 ∈ gw := gw_of 169 (by decide +kernel) (by decide +kernel)
theorem ig10_3 : u_lay RX10 TX10 3 ∈ gw := gw_of 171 (by decide +kernel) (by decide +kernel)
theorem ig10_4 : u_lay RX10 TX10 4 ∈ gw := gw_of 173 (by decide +kernel) (by decide +kernel)
theorem ig10_5 : u_lay RX10 TX10 5 ∈ gw := gw_of 175 (by decide +kernel) (by decide +kernel)
theorem ig10_6 : u_lay RX10 TX10 6 ∈ gw := gw_of 177 (by decide +kernel) (by decide +kernel)
theorem ig10 : ∀ w ∈ u_ws RX10 TX10 7, w ∈ gw := u_ws_mem (fun k hk => by
  match k, hk with
  | 0, _ => exact ig10_0
  | 1, _ => exact ig10_1
  | 2, _ => exact ig10_2
  | 3, _ => exact ig10_3
  | 4, _ => exact ig10_4
  | 5, _ => exact ig10_5
  | 6, _ => exact ig10_6
  | k + 7, hk => exact absurd hk (by omega))
theorem ig11_0 : u_lay RX11 TX11 0 ∈ gw := gw_of 287 (by decide +kernel) (by decide +kernel)
theorem ig11_1 : u_lay RX11 TX11 1 ∈ gw := gw_of 289 (by decide +kernel) (by decide +kernel)
theorem ig11_2 : u_lay RX11 TX11 2 ∈ gw := gw_of 291 (by decide +kernel) (by decide +kernel)
theorem ig11_3 : u_lay RX11 TX11 3 ∈ gw := gw_of 293 (by decide +kernel) (by decide +kernel)
theorem ig11_4 : u_lay RX11 TX11 4 ∈ gw := gw_of 295 (by decide +kernel) (by decide +kernel)
theorem ig11_5 : u_lay RX11 TX11 5 ∈ gw := gw_of 297 (by decide +kernel) (by decide +kernel)
theorem ig11_6 : u_lay RX11 TX11 6 ∈ gw := gw_of 299 (by decide +kernel) (by decide +kernel)
theorem ig11_7 : u_lay RX11 TX11 7 ∈ gw := gw_of 301 (by decide +kernel) (by decide +kernel)
theorem ig11_8 : u_lay RX11 TX11 8 ∈ gw := gw_of 303 (by decide +kernel) (by decide +kernel)
theorem ig11 : ∀ w ∈ u_ws RX11 TX11 9, w ∈ gw := u_ws_mem (fun k hk => by
  match k, hk with
  | 0, _ => exact ig11_0
  | 1, _ => exact ig11_1
  | 2, _ => exact ig11_2
  | 3, _ => exact ig11_3
  | 4, _ => exact ig11_4
  | 5, _ => exact ig11_5
  | 6, _ => exact ig11_6
  | 7, _ => exact ig11_7
  | 8, _ => exact ig11_8
  | k + 9, hk => exact absurd hk (by omega))
theorem ig12_0 : u_lay RX12 TX12 0 ∈ gw := gw_of 946 (by decide +kernel) (by decide +kernel)
theorem ig12_1 : u_lay RX12 TX12 1 ∈ gw := gw_of 948 (by decide +kernel) (by decide +kernel)
theorem ig12_2 : u_lay RX12 TX12 2 ∈ gw := gw_of 950 (by decide +kernel) (by decide +kernel)
theorem ig12_3 : u_lay RX12 TX12 3 ∈ gw := gw_of 952 (by decide +kernel) (by decide +kernel)
theorem ig12_4 : u_lay RX12 TX12 4 ∈ gw := gw_of 954 (by decide +kernel) (by decide +kernel)
theorem ig12_5 : u_lay RX12 TX12 5 ∈ gw := gw_of 956 (by decide +kernel) (by decide +kernel)
theorem ig12_6 : u_lay RX12 TX12 6 ∈ gw := gw_of 958 (by decide +kernel) (by decide +kernel)
theorem ig12_7 : u_lay RX12 TX12 7 ∈ gw := gw_of 960 (by decide +kernel) (by decide +kernel)
theorem ig12_8 : u_lay RX12 TX12 8 ∈ gw := gw_of 962 (by decide +kernel) (by decide +kernel)
theorem ig12_9 : u_lay RX12 TX12 9 ∈ gw := gw_of 964 (by decide +kernel) (by decide +kernel)
theorem ig12_10 : u_lay RX12 TX12 10 ∈ gw := gw_of 966 (by decide +kernel) (by decide +kernel)
theorem ig12_11 : u_lay RX12 TX12 11 ∈ gw := gw_of 968 (by decide +kernel) (by decide +kernel)
theorem ig12_12 : u_lay RX12 TX12 12 ∈ gw := gw_of 970 (by decide +kernel) (by decide +kernel)
theorem ig12_13 : u_lay RX12 TX12 13 ∈ gw := gw_of 972 (by decide +kernel) (by decide +kernel)
theorem ig12_14 : u_lay RX12 TX12 14 ∈ gw := gw_of 974 (by decide +kernel) (by decide +kernel)
theorem ig12_15 : u_lay RX12 TX12 15 ∈ gw := gw_of 976 (by decide +kernel) (by decide +kernel)
theorem ig12_16 : u_lay RX12 TX12 16 ∈ gw := gw_of 978 (by decide +kernel) (by decide +kernel)
theorem ig12_17 : u_lay RX12 TX12 17 ∈ gw := gw_of 980 (by decide +kernel) (by decide +kernel)
theorem ig12_18 : u_lay RX12 TX12 18 ∈ gw := gw_of 982 (by decide +kernel) (by decide +kernel)
theorem ig12 : ∀ w ∈ u_ws RX12 TX12 19, w ∈ gw := u_ws_mem (fun k hk => by
  match k, hk with
  | 0, _ => exact ig12_0
  | 1, _ => exact ig12_1
  | 2, _ => exact ig12_2
  | 3, _ => exact ig12_3
  | 4, _ => exact ig12_4
  | 5, _ => exact ig12_5
  | 6, _ => exact ig12_6
  | 7, _ => exact ig12_7
  | 8, _ => exact ig12_8
  | 9, _ => exact ig12_9
  | 10, _ => exact ig12_10
  | 11, _ => exact ig12_11
  | 12, _ => exact ig12_12
  | 13, _ => exact ig12_13
  | 14, _ => exact ig12_14
  | 15, _ => exact ig12_15
  | 16, _ => exact ig12_16
  | 17, _ => exact ig12_17
  | 18, _ => exact ig12_18
  | k + 19, hk => exact absurd hk (by omega))
end
section
theorem dX0_init_0 : decode cX0_init 0 = .ok (.aload_n 0, 1) := by decide +kernel
theorem dX0_init_1 : decode cX0_init 1 = .ok (.invokespecial 1, 3) := by decide +kernel
theorem dX0_init_4 : decode cX0_init 4 = .ok (.return_, 1) := by decide +kernel
theorem dX0_number_0 : decode cX0_number 0 = .ok (.iconst 2, 1) := by decide +kernel
theorem dX0_number_1 : decode cX0_number 1 = .ok (.ireturn, 1) := by decide +kernel
theorem dX0_title_0 : decode cX0_title 0 = .ok (.ldc 7, 2) := by decide +kernel
theorem dX0_title_2 : decode cX0_title 2 = .ok (.areturn, 1) := by decide +kernel
theorem dX0_isUnder_0 : decode cX0_isUnder 0 = .ok (.iload_n 1, 1) := by decide +kernel
theorem dX0_isUnder_1 : decode cX0_isUnder 1 = .ok (.iconst 2, 1) := by decide +kernel
theorem dX0_isUnder_2 : decode cX0_isUnder 2 = .ok (.if_icmp .eq 11, 3) := by decide +kernel
theorem dX0_isUnder_5 : decode cX0_isUnder 5 = .ok (.aload_n 0, 1) := by decide +kernel
theorem dX0_isUnder_6 : decode cX0_isUnder 6 = .ok (.iload_n 1, 1) := by decide +kernel
theorem dX0_isUnder_7 : decode cX0_isUnder 7 = .ok (.invokespecial 9, 3) := by decide +kernel
theorem dX0_isUnder_10 : decode cX0_isUnder 10 = .ok (.ifCond .eq 7, 3) := by decide +kernel
theorem dX0_isUnder_13 : decode cX0_isUnder 13 = .ok (.iconst 1, 1) := by decide +kernel
theorem dX0_isUnder_14 : decode cX0_isUnder 14 = .ok (.goto 4, 3) := by decide +kernel
theorem dX0_isUnder_17 : decode cX0_isUnder 17 = .ok (.iconst 0, 1) := by decide +kernel
theorem dX0_isUnder_18 : decode cX0_isUnder 18 = .ok (.ireturn, 1) := by decide +kernel
theorem dX0_sees_0 : decode cX0_sees 0 = .ok (.iload_n 2, 1) := by decide +kernel
theorem dX0_sees_1 : decode cX0_sees 1 = .ok (.ifCond .eq 16, 3) := by decide +kernel
theorem dX0_sees_4 : decode cX0_sees 4 = .ok (.iload_n 1, 1) := by decide +kernel
theorem dX0_sees_5 : decode cX0_sees 5 = .ok (.iconst 2, 1) := by decide +kernel
theorem dX0_sees_6 : decode cX0_sees 6 = .ok (.if_icmp .gt 7, 3) := by decide +kernel
theorem dX0_sees_9 : decode cX0_sees 9 = .ok (.iconst 1, 1) := by decide +kernel
theorem dX0_sees_10 : decode cX0_sees 10 = .ok (.goto 16, 3) := by decide +kernel
theorem dX0_sees_13 : decode cX0_sees 13 = .ok (.iconst 0, 1) := by decide +kernel
theorem dX0_sees_14 : decode cX0_sees 14 = .ok (.goto 12, 3) := by decide +kernel
theorem dX0_sees_17 : decode cX0_sees 17 = .ok (.aload_n 0, 1) := by decide +kernel
theorem dX0_sees_18 : decode cX0_sees 18 = .ok (.iload_n 1, 1) := by decide +kernel
theorem dX0_sees_19 : decode cX0_sees 19 = .ok (.iload_n 2, 1) := by decide +kernel
theorem dX0_sees_20 : decode cX0_sees 20 = .ok (.iload_n 3, 1) := by decide +kernel
theorem dX0_sees_21 : decode cX0_sees 21 = .ok (.iload 4, 2) := by decide +kernel
theorem dX0_sees_23 : decode cX0_sees 23 = .ok (.invokespecial 13, 3) := by decide +kernel
theorem dX0_sees_26 : decode cX0_sees 26 = .ok (.ireturn, 1) := by decide +kernel
theorem dX0_keepsOff_0 : decode cX0_keepsOff 0 = .ok (.aload_n 0, 1) := by decide +kernel
theorem dX0_keepsOff_1 : decode cX0_keepsOff 1 = .ok (.iload_n 1, 1) := by decide +kernel
theorem dX0_keepsOff_2 : decode cX0_keepsOff 2 = .ok (.invokespecial 17, 3) := by decide +kernel
theorem dX0_keepsOff_5 : decode cX0_keepsOff 5 = .ok (.iconst 1, 1) := by decide +kernel
theorem dX0_keepsOff_6 : decode cX0_keepsOff 6 = .ok (.iadd, 1) := by decide +kernel
theorem dX0_keepsOff_7 : decode cX0_keepsOff 7 = .ok (.ireturn, 1) := by decide +kernel
theorem dX1_init_0 : decode cX1_init 0 = .ok (.aload_n 0, 1) := by decide +kernel
theorem dX1_init_1 : decode cX1_init 1 = .ok (.invokespecial 1, 3) := by decide +kernel
theorem dX1_init_4 : decode cX1_init 4 = .ok (.return_, 1) := by decide +kernel
theorem dX1_number_0 : decode cX1_number 0 = .ok (.iconst 3, 1) := by decide +kernel
theorem dX1_number_1 : decode cX1_number 1 = .ok (.ireturn, 1) := by decide +kernel
theorem dX1_title_0 : decode cX1_title 0 = .ok (.ldc 7, 2) := by decide +kernel
theorem dX1_title_2 : decode cX1_title 2 = .ok (.areturn, 1) := by decide +kernel
theorem dX1_isUnder_0 : decode cX1_isUnder 0 = .ok (.iload_n 1, 1) := by decide +kernel
theorem dX1_isUnder_1 : decode cX1_isUnder 1 = .ok (.iconst 3, 1) := by decide +kernel
theorem dX1_isUnder_2 : decode cX1_isUnder 2 = .ok (.if_icmp .eq 11, 3) := by decide +kernel
theorem dX1_isUnder_5 : decode cX1_isUnder 5 = .ok (.aload_n 0, 1) := by decide +kernel
theorem dX1_isUnder_6 : decode cX1_isUnder 6 = .ok (.iload_n 1, 1) := by decide +kernel
theorem dX1_isUnder_7 : decode cX1_isUnder 7 = .ok (.invokespecial 9, 3) := by decide +kernel
theorem dX1_isUnder_10 : decode cX1_isUnder 10 = .ok (.ifCond .eq 7, 3) := by decide +kernel
theorem dX1_isUnder_13 : decode cX1_isUnder 13 = .ok (.iconst 1, 1) := by decide +kernel
theorem dX1_isUnder_14 : decode cX1_isUnder 14 = .ok (.goto 4, 3) := by decide +kernel
theorem dX1_isUnder_17 : decode cX1_isUnder 17 = .ok (.iconst 0, 1) := by decide +kernel
theorem dX1_isUnder_18 : decode cX1_isUnder 18 = .ok (.ireturn, 1) := by decide +kernel
theorem dX1_sees_0 : decode cX1_sees 0 = .ok (.iconst 0, 1) := by decide +kernel
theorem dX1_sees_1 : decode cX1_sees 1 = .ok (.ireturn, 1) := by decide +kernel
theorem dX1_speed_0 : decode cX1_speed 0 = .ok (.iload_n 1, 1) := by decide +kernel
theorem dX1_speed_1 : decode cX1_speed 1 = .ok (.iconst 2, 1) := by decide +kernel
theorem dX1_speed_2 : decode cX1_speed 2 = .ok (.irem, 1) := by decide +kernel
theorem dX1_speed_3 : decode cX1_speed 3 = .ok (.ifCond .ne 7, 3) := by decide +kernel
theorem dX1_speed_6 : decode cX1_speed 6 = .ok (.iconst 1, 1) := by decide +kernel
theorem dX1_speed_7 : decode cX1_speed 7 = .ok (.goto 4, 3) := by decide +kernel
theorem dX1_speed_10 : decode cX1_speed 10 = .ok (.iconst 0, 1) := by decide +kernel
theorem dX1_speed_11 : decode cX1_speed 11 = .ok (.ireturn, 1) := by decide +kernel
theorem dX1_keepsOff_0 : decode cX1_keepsOff 0 = .ok (.iconst 0, 1) := by decide +kernel
theorem dX1_keepsOff_1 : decode cX1_keepsOff 1 = .ok (.ireturn, 1) := by decide +kernel
theorem dX2_init_0 : decode cX2_init 0 = .ok (.aload_n 0, 1) := by decide +kernel
theorem dX2_init_1 : decode cX2_init 1 = .ok (.invokespecial 1, 3) := by decide +kernel
theorem dX2_init_4 : decode cX2_init 4 = .ok (.return_, 1) := by decide +kernel
theorem dX2_number_0 : decode cX2_number 0 = .ok (.iconst 5, 1) := by decide +kernel
theorem dX2_number_1 : decode cX2_number 1 = .ok (.ireturn, 1) := by decide +kernel
theorem dX2_title_0 : decode cX2_title 0 = .ok (.ldc 7, 2) := by decide +kernel
theorem dX2_title_2 : decode cX2_title 2 = .ok (.areturn, 1) := by decide +kernel
theorem dX2_isUnder_0 : decode cX2_isUnder 0 = .ok (.iload_n 1, 1) := by decide +kernel
theorem dX2_isUnder_1 : decode cX2_isUnder 1 = .ok (.iconst 5, 1) := by decide +kernel
theorem dX2_isUnder_2 : decode cX2_isUnder 2 = .ok (.if_icmp .eq 11, 3) := by decide +kernel
theorem dX2_isUnder_5 : decode cX2_isUnder 5 = .ok (.aload_n 0, 1) := by decide +kernel
theorem dX2_isUnder_6 : decode cX2_isUnder 6 = .ok (.iload_n 1, 1) := by decide +kernel
theorem dX2_isUnder_7 : decode cX2_isUnder 7 = .ok (.invokespecial 9, 3) := by decide +kernel
theorem dX2_isUnder_10 : decode cX2_isUnder 10 = .ok (.ifCond .eq 7, 3) := by decide +kernel
theorem dX2_isUnder_13 : decode cX2_isUnder 13 = .ok (.iconst 1, 1) := by decide +kernel
theorem dX2_isUnder_14 : decode cX2_isUnder 14 = .ok (.goto 4, 3) := by decide +kernel
theorem dX2_isUnder_17 : decode cX2_isUnder 17 = .ok (.iconst 0, 1) := by decide +kernel
theorem dX2_isUnder_18 : decode cX2_isUnder 18 = .ok (.ireturn, 1) := by decide +kernel
theorem dX2_sees_0 : decode cX2_sees 0 = .ok (.iload_n 2, 1) := by decide +kernel
theorem dX2_sees_1 : decode cX2_sees 1 = .ok (.ifCond .eq 15, 3) := by decide +kernel
theorem dX2_sees_4 : decode cX2_sees 4 = .ok (.aload_n 0, 1) := by decide +kernel
theorem dX2_sees_5 : decode cX2_sees 5 = .ok (.iload_n 1, 1) := by decide +kernel
theorem dX2_sees_6 : decode cX2_sees 6 = .ok (.iload_n 2, 1) := by decide +kernel
theorem dX2_sees_7 : decode cX2_sees 7 = .ok (.iload_n 3, 1) := by decide +kernel
theorem dX2_sees_8 : decode cX2_sees 8 = .ok (.iload 4, 2) := by decide +kernel
theorem dX2_sees_10 : decode cX2_sees 10 = .ok (.invokespecial 13, 3) := by decide +kernel
theorem dX2_sees_13 : decode cX2_sees 13 = .ok (.ifCond .eq 7, 3) := by decide +kernel
theorem dX2_sees_16 : decode cX2_sees 16 = .ok (.iconst 1, 1) := by decide +kernel
theorem dX2_sees_17 : decode cX2_sees 17 = .ok (.goto 4, 3) := by decide +kernel
theorem dX2_sees_20 : decode cX2_sees 20 = .ok (.iconst 0, 1) := by decide +kernel
theorem dX2_sees_21 : decode cX2_sees 21 = .ok (.ireturn, 1) := by decide +kernel
theorem dX2_speed_0 : decode cX2_speed 0 = .ok (.aload_n 0, 1) := by decide +kernel
theorem dX2_speed_1 : decode cX2_speed 1 = .ok (.iload_n 1, 1) := by decide +kernel
theorem dX2_speed_2 : decode cX2_speed 2 = .ok (.iload_n 2, 1) := by decide +kernel
theorem dX2_speed_3 : decode cX2_speed 3 = .ok (.invokespecial 17, 3) := by decide +kernel
theorem dX2_speed_6 : decode cX2_speed 6 = .ok (.iload_n 2, 1) := by decide +kernel
theorem dX2_speed_7 : decode cX2_speed 7 = .ok (.ifCond .eq 7, 3) := by decide +kernel
theorem dX2_speed_10 : decode cX2_speed 10 = .ok (.iconst 0, 1) := by decide +kernel
theorem dX2_speed_11 : decode cX2_speed 11 = .ok (.goto 4, 3) := by decide +kernel
theorem dX2_speed_14 : decode cX2_speed 14 = .ok (.iconst 1, 1) := by decide +kernel
theorem dX2_speed_15 : decode cX2_speed 15 = .ok (.iadd, 1) := by decide +kernel
theorem dX2_speed_16 : decode cX2_speed 16 = .ok (.ireturn, 1) := by decide +kernel
theorem dX2_keepsOff_0 : decode cX2_keepsOff 0 = .ok (.aload_n 0, 1) := by decide +kernel
theorem dX2_keepsOff_1 : decode cX2_keepsOff 1 = .ok (.iload_n 1, 1) := by decide +kernel
theorem dX2_keepsOff_2 : decode cX2_keepsOff 2 = .ok (.invokespecial 21, 3) := by decide +kernel
theorem dX2_keepsOff_5 : decode cX2_keepsOff 5 = .ok (.iconst 3, 1) := by decide +kernel
theorem dX2_keepsOff_6 : decode cX2_keepsOff 6 = .ok (.isub, 1) := by decide +kernel
theorem dX2_keepsOff_7 : decode cX2_keepsOff 7 = .ok (.ireturn, 1) := by decide +kernel
theorem dX3_init_0 : decode cX3_init 0 = .ok (.aload_n 0, 1) := by decide +kernel
theorem dX3_init_1 : decode cX3_init 1 = .ok (.invokespecial 1, 3) := by decide +kernel
theorem dX3_init_4 : decode cX3_init 4 = .ok (.return_, 1) := by decide +kernel
theorem dX3_number_0 : decode cX3_number 0 = .ok (.iconst 4, 1) := by decide +kernel
theorem dX3_number_1 : decode cX3_number 1 = .ok (.ireturn, 1) := by decide +kernel
theorem dX3_title_0 : decode cX3_title 0 = .ok (.ldc 7, 2) := by decide +kernel
theorem dX3_title_2 : decode cX3_title 2 = .ok (.areturn, 1) := by decide +kernel
theorem dX3_isUnder_0 : decode cX3_isUnder 0 = .ok (.iload_n 1, 1) := by decide +kernel
theorem dX3_isUnder_1 : decode cX3_isUnder 1 = .ok (.iconst 4, 1) := by decide +kernel
theorem dX3_isUnder_2 : decode cX3_isUnder 2 = .ok (.if_icmp .eq 11, 3) := by decide +kernel
theorem dX3_isUnder_5 : decode cX3_isUnder 5 = .ok (.aload_n 0, 1) := by decide +kernel
theorem dX3_isUnder_6 : decode cX3_isUnder 6 = .ok (.iload_n 1, 1) := by decide +kernel
theorem dX3_isUnder_7 : decode cX3_isUnder 7 = .ok (.invokespecial 9, 3) := by decide +kernel
theorem dX3_isUnder_10 : decode cX3_isUnder 10 = .ok (.ifCond .eq 7, 3) := by decide +kernel
theorem dX3_isUnder_13 : decode cX3_isUnder 13 = .ok (.iconst 1, 1) := by decide +kernel
theorem dX3_isUnder_14 : decode cX3_isUnder 14 = .ok (.goto 4, 3) := by decide +kernel
theorem dX3_isUnder_17 : decode cX3_isUnder 17 = .ok (.iconst 0, 1) := by decide +kernel
theorem dX3_isUnder_18 : decode cX3_isUnder 18 = .ok (.ireturn, 1) := by decide +kernel
theorem dX3_sees_0 : decode cX3_sees 0 = .ok (.aload_n 0, 1) := by decide +kernel
theorem dX3_sees_1 : decode cX3_sees 1 = .ok (.iload_n 1, 1) := by decide +kernel
theorem dX3_sees_2 : decode cX3_sees 2 = .ok (.iload_n 2, 1) := by decide +kernel
theorem dX3_sees_3 : decode cX3_sees 3 = .ok (.iload_n 3, 1) := by decide +kernel
theorem dX3_sees_4 : decode cX3_sees 4 = .ok (.iload 4, 2) := by decide +kernel
theorem dX3_sees_6 : decode cX3_sees 6 = .ok (.iconst 2, 1) := by decide +kernel
theorem dX3_sees_7 : decode cX3_sees 7 = .ok (.iadd, 1) := by decide +kernel
theorem dX3_sees_8 : decode cX3_sees 8 = .ok (.invokespecial 13, 3) := by decide +kernel
theorem dX3_sees_11 : decode cX3_sees 11 = .ok (.ireturn, 1) := by decide +kernel
theorem dX3_speed_0 : decode cX3_speed 0 = .ok (.aload_n 0, 1) := by decide +kernel
theorem dX3_speed_1 : decode cX3_speed 1 = .ok (.iload_n 1, 1) := by decide +kernel
theorem dX3_speed_2 : decode cX3_speed 2 = .ok (.iload_n 2, 1) := by decide +kernel
theorem dX3_speed_3 : decode cX3_speed 3 = .ok (.invokespecial 17, 3) := by decide +kernel
theorem dX3_speed_6 : decode cX3_speed 6 = .ok (.iconst 1, 1) := by decide +kernel
theorem dX3_speed_7 : decode cX3_speed 7 = .ok (.iadd, 1) := by decide +kernel
theorem dX3_speed_8 : decode cX3_speed 8 = .ok (.ireturn, 1) := by decide +kernel
theorem dX3_keepsOff_0 : decode cX3_keepsOff 0 = .ok (.iload_n 1, 1) := by decide +kernel
theorem dX3_keepsOff_1 : decode cX3_keepsOff 1 = .ok (.iconst 3, 1) := by decide +kernel
theorem dX3_keepsOff_2 : decode cX3_keepsOff 2 = .ok (.if_icmp .le 7, 3) := by decide +kernel
theorem dX3_keepsOff_5 : decode cX3_keepsOff 5 = .ok (.iconst 0, 1) := by decide +kernel
theorem dX3_keepsOff_6 : decode cX3_keepsOff 6 = .ok (.goto 8, 3) := by decide +kernel
theorem dX3_keepsOff_9 : decode cX3_keepsOff 9 = .ok (.aload_n 0, 1) := by decide +kernel
theorem dX3_keepsOff_10 : decode cX3_keepsOff 10 = .ok (.iload_n 1, 1) := by decide +kernel
theorem dX3_keepsOff_11 : decode cX3_keepsOff 11 = .ok (.invokespecial 21, 3) := by decide +kernel
theorem dX3_keepsOff_14 : decode cX3_keepsOff 14 = .ok (.ireturn, 1) := by decide +kernel
theorem dX3_stands_0 : decode cX3_stands 0 = .ok (.iload_n 3, 1) := by decide +kernel
theorem dX3_stands_1 : decode cX3_stands 1 = .ok (.iconst 5, 1) := by decide +kernel
theorem dX3_stands_2 : decode cX3_stands 2 = .ok (.if_icmp .ge 17, 3) := by decide +kernel
theorem dX3_stands_5 : decode cX3_stands 5 = .ok (.aload_n 0, 1) := by decide +kernel
theorem dX3_stands_6 : decode cX3_stands 6 = .ok (.iload_n 1, 1) := by decide +kernel
theorem dX3_stands_7 : decode cX3_stands 7 = .ok (.iload_n 2, 1) := by decide +kernel
theorem dX3_stands_8 : decode cX3_stands 8 = .ok (.iload_n 3, 1) := by decide +kernel
theorem dX3_stands_9 : decode cX3_stands 9 = .ok (.invokespecial 25, 3) := by decide +kernel
theorem dX3_stands_12 : decode cX3_stands 12 = .ok (.ifCond .eq 7, 3) := by decide +kernel
theorem dX3_stands_15 : decode cX3_stands 15 = .ok (.iconst 1, 1) := by decide +kernel
theorem dX3_stands_16 : decode cX3_stands 16 = .ok (.goto 4, 3) := by decide +kernel
theorem dX3_stands_19 : decode cX3_stands 19 = .ok (.iconst 0, 1) := by decide +kernel
theorem dX3_stands_20 : decode cX3_stands 20 = .ok (.ireturn, 1) := by decide +kernel
theorem dX4_init_0 : decode cX4_init 0 = .ok (.aload_n 0, 1) := by decide +kernel
theorem dX4_init_1 : decode cX4_init 1 = .ok (.invokespecial 3, 3) := by decide +kernel
theorem dX4_init_4 : decode cX4_init 4 = .ok (.aload_n 0, 1) := by decide +kernel
theorem dX4_init_5 : decode cX4_init 5 = .ok (.iconst 0, 1) := by decide +kernel
theorem dX4_init_6 : decode cX4_init 6 = .ok (.putfield 9, 3) := by decide +kernel
theorem dX4_init_9 : decode cX4_init 9 = .ok (.aload_n 0, 1) := by decide +kernel
theorem dX4_init_10 : decode cX4_init 10 = .ok (.bipush 10, 2) := by decide +kernel
theorem dX4_init_12 : decode cX4_init 12 = .ok (.putfield 15, 3) := by decide +kernel
theorem dX4_init_15 : decode cX4_init 15 = .ok (.aload_n 0, 1) := by decide +kernel
theorem dX4_init_16 : decode cX4_init 16 = .ok (.iconst 5, 1) := by decide +kernel
theorem dX4_init_17 : decode cX4_init 17 = .ok (.putfield 18, 3) := by decide +kernel
theorem dX4_init_20 : decode cX4_init 20 = .ok (.aload_n 0, 1) := by decide +kernel
theorem dX4_init_21 : decode cX4_init 21 = .ok (.sipush 4032, 3) := by decide +kernel
theorem dX4_init_24 : decode cX4_init 24 = .ok (.putfield 21, 3) := by decide +kernel
theorem dX4_init_27 : decode cX4_init 27 = .ok (.aload_n 0, 1) := by decide +kernel
theorem dX4_init_28 : decode cX4_init 28 = .ok (.iconst 4, 1) := by decide +kernel
theorem dX4_init_29 : decode cX4_init 29 = .ok (.putfield 24, 3) := by decide +kernel
theorem dX4_init_32 : decode cX4_init 32 = .ok (.aload_n 0, 1) := by decide +kernel
theorem dX4_init_33 : decode cX4_init 33 = .ok (.iconst 0, 1) := by decide +kernel
theorem dX4_init_34 : decode cX4_init 34 = .ok (.putfield 27, 3) := by decide +kernel
theorem dX4_init_37 : decode cX4_init 37 = .ok (.aload_n 0, 1) := by decide +kernel
theorem dX4_init_38 : decode cX4_init 38 = .ok (.bipush 6, 2) := by decide +kernel
theorem dX4_init_40 : decode cX4_init 40 = .ok (.anewarray 30, 3) := by decide +kernel
theorem dX4_init_43 : decode cX4_init 43 = .ok (.putfield 32, 3) := by decide +kernel
theorem dX4_init_46 : decode cX4_init 46 = .ok (.iconst 0, 1) := by decide +kernel
theorem dX4_init_47 : decode cX4_init 47 = .ok (.istore_n 2, 1) := by decide +kernel
theorem dX4_init_48 : decode cX4_init 48 = .ok (.iload_n 2, 1) := by decide +kernel
theorem dX4_init_49 : decode cX4_init 49 = .ok (.bipush 6, 2) := by decide +kernel
theorem dX4_init_51 : decode cX4_init 51 = .ok (.if_icmp .ge 23, 3) := by decide +kernel
theorem dX4_init_54 : decode cX4_init 54 = .ok (.aload_n 0, 1) := by decide +kernel
theorem dX4_init_55 : decode cX4_init 55 = .ok (.getfield 32, 3) := by decide +kernel
theorem dX4_init_58 : decode cX4_init 58 = .ok (.iload_n 2, 1) := by decide +kernel
theorem dX4_init_59 : decode cX4_init 59 = .ok (.new 30, 3) := by decide +kernel
theorem dX4_init_62 : decode cX4_init 62 = .ok (.dup, 1) := by decide +kernel
theorem dX4_init_63 : decode cX4_init 63 = .ok (.aload_n 1, 1) := by decide +kernel
theorem dX4_init_64 : decode cX4_init 64 = .ok (.invokespecial 36, 3) := by decide +kernel
theorem dX4_init_67 : decode cX4_init 67 = .ok (.aastore, 1) := by decide +kernel
theorem dX4_init_68 : decode cX4_init 68 = .ok (.iinc 2 1, 3) := by decide +kernel
theorem dX4_init_71 : decode cX4_init 71 = .ok (.goto (-23), 3) := by decide +kernel
theorem dX4_init_74 : decode cX4_init 74 = .ok (.return_, 1) := by decide +kernel
theorem dX4_become_0 : decode cX4_become 0 = .ok (.aload_n 0, 1) := by decide +kernel
theorem dX4_become_1 : decode cX4_become 1 = .ok (.aload_n 1, 1) := by decide +kernel
theorem dX4_become_2 : decode cX4_become 2 = .ok (.invokevirtual 39, 3) := by decide +kernel
theorem dX4_become_5 : decode cX4_become 5 = .ok (.iconst 0, 1) := by decide +kernel
theorem dX4_become_6 : decode cX4_become 6 = .ok (.istore_n 2, 1) := by decide +kernel
theorem dX4_become_7 : decode cX4_become 7 = .ok (.iload_n 2, 1) := by decide +kernel
theorem dX4_become_8 : decode cX4_become 8 = .ok (.aload_n 1, 1) := by decide +kernel
theorem dX4_become_9 : decode cX4_become 9 = .ok (.getfield 27, 3) := by decide +kernel
theorem dX4_become_12 : decode cX4_become 12 = .ok (.if_icmp .ge 30, 3) := by decide +kernel
theorem dX4_become_15 : decode cX4_become 15 = .ok (.iload_n 2, 1) := by decide +kernel
theorem dX4_become_16 : decode cX4_become 16 = .ok (.bipush 6, 2) := by decide +kernel
theorem dX4_become_18 : decode cX4_become 18 = .ok (.if_icmp .ge 24, 3) := by decide +kernel
theorem dX4_become_21 : decode cX4_become 21 = .ok (.aload_n 0, 1) := by decide +kernel
theorem dX4_become_22 : decode cX4_become 22 = .ok (.getfield 32, 3) := by decide +kernel
theorem dX4_become_25 : decode cX4_become 25 = .ok (.iload_n 2, 1) := by decide +kernel
theorem dX4_become_26 : decode cX4_become 26 = .ok (.aaload, 1) := by decide +kernel
theorem dX4_become_27 : decode cX4_become 27 = .ok (.aload_n 1, 1) := by decide +kernel
theorem dX4_become_28 : decode cX4_become 28 = .ok (.getfield 32, 3) := by decide +kernel
theorem dX4_become_31 : decode cX4_become 31 = .ok (.iload_n 2, 1) := by decide +kernel
theorem dX4_become_32 : decode cX4_become 32 = .ok (.aaload, 1) := by decide +kernel
theorem dX4_become_33 : decode cX4_become 33 = .ok (.invokevirtual 43, 3) := by decide +kernel
theorem dX4_become_36 : decode cX4_become 36 = .ok (.iinc 2 1, 3) := by decide +kernel
theorem dX4_become_39 : decode cX4_become 39 = .ok (.goto (-32), 3) := by decide +kernel
theorem dX4_become_42 : decode cX4_become 42 = .ok (.aload_n 0, 1) := by decide +kernel
theorem dX4_become_43 : decode cX4_become 43 = .ok (.aload_n 1, 1) := by decide +kernel
theorem dX4_become_44 : decode cX4_become 44 = .ok (.getfield 27, 3) := by decide +kernel
theorem dX4_become_47 : decode cX4_become 47 = .ok (.putfield 27, 3) := by decide +kernel
theorem dX4_become_50 : decode cX4_become 50 = .ok (.return_, 1) := by decide +kernel
theorem dX4_becomeWithOne_0 : decode cX4_becomeWithOne 0 = .ok (.aload_n 0, 1) := by decide +kernel
theorem dX4_becomeWithOne_1 : decode cX4_becomeWithOne 1 = .ok (.aload_n 1, 1) := by decide +kernel
theorem dX4_becomeWithOne_2 : decode cX4_becomeWithOne 2 = .ok (.invokevirtual 39, 3) := by decide +kernel
theorem dX4_becomeWithOne_5 : decode cX4_becomeWithOne 5 = .ok (.iload_n 2, 1) := by decide +kernel
theorem dX4_becomeWithOne_6 : decode cX4_becomeWithOne 6 = .ok (.ifCond .lt 31, 3) := by decide +kernel
theorem dX4_becomeWithOne_9 : decode cX4_becomeWithOne 9 = .ok (.iload_n 2, 1) := by decide +kernel
theorem dX4_becomeWithOne_10 : decode cX4_becomeWithOne 10 = .ok (.aload_n 1, 1) := by decide +kernel
theorem dX4_becomeWithOne_11 : decode cX4_becomeWithOne 11 = .ok (.getfield 27, 3) := by decide +kernel
theorem dX4_becomeWithOne_14 : decode cX4_becomeWithOne 14 = .ok (.if_icmp .ge 23, 3) := by decide +kernel
theorem dX4_becomeWithOne_17 : decode cX4_becomeWithOne 17 = .ok (.aload_n 0, 1) := by decide +kernel
theorem dX4_becomeWithOne_18 : decode cX4_becomeWithOne 18 = .ok (.getfield 32, 3) := by decide +kernel
theorem dX4_becomeWithOne_21 : decode cX4_becomeWithOne 21 = .ok (.iconst 0, 1) := by decide +kernel
theorem dX4_becomeWithOne_22 : decode cX4_becomeWithOne 22 = .ok (.aaload, 1) := by decide +kernel
theorem dX4_becomeWithOne_23 : decode cX4_becomeWithOne 23 = .ok (.aload_n 1, 1) := by decide +kernel
theorem dX4_becomeWithOne_24 : decode cX4_becomeWithOne 24 = .ok (.getfield 32, 3) := by decide +kernel
theorem dX4_becomeWithOne_27 : decode cX4_becomeWithOne 27 = .ok (.iload_n 2, 1) := by decide +kernel
theorem dX4_becomeWithOne_28 : decode cX4_becomeWithOne 28 = .ok (.aaload, 1) := by decide +kernel
theorem dX4_becomeWithOne_29 : decode cX4_becomeWithOne 29 = .ok (.invokevirtual 43, 3) := by decide +kernel
theorem dX4_becomeWithOne_32 : decode cX4_becomeWithOne 32 = .ok (.aload_n 0, 1) := by decide +kernel
theorem dX4_becomeWithOne_33 : decode cX4_becomeWithOne 33 = .ok (.iconst 1, 1) := by decide +kernel
theorem dX4_becomeWithOne_34 : decode cX4_becomeWithOne 34 = .ok (.putfield 27, 3) := by decide +kernel
theorem dX4_becomeWithOne_37 : decode cX4_becomeWithOne 37 = .ok (.return_, 1) := by decide +kernel
theorem dX4_becomeEmptied_0 : decode cX4_becomeEmptied 0 = .ok (.aload_n 0, 1) := by decide +kernel
theorem dX4_becomeEmptied_1 : decode cX4_becomeEmptied 1 = .ok (.aload_n 1, 1) := by decide +kernel
theorem dX4_becomeEmptied_2 : decode cX4_becomeEmptied 2 = .ok (.getfield 9, 3) := by decide +kernel
theorem dX4_becomeEmptied_5 : decode cX4_becomeEmptied 5 = .ok (.putfield 9, 3) := by decide +kernel
theorem dX4_becomeEmptied_8 : decode cX4_becomeEmptied 8 = .ok (.aload_n 0, 1) := by decide +kernel
theorem dX4_becomeEmptied_9 : decode cX4_becomeEmptied 9 = .ok (.aload_n 1, 1) := by decide +kernel
theorem dX4_becomeEmptied_10 : decode cX4_becomeEmptied 10 = .ok (.getfield 15, 3) := by decide +kernel
theorem dX4_becomeEmptied_13 : decode cX4_becomeEmptied 13 = .ok (.putfield 15, 3) := by decide +kernel
theorem dX4_becomeEmptied_16 : decode cX4_becomeEmptied 16 = .ok (.aload_n 0, 1) := by decide +kernel
theorem dX4_becomeEmptied_17 : decode cX4_becomeEmptied 17 = .ok (.aload_n 1, 1) := by decide +kernel
theorem dX4_becomeEmptied_18 : decode cX4_becomeEmptied 18 = .ok (.getfield 18, 3) := by decide +kernel
theorem dX4_becomeEmptied_21 : decode cX4_becomeEmptied 21 = .ok (.putfield 18, 3) := by decide +kernel
theorem dX4_becomeEmptied_24 : decode cX4_becomeEmptied 24 = .ok (.aload_n 0, 1) := by decide +kernel
theorem dX4_becomeEmptied_25 : decode cX4_becomeEmptied 25 = .ok (.aload_n 1, 1) := by decide +kernel
theorem dX4_becomeEmptied_26 : decode cX4_becomeEmptied 26 = .ok (.getfield 21, 3) := by decide +kernel
theorem dX4_becomeEmptied_29 : decode cX4_becomeEmptied 29 = .ok (.putfield 21, 3) := by decide +kernel
theorem dX4_becomeEmptied_32 : decode cX4_becomeEmptied 32 = .ok (.aload_n 0, 1) := by decide +kernel
theorem dX4_becomeEmptied_33 : decode cX4_becomeEmptied 33 = .ok (.aload_n 1, 1) := by decide +kernel
theorem dX4_becomeEmptied_34 : decode cX4_becomeEmptied 34 = .ok (.getfield 24, 3) := by decide +kernel
theorem dX4_becomeEmptied_37 : decode cX4_becomeEmptied 37 = .ok (.putfield 24, 3) := by decide +kernel
theorem dX4_becomeEmptied_40 : decode cX4_becomeEmptied 40 = .ok (.aload_n 0, 1) := by decide +kernel
theorem dX4_becomeEmptied_41 : decode cX4_becomeEmptied 41 = .ok (.iconst 0, 1) := by decide +kernel
theorem dX4_becomeEmptied_42 : decode cX4_becomeEmptied 42 = .ok (.putfield 27, 3) := by decide +kernel
theorem dX4_becomeEmptied_45 : decode cX4_becomeEmptied 45 = .ok (.return_, 1) := by decide +kernel
theorem dX4_isFull_0 : decode cX4_isFull 0 = .ok (.aload_n 0, 1) := by decide +kernel
theorem dX4_isFull_1 : decode cX4_isFull 1 = .ok (.getfield 27, 3) := by decide +kernel
theorem dX4_isFull_4 : decode cX4_isFull 4 = .ok (.bipush 6, 2) := by decide +kernel
theorem dX4_isFull_6 : decode cX4_isFull 6 = .ok (.if_icmp .lt 7, 3) := by decide +kernel
theorem dX4_isFull_9 : decode cX4_isFull 9 = .ok (.iconst 1, 1) := by decide +kernel
theorem dX4_isFull_10 : decode cX4_isFull 10 = .ok (.goto 4, 3) := by decide +kernel
theorem dX4_isFull_13 : decode cX4_isFull 13 = .ok (.iconst 0, 1) := by decide +kernel
theorem dX4_isFull_14 : decode cX4_isFull 14 = .ok (.ireturn, 1) := by decide +kernel
theorem dX4_launch_0 : decode cX4_launch 0 = .ok (.aload_n 0, 1) := by decide +kernel
theorem dX4_launch_1 : decode cX4_launch 1 = .ok (.invokevirtual 47, 3) := by decide +kernel
theorem dX4_launch_4 : decode cX4_launch 4 = .ok (.ifCond .ne 28, 3) := by decide +kernel
theorem dX4_launch_7 : decode cX4_launch 7 = .ok (.aload_n 0, 1) := by decide +kernel
theorem dX4_launch_8 : decode cX4_launch 8 = .ok (.getfield 32, 3) := by decide +kernel
theorem dX4_launch_11 : decode cX4_launch 11 = .ok (.aload_n 0, 1) := by decide +kernel
theorem dX4_launch_12 : decode cX4_launch 12 = .ok (.getfield 27, 3) := by decide +kernel
theorem dX4_launch_15 : decode cX4_launch 15 = .ok (.aaload, 1) := by decide +kernel
theorem dX4_launch_16 : decode cX4_launch 16 = .ok (.aload_n 1, 1) := by decide +kernel
theorem dX4_launch_17 : decode cX4_launch 17 = .ok (.iload_n 2, 1) := by decide +kernel
theorem dX4_launch_18 : decode cX4_launch 18 = .ok (.iload_n 3, 1) := by decide +kernel
theorem dX4_launch_19 : decode cX4_launch 19 = .ok (.invokevirtual 51, 3) := by decide +kernel
theorem dX4_launch_22 : decode cX4_launch 22 = .ok (.aload_n 0, 1) := by decide +kernel
theorem dX4_launch_23 : decode cX4_launch 23 = .ok (.dup, 1) := by decide +kernel
theorem dX4_launch_24 : decode cX4_launch 24 = .ok (.getfield 27, 3) := by decide +kernel
theorem dX4_launch_27 : decode cX4_launch 27 = .ok (.iconst 1, 1) := by decide +kernel
theorem dX4_launch_28 : decode cX4_launch 28 = .ok (.iadd, 1) := by decide +kernel
theorem dX4_launch_29 : decode cX4_launch 29 = .ok (.putfield 27, 3) := by decide +kernel
theorem dX4_launch_32 : decode cX4_launch 32 = .ok (.return_, 1) := by decide +kernel
theorem dX4_hourOfDay_0 : decode cX4_hourOfDay 0 = .ok (.aload_n 0, 1) := by decide +kernel
theorem dX4_hourOfDay_1 : decode cX4_hourOfDay 1 = .ok (.getfield 9, 3) := by decide +kernel
theorem dX4_hourOfDay_4 : decode cX4_hourOfDay 4 = .ok (.bipush 12, 2) := by decide +kernel
theorem dX4_hourOfDay_6 : decode cX4_hourOfDay 6 = .ok (.irem, 1) := by decide +kernel
theorem dX4_hourOfDay_7 : decode cX4_hourOfDay 7 = .ok (.ireturn, 1) := by decide +kernel
theorem dX4_isNight_0 : decode cX4_isNight 0 = .ok (.aload_n 0, 1) := by decide +kernel
theorem dX4_isNight_1 : decode cX4_isNight 1 = .ok (.invokevirtual 55, 3) := by decide +kernel
theorem dX4_isNight_4 : decode cX4_isNight 4 = .ok (.invokestatic 59, 3) := by decide +kernel
theorem dX4_isNight_7 : decode cX4_isNight 7 = .ok (.ireturn, 1) := by decide +kernel
theorem dX4_burns_0 : decode cX4_burns 0 = .ok (.aload_n 0, 1) := by decide +kernel
theorem dX4_burns_1 : decode cX4_burns 1 = .ok (.aload_n 0, 1) := by decide +kernel
theorem dX4_burns_2 : decode cX4_burns 2 = .ok (.invokevirtual 55, 3) := by decide +kernel
theorem dX4_burns_5 : decode cX4_burns 5 = .ok (.invokevirtual 63, 3) := by decide +kernel
theorem dX4_burns_8 : decode cX4_burns 8 = .ok (.ireturn, 1) := by decide +kernel
theorem dX4_isNightAt_0 : decode cX4_isNightAt 0 = .ok (.iload_n 0, 1) := by decide +kernel
theorem dX4_isNightAt_1 : decode cX4_isNightAt 1 = .ok (.bipush 6, 2) := by decide +kernel
theorem dX4_isNightAt_3 : decode cX4_isNightAt 3 = .ok (.if_icmp .lt 7, 3) := by decide +kernel
theorem dX4_isNightAt_6 : decode cX4_isNightAt 6 = .ok (.iconst 1, 1) := by decide +kernel
theorem dX4_isNightAt_7 : decode cX4_isNightAt 7 = .ok (.goto 4, 3) := by decide +kernel
theorem dX4_isNightAt_10 : decode cX4_isNightAt 10 = .ok (.iconst 0, 1) := by decide +kernel
theorem dX4_isNightAt_11 : decode cX4_isNightAt 11 = .ok (.ireturn, 1) := by decide +kernel
theorem dX4_burnsAt_0 : decode cX4_burnsAt 0 = .ok (.aload_n 0, 1) := by decide +kernel
theorem dX4_burnsAt_1 : decode cX4_burnsAt 1 = .ok (.getfield 21, 3) := by decide +kernel
theorem dX4_burnsAt_4 : decode cX4_burnsAt 4 = .ok (.iload_n 1, 1) := by decide +kernel
theorem dX4_burnsAt_5 : decode cX4_burnsAt 5 = .ok (.ishr, 1) := by decide +kernel
theorem dX4_burnsAt_6 : decode cX4_burnsAt 6 = .ok (.iconst 1, 1) := by decide +kernel
theorem dX4_burnsAt_7 : decode cX4_burnsAt 7 = .ok (.iand, 1) := by decide +kernel
theorem dX4_burnsAt_8 : decode cX4_burnsAt 8 = .ok (.iconst 1, 1) := by decide +kernel
theorem dX4_burnsAt_9 : decode cX4_burnsAt 9 = .ok (.if_icmp .ne 7, 3) := by decide +kernel
theorem dX4_burnsAt_12 : decode cX4_burnsAt 12 = .ok (.iconst 1, 1) := by decide +kernel
theorem dX4_burnsAt_13 : decode cX4_burnsAt 13 = .ok (.goto 4, 3) := by decide +kernel
theorem dX4_burnsAt_16 : decode cX4_burnsAt 16 = .ok (.iconst 0, 1) := by decide +kernel
theorem dX4_burnsAt_17 : decode cX4_burnsAt 17 = .ok (.ireturn, 1) := by decide +kernel
theorem dX4_towerPlace_0 : decode cX4_towerPlace 0 = .ok (.bipush 10, 2) := by decide +kernel
theorem dX4_towerPlace_2 : decode cX4_towerPlace 2 = .ok (.aload_n 0, 1) := by decide +kernel
theorem dX4_towerPlace_3 : decode cX4_towerPlace 3 = .ok (.getfield 15, 3) := by decide +kernel
theorem dX4_towerPlace_6 : decode cX4_towerPlace 6 = .ok (.imul, 1) := by decide +kernel
theorem dX4_towerPlace_7 : decode cX4_towerPlace 7 = .ok (.aload_n 0, 1) := by decide +kernel
theorem dX4_towerPlace_8 : decode cX4_towerPlace 8 = .ok (.getfield 18, 3) := by decide +kernel
theorem dX4_towerPlace_11 : decode cX4_towerPlace 11 = .ok (.iadd, 1) := by decide +kernel
theorem dX4_towerPlace_12 : decode cX4_towerPlace 12 = .ok (.ireturn, 1) := by decide +kernel
theorem dX4_distanceOf_0 : decode cX4_distanceOf 0 = .ok (.aload_n 1, 1) := by decide +kernel
theorem dX4_distanceOf_1 : decode cX4_distanceOf 1 = .ok (.getfield 66, 3) := by decide +kernel
theorem dX4_distanceOf_4 : decode cX4_distanceOf 4 = .ok (.aload_n 0, 1) := by decide +kernel
theorem dX4_distanceOf_5 : decode cX4_distanceOf 5 = .ok (.getfield 15, 3) := by decide +kernel
theorem dX4_distanceOf_8 : decode cX4_distanceOf 8 = .ok (.isub, 1) := by decide +kernel
theorem dX4_distanceOf_9 : decode cX4_distanceOf 9 = .ok (.invokestatic 69, 3) := by decide +kernel
theorem dX4_distanceOf_12 : decode cX4_distanceOf 12 = .ok (.aload_n 1, 1) := by decide +kernel
theorem dX4_distanceOf_13 : decode cX4_distanceOf 13 = .ok (.getfield 75, 3) := by decide +kernel
theorem dX4_distanceOf_16 : decode cX4_distanceOf 16 = .ok (.aload_n 0, 1) := by decide +kernel
theorem dX4_distanceOf_17 : decode cX4_distanceOf 17 = .ok (.getfield 18, 3) := by decide +kernel
theorem dX4_distanceOf_20 : decode cX4_distanceOf 20 = .ok (.isub, 1) := by decide +kernel
theorem dX4_distanceOf_21 : decode cX4_distanceOf 21 = .ok (.invokestatic 69, 3) := by decide +kernel
theorem dX4_distanceOf_24 : decode cX4_distanceOf 24 = .ok (.invokestatic 78, 3) := by decide +kernel
theorem dX4_distanceOf_27 : decode cX4_distanceOf 27 = .ok (.ireturn, 1) := by decide +kernel
theorem dX4_bearing_0 : decode cX4_bearing 0 = .ok (.aload_n 0, 1) := by decide +kernel
theorem dX4_bearing_1 : decode cX4_bearing 1 = .ok (.aload_n 1, 1) := by decide +kernel
theorem dX4_bearing_2 : decode cX4_bearing 2 = .ok (.invokevirtual 82, 3) := by decide +kernel
theorem dX4_bearing_5 : decode cX4_bearing 5 = .ok (.istore_n 3, 1) := by decide +kernel
theorem dX4_bearing_6 : decode cX4_bearing 6 = .ok (.aload_n 0, 1) := by decide +kernel
theorem dX4_bearing_7 : decode cX4_bearing 7 = .ok (.invokevirtual 86, 3) := by decide +kernel
theorem dX4_bearing_10 : decode cX4_bearing 10 = .ok (.istore 4, 2) := by decide +kernel
theorem dX4_bearing_12 : decode cX4_bearing 12 = .ok (.iload_n 2, 1) := by decide +kernel
theorem dX4_bearing_13 : decode cX4_bearing 13 = .ok (.tableswitch 81 7 10 #[31, 33, 55, 69], 31) := by decide +kernel
theorem dX4_bearing_44 : decode cX4_bearing 44 = .ok (.iload_n 3, 1) := by decide +kernel
theorem dX4_bearing_45 : decode cX4_bearing 45 = .ok (.ireturn, 1) := by decide +kernel
theorem dX4_bearing_46 : decode cX4_bearing 46 = .ok (.aload_n 1, 1) := by decide +kernel
theorem dX4_bearing_47 : decode cX4_bearing 47 = .ok (.getfield 89, 3) := by decide +kernel
theorem dX4_bearing_50 : decode cX4_bearing 50 = .ok (.iload_n 3, 1) := by decide +kernel
theorem dX4_bearing_51 : decode cX4_bearing 51 = .ok (.iload 4, 2) := by decide +kernel
theorem dX4_bearing_53 : decode cX4_bearing 53 = .ok (.aload_n 0, 1) := by decide +kernel
theorem dX4_bearing_54 : decode cX4_bearing 54 = .ok (.invokevirtual 93, 3) := by decide +kernel
theorem dX4_bearing_57 : decode cX4_bearing 57 = .ok (.aload_n 0, 1) := by decide +kernel
theorem dX4_bearing_58 : decode cX4_bearing 58 = .ok (.getfield 24, 3) := by decide +kernel
theorem dX4_bearing_61 : decode cX4_bearing 61 = .ok (.invokevirtual 96, 3) := by decide +kernel
theorem dX4_bearing_64 : decode cX4_bearing 64 = .ok (.invokestatic 102, 3) := by decide +kernel
theorem dX4_bearing_67 : decode cX4_bearing 67 = .ok (.ireturn, 1) := by decide +kernel
theorem dX4_bearing_68 : decode cX4_bearing 68 = .ok (.aload_n 1, 1) := by decide +kernel
theorem dX4_bearing_69 : decode cX4_bearing 69 = .ok (.getfield 89, 3) := by decide +kernel
theorem dX4_bearing_72 : decode cX4_bearing 72 = .ok (.aload_n 0, 1) := by decide +kernel
theorem dX4_bearing_73 : decode cX4_bearing 73 = .ok (.invokevirtual 55, 3) := by decide +kernel
theorem dX4_bearing_76 : decode cX4_bearing 76 = .ok (.iload 4, 2) := by decide +kernel
theorem dX4_bearing_78 : decode cX4_bearing 78 = .ok (.invokevirtual 106, 3) := by decide +kernel
theorem dX4_bearing_81 : decode cX4_bearing 81 = .ok (.ireturn, 1) := by decide +kernel
theorem dX4_bearing_82 : decode cX4_bearing 82 = .ok (.bipush 100, 2) := by decide +kernel
theorem dX4_bearing_84 : decode cX4_bearing 84 = .ok (.aload_n 1, 1) := by decide +kernel
theorem dX4_bearing_85 : decode cX4_bearing 85 = .ok (.getfield 89, 3) := by decide +kernel
theorem dX4_bearing_88 : decode cX4_bearing 88 = .ok (.iload_n 3, 1) := by decide +kernel
theorem dX4_bearing_89 : decode cX4_bearing 89 = .ok (.invokevirtual 110, 3) := by decide +kernel
theorem dX4_bearing_92 : decode cX4_bearing 92 = .ok (.iadd, 1) := by decide +kernel
theorem dX4_bearing_93 : decode cX4_bearing 93 = .ok (.ireturn, 1) := by decide +kernel
theorem dX4_bearing_94 : decode cX4_bearing 94 = .ok (.aload_n 1, 1) := by decide +kernel
theorem dX4_bearing_95 : decode cX4_bearing 95 = .ok (.getfield 89, 3) := by decide +kernel
theorem dX4_bearing_98 : decode cX4_bearing 98 = .ok (.iload_n 3, 1) := by decide +kernel
theorem dX4_bearing_99 : decode cX4_bearing 99 = .ok (.iload 4, 2) := by decide +kernel
theorem dX4_bearing_101 : decode cX4_bearing 101 = .ok (.aload_n 1, 1) := by decide +kernel
theorem dX4_bearing_102 : decode cX4_bearing 102 = .ok (.getfield 113, 3) := by decide +kernel
theorem dX4_bearing_105 : decode cX4_bearing 105 = .ok (.invokevirtual 116, 3) := by decide +kernel
theorem dX4_bearing_108 : decode cX4_bearing 108 = .ok (.invokestatic 102, 3) := by decide +kernel
theorem dX4_bearing_111 : decode cX4_bearing 111 = .ok (.ireturn, 1) := by decide +kernel
theorem dX4_pass_0 : decode cX4_pass 0 = .ok (.iconst 0, 1) := by decide +kernel
theorem dX4_pass_1 : decode cX4_pass 1 = .ok (.istore_n 2, 1) := by decide +kernel
theorem dX4_pass_2 : decode cX4_pass 2 = .ok (.iload_n 2, 1) := by decide +kernel
theorem dX4_pass_3 : decode cX4_pass 3 = .ok (.aload_n 0, 1) := by decide +kernel
theorem dX4_pass_4 : decode cX4_pass 4 = .ok (.getfield 27, 3) := by decide +kernel
theorem dX4_pass_7 : decode cX4_pass 7 = .ok (.if_icmp .ge 59, 3) := by decide +kernel
theorem dX4_pass_10 : decode cX4_pass 10 = .ok (.iload_n 2, 1) := by decide +kernel
theorem dX4_pass_11 : decode cX4_pass 11 = .ok (.bipush 6, 2) := by decide +kernel
theorem dX4_pass_13 : decode cX4_pass 13 = .ok (.if_icmp .ge 53, 3) := by decide +kernel
theorem dX4_pass_16 : decode cX4_pass 16 = .ok (.aload_n 0, 1) := by decide +kernel
theorem dX4_pass_17 : decode cX4_pass 17 = .ok (.getfield 32, 3) := by decide +kernel
theorem dX4_pass_20 : decode cX4_pass 20 = .ok (.iload_n 2, 1) := by decide +kernel
theorem dX4_pass_21 : decode cX4_pass 21 = .ok (.aaload, 1) := by decide +kernel
theorem dX4_pass_22 : decode cX4_pass 22 = .ok (.astore_n 3, 1) := by decide +kernel
theorem dX4_pass_23 : decode cX4_pass 23 = .ok (.iconst 0, 1) := by decide +kernel
theorem dX4_pass_24 : decode cX4_pass 24 = .ok (.istore 4, 2) := by decide +kernel
theorem dX4_pass_26 : decode cX4_pass 26 = .ok (.iload 4, 2) := by decide +kernel
theorem dX4_pass_28 : decode cX4_pass 28 = .ok (.iload_n 1, 1) := by decide +kernel
theorem dX4_pass_29 : decode cX4_pass 29 = .ok (.if_icmp .ge 31, 3) := by decide +kernel
theorem dX4_pass_32 : decode cX4_pass 32 = .ok (.aload_n 3, 1) := by decide +kernel
theorem dX4_pass_33 : decode cX4_pass 33 = .ok (.invokevirtual 120, 3) := by decide +kernel
theorem dX4_pass_36 : decode cX4_pass 36 = .ok (.ifCond .eq 24, 3) := by decide +kernel
theorem dX4_pass_39 : decode cX4_pass 39 = .ok (.aload_n 0, 1) := by decide +kernel
theorem dX4_pass_40 : decode cX4_pass 40 = .ok (.aload_n 3, 1) := by decide +kernel
theorem dX4_pass_41 : decode cX4_pass 41 = .ok (.aload_n 0, 1) := by decide +kernel
theorem dX4_pass_42 : decode cX4_pass 42 = .ok (.getfield 9, 3) := by decide +kernel
theorem dX4_pass_45 : decode cX4_pass 45 = .ok (.iload 4, 2) := by decide +kernel
theorem dX4_pass_47 : decode cX4_pass 47 = .ok (.iadd, 1) := by decide +kernel
theorem dX4_pass_48 : decode cX4_pass 48 = .ok (.bipush 12, 2) := by decide +kernel
theorem dX4_pass_50 : decode cX4_pass 50 = .ok (.irem, 1) := by decide +kernel
theorem dX4_pass_51 : decode cX4_pass 51 = .ok (.invokevirtual 123, 3) := by decide +kernel
theorem dX4_pass_54 : decode cX4_pass 54 = .ok (.iinc 4 1, 3) := by decide +kernel
theorem dX4_pass_57 : decode cX4_pass 57 = .ok (.goto (-31), 3) := by decide +kernel
theorem dX4_pass_60 : decode cX4_pass 60 = .ok (.iinc 2 1, 3) := by decide +kernel
theorem dX4_pass_63 : decode cX4_pass 63 = .ok (.goto (-61), 3) := by decide +kernel
theorem dX4_pass_66 : decode cX4_pass 66 = .ok (.aload_n 0, 1) := by decide +kernel
theorem dX4_pass_67 : decode cX4_pass 67 = .ok (.dup, 1) := by decide +kernel
theorem dX4_pass_68 : decode cX4_pass 68 = .ok (.getfield 9, 3) := by decide +kernel
theorem dX4_pass_71 : decode cX4_pass 71 = .ok (.iload_n 1, 1) := by decide +kernel
theorem dX4_pass_72 : decode cX4_pass 72 = .ok (.iadd, 1) := by decide +kernel
theorem dX4_pass_73 : decode cX4_pass 73 = .ok (.putfield 9, 3) := by decide +kernel
theorem dX4_pass_76 : decode cX4_pass 76 = .ok (.return_, 1) := by decide +kernel
theorem dX4_passHour_0 : decode cX4_passHour 0 = .ok (.aload_n 1, 1) := by decide +kernel
theorem dX4_passHour_1 : decode cX4_passHour 1 = .ok (.getfield 89, 3) := by decide +kernel
theorem dX4_passHour_4 : decode cX4_passHour 4 = .ok (.astore_n 3, 1) := by decide +kernel
theorem dX4_passHour_5 : decode cX4_passHour 5 = .ok (.aload_n 0, 1) := by decide +kernel
theorem dX4_passHour_6 : decode cX4_passHour 6 = .ok (.aload_n 1, 1) := by decide +kernel
theorem dX4_passHour_7 : decode cX4_passHour 7 = .ok (.invokevirtual 82, 3) := by decide +kernel
theorem dX4_passHour_10 : decode cX4_passHour 10 = .ok (.istore 4, 2) := by decide +kernel
theorem dX4_passHour_12 : decode cX4_passHour 12 = .ok (.iload_n 2, 1) := by decide +kernel
theorem dX4_passHour_13 : decode cX4_passHour 13 = .ok (.invokestatic 59, 3) := by decide +kernel
theorem dX4_passHour_16 : decode cX4_passHour 16 = .ok (.istore 5, 2) := by decide +kernel
theorem dX4_passHour_18 : decode cX4_passHour 18 = .ok (.aload_n 0, 1) := by decide +kernel
theorem dX4_passHour_19 : decode cX4_passHour 19 = .ok (.getfield 15, 3) := by decide +kernel
theorem dX4_passHour_22 : decode cX4_passHour 22 = .ok (.aload_n 1, 1) := by decide +kernel
theorem dX4_passHour_23 : decode cX4_passHour 23 = .ok (.getfield 66, 3) := by decide +kernel
theorem dX4_passHour_26 : decode cX4_passHour 26 = .ok (.if_icmp .lt 54, 3) := by decide +kernel
theorem dX4_passHour_29 : decode cX4_passHour 29 = .ok (.aload_n 3, 1) := by decide +kernel
theorem dX4_passHour_30 : decode cX4_passHour 30 = .ok (.iload 4, 2) := by decide +kernel
theorem dX4_passHour_32 : decode cX4_passHour 32 = .ok (.iload 5, 2) := by decide +kernel
theorem dX4_passHour_34 : decode cX4_passHour 34 = .ok (.aload_n 0, 1) := by decide +kernel
theorem dX4_passHour_35 : decode cX4_passHour 35 = .ok (.iload_n 2, 1) := by decide +kernel
theorem dX4_passHour_36 : decode cX4_passHour 36 = .ok (.invokevirtual 63, 3) := by decide +kernel
theorem dX4_passHour_39 : decode cX4_passHour 39 = .ok (.aload_n 0, 1) := by decide +kernel
theorem dX4_passHour_40 : decode cX4_passHour 40 = .ok (.getfield 24, 3) := by decide +kernel
theorem dX4_passHour_43 : decode cX4_passHour 43 = .ok (.invokevirtual 96, 3) := by decide +kernel
theorem dX4_passHour_46 : decode cX4_passHour 46 = .ok (.ifCond .eq 34, 3) := by decide +kernel
theorem dX4_passHour_49 : decode cX4_passHour 49 = .ok (.aload_n 3, 1) := by decide +kernel
theorem dX4_passHour_50 : decode cX4_passHour 50 = .ok (.iload 4, 2) := by decide +kernel
theorem dX4_passHour_52 : decode cX4_passHour 52 = .ok (.iload 5, 2) := by decide +kernel
theorem dX4_passHour_54 : decode cX4_passHour 54 = .ok (.aload_n 1, 1) := by decide +kernel
theorem dX4_passHour_55 : decode cX4_passHour 55 = .ok (.getfield 113, 3) := by decide +kernel
theorem dX4_passHour_58 : decode cX4_passHour 58 = .ok (.invokevirtual 116, 3) := by decide +kernel
theorem dX4_passHour_61 : decode cX4_passHour 61 = .ok (.ifCond .eq 8, 3) := by decide +kernel
theorem dX4_passHour_64 : decode cX4_passHour 64 = .ok (.aload_n 1, 1) := by decide +kernel
theorem dX4_passHour_65 : decode cX4_passHour 65 = .ok (.invokevirtual 127, 3) := by decide +kernel
theorem dX4_passHour_68 : decode cX4_passHour 68 = .ok (.return_, 1) := by decide +kernel
theorem dX4_passHour_69 : decode cX4_passHour 69 = .ok (.aload_n 0, 1) := by decide +kernel
theorem dX4_passHour_70 : decode cX4_passHour 70 = .ok (.aload_n 1, 1) := by decide +kernel
theorem dX4_passHour_71 : decode cX4_passHour 71 = .ok (.aload_n 3, 1) := by decide +kernel
theorem dX4_passHour_72 : decode cX4_passHour 72 = .ok (.iload 4, 2) := by decide +kernel
theorem dX4_passHour_74 : decode cX4_passHour 74 = .ok (.invokevirtual 110, 3) := by decide +kernel
theorem dX4_passHour_77 : decode cX4_passHour 77 = .ok (.invokevirtual 130, 3) := by decide +kernel
theorem dX4_passHour_80 : decode cX4_passHour 80 = .ok (.aload_n 0, 1) := by decide +kernel
theorem dX4_passHour_81 : decode cX4_passHour 81 = .ok (.aload_n 1, 1) := by decide +kernel
theorem dX4_passHour_82 : decode cX4_passHour 82 = .ok (.aload_n 3, 1) := by decide +kernel
theorem dX4_passHour_83 : decode cX4_passHour 83 = .ok (.iload_n 2, 1) := by decide +kernel
theorem dX4_passHour_84 : decode cX4_passHour 84 = .ok (.iload 5, 2) := by decide +kernel
theorem dX4_passHour_86 : decode cX4_passHour 86 = .ok (.invokevirtual 106, 3) := by decide +kernel
theorem dX4_passHour_89 : decode cX4_passHour 89 = .ok (.invokevirtual 133, 3) := by decide +kernel
theorem dX4_passHour_92 : decode cX4_passHour 92 = .ok (.return_, 1) := by decide +kernel
theorem dX4_turnAway_0 : decode cX4_turnAway 0 = .ok (.aload_n 1, 1) := by decide +kernel
theorem dX4_turnAway_1 : decode cX4_turnAway 1 = .ok (.getfield 75, 3) := by decide +kernel
theorem dX4_turnAway_4 : decode cX4_turnAway 4 = .ok (.istore_n 3, 1) := by decide +kernel
theorem dX4_turnAway_5 : decode cX4_turnAway 5 = .ok (.iload_n 3, 1) := by decide +kernel
theorem dX4_turnAway_6 : decode cX4_turnAway 6 = .ok (.aload_n 0, 1) := by decide +kernel
theorem dX4_turnAway_7 : decode cX4_turnAway 7 = .ok (.getfield 18, 3) := by decide +kernel
theorem dX4_turnAway_10 : decode cX4_turnAway 10 = .ok (.if_icmp .gt 24, 3) := by decide +kernel
theorem dX4_turnAway_13 : decode cX4_turnAway 13 = .ok (.aload_n 1, 1) := by decide +kernel
theorem dX4_turnAway_14 : decode cX4_turnAway 14 = .ok (.iconst 0, 1) := by decide +kernel
theorem dX4_turnAway_15 : decode cX4_turnAway 15 = .ok (.aload_n 0, 1) := by decide +kernel
theorem dX4_turnAway_16 : decode cX4_turnAway 16 = .ok (.getfield 18, 3) := by decide +kernel
theorem dX4_turnAway_19 : decode cX4_turnAway 19 = .ok (.iload_n 3, 1) := by decide +kernel
theorem dX4_turnAway_20 : decode cX4_turnAway 20 = .ok (.iload_n 2, 1) := by decide +kernel
theorem dX4_turnAway_21 : decode cX4_turnAway 21 = .ok (.isub, 1) := by decide +kernel
theorem dX4_turnAway_22 : decode cX4_turnAway 22 = .ok (.invokestatic 136, 3) := by decide +kernel
theorem dX4_turnAway_25 : decode cX4_turnAway 25 = .ok (.invokestatic 78, 3) := by decide +kernel
theorem dX4_turnAway_28 : decode cX4_turnAway 28 = .ok (.putfield 75, 3) := by decide +kernel
theorem dX4_turnAway_31 : decode cX4_turnAway 31 = .ok (.goto 22, 3) := by decide +kernel
theorem dX4_turnAway_34 : decode cX4_turnAway 34 = .ok (.aload_n 1, 1) := by decide +kernel
theorem dX4_turnAway_35 : decode cX4_turnAway 35 = .ok (.bipush 9, 2) := by decide +kernel
theorem dX4_turnAway_37 : decode cX4_turnAway 37 = .ok (.aload_n 0, 1) := by decide +kernel
theorem dX4_turnAway_38 : decode cX4_turnAway 38 = .ok (.getfield 18, 3) := by decide +kernel
theorem dX4_turnAway_41 : decode cX4_turnAway 41 = .ok (.iload_n 3, 1) := by decide +kernel
theorem dX4_turnAway_42 : decode cX4_turnAway 42 = .ok (.iload_n 2, 1) := by decide +kernel
theorem dX4_turnAway_43 : decode cX4_turnAway 43 = .ok (.iadd, 1) := by decide +kernel
theorem dX4_turnAway_44 : decode cX4_turnAway 44 = .ok (.invokestatic 78, 3) := by decide +kernel
theorem dX4_turnAway_47 : decode cX4_turnAway 47 = .ok (.invokestatic 136, 3) := by decide +kernel
theorem dX4_turnAway_50 : decode cX4_turnAway 50 = .ok (.putfield 75, 3) := by decide +kernel
theorem dX4_turnAway_53 : decode cX4_turnAway 53 = .ok (.aload_n 1, 1) := by decide +kernel
theorem dX4_turnAway_54 : decode cX4_turnAway 54 = .ok (.getfield 75, 3) := by decide +kernel
theorem dX4_turnAway_57 : decode cX4_turnAway 57 = .ok (.iload_n 3, 1) := by decide +kernel
theorem dX4_turnAway_58 : decode cX4_turnAway 58 = .ok (.if_icmp .eq 7, 3) := by decide +kernel
theorem dX4_turnAway_61 : decode cX4_turnAway 61 = .ok (.aload_n 1, 1) := by decide +kernel
theorem dX4_turnAway_62 : decode cX4_turnAway 62 = .ok (.invokevirtual 127, 3) := by decide +kernel
theorem dX4_turnAway_65 : decode cX4_turnAway 65 = .ok (.return_, 1) := by decide +kernel
theorem dX4_advance_0 : decode cX4_advance 0 = .ok (.iconst 0, 1) := by decide +kernel
theorem dX4_advance_1 : decode cX4_advance 1 = .ok (.istore_n 3, 1) := by decide +kernel
theorem dX4_advance_2 : decode cX4_advance 2 = .ok (.iload_n 3, 1) := by decide +kernel
theorem dX4_advance_3 : decode cX4_advance 3 = .ok (.iload_n 2, 1) := by decide +kernel
theorem dX4_advance_4 : decode cX4_advance 4 = .ok (.if_icmp .ge 77, 3) := by decide +kernel
theorem dX4_advance_7 : decode cX4_advance 7 = .ok (.aload_n 1, 1) := by decide +kernel
theorem dX4_advance_8 : decode cX4_advance 8 = .ok (.invokevirtual 120, 3) := by decide +kernel
theorem dX4_advance_11 : decode cX4_advance 11 = .ok (.ifCond .eq 70, 3) := by decide +kernel
theorem dX4_advance_14 : decode cX4_advance 14 = .ok (.aload_n 1, 1) := by decide +kernel
theorem dX4_advance_15 : decode cX4_advance 15 = .ok (.dup, 1) := by decide +kernel
theorem dX4_advance_16 : decode cX4_advance 16 = .ok (.getfield 66, 3) := by decide +kernel
theorem dX4_advance_19 : decode cX4_advance 19 = .ok (.iconst 1, 1) := by decide +kernel
theorem dX4_advance_20 : decode cX4_advance 20 = .ok (.iadd, 1) := by decide +kernel
theorem dX4_advance_21 : decode cX4_advance 21 = .ok (.putfield 66, 3) := by decide +kernel
theorem dX4_advance_24 : decode cX4_advance 24 = .ok (.aload_n 1, 1) := by decide +kernel
theorem dX4_advance_25 : decode cX4_advance 25 = .ok (.getfield 66, 3) := by decide +kernel
theorem dX4_advance_28 : decode cX4_advance 28 = .ok (.bipush 19, 2) := by decide +kernel
theorem dX4_advance_30 : decode cX4_advance 30 = .ok (.if_icmp .le 11, 3) := by decide +kernel
theorem dX4_advance_33 : decode cX4_advance 33 = .ok (.aload_n 1, 1) := by decide +kernel
theorem dX4_advance_34 : decode cX4_advance 34 = .ok (.iconst 1, 1) := by decide +kernel
theorem dX4_advance_35 : decode cX4_advance 35 = .ok (.putfield 139, 3) := by decide +kernel
theorem dX4_advance_38 : decode cX4_advance 38 = .ok (.goto 37, 3) := by decide +kernel
theorem dX4_advance_41 : decode cX4_advance 41 = .ok (.aload_n 0, 1) := by decide +kernel
theorem dX4_advance_42 : decode cX4_advance 42 = .ok (.aload_n 1, 1) := by decide +kernel
theorem dX4_advance_43 : decode cX4_advance 43 = .ok (.invokevirtual 82, 3) := by decide +kernel
theorem dX4_advance_46 : decode cX4_advance 46 = .ok (.istore 4, 2) := by decide +kernel
theorem dX4_advance_48 : decode cX4_advance 48 = .ok (.aload_n 1, 1) := by decide +kernel
theorem dX4_advance_49 : decode cX4_advance 49 = .ok (.aload_n 1, 1) := by decide +kernel
theorem dX4_advance_50 : decode cX4_advance 50 = .ok (.getfield 143, 3) := by decide +kernel
theorem dX4_advance_53 : decode cX4_advance 53 = .ok (.iload 4, 2) := by decide +kernel
theorem dX4_advance_55 : decode cX4_advance 55 = .ok (.invokestatic 136, 3) := by decide +kernel
theorem dX4_advance_58 : decode cX4_advance 58 = .ok (.putfield 143, 3) := by decide +kernel
theorem dX4_advance_61 : decode cX4_advance 61 = .ok (.aload_n 1, 1) := by decide +kernel
theorem dX4_advance_62 : decode cX4_advance 62 = .ok (.iload 4, 2) := by decide +kernel
theorem dX4_advance_64 : decode cX4_advance 64 = .ok (.ifCond .ne 7, 3) := by decide +kernel
theorem dX4_advance_67 : decode cX4_advance 67 = .ok (.iconst 1, 1) := by decide +kernel
theorem dX4_advance_68 : decode cX4_advance 68 = .ok (.goto 4, 3) := by decide +kernel
theorem dX4_advance_71 : decode cX4_advance 71 = .ok (.iconst 0, 1) := by decide +kernel
theorem dX4_advance_72 : decode cX4_advance 72 = .ok (.putfield 146, 3) := by decide +kernel
theorem dX4_advance_75 : decode cX4_advance 75 = .ok (.iinc 3 1, 3) := by decide +kernel
theorem dX4_advance_78 : decode cX4_advance 78 = .ok (.goto (-76), 3) := by decide +kernel
theorem dX4_advance_81 : decode cX4_advance 81 = .ok (.return_, 1) := by decide +kernel
theorem dX4_lostOnes_0 : decode cX4_lostOnes 0 = .ok (.iconst 0, 1) := by decide +kernel
theorem dX4_lostOnes_1 : decode cX4_lostOnes 1 = .ok (.istore_n 1, 1) := by decide +kernel
theorem dX4_lostOnes_2 : decode cX4_lostOnes 2 = .ok (.iconst 0, 1) := by decide +kernel
theorem dX4_lostOnes_3 : decode cX4_lostOnes 3 = .ok (.istore_n 2, 1) := by decide +kernel
theorem dX4_lostOnes_4 : decode cX4_lostOnes 4 = .ok (.iload_n 2, 1) := by decide +kernel
theorem dX4_lostOnes_5 : decode cX4_lostOnes 5 = .ok (.aload_n 0, 1) := by decide +kernel
theorem dX4_lostOnes_6 : decode cX4_lostOnes 6 = .ok (.getfield 27, 3) := by decide +kernel
theorem dX4_lostOnes_9 : decode cX4_lostOnes 9 = .ok (.if_icmp .ge 32, 3) := by decide +kernel
theorem dX4_lostOnes_12 : decode cX4_lostOnes 12 = .ok (.iload_n 2, 1) := by decide +kernel
theorem dX4_lostOnes_13 : decode cX4_lostOnes 13 = .ok (.bipush 6, 2) := by decide +kernel
theorem dX4_lostOnes_15 : decode cX4_lostOnes 15 = .ok (.if_icmp .ge 26, 3) := by decide +kernel
theorem dX4_lostOnes_18 : decode cX4_lostOnes 18 = .ok (.iload_n 1, 1) := by decide +kernel
theorem dX4_lostOnes_19 : decode cX4_lostOnes 19 = .ok (.aload_n 0, 1) := by decide +kernel
theorem dX4_lostOnes_20 : decode cX4_lostOnes 20 = .ok (.getfield 32, 3) := by decide +kernel
theorem dX4_lostOnes_23 : decode cX4_lostOnes 23 = .ok (.iload_n 2, 1) := by decide +kernel
theorem dX4_lostOnes_24 : decode cX4_lostOnes 24 = .ok (.aaload, 1) := by decide +kernel
theorem dX4_lostOnes_25 : decode cX4_lostOnes 25 = .ok (.getfield 146, 3) := by decide +kernel
theorem dX4_lostOnes_28 : decode cX4_lostOnes 28 = .ok (.invokestatic 102, 3) := by decide +kernel
theorem dX4_lostOnes_31 : decode cX4_lostOnes 31 = .ok (.iload_n 2, 1) := by decide +kernel
theorem dX4_lostOnes_32 : decode cX4_lostOnes 32 = .ok (.ishl, 1) := by decide +kernel
theorem dX4_lostOnes_33 : decode cX4_lostOnes 33 = .ok (.ior, 1) := by decide +kernel
theorem dX4_lostOnes_34 : decode cX4_lostOnes 34 = .ok (.istore_n 1, 1) := by decide +kernel
theorem dX4_lostOnes_35 : decode cX4_lostOnes 35 = .ok (.iinc 2 1, 3) := by decide +kernel
theorem dX4_lostOnes_38 : decode cX4_lostOnes 38 = .ok (.goto (-34), 3) := by decide +kernel
theorem dX4_lostOnes_41 : decode cX4_lostOnes 41 = .ok (.iload_n 1, 1) := by decide +kernel
theorem dX4_lostOnes_42 : decode cX4_lostOnes 42 = .ok (.ireturn, 1) := by decide +kernel
theorem dX4_onesBy_0 : decode cX4_onesBy 0 = .ok (.iconst 0, 1) := by decide +kernel
theorem dX4_onesBy_1 : decode cX4_onesBy 1 = .ok (.istore_n 1, 1) := by decide +kernel
theorem dX4_onesBy_2 : decode cX4_onesBy 2 = .ok (.iconst 0, 1) := by decide +kernel
theorem dX4_onesBy_3 : decode cX4_onesBy 3 = .ok (.istore_n 2, 1) := by decide +kernel
theorem dX4_onesBy_4 : decode cX4_onesBy 4 = .ok (.iload_n 2, 1) := by decide +kernel
theorem dX4_onesBy_5 : decode cX4_onesBy 5 = .ok (.aload_n 0, 1) := by decide +kernel
theorem dX4_onesBy_6 : decode cX4_onesBy 6 = .ok (.getfield 27, 3) := by decide +kernel
theorem dX4_onesBy_9 : decode cX4_onesBy 9 = .ok (.if_icmp .ge 32, 3) := by decide +kernel
theorem dX4_onesBy_12 : decode cX4_onesBy 12 = .ok (.iload_n 2, 1) := by decide +kernel
theorem dX4_onesBy_13 : decode cX4_onesBy 13 = .ok (.bipush 6, 2) := by decide +kernel
theorem dX4_onesBy_15 : decode cX4_onesBy 15 = .ok (.if_icmp .ge 26, 3) := by decide +kernel
theorem dX4_onesBy_18 : decode cX4_onesBy 18 = .ok (.iload_n 1, 1) := by decide +kernel
theorem dX4_onesBy_19 : decode cX4_onesBy 19 = .ok (.aload_n 0, 1) := by decide +kernel
theorem dX4_onesBy_20 : decode cX4_onesBy 20 = .ok (.getfield 32, 3) := by decide +kernel
theorem dX4_onesBy_23 : decode cX4_onesBy 23 = .ok (.iload_n 2, 1) := by decide +kernel
theorem dX4_onesBy_24 : decode cX4_onesBy 24 = .ok (.aaload, 1) := by decide +kernel
theorem dX4_onesBy_25 : decode cX4_onesBy 25 = .ok (.getfield 139, 3) := by decide +kernel
theorem dX4_onesBy_28 : decode cX4_onesBy 28 = .ok (.invokestatic 102, 3) := by decide +kernel
theorem dX4_onesBy_31 : decode cX4_onesBy 31 = .ok (.iload_n 2, 1) := by decide +kernel
theorem dX4_onesBy_32 : decode cX4_onesBy 32 = .ok (.ishl, 1) := by decide +kernel
theorem dX4_onesBy_33 : decode cX4_onesBy 33 = .ok (.ior, 1) := by decide +kernel
theorem dX4_onesBy_34 : decode cX4_onesBy 34 = .ok (.istore_n 1, 1) := by decide +kernel
theorem dX4_onesBy_35 : decode cX4_onesBy 35 = .ok (.iinc 2 1, 3) := by decide +kernel
theorem dX4_onesBy_38 : decode cX4_onesBy 38 = .ok (.goto (-34), 3) := by decide +kernel
theorem dX4_onesBy_41 : decode cX4_onesBy 41 = .ok (.iload_n 1, 1) := by decide +kernel
theorem dX4_onesBy_42 : decode cX4_onesBy 42 = .ok (.ireturn, 1) := by decide +kernel
theorem dX4_costOfAll_0 : decode cX4_costOfAll 0 = .ok (.iconst 0, 1) := by decide +kernel
theorem dX4_costOfAll_1 : decode cX4_costOfAll 1 = .ok (.istore_n 1, 1) := by decide +kernel
theorem dX4_costOfAll_2 : decode cX4_costOfAll 2 = .ok (.iconst 0, 1) := by decide +kernel
theorem dX4_costOfAll_3 : decode cX4_costOfAll 3 = .ok (.istore_n 2, 1) := by decide +kernel
theorem dX4_costOfAll_4 : decode cX4_costOfAll 4 = .ok (.iload_n 2, 1) := by decide +kernel
theorem dX4_costOfAll_5 : decode cX4_costOfAll 5 = .ok (.aload_n 0, 1) := by decide +kernel
theorem dX4_costOfAll_6 : decode cX4_costOfAll 6 = .ok (.getfield 27, 3) := by decide +kernel
theorem dX4_costOfAll_9 : decode cX4_costOfAll 9 = .ok (.if_icmp .ge 27, 3) := by decide +kernel
theorem dX4_costOfAll_12 : decode cX4_costOfAll 12 = .ok (.iload_n 2, 1) := by decide +kernel
theorem dX4_costOfAll_13 : decode cX4_costOfAll 13 = .ok (.bipush 6, 2) := by decide +kernel
theorem dX4_costOfAll_15 : decode cX4_costOfAll 15 = .ok (.if_icmp .ge 21, 3) := by decide +kernel
theorem dX4_costOfAll_18 : decode cX4_costOfAll 18 = .ok (.iload_n 1, 1) := by decide +kernel
theorem dX4_costOfAll_19 : decode cX4_costOfAll 19 = .ok (.aload_n 0, 1) := by decide +kernel
theorem dX4_costOfAll_20 : decode cX4_costOfAll 20 = .ok (.getfield 32, 3) := by decide +kernel
theorem dX4_costOfAll_23 : decode cX4_costOfAll 23 = .ok (.iload_n 2, 1) := by decide +kernel
theorem dX4_costOfAll_24 : decode cX4_costOfAll 24 = .ok (.aaload, 1) := by decide +kernel
theorem dX4_costOfAll_25 : decode cX4_costOfAll 25 = .ok (.getfield 113, 3) := by decide +kernel
theorem dX4_costOfAll_28 : decode cX4_costOfAll 28 = .ok (.iadd, 1) := by decide +kernel
theorem dX4_costOfAll_29 : decode cX4_costOfAll 29 = .ok (.istore_n 1, 1) := by decide +kernel
theorem dX4_costOfAll_30 : decode cX4_costOfAll 30 = .ok (.iinc 2 1, 3) := by decide +kernel
theorem dX4_costOfAll_33 : decode cX4_costOfAll 33 = .ok (.goto (-29), 3) := by decide +kernel
theorem dX4_costOfAll_36 : decode cX4_costOfAll 36 = .ok (.iload_n 1, 1) := by decide +kernel
theorem dX4_costOfAll_37 : decode cX4_costOfAll 37 = .ok (.ireturn, 1) := by decide +kernel
theorem dX4_nearestOne_0 : decode cX4_nearestOne 0 = .ok (.iconst 0, 1) := by decide +kernel
theorem dX4_nearestOne_1 : decode cX4_nearestOne 1 = .ok (.istore_n 1, 1) := by decide +kernel
theorem dX4_nearestOne_2 : decode cX4_nearestOne 2 = .ok (.iconst 1, 1) := by decide +kernel
theorem dX4_nearestOne_3 : decode cX4_nearestOne 3 = .ok (.istore_n 2, 1) := by decide +kernel
theorem dX4_nearestOne_4 : decode cX4_nearestOne 4 = .ok (.iload_n 2, 1) := by decide +kernel
theorem dX4_nearestOne_5 : decode cX4_nearestOne 5 = .ok (.aload_n 0, 1) := by decide +kernel
theorem dX4_nearestOne_6 : decode cX4_nearestOne 6 = .ok (.getfield 27, 3) := by decide +kernel
theorem dX4_nearestOne_9 : decode cX4_nearestOne 9 = .ok (.if_icmp .ge 38, 3) := by decide +kernel
theorem dX4_nearestOne_12 : decode cX4_nearestOne 12 = .ok (.iload_n 2, 1) := by decide +kernel
theorem dX4_nearestOne_13 : decode cX4_nearestOne 13 = .ok (.bipush 6, 2) := by decide +kernel
theorem dX4_nearestOne_15 : decode cX4_nearestOne 15 = .ok (.if_icmp .ge 32, 3) := by decide +kernel
theorem dX4_nearestOne_18 : decode cX4_nearestOne 18 = .ok (.aload_n 0, 1) := by decide +kernel
theorem dX4_nearestOne_19 : decode cX4_nearestOne 19 = .ok (.getfield 32, 3) := by decide +kernel
theorem dX4_nearestOne_22 : decode cX4_nearestOne 22 = .ok (.iload_n 2, 1) := by decide +kernel
theorem dX4_nearestOne_23 : decode cX4_nearestOne 23 = .ok (.aaload, 1) := by decide +kernel
theorem dX4_nearestOne_24 : decode cX4_nearestOne 24 = .ok (.getfield 143, 3) := by decide +kernel
theorem dX4_nearestOne_27 : decode cX4_nearestOne 27 = .ok (.aload_n 0, 1) := by decide +kernel
theorem dX4_nearestOne_28 : decode cX4_nearestOne 28 = .ok (.getfield 32, 3) := by decide +kernel
theorem dX4_nearestOne_31 : decode cX4_nearestOne 31 = .ok (.iload_n 1, 1) := by decide +kernel
theorem dX4_nearestOne_32 : decode cX4_nearestOne 32 = .ok (.aaload, 1) := by decide +kernel
theorem dX4_nearestOne_33 : decode cX4_nearestOne 33 = .ok (.getfield 143, 3) := by decide +kernel
theorem dX4_nearestOne_36 : decode cX4_nearestOne 36 = .ok (.if_icmp .ge 5, 3) := by decide +kernel
theorem dX4_nearestOne_39 : decode cX4_nearestOne 39 = .ok (.iload_n 2, 1) := by decide +kernel
theorem dX4_nearestOne_40 : decode cX4_nearestOne 40 = .ok (.istore_n 1, 1) := by decide +kernel
theorem dX4_nearestOne_41 : decode cX4_nearestOne 41 = .ok (.iinc 2 1, 3) := by decide +kernel
theorem dX4_nearestOne_44 : decode cX4_nearestOne 44 = .ok (.goto (-40), 3) := by decide +kernel
theorem dX4_nearestOne_47 : decode cX4_nearestOne 47 = .ok (.iload_n 1, 1) := by decide +kernel
theorem dX4_nearestOne_48 : decode cX4_nearestOne 48 = .ok (.ireturn, 1) := by decide +kernel
theorem dX5_init_0 : decode cX5_init 0 = .ok (.aload_n 0, 1) := by decide +kernel
theorem dX5_init_1 : decode cX5_init 1 = .ok (.invokespecial 3, 3) := by decide +kernel
theorem dX5_init_4 : decode cX5_init 4 = .ok (.aload_n 0, 1) := by decide +kernel
theorem dX5_init_5 : decode cX5_init 5 = .ok (.aload_n 1, 1) := by decide +kernel
theorem dX5_init_6 : decode cX5_init 6 = .ok (.putfield 9, 3) := by decide +kernel
theorem dX5_init_9 : decode cX5_init 9 = .ok (.aload_n 0, 1) := by decide +kernel
theorem dX5_init_10 : decode cX5_init 10 = .ok (.aload_n 2, 1) := by decide +kernel
theorem dX5_init_11 : decode cX5_init 11 = .ok (.putfield 15, 3) := by decide +kernel
theorem dX5_init_14 : decode cX5_init 14 = .ok (.return_, 1) := by decide +kernel
theorem dX5_tell_0 : decode cX5_tell 0 = .ok (.aload_n 0, 1) := by decide +kernel
theorem dX5_tell_1 : decode cX5_tell 1 = .ok (.iconst 0, 1) := by decide +kernel
theorem dX5_tell_2 : decode cX5_tell 2 = .ok (.putfield 19, 3) := by decide +kernel
theorem dX5_tell_5 : decode cX5_tell 5 = .ok (.iconst 1, 1) := by decide +kernel
theorem dX5_tell_6 : decode cX5_tell 6 = .ok (.istore_n 2, 1) := by decide +kernel
theorem dX5_tell_7 : decode cX5_tell 7 = .ok (.iload_n 2, 1) := by decide +kernel
theorem dX5_tell_8 : decode cX5_tell 8 = .ok (.bipush 120, 2) := by decide +kernel
theorem dX5_tell_10 : decode cX5_tell 10 = .ok (.if_icmp .gt 52, 3) := by decide +kernel
theorem dX5_tell_13 : decode cX5_tell 13 = .ok (.aload_n 0, 1) := by decide +kernel
theorem dX5_tell_14 : decode cX5_tell 14 = .ok (.invokevirtual 23, 3) := by decide +kernel
theorem dX5_tell_17 : decode cX5_tell 17 = .ok (.aload_n 0, 1) := by decide +kernel
theorem dX5_tell_18 : decode cX5_tell 18 = .ok (.aload_n 1, 1) := by decide +kernel
theorem dX5_tell_19 : decode cX5_tell 19 = .ok (.invokevirtual 26, 3) := by decide +kernel
theorem dX5_tell_22 : decode cX5_tell 22 = .ok (.ifCond .ne 10, 3) := by decide +kernel
theorem dX5_tell_25 : decode cX5_tell 25 = .ok (.iconst (-1), 1) := by decide +kernel
theorem dX5_tell_26 : decode cX5_tell 26 = .ok (.aload_n 0, 1) := by decide +kernel
theorem dX5_tell_27 : decode cX5_tell 27 = .ok (.getfield 30, 3) := by decide +kernel
theorem dX5_tell_30 : decode cX5_tell 30 = .ok (.isub, 1) := by decide +kernel
theorem dX5_tell_31 : decode cX5_tell 31 = .ok (.ireturn, 1) := by decide +kernel
theorem dX5_tell_32 : decode cX5_tell 32 = .ok (.aload_n 0, 1) := by decide +kernel
theorem dX5_tell_33 : decode cX5_tell 33 = .ok (.getfield 33, 3) := by decide +kernel
theorem dX5_tell_36 : decode cX5_tell 36 = .ok (.ifCond .ne 5, 3) := by decide +kernel
theorem dX5_tell_39 : decode cX5_tell 39 = .ok (.iload_n 2, 1) := by decide +kernel
theorem dX5_tell_40 : decode cX5_tell 40 = .ok (.ireturn, 1) := by decide +kernel
theorem dX5_tell_41 : decode cX5_tell 41 = .ok (.aload_n 0, 1) := by decide +kernel
theorem dX5_tell_42 : decode cX5_tell 42 = .ok (.getfield 33, 3) := by decide +kernel
theorem dX5_tell_45 : decode cX5_tell 45 = .ok (.iconst 3, 1) := by decide +kernel
theorem dX5_tell_46 : decode cX5_tell 46 = .ok (.if_icmp .eq 10, 3) := by decide +kernel
theorem dX5_tell_49 : decode cX5_tell 49 = .ok (.iconst (-1), 1) := by decide +kernel
theorem dX5_tell_50 : decode cX5_tell 50 = .ok (.aload_n 0, 1) := by decide +kernel
theorem dX5_tell_51 : decode cX5_tell 51 = .ok (.getfield 30, 3) := by decide +kernel
theorem dX5_tell_54 : decode cX5_tell 54 = .ok (.isub, 1) := by decide +kernel
theorem dX5_tell_55 : decode cX5_tell 55 = .ok (.ireturn, 1) := by decide +kernel
theorem dX5_tell_56 : decode cX5_tell 56 = .ok (.iinc 2 1, 3) := by decide +kernel
theorem dX5_tell_59 : decode cX5_tell 59 = .ok (.goto (-52), 3) := by decide +kernel
theorem dX5_tell_62 : decode cX5_tell 62 = .ok (.iconst (-1), 1) := by decide +kernel
theorem dX5_tell_63 : decode cX5_tell 63 = .ok (.aload_n 0, 1) := by decide +kernel
theorem dX5_tell_64 : decode cX5_tell 64 = .ok (.getfield 30, 3) := by decide +kernel
theorem dX5_tell_67 : decode cX5_tell 67 = .ok (.isub, 1) := by decide +kernel
theorem dX5_tell_68 : decode cX5_tell 68 = .ok (.ireturn, 1) := by decide +kernel
theorem dX5_takeItem_0 : decode cX5_takeItem 0 = .ok (.aload_n 0, 1) := by decide +kernel
theorem dX5_takeItem_1 : decode cX5_takeItem 1 = .ok (.getfield 33, 3) := by decide +kernel
theorem dX5_takeItem_4 : decode cX5_takeItem 4 = .ok (.iconst 1, 1) := by decide +kernel
theorem dX5_takeItem_5 : decode cX5_takeItem 5 = .ok (.if_icmp .eq 5, 3) := by decide +kernel
theorem dX5_takeItem_8 : decode cX5_takeItem 8 = .ok (.iconst 0, 1) := by decide +kernel
theorem dX5_takeItem_9 : decode cX5_takeItem 9 = .ok (.ireturn, 1) := by decide +kernel
theorem dX5_takeItem_10 : decode cX5_takeItem 10 = .ok (.iconst 0, 1) := by decide +kernel
theorem dX5_takeItem_11 : decode cX5_takeItem 11 = .ok (.istore_n 2, 1) := by decide +kernel
theorem dX5_takeItem_12 : decode cX5_takeItem 12 = .ok (.iload_n 2, 1) := by decide +kernel
theorem dX5_takeItem_13 : decode cX5_takeItem 13 = .ok (.aload_n 0, 1) := by decide +kernel
theorem dX5_takeItem_14 : decode cX5_takeItem 14 = .ok (.getfield 15, 3) := by decide +kernel
theorem dX5_takeItem_17 : decode cX5_takeItem 17 = .ok (.arraylength, 1) := by decide +kernel
theorem dX5_takeItem_18 : decode cX5_takeItem 18 = .ok (.if_icmp .ge 37, 3) := by decide +kernel
theorem dX5_takeItem_21 : decode cX5_takeItem 21 = .ok (.aload_n 0, 1) := by decide +kernel
theorem dX5_takeItem_22 : decode cX5_takeItem 22 = .ok (.aload_n 0, 1) := by decide +kernel
theorem dX5_takeItem_23 : decode cX5_takeItem 23 = .ok (.getfield 15, 3) := by decide +kernel
theorem dX5_takeItem_26 : decode cX5_takeItem 26 = .ok (.iload_n 2, 1) := by decide +kernel
theorem dX5_takeItem_27 : decode cX5_takeItem 27 = .ok (.aaload, 1) := by decide +kernel
theorem dX5_takeItem_28 : decode cX5_takeItem 28 = .ok (.invokevirtual 36, 3) := by decide +kernel
theorem dX5_takeItem_31 : decode cX5_takeItem 31 = .ok (.invokevirtual 42, 3) := by decide +kernel
theorem dX5_takeItem_34 : decode cX5_takeItem 34 = .ok (.ifCond .eq 15, 3) := by decide +kernel
theorem dX5_takeItem_37 : decode cX5_takeItem 37 = .ok (.aload_n 0, 1) := by decide +kernel
theorem dX5_takeItem_38 : decode cX5_takeItem 38 = .ok (.aload_n 1, 1) := by decide +kernel
theorem dX5_takeItem_39 : decode cX5_takeItem 39 = .ok (.aload_n 0, 1) := by decide +kernel
theorem dX5_takeItem_40 : decode cX5_takeItem 40 = .ok (.getfield 15, 3) := by decide +kernel
theorem dX5_takeItem_43 : decode cX5_takeItem 43 = .ok (.iload_n 2, 1) := by decide +kernel
theorem dX5_takeItem_44 : decode cX5_takeItem 44 = .ok (.aaload, 1) := by decide +kernel
theorem dX5_takeItem_45 : decode cX5_takeItem 45 = .ok (.invokevirtual 46, 3) := by decide +kernel
theorem dX5_takeItem_48 : decode cX5_takeItem 48 = .ok (.ireturn, 1) := by decide +kernel
theorem dX5_takeItem_49 : decode cX5_takeItem 49 = .ok (.iinc 2 1, 3) := by decide +kernel
theorem dX5_takeItem_52 : decode cX5_takeItem 52 = .ok (.goto (-40), 3) := by decide +kernel
theorem dX5_takeItem_55 : decode cX5_takeItem 55 = .ok (.aload_n 0, 1) := by decide +kernel
theorem dX5_takeItem_56 : decode cX5_takeItem 56 = .ok (.ldc 50, 2) := by decide +kernel
theorem dX5_takeItem_58 : decode cX5_takeItem 58 = .ok (.invokevirtual 42, 3) := by decide +kernel
theorem dX5_takeItem_61 : decode cX5_takeItem 61 = .ok (.ifCond .eq 9, 3) := by decide +kernel
theorem dX5_takeItem_64 : decode cX5_takeItem 64 = .ok (.aload_n 0, 1) := by decide +kernel
theorem dX5_takeItem_65 : decode cX5_takeItem 65 = .ok (.aload_n 1, 1) := by decide +kernel
theorem dX5_takeItem_66 : decode cX5_takeItem 66 = .ok (.invokevirtual 52, 3) := by decide +kernel
theorem dX5_takeItem_69 : decode cX5_takeItem 69 = .ok (.ireturn, 1) := by decide +kernel
theorem dX5_takeItem_70 : decode cX5_takeItem 70 = .ok (.aload_n 0, 1) := by decide +kernel
theorem dX5_takeItem_71 : decode cX5_takeItem 71 = .ok (.ldc 55, 2) := by decide +kernel
theorem dX5_takeItem_73 : decode cX5_takeItem 73 = .ok (.invokevirtual 42, 3) := by decide +kernel
theorem dX5_takeItem_76 : decode cX5_takeItem 76 = .ok (.ifCond .eq 10, 3) := by decide +kernel
theorem dX5_takeItem_79 : decode cX5_takeItem 79 = .ok (.aload_n 0, 1) := by decide +kernel
theorem dX5_takeItem_80 : decode cX5_takeItem 80 = .ok (.aload_n 1, 1) := by decide +kernel
theorem dX5_takeItem_81 : decode cX5_takeItem 81 = .ok (.iconst 1, 1) := by decide +kernel
theorem dX5_takeItem_82 : decode cX5_takeItem 82 = .ok (.invokevirtual 57, 3) := by decide +kernel
theorem dX5_takeItem_85 : decode cX5_takeItem 85 = .ok (.ireturn, 1) := by decide +kernel
theorem dX5_takeItem_86 : decode cX5_takeItem 86 = .ok (.aload_n 0, 1) := by decide +kernel
theorem dX5_takeItem_87 : decode cX5_takeItem 87 = .ok (.ldc 61, 2) := by decide +kernel
theorem dX5_takeItem_89 : decode cX5_takeItem 89 = .ok (.invokevirtual 42, 3) := by decide +kernel
theorem dX5_takeItem_92 : decode cX5_takeItem 92 = .ok (.ifCond .eq 10, 3) := by decide +kernel
theorem dX5_takeItem_95 : decode cX5_takeItem 95 = .ok (.aload_n 0, 1) := by decide +kernel
theorem dX5_takeItem_96 : decode cX5_takeItem 96 = .ok (.aload_n 1, 1) := by decide +kernel
theorem dX5_takeItem_97 : decode cX5_takeItem 97 = .ok (.iconst 0, 1) := by decide +kernel
theorem dX5_takeItem_98 : decode cX5_takeItem 98 = .ok (.invokevirtual 57, 3) := by decide +kernel
theorem dX5_takeItem_101 : decode cX5_takeItem 101 = .ok (.ireturn, 1) := by decide +kernel
theorem dX5_takeItem_102 : decode cX5_takeItem 102 = .ok (.aload_n 0, 1) := by decide +kernel
theorem dX5_takeItem_103 : decode cX5_takeItem 103 = .ok (.ldc 63, 2) := by decide +kernel
theorem dX5_takeItem_105 : decode cX5_takeItem 105 = .ok (.invokevirtual 42, 3) := by decide +kernel
theorem dX5_takeItem_108 : decode cX5_takeItem 108 = .ok (.ifCond .eq 15, 3) := by decide +kernel
theorem dX5_takeItem_111 : decode cX5_takeItem 111 = .ok (.aload_n 0, 1) := by decide +kernel
theorem dX5_takeItem_112 : decode cX5_takeItem 112 = .ok (.aload_n 1, 1) := by decide +kernel
theorem dX5_takeItem_113 : decode cX5_takeItem 113 = .ok (.invokevirtual 65, 3) := by decide +kernel
theorem dX5_takeItem_116 : decode cX5_takeItem 116 = .ok (.ifCond .eq 7, 3) := by decide +kernel
theorem dX5_takeItem_119 : decode cX5_takeItem 119 = .ok (.iconst 1, 1) := by decide +kernel
theorem dX5_takeItem_120 : decode cX5_takeItem 120 = .ok (.goto 4, 3) := by decide +kernel
theorem dX5_takeItem_123 : decode cX5_takeItem 123 = .ok (.iconst 0, 1) := by decide +kernel
theorem dX5_takeItem_124 : decode cX5_takeItem 124 = .ok (.ireturn, 1) := by decide +kernel
theorem dX5_takeShip_0 : decode cX5_takeShip 0 = .ok (.aload_n 1, 1) := by decide +kernel
theorem dX5_takeShip_1 : decode cX5_takeShip 1 = .ok (.invokevirtual 68, 3) := by decide +kernel
theorem dX5_takeShip_4 : decode cX5_takeShip 4 = .ok (.ifCond .eq 5, 3) := by decide +kernel
theorem dX5_takeShip_7 : decode cX5_takeShip 7 = .ok (.iconst 0, 1) := by decide +kernel
theorem dX5_takeShip_8 : decode cX5_takeShip 8 = .ok (.ireturn, 1) := by decide +kernel
theorem dX5_takeShip_9 : decode cX5_takeShip 9 = .ok (.aload_n 0, 1) := by decide +kernel
theorem dX5_takeShip_10 : decode cX5_takeShip 10 = .ok (.invokevirtual 23, 3) := by decide +kernel
theorem dX5_takeShip_13 : decode cX5_takeShip 13 = .ok (.aload_n 0, 1) := by decide +kernel
theorem dX5_takeShip_14 : decode cX5_takeShip 14 = .ok (.bipush 9, 2) := by decide +kernel
theorem dX5_takeShip_16 : decode cX5_takeShip 16 = .ok (.invokevirtual 74, 3) := by decide +kernel
theorem dX5_takeShip_19 : decode cX5_takeShip 19 = .ok (.ifCond .ne 5, 3) := by decide +kernel
theorem dX5_takeShip_22 : decode cX5_takeShip 22 = .ok (.iconst 0, 1) := by decide +kernel
theorem dX5_takeShip_23 : decode cX5_takeShip 23 = .ok (.ireturn, 1) := by decide +kernel
theorem dX5_takeShip_24 : decode cX5_takeShip 24 = .ok (.aload_n 0, 1) := by decide +kernel
theorem dX5_takeShip_25 : decode cX5_takeShip 25 = .ok (.getfield 78, 3) := by decide +kernel
theorem dX5_takeShip_28 : decode cX5_takeShip 28 = .ok (.istore_n 3, 1) := by decide +kernel
theorem dX5_takeShip_29 : decode cX5_takeShip 29 = .ok (.iconst 0, 1) := by decide +kernel
theorem dX5_takeShip_30 : decode cX5_takeShip 30 = .ok (.istore 4, 2) := by decide +kernel
theorem dX5_takeShip_32 : decode cX5_takeShip 32 = .ok (.aload_n 0, 1) := by decide +kernel
theorem dX5_takeShip_33 : decode cX5_takeShip 33 = .ok (.getfield 33, 3) := by decide +kernel
theorem dX5_takeShip_36 : decode cX5_takeShip 36 = .ok (.iconst 1, 1) := by decide +kernel
theorem dX5_takeShip_37 : decode cX5_takeShip 37 = .ok (.if_icmp .ne 33, 3) := by decide +kernel
theorem dX5_takeShip_40 : decode cX5_takeShip 40 = .ok (.aload_n 0, 1) := by decide +kernel
theorem dX5_takeShip_41 : decode cX5_takeShip 41 = .ok (.ldc 81, 2) := by decide +kernel
theorem dX5_takeShip_43 : decode cX5_takeShip 43 = .ok (.invokevirtual 42, 3) := by decide +kernel
theorem dX5_takeShip_46 : decode cX5_takeShip 46 = .ok (.ifCond .eq 24, 3) := by decide +kernel
theorem dX5_takeShip_49 : decode cX5_takeShip 49 = .ok (.aload_n 0, 1) := by decide +kernel
theorem dX5_takeShip_50 : decode cX5_takeShip 50 = .ok (.invokevirtual 23, 3) := by decide +kernel
theorem dX5_takeShip_53 : decode cX5_takeShip 53 = .ok (.aload_n 0, 1) := by decide +kernel
theorem dX5_takeShip_54 : decode cX5_takeShip 54 = .ok (.bipush 19, 2) := by decide +kernel
theorem dX5_takeShip_56 : decode cX5_takeShip 56 = .ok (.invokevirtual 74, 3) := by decide +kernel
theorem dX5_takeShip_59 : decode cX5_takeShip 59 = .ok (.ifCond .ne 5, 3) := by decide +kernel
theorem dX5_takeShip_62 : decode cX5_takeShip 62 = .ok (.iconst 0, 1) := by decide +kernel
theorem dX5_takeShip_63 : decode cX5_takeShip 63 = .ok (.ireturn, 1) := by decide +kernel
theorem dX5_takeShip_64 : decode cX5_takeShip 64 = .ok (.aload_n 0, 1) := by decide +kernel
theorem dX5_takeShip_65 : decode cX5_takeShip 65 = .ok (.getfield 78, 3) := by decide +kernel
theorem dX5_takeShip_68 : decode cX5_takeShip 68 = .ok (.istore 4, 2) := by decide +kernel
theorem dX5_takeShip_70 : decode cX5_takeShip 70 = .ok (.aload_n 1, 1) := by decide +kernel
theorem dX5_takeShip_71 : decode cX5_takeShip 71 = .ok (.aload_n 2, 1) := by decide +kernel
theorem dX5_takeShip_72 : decode cX5_takeShip 72 = .ok (.iload 4, 2) := by decide +kernel
theorem dX5_takeShip_74 : decode cX5_takeShip 74 = .ok (.iload_n 3, 1) := by decide +kernel
theorem dX5_takeShip_75 : decode cX5_takeShip 75 = .ok (.invokevirtual 83, 3) := by decide +kernel
theorem dX5_takeShip_78 : decode cX5_takeShip 78 = .ok (.iconst 1, 1) := by decide +kernel
theorem dX5_takeShip_79 : decode cX5_takeShip 79 = .ok (.ireturn, 1) := by decide +kernel
theorem dX5_takeTower_0 : decode cX5_takeTower 0 = .ok (.aload_n 0, 1) := by decide +kernel
theorem dX5_takeTower_1 : decode cX5_takeTower 1 = .ok (.invokevirtual 23, 3) := by decide +kernel
theorem dX5_takeTower_4 : decode cX5_takeTower 4 = .ok (.aload_n 0, 1) := by decide +kernel
theorem dX5_takeTower_5 : decode cX5_takeTower 5 = .ok (.bipush 19, 2) := by decide +kernel
theorem dX5_takeTower_7 : decode cX5_takeTower 7 = .ok (.invokevirtual 74, 3) := by decide +kernel
theorem dX5_takeTower_10 : decode cX5_takeTower 10 = .ok (.ifCond .ne 5, 3) := by decide +kernel
theorem dX5_takeTower_13 : decode cX5_takeTower 13 = .ok (.iconst 0, 1) := by decide +kernel
theorem dX5_takeTower_14 : decode cX5_takeTower 14 = .ok (.ireturn, 1) := by decide +kernel
theorem dX5_takeTower_15 : decode cX5_takeTower 15 = .ok (.aload_n 1, 1) := by decide +kernel
theorem dX5_takeTower_16 : decode cX5_takeTower 16 = .ok (.aload_n 0, 1) := by decide +kernel
theorem dX5_takeTower_17 : decode cX5_takeTower 17 = .ok (.getfield 78, 3) := by decide +kernel
theorem dX5_takeTower_20 : decode cX5_takeTower 20 = .ok (.putfield 87, 3) := by decide +kernel
theorem dX5_takeTower_23 : decode cX5_takeTower 23 = .ok (.aload_n 0, 1) := by decide +kernel
theorem dX5_takeTower_24 : decode cX5_takeTower 24 = .ok (.bipush 9, 2) := by decide +kernel
theorem dX5_takeTower_26 : decode cX5_takeTower 26 = .ok (.invokevirtual 74, 3) := by decide +kernel
theorem dX5_takeTower_29 : decode cX5_takeTower 29 = .ok (.ifCond .ne 5, 3) := by decide +kernel
theorem dX5_takeTower_32 : decode cX5_takeTower 32 = .ok (.iconst 0, 1) := by decide +kernel
theorem dX5_takeTower_33 : decode cX5_takeTower 33 = .ok (.ireturn, 1) := by decide +kernel
theorem dX5_takeTower_34 : decode cX5_takeTower 34 = .ok (.aload_n 1, 1) := by decide +kernel
theorem dX5_takeTower_35 : decode cX5_takeTower 35 = .ok (.aload_n 0, 1) := by decide +kernel
theorem dX5_takeTower_36 : decode cX5_takeTower 36 = .ok (.getfield 78, 3) := by decide +kernel
theorem dX5_takeTower_39 : decode cX5_takeTower 39 = .ok (.putfield 90, 3) := by decide +kernel
theorem dX5_takeTower_42 : decode cX5_takeTower 42 = .ok (.iconst 1, 1) := by decide +kernel
theorem dX5_takeTower_43 : decode cX5_takeTower 43 = .ok (.ireturn, 1) := by decide +kernel
theorem dX5_takeLamp_0 : decode cX5_takeLamp 0 = .ok (.aload_n 0, 1) := by decide +kernel
theorem dX5_takeLamp_1 : decode cX5_takeLamp 1 = .ok (.invokevirtual 23, 3) := by decide +kernel
theorem dX5_takeLamp_4 : decode cX5_takeLamp 4 = .ok (.aload_n 0, 1) := by decide +kernel
theorem dX5_takeLamp_5 : decode cX5_takeLamp 5 = .ok (.bipush 11, 2) := by decide +kernel
theorem dX5_takeLamp_7 : decode cX5_takeLamp 7 = .ok (.invokevirtual 74, 3) := by decide +kernel
theorem dX5_takeLamp_10 : decode cX5_takeLamp 10 = .ok (.ifCond .ne 5, 3) := by decide +kernel
theorem dX5_takeLamp_13 : decode cX5_takeLamp 13 = .ok (.iconst 0, 1) := by decide +kernel
theorem dX5_takeLamp_14 : decode cX5_takeLamp 14 = .ok (.ireturn, 1) := by decide +kernel
theorem dX5_takeLamp_15 : decode cX5_takeLamp 15 = .ok (.iconst 1, 1) := by decide +kernel
theorem dX5_takeLamp_16 : decode cX5_takeLamp 16 = .ok (.aload_n 0, 1) := by decide +kernel
theorem dX5_takeLamp_17 : decode cX5_takeLamp 17 = .ok (.getfield 78, 3) := by decide +kernel
theorem dX5_takeLamp_20 : decode cX5_takeLamp 20 = .ok (.ishl, 1) := by decide +kernel
theorem dX5_takeLamp_21 : decode cX5_takeLamp 21 = .ok (.istore_n 3, 1) := by decide +kernel
theorem dX5_takeLamp_22 : decode cX5_takeLamp 22 = .ok (.aload_n 1, 1) := by decide +kernel
theorem dX5_takeLamp_23 : decode cX5_takeLamp 23 = .ok (.iload_n 2, 1) := by decide +kernel
theorem dX5_takeLamp_24 : decode cX5_takeLamp 24 = .ok (.ifCond .eq 12, 3) := by decide +kernel
theorem dX5_takeLamp_27 : decode cX5_takeLamp 27 = .ok (.aload_n 1, 1) := by decide +kernel
theorem dX5_takeLamp_28 : decode cX5_takeLamp 28 = .ok (.getfield 93, 3) := by decide +kernel
theorem dX5_takeLamp_31 : decode cX5_takeLamp 31 = .ok (.iload_n 3, 1) := by decide +kernel
theorem dX5_takeLamp_32 : decode cX5_takeLamp 32 = .ok (.ior, 1) := by decide +kernel
theorem dX5_takeLamp_33 : decode cX5_takeLamp 33 = .ok (.goto 11, 3) := by decide +kernel
theorem dX5_takeLamp_36 : decode cX5_takeLamp 36 = .ok (.aload_n 1, 1) := by decide +kernel
theorem dX5_takeLamp_37 : decode cX5_takeLamp 37 = .ok (.getfield 93, 3) := by decide +kernel
theorem dX5_takeLamp_40 : decode cX5_takeLamp 40 = .ok (.iload_n 3, 1) := by decide +kernel
theorem dX5_takeLamp_41 : decode cX5_takeLamp 41 = .ok (.iconst (-1), 1) := by decide +kernel
theorem dX5_takeLamp_42 : decode cX5_takeLamp 42 = .ok (.ixor, 1) := by decide +kernel
theorem dX5_takeLamp_43 : decode cX5_takeLamp 43 = .ok (.iand, 1) := by decide +kernel
theorem dX5_takeLamp_44 : decode cX5_takeLamp 44 = .ok (.putfield 93, 3) := by decide +kernel
theorem dX5_takeLamp_47 : decode cX5_takeLamp 47 = .ok (.iconst 1, 1) := by decide +kernel
theorem dX5_takeLamp_48 : decode cX5_takeLamp 48 = .ok (.ireturn, 1) := by decide +kernel
theorem dX5_takeReach_0 : decode cX5_takeReach 0 = .ok (.aload_n 0, 1) := by decide +kernel
theorem dX5_takeReach_1 : decode cX5_takeReach 1 = .ok (.invokevirtual 23, 3) := by decide +kernel
theorem dX5_takeReach_4 : decode cX5_takeReach 4 = .ok (.aload_n 0, 1) := by decide +kernel
theorem dX5_takeReach_5 : decode cX5_takeReach 5 = .ok (.bipush 9, 2) := by decide +kernel
theorem dX5_takeReach_7 : decode cX5_takeReach 7 = .ok (.invokevirtual 74, 3) := by decide +kernel
theorem dX5_takeReach_10 : decode cX5_takeReach 10 = .ok (.ifCond .ne 5, 3) := by decide +kernel
theorem dX5_takeReach_13 : decode cX5_takeReach 13 = .ok (.iconst 0, 1) := by decide +kernel
theorem dX5_takeReach_14 : decode cX5_takeReach 14 = .ok (.ireturn, 1) := by decide +kernel
theorem dX5_takeReach_15 : decode cX5_takeReach 15 = .ok (.aload_n 1, 1) := by decide +kernel
theorem dX5_takeReach_16 : decode cX5_takeReach 16 = .ok (.aload_n 0, 1) := by decide +kernel
theorem dX5_takeReach_17 : decode cX5_takeReach 17 = .ok (.getfield 78, 3) := by decide +kernel
theorem dX5_takeReach_20 : decode cX5_takeReach 20 = .ok (.putfield 96, 3) := by decide +kernel
theorem dX5_takeReach_23 : decode cX5_takeReach 23 = .ok (.iconst 1, 1) := by decide +kernel
theorem dX5_takeReach_24 : decode cX5_takeReach 24 = .ok (.ireturn, 1) := by decide +kernel
theorem dX5_takeNumber_0 : decode cX5_takeNumber 0 = .ok (.aload_n 0, 1) := by decide +kernel
theorem dX5_takeNumber_1 : decode cX5_takeNumber 1 = .ok (.getfield 33, 3) := by decide +kernel
theorem dX5_takeNumber_4 : decode cX5_takeNumber 4 = .ok (.iconst 2, 1) := by decide +kernel
theorem dX5_takeNumber_5 : decode cX5_takeNumber 5 = .ok (.if_icmp .ne 11, 3) := by decide +kernel
theorem dX5_takeNumber_8 : decode cX5_takeNumber 8 = .ok (.aload_n 0, 1) := by decide +kernel
theorem dX5_takeNumber_9 : decode cX5_takeNumber 9 = .ok (.getfield 98, 3) := by decide +kernel
theorem dX5_takeNumber_12 : decode cX5_takeNumber 12 = .ok (.iload_n 1, 1) := by decide +kernel
theorem dX5_takeNumber_13 : decode cX5_takeNumber 13 = .ok (.if_icmp .le 5, 3) := by decide +kernel
theorem dX5_takeNumber_16 : decode cX5_takeNumber 16 = .ok (.iconst 0, 1) := by decide +kernel
theorem dX5_takeNumber_17 : decode cX5_takeNumber 17 = .ok (.ireturn, 1) := by decide +kernel
theorem dX5_takeNumber_18 : decode cX5_takeNumber 18 = .ok (.aload_n 0, 1) := by decide +kernel
theorem dX5_takeNumber_19 : decode cX5_takeNumber 19 = .ok (.aload_n 0, 1) := by decide +kernel
theorem dX5_takeNumber_20 : decode cX5_takeNumber 20 = .ok (.getfield 98, 3) := by decide +kernel
theorem dX5_takeNumber_23 : decode cX5_takeNumber 23 = .ok (.putfield 78, 3) := by decide +kernel
theorem dX5_takeNumber_26 : decode cX5_takeNumber 26 = .ok (.aload_n 0, 1) := by decide +kernel
theorem dX5_takeNumber_27 : decode cX5_takeNumber 27 = .ok (.invokevirtual 23, 3) := by decide +kernel
theorem dX5_takeNumber_30 : decode cX5_takeNumber 30 = .ok (.iconst 1, 1) := by decide +kernel
theorem dX5_takeNumber_31 : decode cX5_takeNumber 31 = .ok (.ireturn, 1) := by decide +kernel
theorem dX5_next_0 : decode cX5_next 0 = .ok (.aload_n 0, 1) := by decide +kernel
theorem dX5_next_1 : decode cX5_next 1 = .ok (.aload_n 0, 1) := by decide +kernel
theorem dX5_next_2 : decode cX5_next 2 = .ok (.getfield 19, 3) := by decide +kernel
theorem dX5_next_5 : decode cX5_next 5 = .ok (.putfield 30, 3) := by decide +kernel
theorem dX5_next_8 : decode cX5_next 8 = .ok (.aload_n 0, 1) := by decide +kernel
theorem dX5_next_9 : decode cX5_next 9 = .ok (.getfield 30, 3) := by decide +kernel
theorem dX5_next_12 : decode cX5_next 12 = .ok (.aload_n 0, 1) := by decide +kernel
theorem dX5_next_13 : decode cX5_next 13 = .ok (.getfield 9, 3) := by decide +kernel
theorem dX5_next_16 : decode cX5_next 16 = .ok (.getfield 101, 3) := by decide +kernel
theorem dX5_next_19 : decode cX5_next 19 = .ok (.if_icmp .ge 32, 3) := by decide +kernel
theorem dX5_next_22 : decode cX5_next 22 = .ok (.aload_n 0, 1) := by decide +kernel
theorem dX5_next_23 : decode cX5_next 23 = .ok (.getfield 9, 3) := by decide +kernel
theorem dX5_next_26 : decode cX5_next 26 = .ok (.aload_n 0, 1) := by decide +kernel
theorem dX5_next_27 : decode cX5_next 27 = .ok (.getfield 30, 3) := by decide +kernel
theorem dX5_next_30 : decode cX5_next 30 = .ok (.invokevirtual 106, 3) := by decide +kernel
theorem dX5_next_33 : decode cX5_next 33 = .ok (.bipush 32, 2) := by decide +kernel
theorem dX5_next_35 : decode cX5_next 35 = .ok (.if_icmp .ne 16, 3) := by decide +kernel
theorem dX5_next_38 : decode cX5_next 38 = .ok (.aload_n 0, 1) := by decide +kernel
theorem dX5_next_39 : decode cX5_next 39 = .ok (.dup, 1) := by decide +kernel
theorem dX5_next_40 : decode cX5_next 40 = .ok (.getfield 30, 3) := by decide +kernel
theorem dX5_next_43 : decode cX5_next 43 = .ok (.iconst 1, 1) := by decide +kernel
theorem dX5_next_44 : decode cX5_next 44 = .ok (.iadd, 1) := by decide +kernel
theorem dX5_next_45 : decode cX5_next 45 = .ok (.putfield 30, 3) := by decide +kernel
theorem dX5_next_48 : decode cX5_next 48 = .ok (.goto (-40), 3) := by decide +kernel
theorem dX5_next_51 : decode cX5_next 51 = .ok (.aload_n 0, 1) := by decide +kernel
theorem dX5_next_52 : decode cX5_next 52 = .ok (.aload_n 0, 1) := by decide +kernel
theorem dX5_next_53 : decode cX5_next 53 = .ok (.getfield 30, 3) := by decide +kernel
theorem dX5_next_56 : decode cX5_next 56 = .ok (.putfield 19, 3) := by decide +kernel
theorem dX5_next_59 : decode cX5_next 59 = .ok (.aload_n 0, 1) := by decide +kernel
theorem dX5_next_60 : decode cX5_next 60 = .ok (.iconst 0, 1) := by decide +kernel
theorem dX5_next_61 : decode cX5_next 61 = .ok (.putfield 98, 3) := by decide +kernel
theorem dX5_next_64 : decode cX5_next 64 = .ok (.aload_n 0, 1) := by decide +kernel
theorem dX5_next_65 : decode cX5_next 65 = .ok (.aload_n 0, 1) := by decide +kernel
theorem dX5_next_66 : decode cX5_next 66 = .ok (.getfield 30, 3) := by decide +kernel
theorem dX5_next_69 : decode cX5_next 69 = .ok (.aload_n 0, 1) := by decide +kernel
theorem dX5_next_70 : decode cX5_next 70 = .ok (.getfield 9, 3) := by decide +kernel
theorem dX5_next_73 : decode cX5_next 73 = .ok (.getfield 101, 3) := by decide +kernel
theorem dX5_next_76 : decode cX5_next 76 = .ok (.if_icmp .ge 20, 3) := by decide +kernel
theorem dX5_next_79 : decode cX5_next 79 = .ok (.aload_n 0, 1) := by decide +kernel
theorem dX5_next_80 : decode cX5_next 80 = .ok (.getfield 9, 3) := by decide +kernel
theorem dX5_next_83 : decode cX5_next 83 = .ok (.aload_n 0, 1) := by decide +kernel
theorem dX5_next_84 : decode cX5_next 84 = .ok (.getfield 30, 3) := by decide +kernel
theorem dX5_next_87 : decode cX5_next 87 = .ok (.invokevirtual 106, 3) := by decide +kernel
theorem dX5_next_90 : decode cX5_next 90 = .ok (.invokestatic 109, 3) := by decide +kernel
theorem dX5_next_93 : decode cX5_next 93 = .ok (.goto 4, 3) := by decide +kernel
theorem dX5_next_96 : decode cX5_next 96 = .ok (.iconst 0, 1) := by decide +kernel
theorem dX5_next_97 : decode cX5_next 97 = .ok (.putfield 33, 3) := by decide +kernel
theorem dX5_next_100 : decode cX5_next 100 = .ok (.aload_n 0, 1) := by decide +kernel
theorem dX5_next_101 : decode cX5_next 101 = .ok (.getfield 33, 3) := by decide +kernel
theorem dX5_next_104 : decode cX5_next 104 = .ok (.iconst 3, 1) := by decide +kernel
theorem dX5_next_105 : decode cX5_next 105 = .ok (.if_icmp .eq 11, 3) := by decide +kernel
theorem dX5_next_108 : decode cX5_next 108 = .ok (.aload_n 0, 1) := by decide +kernel
theorem dX5_next_109 : decode cX5_next 109 = .ok (.getfield 33, 3) := by decide +kernel
theorem dX5_next_112 : decode cX5_next 112 = .ok (.iconst 4, 1) := by decide +kernel
theorem dX5_next_113 : decode cX5_next 113 = .ok (.if_icmp .ne 14, 3) := by decide +kernel
theorem dX5_next_116 : decode cX5_next 116 = .ok (.aload_n 0, 1) := by decide +kernel
theorem dX5_next_117 : decode cX5_next 117 = .ok (.dup, 1) := by decide +kernel
theorem dX5_next_118 : decode cX5_next 118 = .ok (.getfield 19, 3) := by decide +kernel
theorem dX5_next_121 : decode cX5_next 121 = .ok (.iconst 1, 1) := by decide +kernel
theorem dX5_next_122 : decode cX5_next 122 = .ok (.iadd, 1) := by decide +kernel
theorem dX5_next_123 : decode cX5_next 123 = .ok (.putfield 19, 3) := by decide +kernel
theorem dX5_next_126 : decode cX5_next 126 = .ok (.return_, 1) := by decide +kernel
theorem dX5_next_127 : decode cX5_next 127 = .ok (.aload_n 0, 1) := by decide +kernel
theorem dX5_next_128 : decode cX5_next 128 = .ok (.getfield 19, 3) := by decide +kernel
theorem dX5_next_131 : decode cX5_next 131 = .ok (.aload_n 0, 1) := by decide +kernel
theorem dX5_next_132 : decode cX5_next 132 = .ok (.getfield 9, 3) := by decide +kernel
theorem dX5_next_135 : decode cX5_next 135 = .ok (.getfield 101, 3) := by decide +kernel
theorem dX5_next_138 : decode cX5_next 138 = .ok (.if_icmp .ge 77, 3) := by decide +kernel
theorem dX5_next_141 : decode cX5_next 141 = .ok (.aload_n 0, 1) := by decide +kernel
theorem dX5_next_142 : decode cX5_next 142 = .ok (.getfield 9, 3) := by decide +kernel
theorem dX5_next_145 : decode cX5_next 145 = .ok (.aload_n 0, 1) := by decide +kernel
theorem dX5_next_146 : decode cX5_next 146 = .ok (.getfield 19, 3) := by decide +kernel
theorem dX5_next_149 : decode cX5_next 149 = .ok (.invokevirtual 106, 3) := by decide +kernel
theorem dX5_next_152 : decode cX5_next 152 = .ok (.invokestatic 109, 3) := by decide +kernel
theorem dX5_next_155 : decode cX5_next 155 = .ok (.aload_n 0, 1) := by decide +kernel
theorem dX5_next_156 : decode cX5_next 156 = .ok (.getfield 33, 3) := by decide +kernel
theorem dX5_next_159 : decode cX5_next 159 = .ok (.if_icmp .ne 56, 3) := by decide +kernel
theorem dX5_next_162 : decode cX5_next 162 = .ok (.aload_n 0, 1) := by decide +kernel
theorem dX5_next_163 : decode cX5_next 163 = .ok (.getfield 33, 3) := by decide +kernel
theorem dX5_next_166 : decode cX5_next 166 = .ok (.iconst 2, 1) := by decide +kernel
theorem dX5_next_167 : decode cX5_next 167 = .ok (.if_icmp .ne 35, 3) := by decide +kernel
theorem dX5_next_170 : decode cX5_next 170 = .ok (.aload_n 0, 1) := by decide +kernel
theorem dX5_next_171 : decode cX5_next 171 = .ok (.bipush 10, 2) := by decide +kernel
theorem dX5_next_173 : decode cX5_next 173 = .ok (.aload_n 0, 1) := by decide +kernel
theorem dX5_next_174 : decode cX5_next 174 = .ok (.getfield 98, 3) := by decide +kernel
theorem dX5_next_177 : decode cX5_next 177 = .ok (.imul, 1) := by decide +kernel
theorem dX5_next_178 : decode cX5_next 178 = .ok (.aload_n 0, 1) := by decide +kernel
theorem dX5_next_179 : decode cX5_next 179 = .ok (.getfield 9, 3) := by decide +kernel
theorem dX5_next_182 : decode cX5_next 182 = .ok (.aload_n 0, 1) := by decide +kernel
theorem dX5_next_183 : decode cX5_next 183 = .ok (.getfield 19, 3) := by decide +kernel
theorem dX5_next_186 : decode cX5_next 186 = .ok (.invokevirtual 106, 3) := by decide +kernel
theorem dX5_next_189 : decode cX5_next 189 = .ok (.bipush 48, 2) := by decide +kernel
theorem dX5_next_191 : decode cX5_next 191 = .ok (.isub, 1) := by decide +kernel
theorem dX5_next_192 : decode cX5_next 192 = .ok (.iadd, 1) := by decide +kernel
theorem dX5_next_193 : decode cX5_next 193 = .ok (.sipush 1000, 3) := by decide +kernel
theorem dX5_next_196 : decode cX5_next 196 = .ok (.invokestatic 112, 3) := by decide +kernel
theorem dX5_next_199 : decode cX5_next 199 = .ok (.putfield 98, 3) := by decide +kernel
theorem dX5_next_202 : decode cX5_next 202 = .ok (.aload_n 0, 1) := by decide +kernel
theorem dX5_next_203 : decode cX5_next 203 = .ok (.dup, 1) := by decide +kernel
theorem dX5_next_204 : decode cX5_next 204 = .ok (.getfield 19, 3) := by decide +kernel
theorem dX5_next_207 : decode cX5_next 207 = .ok (.iconst 1, 1) := by decide +kernel
theorem dX5_next_208 : decode cX5_next 208 = .ok (.iadd, 1) := by decide +kernel
theorem dX5_next_209 : decode cX5_next 209 = .ok (.putfield 19, 3) := by decide +kernel
theorem dX5_next_212 : decode cX5_next 212 = .ok (.goto (-85), 3) := by decide +kernel
theorem dX5_next_215 : decode cX5_next 215 = .ok (.return_, 1) := by decide +kernel
theorem dX5_sortOf_0 : decode cX5_sortOf 0 = .ok (.iload_n 0, 1) := by decide +kernel
theorem dX5_sortOf_1 : decode cX5_sortOf 1 = .ok (.bipush 97, 2) := by decide +kernel
theorem dX5_sortOf_3 : decode cX5_sortOf 3 = .ok (.if_icmp .lt 11, 3) := by decide +kernel
theorem dX5_sortOf_6 : decode cX5_sortOf 6 = .ok (.iload_n 0, 1) := by decide +kernel
theorem dX5_sortOf_7 : decode cX5_sortOf 7 = .ok (.bipush 122, 2) := by decide +kernel
theorem dX5_sortOf_9 : decode cX5_sortOf 9 = .ok (.if_icmp .gt 5, 3) := by decide +kernel
theorem dX5_sortOf_12 : decode cX5_sortOf 12 = .ok (.iconst 1, 1) := by decide +kernel
theorem dX5_sortOf_13 : decode cX5_sortOf 13 = .ok (.ireturn, 1) := by decide +kernel
theorem dX5_sortOf_14 : decode cX5_sortOf 14 = .ok (.iload_n 0, 1) := by decide +kernel
theorem dX5_sortOf_15 : decode cX5_sortOf 15 = .ok (.bipush 48, 2) := by decide +kernel
theorem dX5_sortOf_17 : decode cX5_sortOf 17 = .ok (.if_icmp .lt 11, 3) := by decide +kernel
theorem dX5_sortOf_20 : decode cX5_sortOf 20 = .ok (.iload_n 0, 1) := by decide +kernel
theorem dX5_sortOf_21 : decode cX5_sortOf 21 = .ok (.bipush 57, 2) := by decide +kernel
theorem dX5_sortOf_23 : decode cX5_sortOf 23 = .ok (.if_icmp .gt 5, 3) := by decide +kernel
theorem dX5_sortOf_26 : decode cX5_sortOf 26 = .ok (.iconst 2, 1) := by decide +kernel
theorem dX5_sortOf_27 : decode cX5_sortOf 27 = .ok (.ireturn, 1) := by decide +kernel
theorem dX5_sortOf_28 : decode cX5_sortOf 28 = .ok (.iload_n 0, 1) := by decide +kernel
theorem dX5_sortOf_29 : decode cX5_sortOf 29 = .ok (.bipush 59, 2) := by decide +kernel
theorem dX5_sortOf_31 : decode cX5_sortOf 31 = .ok (.if_icmp .ne 7, 3) := by decide +kernel
theorem dX5_sortOf_34 : decode cX5_sortOf 34 = .ok (.iconst 3, 1) := by decide +kernel
theorem dX5_sortOf_35 : decode cX5_sortOf 35 = .ok (.goto 4, 3) := by decide +kernel
theorem dX5_sortOf_38 : decode cX5_sortOf 38 = .ok (.iconst 4, 1) := by decide +kernel
theorem dX5_sortOf_39 : decode cX5_sortOf 39 = .ok (.ireturn, 1) := by decide +kernel
theorem dX5_isWord_0 : decode cX5_isWord 0 = .ok (.aload_n 1, 1) := by decide +kernel
theorem dX5_isWord_1 : decode cX5_isWord 1 = .ok (.invokevirtual 118, 3) := by decide +kernel
theorem dX5_isWord_4 : decode cX5_isWord 4 = .ok (.aload_n 0, 1) := by decide +kernel
theorem dX5_isWord_5 : decode cX5_isWord 5 = .ok (.getfield 19, 3) := by decide +kernel
theorem dX5_isWord_8 : decode cX5_isWord 8 = .ok (.aload_n 0, 1) := by decide +kernel
theorem dX5_isWord_9 : decode cX5_isWord 9 = .ok (.getfield 30, 3) := by decide +kernel
theorem dX5_isWord_12 : decode cX5_isWord 12 = .ok (.isub, 1) := by decide +kernel
theorem dX5_isWord_13 : decode cX5_isWord 13 = .ok (.if_icmp .eq 5, 3) := by decide +kernel
theorem dX5_isWord_16 : decode cX5_isWord 16 = .ok (.iconst 0, 1) := by decide +kernel
theorem dX5_isWord_17 : decode cX5_isWord 17 = .ok (.ireturn, 1) := by decide +kernel
theorem dX5_isWord_18 : decode cX5_isWord 18 = .ok (.iconst 0, 1) := by decide +kernel
theorem dX5_isWord_19 : decode cX5_isWord 19 = .ok (.istore_n 2, 1) := by decide +kernel
theorem dX5_isWord_20 : decode cX5_isWord 20 = .ok (.iload_n 2, 1) := by decide +kernel
theorem dX5_isWord_21 : decode cX5_isWord 21 = .ok (.aload_n 1, 1) := by decide +kernel
theorem dX5_isWord_22 : decode cX5_isWord 22 = .ok (.invokevirtual 118, 3) := by decide +kernel
theorem dX5_isWord_25 : decode cX5_isWord 25 = .ok (.if_icmp .ge 32, 3) := by decide +kernel
theorem dX5_isWord_28 : decode cX5_isWord 28 = .ok (.aload_n 1, 1) := by decide +kernel
theorem dX5_isWord_29 : decode cX5_isWord 29 = .ok (.iload_n 2, 1) := by decide +kernel
theorem dX5_isWord_30 : decode cX5_isWord 30 = .ok (.invokevirtual 123, 3) := by decide +kernel
theorem dX5_isWord_33 : decode cX5_isWord 33 = .ok (.aload_n 0, 1) := by decide +kernel
theorem dX5_isWord_34 : decode cX5_isWord 34 = .ok (.getfield 9, 3) := by decide +kernel
theorem dX5_isWord_37 : decode cX5_isWord 37 = .ok (.aload_n 0, 1) := by decide +kernel
theorem dX5_isWord_38 : decode cX5_isWord 38 = .ok (.getfield 30, 3) := by decide +kernel
theorem dX5_isWord_41 : decode cX5_isWord 41 = .ok (.iload_n 2, 1) := by decide +kernel
theorem dX5_isWord_42 : decode cX5_isWord 42 = .ok (.iadd, 1) := by decide +kernel
theorem dX5_isWord_43 : decode cX5_isWord 43 = .ok (.invokevirtual 106, 3) := by decide +kernel
theorem dX5_isWord_46 : decode cX5_isWord 46 = .ok (.if_icmp .eq 5, 3) := by decide +kernel
theorem dX5_isWord_49 : decode cX5_isWord 49 = .ok (.iconst 0, 1) := by decide +kernel
theorem dX5_isWord_50 : decode cX5_isWord 50 = .ok (.ireturn, 1) := by decide +kernel
theorem dX5_isWord_51 : decode cX5_isWord 51 = .ok (.iinc 2 1, 3) := by decide +kernel
theorem dX5_isWord_54 : decode cX5_isWord 54 = .ok (.goto (-34), 3) := by decide +kernel
theorem dX5_isWord_57 : decode cX5_isWord 57 = .ok (.iconst 1, 1) := by decide +kernel
theorem dX5_isWord_58 : decode cX5_isWord 58 = .ok (.ireturn, 1) := by decide +kernel
theorem dX6_init_0 : decode cX6_init 0 = .ok (.aload_n 0, 1) := by decide +kernel
theorem dX6_init_1 : decode cX6_init 1 = .ok (.invokespecial 3, 3) := by decide +kernel
theorem dX6_init_4 : decode cX6_init 4 = .ok (.aload_n 0, 1) := by decide +kernel
theorem dX6_init_5 : decode cX6_init 5 = .ok (.iconst 0, 1) := by decide +kernel
theorem dX6_init_6 : decode cX6_init 6 = .ok (.putfield 9, 3) := by decide +kernel
theorem dX6_init_9 : decode cX6_init 9 = .ok (.aload_n 0, 1) := by decide +kernel
theorem dX6_init_10 : decode cX6_init 10 = .ok (.iconst 0, 1) := by decide +kernel
theorem dX6_init_11 : decode cX6_init 11 = .ok (.putfield 15, 3) := by decide +kernel
theorem dX6_init_14 : decode cX6_init 14 = .ok (.aload_n 0, 1) := by decide +kernel
theorem dX6_init_15 : decode cX6_init 15 = .ok (.bipush 40, 2) := by decide +kernel
theorem dX6_init_17 : decode cX6_init 17 = .ok (.newarray .long, 2) := by decide +kernel
theorem dX6_init_19 : decode cX6_init 19 = .ok (.putfield 18, 3) := by decide +kernel
theorem dX6_init_22 : decode cX6_init 22 = .ok (.return_, 1) := by decide +kernel
theorem dX6_isMissing_0 : decode cX6_isMissing 0 = .ok (.aload_n 0, 1) := by decide +kernel
theorem dX6_isMissing_1 : decode cX6_isMissing 1 = .ok (.getfield 9, 3) := by decide +kernel
theorem dX6_isMissing_4 : decode cX6_isMissing 4 = .ok (.ifCond .ne 7, 3) := by decide +kernel
theorem dX6_isMissing_7 : decode cX6_isMissing 7 = .ok (.iconst 1, 1) := by decide +kernel
theorem dX6_isMissing_8 : decode cX6_isMissing 8 = .ok (.goto 4, 3) := by decide +kernel
theorem dX6_isMissing_11 : decode cX6_isMissing 11 = .ok (.iconst 0, 1) := by decide +kernel
theorem dX6_isMissing_12 : decode cX6_isMissing 12 = .ok (.ireturn, 1) := by decide +kernel
theorem dX6_lay_0 : decode cX6_lay 0 = .ok (.aload_n 0, 1) := by decide +kernel
theorem dX6_lay_1 : decode cX6_lay 1 = .ok (.iload_n 1, 1) := by decide +kernel
theorem dX6_lay_2 : decode cX6_lay 2 = .ok (.putfield 9, 3) := by decide +kernel
theorem dX6_lay_5 : decode cX6_lay 5 = .ok (.aload_n 0, 1) := by decide +kernel
theorem dX6_lay_6 : decode cX6_lay 6 = .ok (.iload_n 2, 1) := by decide +kernel
theorem dX6_lay_7 : decode cX6_lay 7 = .ok (.putfield 15, 3) := by decide +kernel
theorem dX6_lay_10 : decode cX6_lay 10 = .ok (.iconst 0, 1) := by decide +kernel
theorem dX6_lay_11 : decode cX6_lay 11 = .ok (.istore_n 3, 1) := by decide +kernel
theorem dX6_lay_12 : decode cX6_lay 12 = .ok (.iload_n 3, 1) := by decide +kernel
theorem dX6_lay_13 : decode cX6_lay 13 = .ok (.bipush 40, 2) := by decide +kernel
theorem dX6_lay_15 : decode cX6_lay 15 = .ok (.if_icmp .ge 16, 3) := by decide +kernel
theorem dX6_lay_18 : decode cX6_lay 18 = .ok (.aload_n 0, 1) := by decide +kernel
theorem dX6_lay_19 : decode cX6_lay 19 = .ok (.getfield 18, 3) := by decide +kernel
theorem dX6_lay_22 : decode cX6_lay 22 = .ok (.iload_n 3, 1) := by decide +kernel
theorem dX6_lay_23 : decode cX6_lay 23 = .ok (.lconst 0, 1) := by decide +kernel
theorem dX6_lay_24 : decode cX6_lay 24 = .ok (.lastore, 1) := by decide +kernel
theorem dX6_lay_25 : decode cX6_lay 25 = .ok (.iinc 3 1, 3) := by decide +kernel
theorem dX6_lay_28 : decode cX6_lay 28 = .ok (.goto (-16), 3) := by decide +kernel
theorem dX6_lay_31 : decode cX6_lay 31 = .ok (.return_, 1) := by decide +kernel
theorem dX6_has_0 : decode cX6_has 0 = .ok (.iload_n 1, 1) := by decide +kernel
theorem dX6_has_1 : decode cX6_has 1 = .ok (.ifCond .lt 21, 3) := by decide +kernel
theorem dX6_has_4 : decode cX6_has 4 = .ok (.iload_n 1, 1) := by decide +kernel
theorem dX6_has_5 : decode cX6_has 5 = .ok (.aload_n 0, 1) := by decide +kernel
theorem dX6_has_6 : decode cX6_has 6 = .ok (.getfield 15, 3) := by decide +kernel
theorem dX6_has_9 : decode cX6_has 9 = .ok (.if_icmp .ge 13, 3) := by decide +kernel
theorem dX6_has_12 : decode cX6_has 12 = .ok (.iload_n 1, 1) := by decide +kernel
theorem dX6_has_13 : decode cX6_has 13 = .ok (.bipush 40, 2) := by decide +kernel
theorem dX6_has_15 : decode cX6_has 15 = .ok (.if_icmp .ge 7, 3) := by decide +kernel
theorem dX6_has_18 : decode cX6_has 18 = .ok (.iconst 1, 1) := by decide +kernel
theorem dX6_has_19 : decode cX6_has 19 = .ok (.goto 4, 3) := by decide +kernel
theorem dX6_has_22 : decode cX6_has 22 = .ok (.iconst 0, 1) := by decide +kernel
theorem dX6_has_23 : decode cX6_has 23 = .ok (.ireturn, 1) := by decide +kernel
theorem dX6_hasRange_0 : decode cX6_hasRange 0 = .ok (.iload_n 1, 1) := by decide +kernel
theorem dX6_hasRange_1 : decode cX6_hasRange 1 = .ok (.ifCond .lt 29, 3) := by decide +kernel
theorem dX6_hasRange_4 : decode cX6_hasRange 4 = .ok (.iload_n 2, 1) := by decide +kernel
theorem dX6_hasRange_5 : decode cX6_hasRange 5 = .ok (.ifCond .lt 25, 3) := by decide +kernel
theorem dX6_hasRange_8 : decode cX6_hasRange 8 = .ok (.iload_n 2, 1) := by decide +kernel
theorem dX6_hasRange_9 : decode cX6_hasRange 9 = .ok (.aload_n 0, 1) := by decide +kernel
theorem dX6_hasRange_10 : decode cX6_hasRange 10 = .ok (.getfield 15, 3) := by decide +kernel
theorem dX6_hasRange_13 : decode cX6_hasRange 13 = .ok (.if_icmp .gt 17, 3) := by decide +kernel
theorem dX6_hasRange_16 : decode cX6_hasRange 16 = .ok (.iload_n 1, 1) := by decide +kernel
theorem dX6_hasRange_17 : decode cX6_hasRange 17 = .ok (.aload_n 0, 1) := by decide +kernel
theorem dX6_hasRange_18 : decode cX6_hasRange 18 = .ok (.getfield 15, 3) := by decide +kernel
theorem dX6_hasRange_21 : decode cX6_hasRange 21 = .ok (.iload_n 2, 1) := by decide +kernel
theorem dX6_hasRange_22 : decode cX6_hasRange 22 = .ok (.isub, 1) := by decide +kernel
theorem dX6_hasRange_23 : decode cX6_hasRange 23 = .ok (.if_icmp .gt 7, 3) := by decide +kernel
theorem dX6_hasRange_26 : decode cX6_hasRange 26 = .ok (.iconst 1, 1) := by decide +kernel
theorem dX6_hasRange_27 : decode cX6_hasRange 27 = .ok (.goto 4, 3) := by decide +kernel
theorem dX6_hasRange_30 : decode cX6_hasRange 30 = .ok (.iconst 0, 1) := by decide +kernel
theorem dX6_hasRange_31 : decode cX6_hasRange 31 = .ok (.ireturn, 1) := by decide +kernel
theorem dX6_at_0 : decode cX6_at 0 = .ok (.aload_n 0, 1) := by decide +kernel
theorem dX6_at_1 : decode cX6_at 1 = .ok (.iload_n 1, 1) := by decide +kernel
theorem dX6_at_2 : decode cX6_at 2 = .ok (.invokevirtual 22, 3) := by decide +kernel
theorem dX6_at_5 : decode cX6_at 5 = .ok (.ifCond .eq 12, 3) := by decide +kernel
theorem dX6_at_8 : decode cX6_at 8 = .ok (.aload_n 0, 1) := by decide +kernel
theorem dX6_at_9 : decode cX6_at 9 = .ok (.getfield 18, 3) := by decide +kernel
theorem dX6_at_12 : decode cX6_at 12 = .ok (.iload_n 1, 1) := by decide +kernel
theorem dX6_at_13 : decode cX6_at 13 = .ok (.laload, 1) := by decide +kernel
theorem dX6_at_14 : decode cX6_at 14 = .ok (.goto 4, 3) := by decide +kernel
theorem dX6_at_17 : decode cX6_at 17 = .ok (.lconst 0, 1) := by decide +kernel
theorem dX6_at_18 : decode cX6_at 18 = .ok (.lreturn, 1) := by decide +kernel
theorem dX6_put_0 : decode cX6_put 0 = .ok (.aload_n 0, 1) := by decide +kernel
theorem dX6_put_1 : decode cX6_put 1 = .ok (.iload_n 1, 1) := by decide +kernel
theorem dX6_put_2 : decode cX6_put 2 = .ok (.invokevirtual 22, 3) := by decide +kernel
theorem dX6_put_5 : decode cX6_put 5 = .ok (.ifCond .eq 42, 3) := by decide +kernel
theorem dX6_put_8 : decode cX6_put 8 = .ok (.aload_n 0, 1) := by decide +kernel
theorem dX6_put_9 : decode cX6_put 9 = .ok (.getfield 18, 3) := by decide +kernel
theorem dX6_put_12 : decode cX6_put 12 = .ok (.iload_n 1, 1) := by decide +kernel
theorem dX6_put_13 : decode cX6_put 13 = .ok (.aload_n 0, 1) := by decide +kernel
theorem dX6_put_14 : decode cX6_put 14 = .ok (.getfield 9, 3) := by decide +kernel
theorem dX6_put_17 : decode cX6_put 17 = .ok (.bipush 8, 2) := by decide +kernel
theorem dX6_put_19 : decode cX6_put 19 = .ok (.if_icmp .ne 10, 3) := by decide +kernel
theorem dX6_put_22 : decode cX6_put 22 = .ok (.lload_n 2, 1) := by decide +kernel
theorem dX6_put_23 : decode cX6_put 23 = .ok (.l2i, 1) := by decide +kernel
theorem dX6_put_24 : decode cX6_put 24 = .ok (.i2b, 1) := by decide +kernel
theorem dX6_put_25 : decode cX6_put 25 = .ok (.i2l, 1) := by decide +kernel
theorem dX6_put_26 : decode cX6_put 26 = .ok (.goto 20, 3) := by decide +kernel
theorem dX6_put_29 : decode cX6_put 29 = .ok (.aload_n 0, 1) := by decide +kernel
theorem dX6_put_30 : decode cX6_put 30 = .ok (.getfield 9, 3) := by decide +kernel
theorem dX6_put_33 : decode cX6_put 33 = .ok (.bipush 16, 2) := by decide +kernel
theorem dX6_put_35 : decode cX6_put 35 = .ok (.if_icmp .ne 10, 3) := by decide +kernel
theorem dX6_put_38 : decode cX6_put 38 = .ok (.lload_n 2, 1) := by decide +kernel
theorem dX6_put_39 : decode cX6_put 39 = .ok (.l2i, 1) := by decide +kernel
theorem dX6_put_40 : decode cX6_put 40 = .ok (.i2s, 1) := by decide +kernel
theorem dX6_put_41 : decode cX6_put 41 = .ok (.i2l, 1) := by decide +kernel
theorem dX6_put_42 : decode cX6_put 42 = .ok (.goto 4, 3) := by decide +kernel
theorem dX6_put_45 : decode cX6_put 45 = .ok (.lload_n 2, 1) := by decide +kernel
theorem dX6_put_46 : decode cX6_put 46 = .ok (.lastore, 1) := by decide +kernel
theorem dX6_put_47 : decode cX6_put 47 = .ok (.return_, 1) := by decide +kernel
theorem dX7_init_0 : decode cX7_init 0 = .ok (.aload_n 0, 1) := by decide +kernel
theorem dX7_init_1 : decode cX7_init 1 = .ok (.invokespecial 1, 3) := by decide +kernel
theorem dX7_init_4 : decode cX7_init 4 = .ok (.return_, 1) := by decide +kernel
theorem dX7_number_0 : decode cX7_number 0 = .ok (.iconst 0, 1) := by decide +kernel
theorem dX7_number_1 : decode cX7_number 1 = .ok (.ireturn, 1) := by decide +kernel
theorem dX7_title_0 : decode cX7_title 0 = .ok (.ldc 7, 2) := by decide +kernel
theorem dX7_title_2 : decode cX7_title 2 = .ok (.areturn, 1) := by decide +kernel
theorem dX7_isUnder_0 : decode cX7_isUnder 0 = .ok (.iload_n 1, 1) := by decide +kernel
theorem dX7_isUnder_1 : decode cX7_isUnder 1 = .ok (.ifCond .ne 7, 3) := by decide +kernel
theorem dX7_isUnder_4 : decode cX7_isUnder 4 = .ok (.iconst 1, 1) := by decide +kernel
theorem dX7_isUnder_5 : decode cX7_isUnder 5 = .ok (.goto 4, 3) := by decide +kernel
theorem dX7_isUnder_8 : decode cX7_isUnder 8 = .ok (.iconst 0, 1) := by decide +kernel
theorem dX7_isUnder_9 : decode cX7_isUnder 9 = .ok (.ireturn, 1) := by decide +kernel
theorem dX7_sees_0 : decode cX7_sees 0 = .ok (.iload_n 2, 1) := by decide +kernel
theorem dX7_sees_1 : decode cX7_sees 1 = .ok (.ifCond .eq 21, 3) := by decide +kernel
theorem dX7_sees_4 : decode cX7_sees 4 = .ok (.iload_n 3, 1) := by decide +kernel
theorem dX7_sees_5 : decode cX7_sees 5 = .ok (.ifCond .eq 13, 3) := by decide +kernel
theorem dX7_sees_8 : decode cX7_sees 8 = .ok (.iload_n 1, 1) := by decide +kernel
theorem dX7_sees_9 : decode cX7_sees 9 = .ok (.iload 4, 2) := by decide +kernel
theorem dX7_sees_11 : decode cX7_sees 11 = .ok (.if_icmp .gt 7, 3) := by decide +kernel
theorem dX7_sees_14 : decode cX7_sees 14 = .ok (.iconst 1, 1) := by decide +kernel
theorem dX7_sees_15 : decode cX7_sees 15 = .ok (.goto 17, 3) := by decide +kernel
theorem dX7_sees_18 : decode cX7_sees 18 = .ok (.iconst 0, 1) := by decide +kernel
theorem dX7_sees_19 : decode cX7_sees 19 = .ok (.goto 13, 3) := by decide +kernel
theorem dX7_sees_22 : decode cX7_sees 22 = .ok (.iload_n 1, 1) := by decide +kernel
theorem dX7_sees_23 : decode cX7_sees 23 = .ok (.iconst 3, 1) := by decide +kernel
theorem dX7_sees_24 : decode cX7_sees 24 = .ok (.if_icmp .gt 7, 3) := by decide +kernel
theorem dX7_sees_27 : decode cX7_sees 27 = .ok (.iconst 1, 1) := by decide +kernel
theorem dX7_sees_28 : decode cX7_sees 28 = .ok (.goto 4, 3) := by decide +kernel
theorem dX7_sees_31 : decode cX7_sees 31 = .ok (.iconst 0, 1) := by decide +kernel
theorem dX7_sees_32 : decode cX7_sees 32 = .ok (.ireturn, 1) := by decide +kernel
theorem dX7_speed_0 : decode cX7_speed 0 = .ok (.iconst 1, 1) := by decide +kernel
theorem dX7_speed_1 : decode cX7_speed 1 = .ok (.ireturn, 1) := by decide +kernel
theorem dX7_keepsOff_0 : decode cX7_keepsOff 0 = .ok (.iconst 1, 1) := by decide +kernel
theorem dX7_keepsOff_1 : decode cX7_keepsOff 1 = .ok (.ireturn, 1) := by decide +kernel
theorem dX7_stands_0 : decode cX7_stands 0 = .ok (.iconst 0, 1) := by decide +kernel
theorem dX7_stands_1 : decode cX7_stands 1 = .ok (.ireturn, 1) := by decide +kernel
theorem dX8_init_0 : decode cX8_init 0 = .ok (.aload_n 0, 1) := by decide +kernel
theorem dX8_init_1 : decode cX8_init 1 = .ok (.invokespecial 1, 3) := by decide +kernel
theorem dX8_init_4 : decode cX8_init 4 = .ok (.return_, 1) := by decide +kernel
theorem dX8_number_0 : decode cX8_number 0 = .ok (.iconst 1, 1) := by decide +kernel
theorem dX8_number_1 : decode cX8_number 1 = .ok (.ireturn, 1) := by decide +kernel
theorem dX8_title_0 : decode cX8_title 0 = .ok (.ldc 7, 2) := by decide +kernel
theorem dX8_title_2 : decode cX8_title 2 = .ok (.areturn, 1) := by decide +kernel
theorem dX8_isUnder_0 : decode cX8_isUnder 0 = .ok (.iload_n 1, 1) := by decide +kernel
theorem dX8_isUnder_1 : decode cX8_isUnder 1 = .ok (.iconst 1, 1) := by decide +kernel
theorem dX8_isUnder_2 : decode cX8_isUnder 2 = .ok (.if_icmp .eq 11, 3) := by decide +kernel
theorem dX8_isUnder_5 : decode cX8_isUnder 5 = .ok (.aload_n 0, 1) := by decide +kernel
theorem dX8_isUnder_6 : decode cX8_isUnder 6 = .ok (.iload_n 1, 1) := by decide +kernel
theorem dX8_isUnder_7 : decode cX8_isUnder 7 = .ok (.invokespecial 9, 3) := by decide +kernel
theorem dX8_isUnder_10 : decode cX8_isUnder 10 = .ok (.ifCond .eq 7, 3) := by decide +kernel
theorem dX8_isUnder_13 : decode cX8_isUnder 13 = .ok (.iconst 1, 1) := by decide +kernel
theorem dX8_isUnder_14 : decode cX8_isUnder 14 = .ok (.goto 4, 3) := by decide +kernel
theorem dX8_isUnder_17 : decode cX8_isUnder 17 = .ok (.iconst 0, 1) := by decide +kernel
theorem dX8_isUnder_18 : decode cX8_isUnder 18 = .ok (.ireturn, 1) := by decide +kernel
theorem dX8_sees_0 : decode cX8_sees 0 = .ok (.iload_n 1, 1) := by decide +kernel
theorem dX8_sees_1 : decode cX8_sees 1 = .ok (.iconst 1, 1) := by decide +kernel
theorem dX8_sees_2 : decode cX8_sees 2 = .ok (.if_icmp .eq 15, 3) := by decide +kernel
theorem dX8_sees_5 : decode cX8_sees 5 = .ok (.aload_n 0, 1) := by decide +kernel
theorem dX8_sees_6 : decode cX8_sees 6 = .ok (.iload_n 1, 1) := by decide +kernel
theorem dX8_sees_7 : decode cX8_sees 7 = .ok (.iload_n 2, 1) := by decide +kernel
theorem dX8_sees_8 : decode cX8_sees 8 = .ok (.iload_n 3, 1) := by decide +kernel
theorem dX8_sees_9 : decode cX8_sees 9 = .ok (.iload 4, 2) := by decide +kernel
theorem dX8_sees_11 : decode cX8_sees 11 = .ok (.invokespecial 13, 3) := by decide +kernel
theorem dX8_sees_14 : decode cX8_sees 14 = .ok (.ifCond .eq 7, 3) := by decide +kernel
theorem dX8_sees_17 : decode cX8_sees 17 = .ok (.iconst 1, 1) := by decide +kernel
theorem dX8_sees_18 : decode cX8_sees 18 = .ok (.goto 4, 3) := by decide +kernel
theorem dX8_sees_21 : decode cX8_sees 21 = .ok (.iconst 0, 1) := by decide +kernel
theorem dX8_sees_22 : decode cX8_sees 22 = .ok (.ireturn, 1) := by decide +kernel
theorem dX8_speed_0 : decode cX8_speed 0 = .ok (.aload_n 0, 1) := by decide +kernel
theorem dX8_speed_1 : decode cX8_speed 1 = .ok (.iload_n 1, 1) := by decide +kernel
theorem dX8_speed_2 : decode cX8_speed 2 = .ok (.iload_n 2, 1) := by decide +kernel
theorem dX8_speed_3 : decode cX8_speed 3 = .ok (.invokespecial 17, 3) := by decide +kernel
theorem dX8_speed_6 : decode cX8_speed 6 = .ok (.iconst 1, 1) := by decide +kernel
theorem dX8_speed_7 : decode cX8_speed 7 = .ok (.iadd, 1) := by decide +kernel
theorem dX8_speed_8 : decode cX8_speed 8 = .ok (.ireturn, 1) := by decide +kernel
theorem dX8_stands_0 : decode cX8_stands 0 = .ok (.iload_n 2, 1) := by decide +kernel
theorem dX8_stands_1 : decode cX8_stands 1 = .ok (.ifCond .eq 12, 3) := by decide +kernel
theorem dX8_stands_4 : decode cX8_stands 4 = .ok (.iload_n 1, 1) := by decide +kernel
theorem dX8_stands_5 : decode cX8_stands 5 = .ok (.iconst 1, 1) := by decide +kernel
theorem dX8_stands_6 : decode cX8_stands 6 = .ok (.if_icmp .ne 7, 3) := by decide +kernel
theorem dX8_stands_9 : decode cX8_stands 9 = .ok (.iconst 1, 1) := by decide +kernel
theorem dX8_stands_10 : decode cX8_stands 10 = .ok (.goto 4, 3) := by decide +kernel
theorem dX8_stands_13 : decode cX8_stands 13 = .ok (.iconst 0, 1) := by decide +kernel
theorem dX8_stands_14 : decode cX8_stands 14 = .ok (.ireturn, 1) := by decide +kernel
theorem dX9_init_0 : decode cX9_init 0 = .ok (.aload_n 0, 1) := by decide +kernel
theorem dX9_init_1 : decode cX9_init 1 = .ok (.invokespecial 3, 3) := by decide +kernel
theorem dX9_init_4 : decode cX9_init 4 = .ok (.aload_n 0, 1) := by decide +kernel
theorem dX9_init_5 : decode cX9_init 5 = .ok (.bipush 120, 2) := by decide +kernel
theorem dX9_init_7 : decode cX9_init 7 = .ok (.newarray .byte, 2) := by decide +kernel
theorem dX9_init_9 : decode cX9_init 9 = .ok (.putfield 9, 3) := by decide +kernel
theorem dX9_init_12 : decode cX9_init 12 = .ok (.aload_n 0, 1) := by decide +kernel
theorem dX9_init_13 : decode cX9_init 13 = .ok (.iconst 0, 1) := by decide +kernel
theorem dX9_init_14 : decode cX9_init 14 = .ok (.putfield 15, 3) := by decide +kernel
theorem dX9_init_17 : decode cX9_init 17 = .ok (.return_, 1) := by decide +kernel
theorem dX9_add_0 : decode cX9_add 0 = .ok (.aload_n 0, 1) := by decide +kernel
theorem dX9_add_1 : decode cX9_add 1 = .ok (.getfield 15, 3) := by decide +kernel
theorem dX9_add_4 : decode cX9_add 4 = .ok (.bipush 120, 2) := by decide +kernel
theorem dX9_add_6 : decode cX9_add 6 = .ok (.if_icmp .ge 23, 3) := by decide +kernel
theorem dX9_add_9 : decode cX9_add 9 = .ok (.aload_n 0, 1) := by decide +kernel
theorem dX9_add_10 : decode cX9_add 10 = .ok (.getfield 9, 3) := by decide +kernel
theorem dX9_add_13 : decode cX9_add 13 = .ok (.aload_n 0, 1) := by decide +kernel
theorem dX9_add_14 : decode cX9_add 14 = .ok (.getfield 15, 3) := by decide +kernel
theorem dX9_add_17 : decode cX9_add 17 = .ok (.iload_n 1, 1) := by decide +kernel
theorem dX9_add_18 : decode cX9_add 18 = .ok (.bastore, 1) := by decide +kernel
theorem dX9_add_19 : decode cX9_add 19 = .ok (.aload_n 0, 1) := by decide +kernel
theorem dX9_add_20 : decode cX9_add 20 = .ok (.dup, 1) := by decide +kernel
theorem dX9_add_21 : decode cX9_add 21 = .ok (.getfield 15, 3) := by decide +kernel
theorem dX9_add_24 : decode cX9_add 24 = .ok (.iconst 1, 1) := by decide +kernel
theorem dX9_add_25 : decode cX9_add 25 = .ok (.iadd, 1) := by decide +kernel
theorem dX9_add_26 : decode cX9_add 26 = .ok (.putfield 15, 3) := by decide +kernel
theorem dX9_add_29 : decode cX9_add 29 = .ok (.return_, 1) := by decide +kernel
theorem dX9_at_0 : decode cX9_at 0 = .ok (.iload_n 1, 1) := by decide +kernel
theorem dX9_at_1 : decode cX9_at 1 = .ok (.ifCond .lt 30, 3) := by decide +kernel
theorem dX9_at_4 : decode cX9_at 4 = .ok (.iload_n 1, 1) := by decide +kernel
theorem dX9_at_5 : decode cX9_at 5 = .ok (.aload_n 0, 1) := by decide +kernel
theorem dX9_at_6 : decode cX9_at 6 = .ok (.getfield 15, 3) := by decide +kernel
theorem dX9_at_9 : decode cX9_at 9 = .ok (.if_icmp .ge 22, 3) := by decide +kernel
theorem dX9_at_12 : decode cX9_at 12 = .ok (.iload_n 1, 1) := by decide +kernel
theorem dX9_at_13 : decode cX9_at 13 = .ok (.bipush 120, 2) := by decide +kernel
theorem dX9_at_15 : decode cX9_at 15 = .ok (.if_icmp .ge 16, 3) := by decide +kernel
theorem dX9_at_18 : decode cX9_at 18 = .ok (.aload_n 0, 1) := by decide +kernel
theorem dX9_at_19 : decode cX9_at 19 = .ok (.getfield 9, 3) := by decide +kernel
theorem dX9_at_22 : decode cX9_at 22 = .ok (.iload_n 1, 1) := by decide +kernel
theorem dX9_at_23 : decode cX9_at 23 = .ok (.baload, 1) := by decide +kernel
theorem dX9_at_24 : decode cX9_at 24 = .ok (.sipush 255, 3) := by decide +kernel
theorem dX9_at_27 : decode cX9_at 27 = .ok (.iand, 1) := by decide +kernel
theorem dX9_at_28 : decode cX9_at 28 = .ok (.goto 4, 3) := by decide +kernel
theorem dX9_at_31 : decode cX9_at 31 = .ok (.iconst 0, 1) := by decide +kernel
theorem dX9_at_32 : decode cX9_at 32 = .ok (.ireturn, 1) := by decide +kernel
theorem dX9_empty_0 : decode cX9_empty 0 = .ok (.aload_n 0, 1) := by decide +kernel
theorem dX9_empty_1 : decode cX9_empty 1 = .ok (.getfield 15, 3) := by decide +kernel
theorem dX9_empty_4 : decode cX9_empty 4 = .ok (.istore_n 1, 1) := by decide +kernel
theorem dX9_empty_5 : decode cX9_empty 5 = .ok (.aload_n 0, 1) := by decide +kernel
theorem dX9_empty_6 : decode cX9_empty 6 = .ok (.iconst 0, 1) := by decide +kernel
theorem dX9_empty_7 : decode cX9_empty 7 = .ok (.putfield 15, 3) := by decide +kernel
theorem dX9_empty_10 : decode cX9_empty 10 = .ok (.iload_n 1, 1) := by decide +kernel
theorem dX9_empty_11 : decode cX9_empty 11 = .ok (.ireturn, 1) := by decide +kernel
theorem dX10_init_0 : decode cX10_init 0 = .ok (.aload_n 0, 1) := by decide +kernel
theorem dX10_init_1 : decode cX10_init 1 = .ok (.invokespecial 3, 3) := by decide +kernel
theorem dX10_init_4 : decode cX10_init 4 = .ok (.aload_n 0, 1) := by decide +kernel
theorem dX10_init_5 : decode cX10_init 5 = .ok (.aload_n 1, 1) := by decide +kernel
theorem dX10_init_6 : decode cX10_init 6 = .ok (.putfield 9, 3) := by decide +kernel
theorem dX10_init_9 : decode cX10_init 9 = .ok (.return_, 1) := by decide +kernel
theorem dX10_begin_0 : decode cX10_begin 0 = .ok (.aload_n 0, 1) := by decide +kernel
theorem dX10_begin_1 : decode cX10_begin 1 = .ok (.aload_n 1, 1) := by decide +kernel
theorem dX10_begin_2 : decode cX10_begin 2 = .ok (.putfield 9, 3) := by decide +kernel
theorem dX10_begin_5 : decode cX10_begin 5 = .ok (.aload_n 0, 1) := by decide +kernel
theorem dX10_begin_6 : decode cX10_begin 6 = .ok (.iload_n 2, 1) := by decide +kernel
theorem dX10_begin_7 : decode cX10_begin 7 = .ok (.putfield 15, 3) := by decide +kernel
theorem dX10_begin_10 : decode cX10_begin 10 = .ok (.aload_n 0, 1) := by decide +kernel
theorem dX10_begin_11 : decode cX10_begin 11 = .ok (.iload_n 3, 1) := by decide +kernel
theorem dX10_begin_12 : decode cX10_begin 12 = .ok (.putfield 19, 3) := by decide +kernel
theorem dX10_begin_15 : decode cX10_begin 15 = .ok (.aload_n 0, 1) := by decide +kernel
theorem dX10_begin_16 : decode cX10_begin 16 = .ok (.iconst 0, 1) := by decide +kernel
theorem dX10_begin_17 : decode cX10_begin 17 = .ok (.putfield 22, 3) := by decide +kernel
theorem dX10_begin_20 : decode cX10_begin 20 = .ok (.aload_n 0, 1) := by decide +kernel
theorem dX10_begin_21 : decode cX10_begin 21 = .ok (.bipush 99, 2) := by decide +kernel
theorem dX10_begin_23 : decode cX10_begin 23 = .ok (.putfield 25, 3) := by decide +kernel
theorem dX10_begin_26 : decode cX10_begin 26 = .ok (.aload_n 0, 1) := by decide +kernel
theorem dX10_begin_27 : decode cX10_begin 27 = .ok (.iconst 0, 1) := by decide +kernel
theorem dX10_begin_28 : decode cX10_begin 28 = .ok (.putfield 28, 3) := by decide +kernel
theorem dX10_begin_31 : decode cX10_begin 31 = .ok (.aload_n 0, 1) := by decide +kernel
theorem dX10_begin_32 : decode cX10_begin 32 = .ok (.iconst 0, 1) := by decide +kernel
theorem dX10_begin_33 : decode cX10_begin 33 = .ok (.putfield 32, 3) := by decide +kernel
theorem dX10_begin_36 : decode cX10_begin 36 = .ok (.return_, 1) := by decide +kernel
theorem dX10_become_0 : decode cX10_become 0 = .ok (.aload_n 0, 1) := by decide +kernel
theorem dX10_become_1 : decode cX10_become 1 = .ok (.aload_n 1, 1) := by decide +kernel
theorem dX10_become_2 : decode cX10_become 2 = .ok (.getfield 9, 3) := by decide +kernel
theorem dX10_become_5 : decode cX10_become 5 = .ok (.putfield 9, 3) := by decide +kernel
theorem dX10_become_8 : decode cX10_become 8 = .ok (.aload_n 0, 1) := by decide +kernel
theorem dX10_become_9 : decode cX10_become 9 = .ok (.aload_n 1, 1) := by decide +kernel
theorem dX10_become_10 : decode cX10_become 10 = .ok (.getfield 15, 3) := by decide +kernel
theorem dX10_become_13 : decode cX10_become 13 = .ok (.putfield 15, 3) := by decide +kernel
theorem dX10_become_16 : decode cX10_become 16 = .ok (.aload_n 0, 1) := by decide +kernel
theorem dX10_become_17 : decode cX10_become 17 = .ok (.aload_n 1, 1) := by decide +kernel
theorem dX10_become_18 : decode cX10_become 18 = .ok (.getfield 19, 3) := by decide +kernel
theorem dX10_become_21 : decode cX10_become 21 = .ok (.putfield 19, 3) := by decide +kernel
theorem dX10_become_24 : decode cX10_become 24 = .ok (.aload_n 0, 1) := by decide +kernel
theorem dX10_become_25 : decode cX10_become 25 = .ok (.aload_n 1, 1) := by decide +kernel
theorem dX10_become_26 : decode cX10_become 26 = .ok (.getfield 22, 3) := by decide +kernel
theorem dX10_become_29 : decode cX10_become 29 = .ok (.putfield 22, 3) := by decide +kernel
theorem dX10_become_32 : decode cX10_become 32 = .ok (.aload_n 0, 1) := by decide +kernel
theorem dX10_become_33 : decode cX10_become 33 = .ok (.aload_n 1, 1) := by decide +kernel
theorem dX10_become_34 : decode cX10_become 34 = .ok (.getfield 25, 3) := by decide +kernel
theorem dX10_become_37 : decode cX10_become 37 = .ok (.putfield 25, 3) := by decide +kernel
theorem dX10_become_40 : decode cX10_become 40 = .ok (.aload_n 0, 1) := by decide +kernel
theorem dX10_become_41 : decode cX10_become 41 = .ok (.aload_n 1, 1) := by decide +kernel
theorem dX10_become_42 : decode cX10_become 42 = .ok (.getfield 28, 3) := by decide +kernel
theorem dX10_become_45 : decode cX10_become 45 = .ok (.putfield 28, 3) := by decide +kernel
theorem dX10_become_48 : decode cX10_become 48 = .ok (.aload_n 0, 1) := by decide +kernel
theorem dX10_become_49 : decode cX10_become 49 = .ok (.aload_n 1, 1) := by decide +kernel
theorem dX10_become_50 : decode cX10_become 50 = .ok (.getfield 32, 3) := by decide +kernel
theorem dX10_become_53 : decode cX10_become 53 = .ok (.putfield 32, 3) := by decide +kernel
theorem dX10_become_56 : decode cX10_become 56 = .ok (.return_, 1) := by decide +kernel
theorem dX10_isUnderWay_0 : decode cX10_isUnderWay 0 = .ok (.aload_n 0, 1) := by decide +kernel
theorem dX10_isUnderWay_1 : decode cX10_isUnderWay 1 = .ok (.getfield 28, 3) := by decide +kernel
theorem dX10_isUnderWay_4 : decode cX10_isUnderWay 4 = .ok (.ifCond .ne 14, 3) := by decide +kernel
theorem dX10_isUnderWay_7 : decode cX10_isUnderWay 7 = .ok (.aload_n 0, 1) := by decide +kernel
theorem dX10_isUnderWay_8 : decode cX10_isUnderWay 8 = .ok (.getfield 32, 3) := by decide +kernel
theorem dX10_isUnderWay_11 : decode cX10_isUnderWay 11 = .ok (.ifCond .ne 7, 3) := by decide +kernel
theorem dX10_isUnderWay_14 : decode cX10_isUnderWay 14 = .ok (.iconst 1, 1) := by decide +kernel
theorem dX10_isUnderWay_15 : decode cX10_isUnderWay 15 = .ok (.goto 4, 3) := by decide +kernel
theorem dX10_isUnderWay_18 : decode cX10_isUnderWay 18 = .ok (.iconst 0, 1) := by decide +kernel
theorem dX10_isUnderWay_19 : decode cX10_isUnderWay 19 = .ok (.ireturn, 1) := by decide +kernel
theorem dX10_figure_0 : decode cX10_figure 0 = .ok (.iload_n 1, 1) := by decide +kernel
theorem dX10_figure_1 : decode cX10_figure 1 = .ok (.tableswitch 75 1 6 #[39, 44, 49, 54, 59, 67], 39) := by decide +kernel
theorem dX10_figure_40 : decode cX10_figure 40 = .ok (.aload_n 0, 1) := by decide +kernel
theorem dX10_figure_41 : decode cX10_figure 41 = .ok (.getfield 15, 3) := by decide +kernel
theorem dX10_figure_44 : decode cX10_figure 44 = .ok (.ireturn, 1) := by decide +kernel
theorem dX10_figure_45 : decode cX10_figure 45 = .ok (.aload_n 0, 1) := by decide +kernel
theorem dX10_figure_46 : decode cX10_figure 46 = .ok (.getfield 19, 3) := by decide +kernel
theorem dX10_figure_49 : decode cX10_figure 49 = .ok (.ireturn, 1) := by decide +kernel
theorem dX10_figure_50 : decode cX10_figure 50 = .ok (.aload_n 0, 1) := by decide +kernel
theorem dX10_figure_51 : decode cX10_figure 51 = .ok (.getfield 22, 3) := by decide +kernel
theorem dX10_figure_54 : decode cX10_figure 54 = .ok (.ireturn, 1) := by decide +kernel
theorem dX10_figure_55 : decode cX10_figure 55 = .ok (.aload_n 0, 1) := by decide +kernel
theorem dX10_figure_56 : decode cX10_figure 56 = .ok (.getfield 25, 3) := by decide +kernel
theorem dX10_figure_59 : decode cX10_figure 59 = .ok (.ireturn, 1) := by decide +kernel
theorem dX10_figure_60 : decode cX10_figure 60 = .ok (.aload_n 0, 1) := by decide +kernel
theorem dX10_figure_61 : decode cX10_figure 61 = .ok (.getfield 28, 3) := by decide +kernel
theorem dX10_figure_64 : decode cX10_figure 64 = .ok (.invokestatic 35, 3) := by decide +kernel
theorem dX10_figure_67 : decode cX10_figure 67 = .ok (.ireturn, 1) := by decide +kernel
theorem dX10_figure_68 : decode cX10_figure 68 = .ok (.aload_n 0, 1) := by decide +kernel
theorem dX10_figure_69 : decode cX10_figure 69 = .ok (.getfield 32, 3) := by decide +kernel
theorem dX10_figure_72 : decode cX10_figure 72 = .ok (.invokestatic 35, 3) := by decide +kernel
theorem dX10_figure_75 : decode cX10_figure 75 = .ok (.ireturn, 1) := by decide +kernel
theorem dX10_figure_76 : decode cX10_figure 76 = .ok (.aload_n 0, 1) := by decide +kernel
theorem dX10_figure_77 : decode cX10_figure 77 = .ok (.getfield 9, 3) := by decide +kernel
theorem dX10_figure_80 : decode cX10_figure 80 = .ok (.invokevirtual 39, 3) := by decide +kernel
theorem dX10_figure_83 : decode cX10_figure 83 = .ok (.ireturn, 1) := by decide +kernel
theorem dX10_mostOf_0 : decode cX10_mostOf 0 = .ok (.iload_n 0, 1) := by decide +kernel
theorem dX10_mostOf_1 : decode cX10_mostOf 1 = .ok (.tableswitch 37 1 3 #[27, 30, 33], 27) := by decide +kernel
theorem dX10_mostOf_28 : decode cX10_mostOf 28 = .ok (.bipush 19, 2) := by decide +kernel
theorem dX10_mostOf_30 : decode cX10_mostOf 30 = .ok (.ireturn, 1) := by decide +kernel
theorem dX10_mostOf_31 : decode cX10_mostOf 31 = .ok (.bipush 9, 2) := by decide +kernel
theorem dX10_mostOf_33 : decode cX10_mostOf 33 = .ok (.ireturn, 1) := by decide +kernel
theorem dX10_mostOf_34 : decode cX10_mostOf 34 = .ok (.sipush 9999, 3) := by decide +kernel
theorem dX10_mostOf_37 : decode cX10_mostOf 37 = .ok (.ireturn, 1) := by decide +kernel
theorem dX10_mostOf_38 : decode cX10_mostOf 38 = .ok (.bipush 99, 2) := by decide +kernel
theorem dX10_mostOf_40 : decode cX10_mostOf 40 = .ok (.ireturn, 1) := by decide +kernel
theorem dX10_put_0 : decode cX10_put 0 = .ok (.iload_n 1, 1) := by decide +kernel
theorem dX10_put_1 : decode cX10_put 1 = .ok (.tableswitch 61 1 3 #[27, 45, 53], 27) := by decide +kernel
theorem dX10_put_28 : decode cX10_put 28 = .ok (.aload_n 0, 1) := by decide +kernel
theorem dX10_put_29 : decode cX10_put 29 = .ok (.iload_n 2, 1) := by decide +kernel
theorem dX10_put_30 : decode cX10_put 30 = .ok (.putfield 15, 3) := by decide +kernel
theorem dX10_put_33 : decode cX10_put 33 = .ok (.aload_n 0, 1) := by decide +kernel
theorem dX10_put_34 : decode cX10_put 34 = .ok (.iconst 0, 1) := by decide +kernel
theorem dX10_put_35 : decode cX10_put 35 = .ok (.putfield 28, 3) := by decide +kernel
theorem dX10_put_38 : decode cX10_put 38 = .ok (.aload_n 0, 1) := by decide +kernel
theorem dX10_put_39 : decode cX10_put 39 = .ok (.iconst 0, 1) := by decide +kernel
theorem dX10_put_40 : decode cX10_put 40 = .ok (.putfield 32, 3) := by decide +kernel
theorem dX10_put_43 : decode cX10_put 43 = .ok (.goto 24, 3) := by decide +kernel
theorem dX10_put_46 : decode cX10_put 46 = .ok (.aload_n 0, 1) := by decide +kernel
theorem dX10_put_47 : decode cX10_put 47 = .ok (.iload_n 2, 1) := by decide +kernel
theorem dX10_put_48 : decode cX10_put 48 = .ok (.putfield 19, 3) := by decide +kernel
theorem dX10_put_51 : decode cX10_put 51 = .ok (.goto 16, 3) := by decide +kernel
theorem dX10_put_54 : decode cX10_put 54 = .ok (.aload_n 0, 1) := by decide +kernel
theorem dX10_put_55 : decode cX10_put 55 = .ok (.iload_n 2, 1) := by decide +kernel
theorem dX10_put_56 : decode cX10_put 56 = .ok (.putfield 22, 3) := by decide +kernel
theorem dX10_put_59 : decode cX10_put 59 = .ok (.goto 8, 3) := by decide +kernel
theorem dX10_put_62 : decode cX10_put 62 = .ok (.aload_n 0, 1) := by decide +kernel
theorem dX10_put_63 : decode cX10_put 63 = .ok (.iload_n 2, 1) := by decide +kernel
theorem dX10_put_64 : decode cX10_put 64 = .ok (.putfield 25, 3) := by decide +kernel
theorem dX10_put_67 : decode cX10_put 67 = .ok (.return_, 1) := by decide +kernel
theorem dX10_pay_0 : decode cX10_pay 0 = .ok (.aload_n 0, 1) := by decide +kernel
theorem dX10_pay_1 : decode cX10_pay 1 = .ok (.aload_n 0, 1) := by decide +kernel
theorem dX10_pay_2 : decode cX10_pay 2 = .ok (.getfield 22, 3) := by decide +kernel
theorem dX10_pay_5 : decode cX10_pay 5 = .ok (.iconst 1, 1) := by decide +kernel
theorem dX10_pay_6 : decode cX10_pay 6 = .ok (.iadd, 1) := by decide +kernel
theorem dX10_pay_7 : decode cX10_pay 7 = .ok (.sipush 9999, 3) := by decide +kernel
theorem dX10_pay_10 : decode cX10_pay 10 = .ok (.invokestatic 45, 3) := by decide +kernel
theorem dX10_pay_13 : decode cX10_pay 13 = .ok (.putfield 22, 3) := by decide +kernel
theorem dX10_pay_16 : decode cX10_pay 16 = .ok (.return_, 1) := by decide +kernel
theorem dJ6_bitCount_0f7a4_0 : decode cJ6_bitCount_0f7a4 0 = .ok (.iload_n 0, 1) := by decide +kernel
theorem dJ6_bitCount_0f7a4_1 : decode cJ6_bitCount_0f7a4 1 = .ok (.iload_n 0, 1) := by decide +kernel
theorem dJ6_bitCount_0f7a4_2 : decode cJ6_bitCount_0f7a4 2 = .ok (.iconst 1, 1) := by decide +kernel
theorem dJ6_bitCount_0f7a4_3 : decode cJ6_bitCount_0f7a4 3 = .ok (.iushr, 1) := by decide +kernel
theorem dJ6_bitCount_0f7a4_4 : decode cJ6_bitCount_0f7a4 4 = .ok (.ldc_w 265, 3) := by decide +kernel
theorem dJ6_bitCount_0f7a4_7 : decode cJ6_bitCount_0f7a4 7 = .ok (.iand, 1) := by decide +kernel
theorem dJ6_bitCount_0f7a4_8 : decode cJ6_bitCount_0f7a4 8 = .ok (.isub, 1) := by decide +kernel
theorem dJ6_bitCount_0f7a4_9 : decode cJ6_bitCount_0f7a4 9 = .ok (.istore_n 0, 1) := by decide +kernel
theorem dJ6_bitCount_0f7a4_10 : decode cJ6_bitCount_0f7a4 10 = .ok (.iload_n 0, 1) := by decide +kernel
theorem dJ6_bitCount_0f7a4_11 : decode cJ6_bitCount_0f7a4 11 = .ok (.ldc_w 266, 3) := by decide +kernel
theorem dJ6_bitCount_0f7a4_14 : decode cJ6_bitCount_0f7a4 14 = .ok (.iand, 1) := by decide +kernel
theorem dJ6_bitCount_0f7a4_15 : decode cJ6_bitCount_0f7a4 15 = .ok (.iload_n 0, 1) := by decide +kernel
theorem dJ6_bitCount_0f7a4_16 : decode cJ6_bitCount_0f7a4 16 = .ok (.iconst 2, 1) := by decide +kernel
theorem dJ6_bitCount_0f7a4_17 : decode cJ6_bitCount_0f7a4 17 = .ok (.iushr, 1) := by decide +kernel
theorem dJ6_bitCount_0f7a4_18 : decode cJ6_bitCount_0f7a4 18 = .ok (.ldc_w 266, 3) := by decide +kernel
theorem dJ6_bitCount_0f7a4_21 : decode cJ6_bitCount_0f7a4 21 = .ok (.iand, 1) := by decide +kernel
theorem dJ6_bitCount_0f7a4_22 : decode cJ6_bitCount_0f7a4 22 = .ok (.iadd, 1) := by decide +kernel
theorem dJ6_bitCount_0f7a4_23 : decode cJ6_bitCount_0f7a4 23 = .ok (.istore_n 0, 1) := by decide +kernel
theorem dJ6_bitCount_0f7a4_24 : decode cJ6_bitCount_0f7a4 24 = .ok (.iload_n 0, 1) := by decide +kernel
theorem dJ6_bitCount_0f7a4_25 : decode cJ6_bitCount_0f7a4 25 = .ok (.iload_n 0, 1) := by decide +kernel
theorem dJ6_bitCount_0f7a4_26 : decode cJ6_bitCount_0f7a4 26 = .ok (.iconst 4, 1) := by decide +kernel
theorem dJ6_bitCount_0f7a4_27 : decode cJ6_bitCount_0f7a4 27 = .ok (.iushr, 1) := by decide +kernel
theorem dJ6_bitCount_0f7a4_28 : decode cJ6_bitCount_0f7a4 28 = .ok (.iadd, 1) := by decide +kernel
theorem dJ6_bitCount_0f7a4_29 : decode cJ6_bitCount_0f7a4 29 = .ok (.ldc_w 267, 3) := by decide +kernel
theorem dJ6_bitCount_0f7a4_32 : decode cJ6_bitCount_0f7a4 32 = .ok (.iand, 1) := by decide +kernel
theorem dJ6_bitCount_0f7a4_33 : decode cJ6_bitCount_0f7a4 33 = .ok (.istore_n 0, 1) := by decide +kernel
theorem dJ6_bitCount_0f7a4_34 : decode cJ6_bitCount_0f7a4 34 = .ok (.iload_n 0, 1) := by decide +kernel
theorem dJ6_bitCount_0f7a4_35 : decode cJ6_bitCount_0f7a4 35 = .ok (.iload_n 0, 1) := by decide +kernel
theorem dJ6_bitCount_0f7a4_36 : decode cJ6_bitCount_0f7a4 36 = .ok (.bipush 8, 2) := by decide +kernel
theorem dJ6_bitCount_0f7a4_38 : decode cJ6_bitCount_0f7a4 38 = .ok (.iushr, 1) := by decide +kernel
theorem dJ6_bitCount_0f7a4_39 : decode cJ6_bitCount_0f7a4 39 = .ok (.iadd, 1) := by decide +kernel
theorem dJ6_bitCount_0f7a4_40 : decode cJ6_bitCount_0f7a4 40 = .ok (.istore_n 0, 1) := by decide +kernel
theorem dJ6_bitCount_0f7a4_41 : decode cJ6_bitCount_0f7a4 41 = .ok (.iload_n 0, 1) := by decide +kernel
theorem dJ6_bitCount_0f7a4_42 : decode cJ6_bitCount_0f7a4 42 = .ok (.iload_n 0, 1) := by decide +kernel
theorem dJ6_bitCount_0f7a4_43 : decode cJ6_bitCount_0f7a4 43 = .ok (.bipush 16, 2) := by decide +kernel
theorem dJ6_bitCount_0f7a4_45 : decode cJ6_bitCount_0f7a4 45 = .ok (.iushr, 1) := by decide +kernel
theorem dJ6_bitCount_0f7a4_46 : decode cJ6_bitCount_0f7a4 46 = .ok (.iadd, 1) := by decide +kernel
theorem dJ6_bitCount_0f7a4_47 : decode cJ6_bitCount_0f7a4 47 = .ok (.istore_n 0, 1) := by decide +kernel
theorem dJ6_bitCount_0f7a4_48 : decode cJ6_bitCount_0f7a4 48 = .ok (.iload_n 0, 1) := by decide +kernel
theorem dJ6_bitCount_0f7a4_49 : decode cJ6_bitCount_0f7a4 49 = .ok (.bipush 63, 2) := by decide +kernel
theorem dJ6_bitCount_0f7a4_51 : decode cJ6_bitCount_0f7a4 51 = .ok (.iand, 1) := by decide +kernel
theorem dJ6_bitCount_0f7a4_52 : decode cJ6_bitCount_0f7a4 52 = .ok (.ireturn, 1) := by decide +kernel
theorem dJ9_abs_0f7a4_0 : decode cJ9_abs_0f7a4 0 = .ok (.iload_n 0, 1) := by decide +kernel
theorem dJ9_abs_0f7a4_1 : decode cJ9_abs_0f7a4 1 = .ok (.ifCond .ge 8, 3) := by decide +kernel
theorem dJ9_abs_0f7a4_4 : decode cJ9_abs_0f7a4 4 = .ok (.iload_n 0, 1) := by decide +kernel
theorem dJ9_abs_0f7a4_5 : decode cJ9_abs_0f7a4 5 = .ok (.ineg, 1) := by decide +kernel
theorem dJ9_abs_0f7a4_6 : decode cJ9_abs_0f7a4 6 = .ok (.goto 4, 3) := by decide +kernel
theorem dJ9_abs_0f7a4_9 : decode cJ9_abs_0f7a4 9 = .ok (.iload_n 0, 1) := by decide +kernel
theorem dJ9_abs_0f7a4_10 : decode cJ9_abs_0f7a4 10 = .ok (.ireturn, 1) := by decide +kernel
theorem dJ9_max_7cf53_0 : decode cJ9_max_7cf53 0 = .ok (.iload_n 0, 1) := by decide +kernel
theorem dJ9_max_7cf53_1 : decode cJ9_max_7cf53 1 = .ok (.iload_n 1, 1) := by decide +kernel
theorem dJ9_max_7cf53_2 : decode cJ9_max_7cf53 2 = .ok (.if_icmp .lt 7, 3) := by decide +kernel
theorem dJ9_max_7cf53_5 : decode cJ9_max_7cf53 5 = .ok (.iload_n 0, 1) := by decide +kernel
theorem dJ9_max_7cf53_6 : decode cJ9_max_7cf53 6 = .ok (.goto 4, 3) := by decide +kernel
theorem dJ9_max_7cf53_9 : decode cJ9_max_7cf53 9 = .ok (.iload_n 1, 1) := by decide +kernel
theorem dJ9_max_7cf53_10 : decode cJ9_max_7cf53 10 = .ok (.ireturn, 1) := by decide +kernel
theorem dJ9_min_7cf53_0 : decode cJ9_min_7cf53 0 = .ok (.iload_n 0, 1) := by decide +kernel
theorem dJ9_min_7cf53_1 : decode cJ9_min_7cf53 1 = .ok (.iload_n 1, 1) := by decide +kernel
theorem dJ9_min_7cf53_2 : decode cJ9_min_7cf53 2 = .ok (.if_icmp .gt 7, 3) := by decide +kernel
theorem dJ9_min_7cf53_5 : decode cJ9_min_7cf53 5 = .ok (.iload_n 0, 1) := by decide +kernel
theorem dJ9_min_7cf53_6 : decode cJ9_min_7cf53 6 = .ok (.goto 4, 3) := by decide +kernel
theorem dJ9_min_7cf53_9 : decode cJ9_min_7cf53 9 = .ok (.iload_n 1, 1) := by decide +kernel
theorem dJ9_min_7cf53_10 : decode cJ9_min_7cf53 10 = .ok (.ireturn, 1) := by decide +kernel
theorem dJ0_length_8abf5_0 : decode cJ0_length_8abf5 0 = .ok (.aload_n 0, 1) := by decide +kernel
theorem dJ0_length_8abf5_1 : decode cJ0_length_8abf5 1 = .ok (.getfield 9, 3) := by decide +kernel
theorem dJ0_length_8abf5_4 : decode cJ0_length_8abf5 4 = .ok (.arraylength, 1) := by decide +kernel
theorem dJ0_length_8abf5_5 : decode cJ0_length_8abf5 5 = .ok (.aload_n 0, 1) := by decide +kernel
theorem dJ0_length_8abf5_6 : decode cJ0_length_8abf5 6 = .ok (.invokevirtual 335, 3) := by decide +kernel
theorem dJ0_length_8abf5_9 : decode cJ0_length_8abf5 9 = .ok (.ishr, 1) := by decide +kernel
theorem dJ0_length_8abf5_10 : decode cJ0_length_8abf5 10 = .ok (.ireturn, 1) := by decide +kernel
theorem dJ0_charAt_5068e_0 : decode cJ0_charAt_5068e 0 = .ok (.aload_n 0, 1) := by decide +kernel
theorem dJ0_charAt_5068e_1 : decode cJ0_charAt_5068e 1 = .ok (.invokevirtual 492, 3) := by decide +kernel
theorem dJ0_charAt_5068e_4 : decode cJ0_charAt_5068e 4 = .ok (.ifCond .eq 12, 3) := by decide +kernel
theorem dJ0_charAt_5068e_7 : decode cJ0_charAt_5068e 7 = .ok (.aload_n 0, 1) := by decide +kernel
theorem dJ0_charAt_5068e_8 : decode cJ0_charAt_5068e 8 = .ok (.getfield 9, 3) := by decide +kernel
theorem dJ0_charAt_5068e_11 : decode cJ0_charAt_5068e 11 = .ok (.iload_n 1, 1) := by decide +kernel
theorem dJ0_charAt_5068e_12 : decode cJ0_charAt_5068e 12 = .ok (.invokestatic 495, 3) := by decide +kernel
theorem dJ0_charAt_5068e_15 : decode cJ0_charAt_5068e 15 = .ok (.ireturn, 1) := by decide +kernel
theorem dJ0_charAt_5068e_16 : decode cJ0_charAt_5068e 16 = .ok (.aload_n 0, 1) := by decide +kernel
theorem dJ0_charAt_5068e_17 : decode cJ0_charAt_5068e 17 = .ok (.getfield 9, 3) := by decide +kernel
theorem dJ0_charAt_5068e_20 : decode cJ0_charAt_5068e 20 = .ok (.iload_n 1, 1) := by decide +kernel
theorem dJ0_charAt_5068e_21 : decode cJ0_charAt_5068e 21 = .ok (.invokestatic 498, 3) := by decide +kernel
theorem dJ0_charAt_5068e_24 : decode cJ0_charAt_5068e 24 = .ok (.ireturn, 1) := by decide +kernel
theorem dJ0_coder_7d493_0 : decode cJ0_coder_7d493 0 = .ok (.getstatic 38, 3) := by decide +kernel
theorem dJ0_coder_7d493_3 : decode cJ0_coder_7d493 3 = .ok (.ifCond .eq 10, 3) := by decide +kernel
theorem dJ0_coder_7d493_6 : decode cJ0_coder_7d493 6 = .ok (.aload_n 0, 1) := by decide +kernel
theorem dJ0_coder_7d493_7 : decode cJ0_coder_7d493 7 = .ok (.getfield 15, 3) := by decide +kernel
theorem dJ0_coder_7d493_10 : decode cJ0_coder_7d493 10 = .ok (.goto 4, 3) := by decide +kernel
theorem dJ0_coder_7d493_13 : decode cJ0_coder_7d493 13 = .ok (.iconst 1, 1) := by decide +kernel
theorem dJ0_coder_7d493_14 : decode cJ0_coder_7d493 14 = .ok (.ireturn, 1) := by decide +kernel
theorem dJ0_isLatin1_aae02_0 : decode cJ0_isLatin1_aae02 0 = .ok (.getstatic 38, 3) := by decide +kernel
theorem dJ0_isLatin1_aae02_3 : decode cJ0_isLatin1_aae02 3 = .ok (.ifCond .eq 14, 3) := by decide +kernel
theorem dJ0_isLatin1_aae02_6 : decode cJ0_isLatin1_aae02 6 = .ok (.aload_n 0, 1) := by decide +kernel
theorem dJ0_isLatin1_aae02_7 : decode cJ0_isLatin1_aae02 7 = .ok (.getfield 15, 3) := by decide +kernel
theorem dJ0_isLatin1_aae02_10 : decode cJ0_isLatin1_aae02 10 = .ok (.ifCond .ne 7, 3) := by decide +kernel
theorem dJ0_isLatin1_aae02_13 : decode cJ0_isLatin1_aae02 13 = .ok (.iconst 1, 1) := by decide +kernel
theorem dJ0_isLatin1_aae02_14 : decode cJ0_isLatin1_aae02 14 = .ok (.goto 4, 3) := by decide +kernel
theorem dJ0_isLatin1_aae02_17 : decode cJ0_isLatin1_aae02 17 = .ok (.iconst 0, 1) := by decide +kernel
theorem dJ0_isLatin1_aae02_18 : decode cJ0_isLatin1_aae02 18 = .ok (.ireturn, 1) := by decide +kernel
theorem dJ0_checkIndex_df160_0 : decode cJ0_checkIndex_df160 0 = .ok (.iload_n 0, 1) := by decide +kernel
theorem dJ0_checkIndex_df160_1 : decode cJ0_checkIndex_df160 1 = .ok (.iload_n 1, 1) := by decide +kernel
theorem dJ0_checkIndex_df160_2 : decode cJ0_checkIndex_df160 2 = .ok (.getstatic 1053, 3) := by decide +kernel
theorem dJ0_checkIndex_df160_5 : decode cJ0_checkIndex_df160 5 = .ok (.invokestatic 1059, 3) := by decide +kernel
theorem dJ0_checkIndex_df160_8 : decode cJ0_checkIndex_df160 8 = .ok (.pop, 1) := by decide +kernel
theorem dJ0_checkIndex_df160_9 : decode cJ0_checkIndex_df160 9 = .ok (.return_, 1) := by decide +kernel
theorem dJ1_charAt_3b067_0 : decode cJ1_charAt_3b067 0 = .ok (.iload_n 1, 1) := by decide +kernel
theorem dJ1_charAt_3b067_1 : decode cJ1_charAt_3b067 1 = .ok (.aload_n 0, 1) := by decide +kernel
theorem dJ1_charAt_3b067_2 : decode cJ1_charAt_3b067 2 = .ok (.arraylength, 1) := by decide +kernel
theorem dJ1_charAt_3b067_3 : decode cJ1_charAt_3b067 3 = .ok (.invokestatic 9, 3) := by decide +kernel
theorem dJ1_charAt_3b067_6 : decode cJ1_charAt_3b067 6 = .ok (.aload_n 0, 1) := by decide +kernel
theorem dJ1_charAt_3b067_7 : decode cJ1_charAt_3b067 7 = .ok (.iload_n 1, 1) := by decide +kernel
theorem dJ1_charAt_3b067_8 : decode cJ1_charAt_3b067 8 = .ok (.baload, 1) := by decide +kernel
theorem dJ1_charAt_3b067_9 : decode cJ1_charAt_3b067 9 = .ok (.sipush 255, 3) := by decide +kernel
theorem dJ1_charAt_3b067_12 : decode cJ1_charAt_3b067 12 = .ok (.iand, 1) := by decide +kernel
theorem dJ1_charAt_3b067_13 : decode cJ1_charAt_3b067 13 = .ok (.i2c, 1) := by decide +kernel
theorem dJ1_charAt_3b067_14 : decode cJ1_charAt_3b067 14 = .ok (.ireturn, 1) := by decide +kernel
theorem dJ2_getChar_3b067_0 : decode cJ2_getChar_3b067 0 = .ok (.getstatic 44, 3) := by decide +kernel
theorem dJ2_getChar_3b067_3 : decode cJ2_getChar_3b067 3 = .ok (.ifCond .ne 25, 3) := by decide +kernel
theorem dJ2_getChar_3b067_6 : decode cJ2_getChar_3b067 6 = .ok (.iload_n 1, 1) := by decide +kernel
theorem dJ2_getChar_3b067_7 : decode cJ2_getChar_3b067 7 = .ok (.ifCond .lt 11, 3) := by decide +kernel
theorem dJ2_getChar_3b067_10 : decode cJ2_getChar_3b067 10 = .ok (.iload_n 1, 1) := by decide +kernel
theorem dJ2_getChar_3b067_11 : decode cJ2_getChar_3b067 11 = .ok (.aload_n 0, 1) := by decide +kernel
theorem dJ2_getChar_3b067_12 : decode cJ2_getChar_3b067 12 = .ok (.invokestatic 48, 3) := by decide +kernel
theorem dJ2_getChar_3b067_15 : decode cJ2_getChar_3b067 15 = .ok (.if_icmp .lt 13, 3) := by decide +kernel
theorem dJ2_getChar_3b067_18 : decode cJ2_getChar_3b067 18 = .ok (.new 52, 3) := by decide +kernel
theorem dJ2_getChar_3b067_21 : decode cJ2_getChar_3b067 21 = .ok (.dup, 1) := by decide +kernel
theorem dJ2_getChar_3b067_22 : decode cJ2_getChar_3b067 22 = .ok (.ldc 54, 2) := by decide +kernel
theorem dJ2_getChar_3b067_24 : decode cJ2_getChar_3b067 24 = .ok (.invokespecial 56, 3) := by decide +kernel
theorem dJ2_getChar_3b067_27 : decode cJ2_getChar_3b067 27 = .ok (.athrow, 1) := by decide +kernel
theorem dJ2_getChar_3b067_28 : decode cJ2_getChar_3b067 28 = .ok (.iload_n 1, 1) := by decide +kernel
theorem dJ2_getChar_3b067_29 : decode cJ2_getChar_3b067 29 = .ok (.iconst 1, 1) := by decide +kernel
theorem dJ2_getChar_3b067_30 : decode cJ2_getChar_3b067 30 = .ok (.ishl, 1) := by decide +kernel
theorem dJ2_getChar_3b067_31 : decode cJ2_getChar_3b067 31 = .ok (.istore_n 1, 1) := by decide +kernel
theorem dJ2_getChar_3b067_32 : decode cJ2_getChar_3b067 32 = .ok (.aload_n 0, 1) := by decide +kernel
theorem dJ2_getChar_3b067_33 : decode cJ2_getChar_3b067 33 = .ok (.iload_n 1, 1) := by decide +kernel
theorem dJ2_getChar_3b067_34 : decode cJ2_getChar_3b067 34 = .ok (.iinc 1 1, 3) := by decide +kernel
theorem dJ2_getChar_3b067_37 : decode cJ2_getChar_3b067 37 = .ok (.baload, 1) := by decide +kernel
theorem dJ2_getChar_3b067_38 : decode cJ2_getChar_3b067 38 = .ok (.sipush 255, 3) := by decide +kernel
theorem dJ2_getChar_3b067_41 : decode cJ2_getChar_3b067 41 = .ok (.iand, 1) := by decide +kernel
theorem dJ2_getChar_3b067_42 : decode cJ2_getChar_3b067 42 = .ok (.getstatic 59, 3) := by decide +kernel
theorem dJ2_getChar_3b067_45 : decode cJ2_getChar_3b067 45 = .ok (.ishl, 1) := by decide +kernel
theorem dJ2_getChar_3b067_46 : decode cJ2_getChar_3b067 46 = .ok (.aload_n 0, 1) := by decide +kernel
theorem dJ2_getChar_3b067_47 : decode cJ2_getChar_3b067 47 = .ok (.iload_n 1, 1) := by decide +kernel
theorem dJ2_getChar_3b067_48 : decode cJ2_getChar_3b067 48 = .ok (.baload, 1) := by decide +kernel
theorem dJ2_getChar_3b067_49 : decode cJ2_getChar_3b067 49 = .ok (.sipush 255, 3) := by decide +kernel
theorem dJ2_getChar_3b067_52 : decode cJ2_getChar_3b067 52 = .ok (.iand, 1) := by decide +kernel
theorem dJ2_getChar_3b067_53 : decode cJ2_getChar_3b067 53 = .ok (.getstatic 63, 3) := by decide +kernel
theorem dJ2_getChar_3b067_56 : decode cJ2_getChar_3b067 56 = .ok (.ishl, 1) := by decide +kernel
theorem dJ2_getChar_3b067_57 : decode cJ2_getChar_3b067 57 = .ok (.ior, 1) := by decide +kernel
theorem dJ2_getChar_3b067_58 : decode cJ2_getChar_3b067 58 = .ok (.i2c, 1) := by decide +kernel
theorem dJ2_getChar_3b067_59 : decode cJ2_getChar_3b067 59 = .ok (.ireturn, 1) := by decide +kernel
theorem dJ2_length_9d52b_0 : decode cJ2_length_9d52b 0 = .ok (.aload_n 0, 1) := by decide +kernel
theorem dJ2_length_9d52b_1 : decode cJ2_length_9d52b 1 = .ok (.arraylength, 1) := by decide +kernel
theorem dJ2_length_9d52b_2 : decode cJ2_length_9d52b 2 = .ok (.iconst 1, 1) := by decide +kernel
theorem dJ2_length_9d52b_3 : decode cJ2_length_9d52b 3 = .ok (.ishr, 1) := by decide +kernel
theorem dJ2_length_9d52b_4 : decode cJ2_length_9d52b 4 = .ok (.ireturn, 1) := by decide +kernel
theorem dJ2_charAt_3b067_0 : decode cJ2_charAt_3b067 0 = .ok (.iload_n 1, 1) := by decide +kernel
theorem dJ2_charAt_3b067_1 : decode cJ2_charAt_3b067 1 = .ok (.aload_n 0, 1) := by decide +kernel
theorem dJ2_charAt_3b067_2 : decode cJ2_charAt_3b067 2 = .ok (.invokestatic 67, 3) := by decide +kernel
theorem dJ2_charAt_3b067_5 : decode cJ2_charAt_3b067 5 = .ok (.aload_n 0, 1) := by decide +kernel
theorem dJ2_charAt_3b067_6 : decode cJ2_charAt_3b067 6 = .ok (.iload_n 1, 1) := by decide +kernel
theorem dJ2_charAt_3b067_7 : decode cJ2_charAt_3b067 7 = .ok (.invokestatic 71, 3) := by decide +kernel
theorem dJ2_charAt_3b067_10 : decode cJ2_charAt_3b067 10 = .ok (.ireturn, 1) := by decide +kernel
theorem dJ2_checkIndex_2214a_0 : decode cJ2_checkIndex_2214a 0 = .ok (.iload_n 0, 1) := by decide +kernel
theorem dJ2_checkIndex_2214a_1 : decode cJ2_checkIndex_2214a 1 = .ok (.aload_n 1, 1) := by decide +kernel
theorem dJ2_checkIndex_2214a_2 : decode cJ2_checkIndex_2214a 2 = .ok (.invokestatic 48, 3) := by decide +kernel
theorem dJ2_checkIndex_2214a_5 : decode cJ2_checkIndex_2214a 5 = .ok (.invokestatic 414, 3) := by decide +kernel
theorem dJ2_checkIndex_2214a_8 : decode cJ2_checkIndex_2214a 8 = .ok (.return_, 1) := by decide +kernel
theorem dJ3_checkIndex_8e157_0 : decode cJ3_checkIndex_8e157 0 = .ok (.iload_n 0, 1) := by decide +kernel
theorem dJ3_checkIndex_8e157_1 : decode cJ3_checkIndex_8e157 1 = .ok (.ifCond .lt 8, 3) := by decide +kernel
theorem dJ3_checkIndex_8e157_4 : decode cJ3_checkIndex_8e157 4 = .ok (.iload_n 0, 1) := by decide +kernel
theorem dJ3_checkIndex_8e157_5 : decode cJ3_checkIndex_8e157 5 = .ok (.iload_n 1, 1) := by decide +kernel
theorem dJ3_checkIndex_8e157_6 : decode cJ3_checkIndex_8e157 6 = .ok (.if_icmp .lt 10, 3) := by decide +kernel
theorem dJ3_checkIndex_8e157_9 : decode cJ3_checkIndex_8e157 9 = .ok (.aload_n 2, 1) := by decide +kernel
theorem dJ3_checkIndex_8e157_10 : decode cJ3_checkIndex_8e157 10 = .ok (.iload_n 0, 1) := by decide +kernel
theorem dJ3_checkIndex_8e157_11 : decode cJ3_checkIndex_8e157 11 = .ok (.iload_n 1, 1) := by decide +kernel
theorem dJ3_checkIndex_8e157_12 : decode cJ3_checkIndex_8e157 12 = .ok (.invokestatic 95, 3) := by decide +kernel
theorem dJ3_checkIndex_8e157_15 : decode cJ3_checkIndex_8e157 15 = .ok (.athrow, 1) := by decide +kernel
theorem dJ3_checkIndex_8e157_16 : decode cJ3_checkIndex_8e157 16 = .ok (.iload_n 0, 1) := by decide +kernel
theorem dJ3_checkIndex_8e157_17 : decode cJ3_checkIndex_8e157 17 = .ok (.ireturn, 1) := by decide +kernel
end
section
theorem dX11_init_0 : decode cX11_init 0 = .ok (.aload_n 0, 1) := by decide +kernel
theorem dX11_init_1 : decode cX11_init 1 = .ok (.invokespecial 3, 3) := by decide +kernel
theorem dX11_init_4 : decode cX11_init 4 = .ok (.aload_n 0, 1) := by decide +kernel
theorem dX11_init_5 : decode cX11_init 5 = .ok (.bipush 6, 2) := by decide +kernel
theorem dX11_init_7 : decode cX11_init 7 = .ok (.anewarray 9, 3) := by decide +kernel
theorem dX11_init_10 : decode cX11_init 10 = .ok (.dup, 1) := by decide +kernel
theorem dX11_init_11 : decode cX11_init 11 = .ok (.iconst 0, 1) := by decide +kernel
theorem dX11_init_12 : decode cX11_init 12 = .ok (.new 9, 3) := by decide +kernel
theorem dX11_init_15 : decode cX11_init 15 = .ok (.dup, 1) := by decide +kernel
theorem dX11_init_16 : decode cX11_init 16 = .ok (.invokespecial 11, 3) := by decide +kernel
theorem dX11_init_19 : decode cX11_init 19 = .ok (.aastore, 1) := by decide +kernel
theorem dX11_init_20 : decode cX11_init 20 = .ok (.dup, 1) := by decide +kernel
theorem dX11_init_21 : decode cX11_init 21 = .ok (.iconst 1, 1) := by decide +kernel
theorem dX11_init_22 : decode cX11_init 22 = .ok (.new 12, 3) := by decide +kernel
theorem dX11_init_25 : decode cX11_init 25 = .ok (.dup, 1) := by decide +kernel
theorem dX11_init_26 : decode cX11_init 26 = .ok (.invokespecial 14, 3) := by decide +kernel
theorem dX11_init_29 : decode cX11_init 29 = .ok (.aastore, 1) := by decide +kernel
theorem dX11_init_30 : decode cX11_init 30 = .ok (.dup, 1) := by decide +kernel
theorem dX11_init_31 : decode cX11_init 31 = .ok (.iconst 2, 1) := by decide +kernel
theorem dX11_init_32 : decode cX11_init 32 = .ok (.new 15, 3) := by decide +kernel
theorem dX11_init_35 : decode cX11_init 35 = .ok (.dup, 1) := by decide +kernel
theorem dX11_init_36 : decode cX11_init 36 = .ok (.invokespecial 17, 3) := by decide +kernel
theorem dX11_init_39 : decode cX11_init 39 = .ok (.aastore, 1) := by decide +kernel
theorem dX11_init_40 : decode cX11_init 40 = .ok (.dup, 1) := by decide +kernel
theorem dX11_init_41 : decode cX11_init 41 = .ok (.iconst 3, 1) := by decide +kernel
theorem dX11_init_42 : decode cX11_init 42 = .ok (.new 18, 3) := by decide +kernel
theorem dX11_init_45 : decode cX11_init 45 = .ok (.dup, 1) := by decide +kernel
theorem dX11_init_46 : decode cX11_init 46 = .ok (.invokespecial 20, 3) := by decide +kernel
theorem dX11_init_49 : decode cX11_init 49 = .ok (.aastore, 1) := by decide +kernel
theorem dX11_init_50 : decode cX11_init 50 = .ok (.dup, 1) := by decide +kernel
theorem dX11_init_51 : decode cX11_init 51 = .ok (.iconst 4, 1) := by decide +kernel
theorem dX11_init_52 : decode cX11_init 52 = .ok (.new 21, 3) := by decide +kernel
theorem dX11_init_55 : decode cX11_init 55 = .ok (.dup, 1) := by decide +kernel
theorem dX11_init_56 : decode cX11_init 56 = .ok (.invokespecial 23, 3) := by decide +kernel
theorem dX11_init_59 : decode cX11_init 59 = .ok (.aastore, 1) := by decide +kernel
theorem dX11_init_60 : decode cX11_init 60 = .ok (.dup, 1) := by decide +kernel
theorem dX11_init_61 : decode cX11_init 61 = .ok (.iconst 5, 1) := by decide +kernel
theorem dX11_init_62 : decode cX11_init 62 = .ok (.new 24, 3) := by decide +kernel
theorem dX11_init_65 : decode cX11_init 65 = .ok (.dup, 1) := by decide +kernel
theorem dX11_init_66 : decode cX11_init 66 = .ok (.invokespecial 26, 3) := by decide +kernel
theorem dX11_init_69 : decode cX11_init 69 = .ok (.aastore, 1) := by decide +kernel
theorem dX11_init_70 : decode cX11_init 70 = .ok (.putfield 27, 3) := by decide +kernel
theorem dX11_init_73 : decode cX11_init 73 = .ok (.aload_n 0, 1) := by decide +kernel
theorem dX11_init_74 : decode cX11_init 74 = .ok (.new 31, 3) := by decide +kernel
theorem dX11_init_77 : decode cX11_init 77 = .ok (.dup, 1) := by decide +kernel
theorem dX11_init_78 : decode cX11_init 78 = .ok (.aload_n 0, 1) := by decide +kernel
theorem dX11_init_79 : decode cX11_init 79 = .ok (.getfield 27, 3) := by decide +kernel
theorem dX11_init_82 : decode cX11_init 82 = .ok (.iconst 0, 1) := by decide +kernel
theorem dX11_init_83 : decode cX11_init 83 = .ok (.aaload, 1) := by decide +kernel
theorem dX11_init_84 : decode cX11_init 84 = .ok (.invokespecial 33, 3) := by decide +kernel
theorem dX11_init_87 : decode cX11_init 87 = .ok (.putfield 36, 3) := by decide +kernel
theorem dX11_init_90 : decode cX11_init 90 = .ok (.aload_n 0, 1) := by decide +kernel
theorem dX11_init_91 : decode cX11_init 91 = .ok (.new 31, 3) := by decide +kernel
theorem dX11_init_94 : decode cX11_init 94 = .ok (.dup, 1) := by decide +kernel
theorem dX11_init_95 : decode cX11_init 95 = .ok (.aload_n 0, 1) := by decide +kernel
theorem dX11_init_96 : decode cX11_init 96 = .ok (.getfield 27, 3) := by decide +kernel
theorem dX11_init_99 : decode cX11_init 99 = .ok (.iconst 0, 1) := by decide +kernel
theorem dX11_init_100 : decode cX11_init 100 = .ok (.aaload, 1) := by decide +kernel
theorem dX11_init_101 : decode cX11_init 101 = .ok (.invokespecial 33, 3) := by decide +kernel
theorem dX11_init_104 : decode cX11_init 104 = .ok (.putfield 40, 3) := by decide +kernel
theorem dX11_init_107 : decode cX11_init 107 = .ok (.aload_n 0, 1) := by decide +kernel
theorem dX11_init_108 : decode cX11_init 108 = .ok (.new 31, 3) := by decide +kernel
theorem dX11_init_111 : decode cX11_init 111 = .ok (.dup, 1) := by decide +kernel
theorem dX11_init_112 : decode cX11_init 112 = .ok (.aload_n 0, 1) := by decide +kernel
theorem dX11_init_113 : decode cX11_init 113 = .ok (.getfield 27, 3) := by decide +kernel
theorem dX11_init_116 : decode cX11_init 116 = .ok (.iconst 0, 1) := by decide +kernel
theorem dX11_init_117 : decode cX11_init 117 = .ok (.aaload, 1) := by decide +kernel
theorem dX11_init_118 : decode cX11_init 118 = .ok (.invokespecial 33, 3) := by decide +kernel
theorem dX11_init_121 : decode cX11_init 121 = .ok (.putfield 43, 3) := by decide +kernel
theorem dX11_init_124 : decode cX11_init 124 = .ok (.aload_n 0, 1) := by decide +kernel
theorem dX11_init_125 : decode cX11_init 125 = .ok (.iconst 0, 1) := by decide +kernel
theorem dX11_init_126 : decode cX11_init 126 = .ok (.putfield 46, 3) := by decide +kernel
theorem dX11_init_129 : decode cX11_init 129 = .ok (.aload_n 0, 1) := by decide +kernel
theorem dX11_init_130 : decode cX11_init 130 = .ok (.new 50, 3) := by decide +kernel
theorem dX11_init_133 : decode cX11_init 133 = .ok (.dup, 1) := by decide +kernel
theorem dX11_init_134 : decode cX11_init 134 = .ok (.invokespecial 52, 3) := by decide +kernel
theorem dX11_init_137 : decode cX11_init 137 = .ok (.putfield 53, 3) := by decide +kernel
theorem dX11_init_140 : decode cX11_init 140 = .ok (.aload_n 0, 1) := by decide +kernel
theorem dX11_init_141 : decode cX11_init 141 = .ok (.new 57, 3) := by decide +kernel
theorem dX11_init_144 : decode cX11_init 144 = .ok (.dup, 1) := by decide +kernel
theorem dX11_init_145 : decode cX11_init 145 = .ok (.aload_n 0, 1) := by decide +kernel
theorem dX11_init_146 : decode cX11_init 146 = .ok (.getfield 53, 3) := by decide +kernel
theorem dX11_init_149 : decode cX11_init 149 = .ok (.aload_n 0, 1) := by decide +kernel
theorem dX11_init_150 : decode cX11_init 150 = .ok (.getfield 27, 3) := by decide +kernel
theorem dX11_init_153 : decode cX11_init 153 = .ok (.invokespecial 59, 3) := by decide +kernel
theorem dX11_init_156 : decode cX11_init 156 = .ok (.putfield 62, 3) := by decide +kernel
theorem dX11_init_159 : decode cX11_init 159 = .ok (.aload_n 0, 1) := by decide +kernel
theorem dX11_init_160 : decode cX11_init 160 = .ok (.iconst 4, 1) := by decide +kernel
theorem dX11_init_161 : decode cX11_init 161 = .ok (.anewarray 66, 3) := by decide +kernel
theorem dX11_init_164 : decode cX11_init 164 = .ok (.dup, 1) := by decide +kernel
theorem dX11_init_165 : decode cX11_init 165 = .ok (.iconst 0, 1) := by decide +kernel
theorem dX11_init_166 : decode cX11_init 166 = .ok (.new 66, 3) := by decide +kernel
theorem dX11_init_169 : decode cX11_init 169 = .ok (.dup, 1) := by decide +kernel
theorem dX11_init_170 : decode cX11_init 170 = .ok (.invokespecial 68, 3) := by decide +kernel
theorem dX11_init_173 : decode cX11_init 173 = .ok (.aastore, 1) := by decide +kernel
theorem dX11_init_174 : decode cX11_init 174 = .ok (.dup, 1) := by decide +kernel
theorem dX11_init_175 : decode cX11_init 175 = .ok (.iconst 1, 1) := by decide +kernel
theorem dX11_init_176 : decode cX11_init 176 = .ok (.new 66, 3) := by decide +kernel
theorem dX11_init_179 : decode cX11_init 179 = .ok (.dup, 1) := by decide +kernel
theorem dX11_init_180 : decode cX11_init 180 = .ok (.invokespecial 68, 3) := by decide +kernel
theorem dX11_init_183 : decode cX11_init 183 = .ok (.aastore, 1) := by decide +kernel
theorem dX11_init_184 : decode cX11_init 184 = .ok (.dup, 1) := by decide +kernel
theorem dX11_init_185 : decode cX11_init 185 = .ok (.iconst 2, 1) := by decide +kernel
theorem dX11_init_186 : decode cX11_init 186 = .ok (.new 66, 3) := by decide +kernel
theorem dX11_init_189 : decode cX11_init 189 = .ok (.dup, 1) := by decide +kernel
theorem dX11_init_190 : decode cX11_init 190 = .ok (.invokespecial 68, 3) := by decide +kernel
theorem dX11_init_193 : decode cX11_init 193 = .ok (.aastore, 1) := by decide +kernel
theorem dX11_init_194 : decode cX11_init 194 = .ok (.dup, 1) := by decide +kernel
theorem dX11_init_195 : decode cX11_init 195 = .ok (.iconst 3, 1) := by decide +kernel
theorem dX11_init_196 : decode cX11_init 196 = .ok (.new 66, 3) := by decide +kernel
theorem dX11_init_199 : decode cX11_init 199 = .ok (.dup, 1) := by decide +kernel
theorem dX11_init_200 : decode cX11_init 200 = .ok (.invokespecial 68, 3) := by decide +kernel
theorem dX11_init_203 : decode cX11_init 203 = .ok (.aastore, 1) := by decide +kernel
theorem dX11_init_204 : decode cX11_init 204 = .ok (.putfield 69, 3) := by decide +kernel
theorem dX11_init_207 : decode cX11_init 207 = .ok (.aload_n 0, 1) := by decide +kernel
theorem dX11_init_208 : decode cX11_init 208 = .ok (.bipush 7, 2) := by decide +kernel
theorem dX11_init_210 : decode cX11_init 210 = .ok (.newarray .int, 2) := by decide +kernel
theorem dX11_init_212 : decode cX11_init 212 = .ok (.putfield 73, 3) := by decide +kernel
theorem dX11_init_215 : decode cX11_init 215 = .ok (.return_, 1) := by decide +kernel
theorem dX11_tower_0 : decode cX11_tower 0 = .ok (.iload_n 1, 1) := by decide +kernel
theorem dX11_tower_1 : decode cX11_tower 1 = .ok (.iconst 0, 1) := by decide +kernel
theorem dX11_tower_2 : decode cX11_tower 2 = .ok (.bipush 19, 2) := by decide +kernel
theorem dX11_tower_4 : decode cX11_tower 4 = .ok (.invokestatic 77, 3) := by decide +kernel
theorem dX11_tower_7 : decode cX11_tower 7 = .ok (.ifCond .eq 13, 3) := by decide +kernel
theorem dX11_tower_10 : decode cX11_tower 10 = .ok (.iload_n 2, 1) := by decide +kernel
theorem dX11_tower_11 : decode cX11_tower 11 = .ok (.iconst 0, 1) := by decide +kernel
theorem dX11_tower_12 : decode cX11_tower 12 = .ok (.bipush 9, 2) := by decide +kernel
theorem dX11_tower_14 : decode cX11_tower 14 = .ok (.invokestatic 77, 3) := by decide +kernel
theorem dX11_tower_17 : decode cX11_tower 17 = .ok (.ifCond .ne 10, 3) := by decide +kernel
theorem dX11_tower_20 : decode cX11_tower 20 = .ok (.aload_n 0, 1) := by decide +kernel
theorem dX11_tower_21 : decode cX11_tower 21 = .ok (.ldc 81, 2) := by decide +kernel
theorem dX11_tower_23 : decode cX11_tower 23 = .ok (.invokevirtual 82, 3) := by decide +kernel
theorem dX11_tower_26 : decode cX11_tower 26 = .ok (.ireturn, 1) := by decide +kernel
theorem dX11_tower_27 : decode cX11_tower 27 = .ok (.aload_n 0, 1) := by decide +kernel
theorem dX11_tower_28 : decode cX11_tower 28 = .ok (.getfield 36, 3) := by decide +kernel
theorem dX11_tower_31 : decode cX11_tower 31 = .ok (.invokevirtual 86, 3) := by decide +kernel
theorem dX11_tower_34 : decode cX11_tower 34 = .ok (.istore_n 3, 1) := by decide +kernel
theorem dX11_tower_35 : decode cX11_tower 35 = .ok (.aload_n 0, 1) := by decide +kernel
theorem dX11_tower_36 : decode cX11_tower 36 = .ok (.getfield 36, 3) := by decide +kernel
theorem dX11_tower_39 : decode cX11_tower 39 = .ok (.iload_n 1, 1) := by decide +kernel
theorem dX11_tower_40 : decode cX11_tower 40 = .ok (.putfield 90, 3) := by decide +kernel
theorem dX11_tower_43 : decode cX11_tower 43 = .ok (.aload_n 0, 1) := by decide +kernel
theorem dX11_tower_44 : decode cX11_tower 44 = .ok (.getfield 36, 3) := by decide +kernel
theorem dX11_tower_47 : decode cX11_tower 47 = .ok (.iload_n 2, 1) := by decide +kernel
theorem dX11_tower_48 : decode cX11_tower 48 = .ok (.putfield 94, 3) := by decide +kernel
theorem dX11_tower_51 : decode cX11_tower 51 = .ok (.iload_n 3, 1) := by decide +kernel
theorem dX11_tower_52 : decode cX11_tower 52 = .ok (.ireturn, 1) := by decide +kernel
theorem dX11_lamp_0 : decode cX11_lamp 0 = .ok (.iload_n 1, 1) := by decide +kernel
theorem dX11_lamp_1 : decode cX11_lamp 1 = .ok (.iconst 0, 1) := by decide +kernel
theorem dX11_lamp_2 : decode cX11_lamp 2 = .ok (.sipush 4095, 3) := by decide +kernel
theorem dX11_lamp_5 : decode cX11_lamp 5 = .ok (.invokestatic 77, 3) := by decide +kernel
theorem dX11_lamp_8 : decode cX11_lamp 8 = .ok (.ifCond .ne 10, 3) := by decide +kernel
theorem dX11_lamp_11 : decode cX11_lamp 11 = .ok (.aload_n 0, 1) := by decide +kernel
theorem dX11_lamp_12 : decode cX11_lamp 12 = .ok (.ldc 81, 2) := by decide +kernel
theorem dX11_lamp_14 : decode cX11_lamp 14 = .ok (.invokevirtual 82, 3) := by decide +kernel
theorem dX11_lamp_17 : decode cX11_lamp 17 = .ok (.ireturn, 1) := by decide +kernel
theorem dX11_lamp_18 : decode cX11_lamp 18 = .ok (.aload_n 0, 1) := by decide +kernel
theorem dX11_lamp_19 : decode cX11_lamp 19 = .ok (.getfield 36, 3) := by decide +kernel
theorem dX11_lamp_22 : decode cX11_lamp 22 = .ok (.getfield 97, 3) := by decide +kernel
theorem dX11_lamp_25 : decode cX11_lamp 25 = .ok (.istore_n 2, 1) := by decide +kernel
theorem dX11_lamp_26 : decode cX11_lamp 26 = .ok (.aload_n 0, 1) := by decide +kernel
theorem dX11_lamp_27 : decode cX11_lamp 27 = .ok (.getfield 36, 3) := by decide +kernel
theorem dX11_lamp_30 : decode cX11_lamp 30 = .ok (.iload_n 1, 1) := by decide +kernel
theorem dX11_lamp_31 : decode cX11_lamp 31 = .ok (.putfield 97, 3) := by decide +kernel
theorem dX11_lamp_34 : decode cX11_lamp 34 = .ok (.iload_n 2, 1) := by decide +kernel
theorem dX11_lamp_35 : decode cX11_lamp 35 = .ok (.ireturn, 1) := by decide +kernel
theorem dX11_reach_0 : decode cX11_reach 0 = .ok (.iload_n 1, 1) := by decide +kernel
theorem dX11_reach_1 : decode cX11_reach 1 = .ok (.iconst 0, 1) := by decide +kernel
theorem dX11_reach_2 : decode cX11_reach 2 = .ok (.bipush 9, 2) := by decide +kernel
theorem dX11_reach_4 : decode cX11_reach 4 = .ok (.invokestatic 77, 3) := by decide +kernel
theorem dX11_reach_7 : decode cX11_reach 7 = .ok (.ifCond .ne 10, 3) := by decide +kernel
theorem dX11_reach_10 : decode cX11_reach 10 = .ok (.aload_n 0, 1) := by decide +kernel
theorem dX11_reach_11 : decode cX11_reach 11 = .ok (.ldc 81, 2) := by decide +kernel
theorem dX11_reach_13 : decode cX11_reach 13 = .ok (.invokevirtual 82, 3) := by decide +kernel
theorem dX11_reach_16 : decode cX11_reach 16 = .ok (.ireturn, 1) := by decide +kernel
theorem dX11_reach_17 : decode cX11_reach 17 = .ok (.aload_n 0, 1) := by decide +kernel
theorem dX11_reach_18 : decode cX11_reach 18 = .ok (.getfield 36, 3) := by decide +kernel
theorem dX11_reach_21 : decode cX11_reach 21 = .ok (.getfield 100, 3) := by decide +kernel
theorem dX11_reach_24 : decode cX11_reach 24 = .ok (.istore_n 2, 1) := by decide +kernel
theorem dX11_reach_25 : decode cX11_reach 25 = .ok (.aload_n 0, 1) := by decide +kernel
theorem dX11_reach_26 : decode cX11_reach 26 = .ok (.getfield 36, 3) := by decide +kernel
theorem dX11_reach_29 : decode cX11_reach 29 = .ok (.iload_n 1, 1) := by decide +kernel
theorem dX11_reach_30 : decode cX11_reach 30 = .ok (.putfield 100, 3) := by decide +kernel
theorem dX11_reach_33 : decode cX11_reach 33 = .ok (.iload_n 2, 1) := by decide +kernel
theorem dX11_reach_34 : decode cX11_reach 34 = .ok (.ireturn, 1) := by decide +kernel
theorem dX11_now_0 : decode cX11_now 0 = .ok (.iload_n 1, 1) := by decide +kernel
theorem dX11_now_1 : decode cX11_now 1 = .ok (.tableswitch 117 0 7 #[47, 55, 63, 74, 85, 93, 101, 109], 47) := by decide +kernel
theorem dX11_now_48 : decode cX11_now 48 = .ok (.aload_n 0, 1) := by decide +kernel
theorem dX11_now_49 : decode cX11_now 49 = .ok (.getfield 36, 3) := by decide +kernel
theorem dX11_now_52 : decode cX11_now 52 = .ok (.getfield 103, 3) := by decide +kernel
theorem dX11_now_55 : decode cX11_now 55 = .ok (.ireturn, 1) := by decide +kernel
theorem dX11_now_56 : decode cX11_now 56 = .ok (.aload_n 0, 1) := by decide +kernel
theorem dX11_now_57 : decode cX11_now 57 = .ok (.getfield 36, 3) := by decide +kernel
theorem dX11_now_60 : decode cX11_now 60 = .ok (.invokevirtual 106, 3) := by decide +kernel
theorem dX11_now_63 : decode cX11_now 63 = .ok (.ireturn, 1) := by decide +kernel
theorem dX11_now_64 : decode cX11_now 64 = .ok (.aload_n 0, 1) := by decide +kernel
theorem dX11_now_65 : decode cX11_now 65 = .ok (.getfield 36, 3) := by decide +kernel
theorem dX11_now_68 : decode cX11_now 68 = .ok (.invokevirtual 109, 3) := by decide +kernel
theorem dX11_now_71 : decode cX11_now 71 = .ok (.invokestatic 113, 3) := by decide +kernel
theorem dX11_now_74 : decode cX11_now 74 = .ok (.ireturn, 1) := by decide +kernel
theorem dX11_now_75 : decode cX11_now 75 = .ok (.aload_n 0, 1) := by decide +kernel
theorem dX11_now_76 : decode cX11_now 76 = .ok (.getfield 36, 3) := by decide +kernel
theorem dX11_now_79 : decode cX11_now 79 = .ok (.invokevirtual 117, 3) := by decide +kernel
theorem dX11_now_82 : decode cX11_now 82 = .ok (.invokestatic 113, 3) := by decide +kernel
theorem dX11_now_85 : decode cX11_now 85 = .ok (.ireturn, 1) := by decide +kernel
theorem dX11_now_86 : decode cX11_now 86 = .ok (.aload_n 0, 1) := by decide +kernel
theorem dX11_now_87 : decode cX11_now 87 = .ok (.getfield 36, 3) := by decide +kernel
theorem dX11_now_90 : decode cX11_now 90 = .ok (.invokevirtual 86, 3) := by decide +kernel
theorem dX11_now_93 : decode cX11_now 93 = .ok (.ireturn, 1) := by decide +kernel
theorem dX11_now_94 : decode cX11_now 94 = .ok (.aload_n 0, 1) := by decide +kernel
theorem dX11_now_95 : decode cX11_now 95 = .ok (.getfield 36, 3) := by decide +kernel
theorem dX11_now_98 : decode cX11_now 98 = .ok (.getfield 100, 3) := by decide +kernel
theorem dX11_now_101 : decode cX11_now 101 = .ok (.ireturn, 1) := by decide +kernel
theorem dX11_now_102 : decode cX11_now 102 = .ok (.aload_n 0, 1) := by decide +kernel
theorem dX11_now_103 : decode cX11_now 103 = .ok (.getfield 36, 3) := by decide +kernel
theorem dX11_now_106 : decode cX11_now 106 = .ok (.invokevirtual 120, 3) := by decide +kernel
theorem dX11_now_109 : decode cX11_now 109 = .ok (.ireturn, 1) := by decide +kernel
theorem dX11_now_110 : decode cX11_now 110 = .ok (.aload_n 0, 1) := by decide +kernel
theorem dX11_now_111 : decode cX11_now 111 = .ok (.getfield 36, 3) := by decide +kernel
theorem dX11_now_114 : decode cX11_now 114 = .ok (.invokevirtual 123, 3) := by decide +kernel
theorem dX11_now_117 : decode cX11_now 117 = .ok (.ireturn, 1) := by decide +kernel
theorem dX11_now_118 : decode cX11_now 118 = .ok (.aload_n 0, 1) := by decide +kernel
theorem dX11_now_119 : decode cX11_now 119 = .ok (.ldc 81, 2) := by decide +kernel
theorem dX11_now_121 : decode cX11_now 121 = .ok (.invokevirtual 82, 3) := by decide +kernel
theorem dX11_now_124 : decode cX11_now 124 = .ok (.ireturn, 1) := by decide +kernel
theorem dX11_ship_0 : decode cX11_ship 0 = .ok (.iload_n 1, 1) := by decide +kernel
theorem dX11_ship_1 : decode cX11_ship 1 = .ok (.invokestatic 126, 3) := by decide +kernel
theorem dX11_ship_4 : decode cX11_ship 4 = .ok (.ifCond .eq 13, 3) := by decide +kernel
theorem dX11_ship_7 : decode cX11_ship 7 = .ok (.iload_n 2, 1) := by decide +kernel
theorem dX11_ship_8 : decode cX11_ship 8 = .ok (.iconst 0, 1) := by decide +kernel
theorem dX11_ship_9 : decode cX11_ship 9 = .ok (.bipush 9, 2) := by decide +kernel
theorem dX11_ship_11 : decode cX11_ship 11 = .ok (.invokestatic 77, 3) := by decide +kernel
theorem dX11_ship_14 : decode cX11_ship 14 = .ok (.ifCond .ne 10, 3) := by decide +kernel
theorem dX11_ship_17 : decode cX11_ship 17 = .ok (.aload_n 0, 1) := by decide +kernel
theorem dX11_ship_18 : decode cX11_ship 18 = .ok (.ldc 81, 2) := by decide +kernel
theorem dX11_ship_20 : decode cX11_ship 20 = .ok (.invokevirtual 82, 3) := by decide +kernel
theorem dX11_ship_23 : decode cX11_ship 23 = .ok (.ireturn, 1) := by decide +kernel
theorem dX11_ship_24 : decode cX11_ship 24 = .ok (.aload_n 0, 1) := by decide +kernel
theorem dX11_ship_25 : decode cX11_ship 25 = .ok (.getfield 36, 3) := by decide +kernel
theorem dX11_ship_28 : decode cX11_ship 28 = .ok (.invokevirtual 130, 3) := by decide +kernel
theorem dX11_ship_31 : decode cX11_ship 31 = .ok (.ifCond .eq 10, 3) := by decide +kernel
theorem dX11_ship_34 : decode cX11_ship 34 = .ok (.aload_n 0, 1) := by decide +kernel
theorem dX11_ship_35 : decode cX11_ship 35 = .ok (.ldc 133, 2) := by decide +kernel
theorem dX11_ship_37 : decode cX11_ship 37 = .ok (.invokevirtual 82, 3) := by decide +kernel
theorem dX11_ship_40 : decode cX11_ship 40 = .ok (.ireturn, 1) := by decide +kernel
theorem dX11_ship_41 : decode cX11_ship 41 = .ok (.aload_n 0, 1) := by decide +kernel
theorem dX11_ship_42 : decode cX11_ship 42 = .ok (.getfield 36, 3) := by decide +kernel
theorem dX11_ship_45 : decode cX11_ship 45 = .ok (.aload_n 0, 1) := by decide +kernel
theorem dX11_ship_46 : decode cX11_ship 46 = .ok (.getfield 27, 3) := by decide +kernel
theorem dX11_ship_49 : decode cX11_ship 49 = .ok (.iload_n 1, 1) := by decide +kernel
theorem dX11_ship_50 : decode cX11_ship 50 = .ok (.aaload, 1) := by decide +kernel
theorem dX11_ship_51 : decode cX11_ship 51 = .ok (.iconst 0, 1) := by decide +kernel
theorem dX11_ship_52 : decode cX11_ship 52 = .ok (.iload_n 2, 1) := by decide +kernel
theorem dX11_ship_53 : decode cX11_ship 53 = .ok (.invokevirtual 134, 3) := by decide +kernel
theorem dX11_ship_56 : decode cX11_ship 56 = .ok (.aload_n 0, 1) := by decide +kernel
theorem dX11_ship_57 : decode cX11_ship 57 = .ok (.getfield 36, 3) := by decide +kernel
theorem dX11_ship_60 : decode cX11_ship 60 = .ok (.getfield 138, 3) := by decide +kernel
theorem dX11_ship_63 : decode cX11_ship 63 = .ok (.iconst 1, 1) := by decide +kernel
theorem dX11_ship_64 : decode cX11_ship 64 = .ok (.isub, 1) := by decide +kernel
theorem dX11_ship_65 : decode cX11_ship 65 = .ok (.ireturn, 1) := by decide +kernel
theorem dX11_of_0 : decode cX11_of 0 = .ok (.aload_n 0, 1) := by decide +kernel
theorem dX11_of_1 : decode cX11_of 1 = .ok (.iload_n 1, 1) := by decide +kernel
theorem dX11_of_2 : decode cX11_of 2 = .ok (.invokevirtual 141, 3) := by decide +kernel
theorem dX11_of_5 : decode cX11_of 5 = .ok (.ifCond .eq 13, 3) := by decide +kernel
theorem dX11_of_8 : decode cX11_of 8 = .ok (.iload_n 2, 1) := by decide +kernel
theorem dX11_of_9 : decode cX11_of 9 = .ok (.iconst 0, 1) := by decide +kernel
theorem dX11_of_10 : decode cX11_of 10 = .ok (.bipush 11, 2) := by decide +kernel
theorem dX11_of_12 : decode cX11_of 12 = .ok (.invokestatic 77, 3) := by decide +kernel
theorem dX11_of_15 : decode cX11_of 15 = .ok (.ifCond .ne 10, 3) := by decide +kernel
theorem dX11_of_18 : decode cX11_of 18 = .ok (.aload_n 0, 1) := by decide +kernel
theorem dX11_of_19 : decode cX11_of 19 = .ok (.ldc 81, 2) := by decide +kernel
theorem dX11_of_21 : decode cX11_of 21 = .ok (.invokevirtual 82, 3) := by decide +kernel
theorem dX11_of_24 : decode cX11_of 24 = .ok (.ireturn, 1) := by decide +kernel
theorem dX11_of_25 : decode cX11_of 25 = .ok (.aload_n 0, 1) := by decide +kernel
theorem dX11_of_26 : decode cX11_of 26 = .ok (.getfield 36, 3) := by decide +kernel
theorem dX11_of_29 : decode cX11_of 29 = .ok (.getfield 144, 3) := by decide +kernel
theorem dX11_of_32 : decode cX11_of 32 = .ok (.iload_n 1, 1) := by decide +kernel
theorem dX11_of_33 : decode cX11_of 33 = .ok (.aaload, 1) := by decide +kernel
theorem dX11_of_34 : decode cX11_of 34 = .ok (.astore_n 3, 1) := by decide +kernel
theorem dX11_of_35 : decode cX11_of 35 = .ok (.iload_n 2, 1) := by decide +kernel
theorem dX11_of_36 : decode cX11_of 36 = .ok (.bipush 6, 2) := by decide +kernel
theorem dX11_of_38 : decode cX11_of 38 = .ok (.if_icmp .gt 11, 3) := by decide +kernel
theorem dX11_of_41 : decode cX11_of 41 = .ok (.aload_n 3, 1) := by decide +kernel
theorem dX11_of_42 : decode cX11_of 42 = .ok (.iload_n 2, 1) := by decide +kernel
theorem dX11_of_43 : decode cX11_of 43 = .ok (.invokevirtual 150, 3) := by decide +kernel
theorem dX11_of_46 : decode cX11_of 46 = .ok (.goto 12, 3) := by decide +kernel
theorem dX11_of_49 : decode cX11_of 49 = .ok (.aload_n 0, 1) := by decide +kernel
theorem dX11_of_50 : decode cX11_of 50 = .ok (.getfield 36, 3) := by decide +kernel
theorem dX11_of_53 : decode cX11_of 53 = .ok (.aload_n 3, 1) := by decide +kernel
theorem dX11_of_54 : decode cX11_of 54 = .ok (.iload_n 2, 1) := by decide +kernel
theorem dX11_of_55 : decode cX11_of 55 = .ok (.invokevirtual 153, 3) := by decide +kernel
theorem dX11_of_58 : decode cX11_of 58 = .ok (.ireturn, 1) := by decide +kernel
theorem dX11_set_0 : decode cX11_set 0 = .ok (.aload_n 0, 1) := by decide +kernel
theorem dX11_set_1 : decode cX11_set 1 = .ok (.iload_n 1, 1) := by decide +kernel
theorem dX11_set_2 : decode cX11_set 2 = .ok (.invokevirtual 141, 3) := by decide +kernel
theorem dX11_set_5 : decode cX11_set 5 = .ok (.ifCond .eq 12, 3) := by decide +kernel
theorem dX11_set_8 : decode cX11_set 8 = .ok (.iload_n 2, 1) := by decide +kernel
theorem dX11_set_9 : decode cX11_set 9 = .ok (.iconst 1, 1) := by decide +kernel
theorem dX11_set_10 : decode cX11_set 10 = .ok (.iconst 4, 1) := by decide +kernel
theorem dX11_set_11 : decode cX11_set 11 = .ok (.invokestatic 77, 3) := by decide +kernel
theorem dX11_set_14 : decode cX11_set 14 = .ok (.ifCond .ne 10, 3) := by decide +kernel
theorem dX11_set_17 : decode cX11_set 17 = .ok (.aload_n 0, 1) := by decide +kernel
theorem dX11_set_18 : decode cX11_set 18 = .ok (.ldc 81, 2) := by decide +kernel
theorem dX11_set_20 : decode cX11_set 20 = .ok (.invokevirtual 82, 3) := by decide +kernel
theorem dX11_set_23 : decode cX11_set 23 = .ok (.ireturn, 1) := by decide +kernel
theorem dX11_set_24 : decode cX11_set 24 = .ok (.iload_n 3, 1) := by decide +kernel
theorem dX11_set_25 : decode cX11_set 25 = .ok (.iconst 0, 1) := by decide +kernel
theorem dX11_set_26 : decode cX11_set 26 = .ok (.iload_n 2, 1) := by decide +kernel
theorem dX11_set_27 : decode cX11_set 27 = .ok (.invokestatic 157, 3) := by decide +kernel
theorem dX11_set_30 : decode cX11_set 30 = .ok (.invokestatic 77, 3) := by decide +kernel
theorem dX11_set_33 : decode cX11_set 33 = .ok (.ifCond .ne 10, 3) := by decide +kernel
theorem dX11_set_36 : decode cX11_set 36 = .ok (.aload_n 0, 1) := by decide +kernel
theorem dX11_set_37 : decode cX11_set 37 = .ok (.ldc 81, 2) := by decide +kernel
theorem dX11_set_39 : decode cX11_set 39 = .ok (.invokevirtual 82, 3) := by decide +kernel
theorem dX11_set_42 : decode cX11_set 42 = .ok (.ireturn, 1) := by decide +kernel
theorem dX11_set_43 : decode cX11_set 43 = .ok (.aload_n 0, 1) := by decide +kernel
theorem dX11_set_44 : decode cX11_set 44 = .ok (.getfield 36, 3) := by decide +kernel
theorem dX11_set_47 : decode cX11_set 47 = .ok (.getfield 144, 3) := by decide +kernel
theorem dX11_set_50 : decode cX11_set 50 = .ok (.iload_n 1, 1) := by decide +kernel
theorem dX11_set_51 : decode cX11_set 51 = .ok (.aaload, 1) := by decide +kernel
theorem dX11_set_52 : decode cX11_set 52 = .ok (.astore 4, 2) := by decide +kernel
theorem dX11_set_54 : decode cX11_set 54 = .ok (.aload 4, 2) := by decide +kernel
theorem dX11_set_56 : decode cX11_set 56 = .ok (.iload_n 2, 1) := by decide +kernel
theorem dX11_set_57 : decode cX11_set 57 = .ok (.invokevirtual 150, 3) := by decide +kernel
theorem dX11_set_60 : decode cX11_set 60 = .ok (.istore 5, 2) := by decide +kernel
theorem dX11_set_62 : decode cX11_set 62 = .ok (.aload 4, 2) := by decide +kernel
theorem dX11_set_64 : decode cX11_set 64 = .ok (.iload_n 2, 1) := by decide +kernel
theorem dX11_set_65 : decode cX11_set 65 = .ok (.iload_n 3, 1) := by decide +kernel
theorem dX11_set_66 : decode cX11_set 66 = .ok (.invokevirtual 160, 3) := by decide +kernel
theorem dX11_set_69 : decode cX11_set 69 = .ok (.iload 5, 2) := by decide +kernel
theorem dX11_set_71 : decode cX11_set 71 = .ok (.ireturn, 1) := by decide +kernel
theorem dX11_turn_0 : decode cX11_turn 0 = .ok (.aload_n 0, 1) := by decide +kernel
theorem dX11_turn_1 : decode cX11_turn 1 = .ok (.iload_n 1, 1) := by decide +kernel
theorem dX11_turn_2 : decode cX11_turn 2 = .ok (.invokevirtual 141, 3) := by decide +kernel
theorem dX11_turn_5 : decode cX11_turn 5 = .ok (.ifCond .eq 10, 3) := by decide +kernel
theorem dX11_turn_8 : decode cX11_turn 8 = .ok (.iload_n 2, 1) := by decide +kernel
theorem dX11_turn_9 : decode cX11_turn 9 = .ok (.invokestatic 126, 3) := by decide +kernel
theorem dX11_turn_12 : decode cX11_turn 12 = .ok (.ifCond .ne 10, 3) := by decide +kernel
theorem dX11_turn_15 : decode cX11_turn 15 = .ok (.aload_n 0, 1) := by decide +kernel
theorem dX11_turn_16 : decode cX11_turn 16 = .ok (.ldc 81, 2) := by decide +kernel
theorem dX11_turn_18 : decode cX11_turn 18 = .ok (.invokevirtual 82, 3) := by decide +kernel
theorem dX11_turn_21 : decode cX11_turn 21 = .ok (.ireturn, 1) := by decide +kernel
theorem dX11_turn_22 : decode cX11_turn 22 = .ok (.aload_n 0, 1) := by decide +kernel
theorem dX11_turn_23 : decode cX11_turn 23 = .ok (.getfield 36, 3) := by decide +kernel
theorem dX11_turn_26 : decode cX11_turn 26 = .ok (.getfield 144, 3) := by decide +kernel
theorem dX11_turn_29 : decode cX11_turn 29 = .ok (.iload_n 1, 1) := by decide +kernel
theorem dX11_turn_30 : decode cX11_turn 30 = .ok (.aaload, 1) := by decide +kernel
theorem dX11_turn_31 : decode cX11_turn 31 = .ok (.astore_n 3, 1) := by decide +kernel
theorem dX11_turn_32 : decode cX11_turn 32 = .ok (.aload_n 3, 1) := by decide +kernel
theorem dX11_turn_33 : decode cX11_turn 33 = .ok (.getfield 164, 3) := by decide +kernel
theorem dX11_turn_36 : decode cX11_turn 36 = .ok (.invokevirtual 168, 3) := by decide +kernel
theorem dX11_turn_39 : decode cX11_turn 39 = .ok (.istore 4, 2) := by decide +kernel
theorem dX11_turn_41 : decode cX11_turn 41 = .ok (.aload_n 3, 1) := by decide +kernel
theorem dX11_turn_42 : decode cX11_turn 42 = .ok (.aload_n 0, 1) := by decide +kernel
theorem dX11_turn_43 : decode cX11_turn 43 = .ok (.getfield 27, 3) := by decide +kernel
theorem dX11_turn_46 : decode cX11_turn 46 = .ok (.iload_n 2, 1) := by decide +kernel
theorem dX11_turn_47 : decode cX11_turn 47 = .ok (.aaload, 1) := by decide +kernel
theorem dX11_turn_48 : decode cX11_turn 48 = .ok (.putfield 164, 3) := by decide +kernel
theorem dX11_turn_51 : decode cX11_turn 51 = .ok (.iload 4, 2) := by decide +kernel
theorem dX11_turn_53 : decode cX11_turn 53 = .ok (.ireturn, 1) := by decide +kernel
theorem dX11_as_0 : decode cX11_as 0 = .ok (.aload_n 0, 1) := by decide +kernel
theorem dX11_as_1 : decode cX11_as 1 = .ok (.iload_n 1, 1) := by decide +kernel
theorem dX11_as_2 : decode cX11_as 2 = .ok (.invokevirtual 141, 3) := by decide +kernel
theorem dX11_as_5 : decode cX11_as 5 = .ok (.ifCond .eq 10, 3) := by decide +kernel
theorem dX11_as_8 : decode cX11_as 8 = .ok (.iload_n 2, 1) := by decide +kernel
theorem dX11_as_9 : decode cX11_as 9 = .ok (.invokestatic 126, 3) := by decide +kernel
theorem dX11_as_12 : decode cX11_as 12 = .ok (.ifCond .ne 10, 3) := by decide +kernel
theorem dX11_as_15 : decode cX11_as 15 = .ok (.aload_n 0, 1) := by decide +kernel
theorem dX11_as_16 : decode cX11_as 16 = .ok (.ldc 81, 2) := by decide +kernel
theorem dX11_as_18 : decode cX11_as 18 = .ok (.invokevirtual 82, 3) := by decide +kernel
theorem dX11_as_21 : decode cX11_as 21 = .ok (.ireturn, 1) := by decide +kernel
theorem dX11_as_22 : decode cX11_as 22 = .ok (.aload_n 0, 1) := by decide +kernel
theorem dX11_as_23 : decode cX11_as 23 = .ok (.getfield 36, 3) := by decide +kernel
theorem dX11_as_26 : decode cX11_as 26 = .ok (.getfield 144, 3) := by decide +kernel
theorem dX11_as_29 : decode cX11_as 29 = .ok (.iload_n 1, 1) := by decide +kernel
theorem dX11_as_30 : decode cX11_as 30 = .ok (.aaload, 1) := by decide +kernel
theorem dX11_as_31 : decode cX11_as 31 = .ok (.astore_n 3, 1) := by decide +kernel
theorem dX11_as_32 : decode cX11_as 32 = .ok (.aload_n 3, 1) := by decide +kernel
theorem dX11_as_33 : decode cX11_as 33 = .ok (.getfield 164, 3) := by decide +kernel
theorem dX11_as_36 : decode cX11_as 36 = .ok (.iload_n 2, 1) := by decide +kernel
theorem dX11_as_37 : decode cX11_as 37 = .ok (.invokevirtual 171, 3) := by decide +kernel
theorem dX11_as_40 : decode cX11_as 40 = .ok (.ifCond .eq 10, 3) := by decide +kernel
theorem dX11_as_43 : decode cX11_as 43 = .ok (.aload_n 3, 1) := by decide +kernel
theorem dX11_as_44 : decode cX11_as 44 = .ok (.getfield 174, 3) := by decide +kernel
theorem dX11_as_47 : decode cX11_as 47 = .ok (.goto 9, 3) := by decide +kernel
theorem dX11_as_50 : decode cX11_as 50 = .ok (.aload_n 0, 1) := by decide +kernel
theorem dX11_as_51 : decode cX11_as 51 = .ok (.ldc 177, 2) := by decide +kernel
theorem dX11_as_53 : decode cX11_as 53 = .ok (.invokevirtual 82, 3) := by decide +kernel
theorem dX11_as_56 : decode cX11_as 56 = .ok (.ireturn, 1) := by decide +kernel
theorem dX11_hours_0 : decode cX11_hours 0 = .ok (.iload_n 1, 1) := by decide +kernel
theorem dX11_hours_1 : decode cX11_hours 1 = .ok (.iconst 1, 1) := by decide +kernel
theorem dX11_hours_2 : decode cX11_hours 2 = .ok (.bipush 100, 2) := by decide +kernel
theorem dX11_hours_4 : decode cX11_hours 4 = .ok (.invokestatic 77, 3) := by decide +kernel
theorem dX11_hours_7 : decode cX11_hours 7 = .ok (.ifCond .ne 10, 3) := by decide +kernel
theorem dX11_hours_10 : decode cX11_hours 10 = .ok (.aload_n 0, 1) := by decide +kernel
theorem dX11_hours_11 : decode cX11_hours 11 = .ok (.ldc 81, 2) := by decide +kernel
theorem dX11_hours_13 : decode cX11_hours 13 = .ok (.invokevirtual 82, 3) := by decide +kernel
theorem dX11_hours_16 : decode cX11_hours 16 = .ok (.ireturn, 1) := by decide +kernel
theorem dX11_hours_17 : decode cX11_hours 17 = .ok (.aload_n 0, 1) := by decide +kernel
theorem dX11_hours_18 : decode cX11_hours 18 = .ok (.getfield 36, 3) := by decide +kernel
theorem dX11_hours_21 : decode cX11_hours 21 = .ok (.getfield 103, 3) := by decide +kernel
theorem dX11_hours_24 : decode cX11_hours 24 = .ok (.iload_n 1, 1) := by decide +kernel
theorem dX11_hours_25 : decode cX11_hours 25 = .ok (.iadd, 1) := by decide +kernel
theorem dX11_hours_26 : decode cX11_hours 26 = .ok (.ldc 178, 2) := by decide +kernel
theorem dX11_hours_28 : decode cX11_hours 28 = .ok (.if_icmp .le 10, 3) := by decide +kernel
theorem dX11_hours_31 : decode cX11_hours 31 = .ok (.aload_n 0, 1) := by decide +kernel
theorem dX11_hours_32 : decode cX11_hours 32 = .ok (.ldc 179, 2) := by decide +kernel
theorem dX11_hours_34 : decode cX11_hours 34 = .ok (.invokevirtual 82, 3) := by decide +kernel
theorem dX11_hours_37 : decode cX11_hours 37 = .ok (.ireturn, 1) := by decide +kernel
theorem dX11_hours_38 : decode cX11_hours 38 = .ok (.aload_n 0, 1) := by decide +kernel
theorem dX11_hours_39 : decode cX11_hours 39 = .ok (.getfield 36, 3) := by decide +kernel
theorem dX11_hours_42 : decode cX11_hours 42 = .ok (.iload_n 1, 1) := by decide +kernel
theorem dX11_hours_43 : decode cX11_hours 43 = .ok (.invokevirtual 180, 3) := by decide +kernel
theorem dX11_hours_46 : decode cX11_hours 46 = .ok (.aload_n 0, 1) := by decide +kernel
theorem dX11_hours_47 : decode cX11_hours 47 = .ok (.getfield 36, 3) := by decide +kernel
theorem dX11_hours_50 : decode cX11_hours 50 = .ok (.invokevirtual 123, 3) := by decide +kernel
theorem dX11_hours_53 : decode cX11_hours 53 = .ok (.ireturn, 1) := by decide +kernel
theorem dX11_on_0 : decode cX11_on 0 = .ok (.aload_n 0, 1) := by decide +kernel
theorem dX11_on_1 : decode cX11_on 1 = .ok (.iload_n 1, 1) := by decide +kernel
theorem dX11_on_2 : decode cX11_on 2 = .ok (.invokevirtual 141, 3) := by decide +kernel
theorem dX11_on_5 : decode cX11_on 5 = .ok (.ifCond .eq 22, 3) := by decide +kernel
theorem dX11_on_8 : decode cX11_on 8 = .ok (.iload_n 2, 1) := by decide +kernel
theorem dX11_on_9 : decode cX11_on 9 = .ok (.iconst 0, 1) := by decide +kernel
theorem dX11_on_10 : decode cX11_on 10 = .ok (.bipush 100, 2) := by decide +kernel
theorem dX11_on_12 : decode cX11_on 12 = .ok (.invokestatic 77, 3) := by decide +kernel
theorem dX11_on_15 : decode cX11_on 15 = .ok (.ifCond .eq 12, 3) := by decide +kernel
theorem dX11_on_18 : decode cX11_on 18 = .ok (.iload_n 3, 1) := by decide +kernel
theorem dX11_on_19 : decode cX11_on 19 = .ok (.iconst 0, 1) := by decide +kernel
theorem dX11_on_20 : decode cX11_on 20 = .ok (.iconst 3, 1) := by decide +kernel
theorem dX11_on_21 : decode cX11_on 21 = .ok (.invokestatic 77, 3) := by decide +kernel
theorem dX11_on_24 : decode cX11_on 24 = .ok (.ifCond .ne 10, 3) := by decide +kernel
theorem dX11_on_27 : decode cX11_on 27 = .ok (.aload_n 0, 1) := by decide +kernel
theorem dX11_on_28 : decode cX11_on 28 = .ok (.ldc 81, 2) := by decide +kernel
theorem dX11_on_30 : decode cX11_on 30 = .ok (.invokevirtual 82, 3) := by decide +kernel
theorem dX11_on_33 : decode cX11_on 33 = .ok (.ireturn, 1) := by decide +kernel
theorem dX11_on_34 : decode cX11_on 34 = .ok (.aload_n 0, 1) := by decide +kernel
theorem dX11_on_35 : decode cX11_on 35 = .ok (.iload_n 1, 1) := by decide +kernel
theorem dX11_on_36 : decode cX11_on 36 = .ok (.invokevirtual 184, 3) := by decide +kernel
theorem dX11_on_39 : decode cX11_on 39 = .ok (.aload_n 0, 1) := by decide +kernel
theorem dX11_on_40 : decode cX11_on 40 = .ok (.getfield 43, 3) := by decide +kernel
theorem dX11_on_43 : decode cX11_on 43 = .ok (.iload_n 2, 1) := by decide +kernel
theorem dX11_on_44 : decode cX11_on 44 = .ok (.invokevirtual 180, 3) := by decide +kernel
theorem dX11_on_47 : decode cX11_on 47 = .ok (.aload_n 0, 1) := by decide +kernel
theorem dX11_on_48 : decode cX11_on 48 = .ok (.getfield 43, 3) := by decide +kernel
theorem dX11_on_51 : decode cX11_on 51 = .ok (.getfield 144, 3) := by decide +kernel
theorem dX11_on_54 : decode cX11_on 54 = .ok (.iconst 0, 1) := by decide +kernel
theorem dX11_on_55 : decode cX11_on 55 = .ok (.aaload, 1) := by decide +kernel
theorem dX11_on_56 : decode cX11_on 56 = .ok (.iconst 1, 1) := by decide +kernel
theorem dX11_on_57 : decode cX11_on 57 = .ok (.iload_n 3, 1) := by decide +kernel
theorem dX11_on_58 : decode cX11_on 58 = .ok (.iadd, 1) := by decide +kernel
theorem dX11_on_59 : decode cX11_on 59 = .ok (.invokevirtual 150, 3) := by decide +kernel
theorem dX11_on_62 : decode cX11_on 62 = .ok (.ireturn, 1) := by decide +kernel
theorem dX11_then_0 : decode cX11_then 0 = .ok (.iload_n 1, 1) := by decide +kernel
theorem dX11_then_1 : decode cX11_then 1 = .ok (.iconst 0, 1) := by decide +kernel
theorem dX11_then_2 : decode cX11_then 2 = .ok (.bipush 100, 2) := by decide +kernel
theorem dX11_then_4 : decode cX11_then 4 = .ok (.invokestatic 77, 3) := by decide +kernel
theorem dX11_then_7 : decode cX11_then 7 = .ok (.ifCond .eq 12, 3) := by decide +kernel
theorem dX11_then_10 : decode cX11_then 10 = .ok (.iload_n 2, 1) := by decide +kernel
theorem dX11_then_11 : decode cX11_then 11 = .ok (.iconst 0, 1) := by decide +kernel
theorem dX11_then_12 : decode cX11_then 12 = .ok (.iconst 1, 1) := by decide +kernel
theorem dX11_then_13 : decode cX11_then 13 = .ok (.invokestatic 77, 3) := by decide +kernel
theorem dX11_then_16 : decode cX11_then 16 = .ok (.ifCond .ne 10, 3) := by decide +kernel
theorem dX11_then_19 : decode cX11_then 19 = .ok (.aload_n 0, 1) := by decide +kernel
theorem dX11_then_20 : decode cX11_then 20 = .ok (.ldc 81, 2) := by decide +kernel
theorem dX11_then_22 : decode cX11_then 22 = .ok (.invokevirtual 82, 3) := by decide +kernel
theorem dX11_then_25 : decode cX11_then 25 = .ok (.ireturn, 1) := by decide +kernel
theorem dX11_then_26 : decode cX11_then 26 = .ok (.aload_n 0, 1) := by decide +kernel
theorem dX11_then_27 : decode cX11_then 27 = .ok (.getfield 43, 3) := by decide +kernel
theorem dX11_then_30 : decode cX11_then 30 = .ok (.aload_n 0, 1) := by decide +kernel
theorem dX11_then_31 : decode cX11_then 31 = .ok (.getfield 36, 3) := by decide +kernel
theorem dX11_then_34 : decode cX11_then 34 = .ok (.invokevirtual 187, 3) := by decide +kernel
theorem dX11_then_37 : decode cX11_then 37 = .ok (.aload_n 0, 1) := by decide +kernel
theorem dX11_then_38 : decode cX11_then 38 = .ok (.getfield 43, 3) := by decide +kernel
theorem dX11_then_41 : decode cX11_then 41 = .ok (.iload_n 1, 1) := by decide +kernel
theorem dX11_then_42 : decode cX11_then 42 = .ok (.invokevirtual 180, 3) := by decide +kernel
theorem dX11_then_45 : decode cX11_then 45 = .ok (.iload_n 2, 1) := by decide +kernel
theorem dX11_then_46 : decode cX11_then 46 = .ok (.ifCond .ne 13, 3) := by decide +kernel
theorem dX11_then_49 : decode cX11_then 49 = .ok (.aload_n 0, 1) := by decide +kernel
theorem dX11_then_50 : decode cX11_then 50 = .ok (.getfield 43, 3) := by decide +kernel
theorem dX11_then_53 : decode cX11_then 53 = .ok (.invokevirtual 120, 3) := by decide +kernel
theorem dX11_then_56 : decode cX11_then 56 = .ok (.goto 10, 3) := by decide +kernel
theorem dX11_then_59 : decode cX11_then 59 = .ok (.aload_n 0, 1) := by decide +kernel
theorem dX11_then_60 : decode cX11_then 60 = .ok (.getfield 43, 3) := by decide +kernel
theorem dX11_then_63 : decode cX11_then 63 = .ok (.invokevirtual 123, 3) := by decide +kernel
theorem dX11_then_66 : decode cX11_then 66 = .ok (.ireturn, 1) := by decide +kernel
theorem dX11_comes_0 : decode cX11_comes 0 = .ok (.aload_n 0, 1) := by decide +kernel
theorem dX11_comes_1 : decode cX11_comes 1 = .ok (.iload_n 1, 1) := by decide +kernel
theorem dX11_comes_2 : decode cX11_comes 2 = .ok (.invokevirtual 141, 3) := by decide +kernel
theorem dX11_comes_5 : decode cX11_comes 5 = .ok (.ifCond .ne 10, 3) := by decide +kernel
theorem dX11_comes_8 : decode cX11_comes 8 = .ok (.aload_n 0, 1) := by decide +kernel
theorem dX11_comes_9 : decode cX11_comes 9 = .ok (.ldc 81, 2) := by decide +kernel
theorem dX11_comes_11 : decode cX11_comes 11 = .ok (.invokevirtual 82, 3) := by decide +kernel
theorem dX11_comes_14 : decode cX11_comes 14 = .ok (.ireturn, 1) := by decide +kernel
theorem dX11_comes_15 : decode cX11_comes 15 = .ok (.aload_n 0, 1) := by decide +kernel
theorem dX11_comes_16 : decode cX11_comes 16 = .ok (.iload_n 1, 1) := by decide +kernel
theorem dX11_comes_17 : decode cX11_comes 17 = .ok (.invokevirtual 184, 3) := by decide +kernel
theorem dX11_comes_20 : decode cX11_comes 20 = .ok (.aload_n 0, 1) := by decide +kernel
theorem dX11_comes_21 : decode cX11_comes 21 = .ok (.invokevirtual 191, 3) := by decide +kernel
theorem dX11_comes_24 : decode cX11_comes 24 = .ok (.istore_n 2, 1) := by decide +kernel
theorem dX11_comes_25 : decode cX11_comes 25 = .ok (.iload_n 2, 1) := by decide +kernel
theorem dX11_comes_26 : decode cX11_comes 26 = .ok (.bipush 101, 2) := by decide +kernel
theorem dX11_comes_28 : decode cX11_comes 28 = .ok (.if_icmp .ne 12, 3) := by decide +kernel
theorem dX11_comes_31 : decode cX11_comes 31 = .ok (.aload_n 0, 1) := by decide +kernel
theorem dX11_comes_32 : decode cX11_comes 32 = .ok (.ldc 194, 2) := by decide +kernel
theorem dX11_comes_34 : decode cX11_comes 34 = .ok (.invokevirtual 82, 3) := by decide +kernel
theorem dX11_comes_37 : decode cX11_comes 37 = .ok (.goto 4, 3) := by decide +kernel
theorem dX11_comes_40 : decode cX11_comes 40 = .ok (.iload_n 2, 1) := by decide +kernel
theorem dX11_comes_41 : decode cX11_comes 41 = .ok (.ireturn, 1) := by decide +kernel
theorem dX11_wrecks_0 : decode cX11_wrecks 0 = .ok (.aload_n 0, 1) := by decide +kernel
theorem dX11_wrecks_1 : decode cX11_wrecks 1 = .ok (.iload_n 1, 1) := by decide +kernel
theorem dX11_wrecks_2 : decode cX11_wrecks 2 = .ok (.invokevirtual 141, 3) := by decide +kernel
theorem dX11_wrecks_5 : decode cX11_wrecks 5 = .ok (.ifCond .ne 10, 3) := by decide +kernel
theorem dX11_wrecks_8 : decode cX11_wrecks 8 = .ok (.aload_n 0, 1) := by decide +kernel
theorem dX11_wrecks_9 : decode cX11_wrecks 9 = .ok (.ldc 81, 2) := by decide +kernel
theorem dX11_wrecks_11 : decode cX11_wrecks 11 = .ok (.invokevirtual 82, 3) := by decide +kernel
theorem dX11_wrecks_14 : decode cX11_wrecks 14 = .ok (.ireturn, 1) := by decide +kernel
theorem dX11_wrecks_15 : decode cX11_wrecks 15 = .ok (.aload_n 0, 1) := by decide +kernel
theorem dX11_wrecks_16 : decode cX11_wrecks 16 = .ok (.iload_n 1, 1) := by decide +kernel
theorem dX11_wrecks_17 : decode cX11_wrecks 17 = .ok (.invokevirtual 184, 3) := by decide +kernel
theorem dX11_wrecks_20 : decode cX11_wrecks 20 = .ok (.aload_n 0, 1) := by decide +kernel
theorem dX11_wrecks_21 : decode cX11_wrecks 21 = .ok (.invokevirtual 195, 3) := by decide +kernel
theorem dX11_wrecks_24 : decode cX11_wrecks 24 = .ok (.istore_n 2, 1) := by decide +kernel
theorem dX11_wrecks_25 : decode cX11_wrecks 25 = .ok (.aload_n 0, 1) := by decide +kernel
theorem dX11_wrecks_26 : decode cX11_wrecks 26 = .ok (.getfield 43, 3) := by decide +kernel
theorem dX11_wrecks_29 : decode cX11_wrecks 29 = .ok (.getfield 144, 3) := by decide +kernel
theorem dX11_wrecks_32 : decode cX11_wrecks 32 = .ok (.iconst 0, 1) := by decide +kernel
theorem dX11_wrecks_33 : decode cX11_wrecks 33 = .ok (.aaload, 1) := by decide +kernel
theorem dX11_wrecks_34 : decode cX11_wrecks 34 = .ok (.getfield 198, 3) := by decide +kernel
theorem dX11_wrecks_37 : decode cX11_wrecks 37 = .ok (.ifCond .eq 7, 3) := by decide +kernel
theorem dX11_wrecks_40 : decode cX11_wrecks 40 = .ok (.iload_n 2, 1) := by decide +kernel
theorem dX11_wrecks_41 : decode cX11_wrecks 41 = .ok (.goto 9, 3) := by decide +kernel
theorem dX11_wrecks_44 : decode cX11_wrecks 44 = .ok (.aload_n 0, 1) := by decide +kernel
theorem dX11_wrecks_45 : decode cX11_wrecks 45 = .ok (.ldc 194, 2) := by decide +kernel
theorem dX11_wrecks_47 : decode cX11_wrecks 47 = .ok (.invokevirtual 82, 3) := by decide +kernel
theorem dX11_wrecks_50 : decode cX11_wrecks 50 = .ok (.ireturn, 1) := by decide +kernel
theorem dX11_row_0 : decode cX11_row 0 = .ok (.aload_n 0, 1) := by decide +kernel
theorem dX11_row_1 : decode cX11_row 1 = .ok (.iload_n 1, 1) := by decide +kernel
theorem dX11_row_2 : decode cX11_row 2 = .ok (.invokevirtual 201, 3) := by decide +kernel
theorem dX11_row_5 : decode cX11_row 5 = .ok (.istore_n 2, 1) := by decide +kernel
theorem dX11_row_6 : decode cX11_row 6 = .ok (.iload_n 2, 1) := by decide +kernel
theorem dX11_row_7 : decode cX11_row 7 = .ok (.ifCond .eq 9, 3) := by decide +kernel
theorem dX11_row_10 : decode cX11_row 10 = .ok (.aload_n 0, 1) := by decide +kernel
theorem dX11_row_11 : decode cX11_row 11 = .ok (.iload_n 2, 1) := by decide +kernel
theorem dX11_row_12 : decode cX11_row 12 = .ok (.invokevirtual 82, 3) := by decide +kernel
theorem dX11_row_15 : decode cX11_row 15 = .ok (.ireturn, 1) := by decide +kernel
theorem dX11_row_16 : decode cX11_row 16 = .ok (.ldc 194, 2) := by decide +kernel
theorem dX11_row_18 : decode cX11_row 18 = .ok (.istore_n 3, 1) := by decide +kernel
theorem dX11_row_19 : decode cX11_row 19 = .ok (.bipush 101, 2) := by decide +kernel
theorem dX11_row_21 : decode cX11_row 21 = .ok (.istore 4, 2) := by decide +kernel
theorem dX11_row_23 : decode cX11_row 23 = .ok (.iconst 0, 1) := by decide +kernel
theorem dX11_row_24 : decode cX11_row 24 = .ok (.istore 5, 2) := by decide +kernel
theorem dX11_row_26 : decode cX11_row 26 = .ok (.iload 5, 2) := by decide +kernel
theorem dX11_row_28 : decode cX11_row 28 = .ok (.bipush 9, 2) := by decide +kernel
theorem dX11_row_30 : decode cX11_row 30 = .ok (.if_icmp .gt 48, 3) := by decide +kernel
theorem dX11_row_33 : decode cX11_row 33 = .ok (.aload_n 0, 1) := by decide +kernel
theorem dX11_row_34 : decode cX11_row 34 = .ok (.iload_n 1, 1) := by decide +kernel
theorem dX11_row_35 : decode cX11_row 35 = .ok (.invokevirtual 184, 3) := by decide +kernel
theorem dX11_row_38 : decode cX11_row 38 = .ok (.aload_n 0, 1) := by decide +kernel
theorem dX11_row_39 : decode cX11_row 39 = .ok (.getfield 43, 3) := by decide +kernel
theorem dX11_row_42 : decode cX11_row 42 = .ok (.getfield 144, 3) := by decide +kernel
theorem dX11_row_45 : decode cX11_row 45 = .ok (.iconst 0, 1) := by decide +kernel
theorem dX11_row_46 : decode cX11_row 46 = .ok (.aaload, 1) := by decide +kernel
theorem dX11_row_47 : decode cX11_row 47 = .ok (.iload 5, 2) := by decide +kernel
theorem dX11_row_49 : decode cX11_row 49 = .ok (.putfield 204, 3) := by decide +kernel
theorem dX11_row_52 : decode cX11_row 52 = .ok (.aload_n 0, 1) := by decide +kernel
theorem dX11_row_53 : decode cX11_row 53 = .ok (.invokevirtual 191, 3) := by decide +kernel
theorem dX11_row_56 : decode cX11_row 56 = .ok (.istore 6, 2) := by decide +kernel
theorem dX11_row_58 : decode cX11_row 58 = .ok (.iload 6, 2) := by decide +kernel
theorem dX11_row_60 : decode cX11_row 60 = .ok (.iload 4, 2) := by decide +kernel
theorem dX11_row_62 : decode cX11_row 62 = .ok (.if_icmp .ge 10, 3) := by decide +kernel
theorem dX11_row_65 : decode cX11_row 65 = .ok (.iload 6, 2) := by decide +kernel
theorem dX11_row_67 : decode cX11_row 67 = .ok (.istore 4, 2) := by decide +kernel
theorem dX11_row_69 : decode cX11_row 69 = .ok (.iload 5, 2) := by decide +kernel
theorem dX11_row_71 : decode cX11_row 71 = .ok (.istore_n 3, 1) := by decide +kernel
theorem dX11_row_72 : decode cX11_row 72 = .ok (.iinc 5 1, 3) := by decide +kernel
theorem dX11_row_75 : decode cX11_row 75 = .ok (.goto (-49), 3) := by decide +kernel
theorem dX11_row_78 : decode cX11_row 78 = .ok (.iload_n 3, 1) := by decide +kernel
theorem dX11_row_79 : decode cX11_row 79 = .ok (.ldc 194, 2) := by decide +kernel
theorem dX11_row_81 : decode cX11_row 81 = .ok (.if_icmp .ne 12, 3) := by decide +kernel
theorem dX11_row_84 : decode cX11_row 84 = .ok (.aload_n 0, 1) := by decide +kernel
theorem dX11_row_85 : decode cX11_row 85 = .ok (.ldc 194, 2) := by decide +kernel
theorem dX11_row_87 : decode cX11_row 87 = .ok (.invokevirtual 82, 3) := by decide +kernel
theorem dX11_row_90 : decode cX11_row 90 = .ok (.goto 4, 3) := by decide +kernel
theorem dX11_row_93 : decode cX11_row 93 = .ok (.iload_n 3, 1) := by decide +kernel
theorem dX11_row_94 : decode cX11_row 94 = .ok (.ireturn, 1) := by decide +kernel
theorem dX11_kind_0 : decode cX11_kind 0 = .ok (.aload_n 0, 1) := by decide +kernel
theorem dX11_kind_1 : decode cX11_kind 1 = .ok (.iload_n 1, 1) := by decide +kernel
theorem dX11_kind_2 : decode cX11_kind 2 = .ok (.invokevirtual 201, 3) := by decide +kernel
theorem dX11_kind_5 : decode cX11_kind 5 = .ok (.istore_n 2, 1) := by decide +kernel
theorem dX11_kind_6 : decode cX11_kind 6 = .ok (.iload_n 2, 1) := by decide +kernel
theorem dX11_kind_7 : decode cX11_kind 7 = .ok (.ifCond .eq 9, 3) := by decide +kernel
theorem dX11_kind_10 : decode cX11_kind 10 = .ok (.aload_n 0, 1) := by decide +kernel
theorem dX11_kind_11 : decode cX11_kind 11 = .ok (.iload_n 2, 1) := by decide +kernel
theorem dX11_kind_12 : decode cX11_kind 12 = .ok (.invokevirtual 82, 3) := by decide +kernel
theorem dX11_kind_15 : decode cX11_kind 15 = .ok (.ireturn, 1) := by decide +kernel
theorem dX11_kind_16 : decode cX11_kind 16 = .ok (.ldc 194, 2) := by decide +kernel
theorem dX11_kind_18 : decode cX11_kind 18 = .ok (.istore_n 3, 1) := by decide +kernel
theorem dX11_kind_19 : decode cX11_kind 19 = .ok (.bipush 101, 2) := by decide +kernel
theorem dX11_kind_21 : decode cX11_kind 21 = .ok (.istore 4, 2) := by decide +kernel
theorem dX11_kind_23 : decode cX11_kind 23 = .ok (.iconst 0, 1) := by decide +kernel
theorem dX11_kind_24 : decode cX11_kind 24 = .ok (.istore 5, 2) := by decide +kernel
theorem dX11_kind_26 : decode cX11_kind 26 = .ok (.iload 5, 2) := by decide +kernel
theorem dX11_kind_28 : decode cX11_kind 28 = .ok (.iconst 5, 1) := by decide +kernel
theorem dX11_kind_29 : decode cX11_kind 29 = .ok (.if_icmp .gt 53, 3) := by decide +kernel
theorem dX11_kind_32 : decode cX11_kind 32 = .ok (.aload_n 0, 1) := by decide +kernel
theorem dX11_kind_33 : decode cX11_kind 33 = .ok (.iload_n 1, 1) := by decide +kernel
theorem dX11_kind_34 : decode cX11_kind 34 = .ok (.invokevirtual 184, 3) := by decide +kernel
theorem dX11_kind_37 : decode cX11_kind 37 = .ok (.aload_n 0, 1) := by decide +kernel
theorem dX11_kind_38 : decode cX11_kind 38 = .ok (.getfield 43, 3) := by decide +kernel
theorem dX11_kind_41 : decode cX11_kind 41 = .ok (.getfield 144, 3) := by decide +kernel
theorem dX11_kind_44 : decode cX11_kind 44 = .ok (.iconst 0, 1) := by decide +kernel
theorem dX11_kind_45 : decode cX11_kind 45 = .ok (.aaload, 1) := by decide +kernel
theorem dX11_kind_46 : decode cX11_kind 46 = .ok (.aload_n 0, 1) := by decide +kernel
theorem dX11_kind_47 : decode cX11_kind 47 = .ok (.getfield 27, 3) := by decide +kernel
theorem dX11_kind_50 : decode cX11_kind 50 = .ok (.iload 5, 2) := by decide +kernel
theorem dX11_kind_52 : decode cX11_kind 52 = .ok (.aaload, 1) := by decide +kernel
theorem dX11_kind_53 : decode cX11_kind 53 = .ok (.putfield 164, 3) := by decide +kernel
theorem dX11_kind_56 : decode cX11_kind 56 = .ok (.aload_n 0, 1) := by decide +kernel
theorem dX11_kind_57 : decode cX11_kind 57 = .ok (.invokevirtual 191, 3) := by decide +kernel
theorem dX11_kind_60 : decode cX11_kind 60 = .ok (.istore 6, 2) := by decide +kernel
theorem dX11_kind_62 : decode cX11_kind 62 = .ok (.iload 6, 2) := by decide +kernel
theorem dX11_kind_64 : decode cX11_kind 64 = .ok (.iload 4, 2) := by decide +kernel
theorem dX11_kind_66 : decode cX11_kind 66 = .ok (.if_icmp .ge 10, 3) := by decide +kernel
theorem dX11_kind_69 : decode cX11_kind 69 = .ok (.iload 6, 2) := by decide +kernel
theorem dX11_kind_71 : decode cX11_kind 71 = .ok (.istore 4, 2) := by decide +kernel
theorem dX11_kind_73 : decode cX11_kind 73 = .ok (.iload 5, 2) := by decide +kernel
theorem dX11_kind_75 : decode cX11_kind 75 = .ok (.istore_n 3, 1) := by decide +kernel
theorem dX11_kind_76 : decode cX11_kind 76 = .ok (.iinc 5 1, 3) := by decide +kernel
theorem dX11_kind_79 : decode cX11_kind 79 = .ok (.goto (-53), 3) := by decide +kernel
theorem dX11_kind_82 : decode cX11_kind 82 = .ok (.iload_n 3, 1) := by decide +kernel
theorem dX11_kind_83 : decode cX11_kind 83 = .ok (.ldc 194, 2) := by decide +kernel
theorem dX11_kind_85 : decode cX11_kind 85 = .ok (.if_icmp .ne 12, 3) := by decide +kernel
theorem dX11_kind_88 : decode cX11_kind 88 = .ok (.aload_n 0, 1) := by decide +kernel
theorem dX11_kind_89 : decode cX11_kind 89 = .ok (.ldc 194, 2) := by decide +kernel
theorem dX11_kind_91 : decode cX11_kind 91 = .ok (.invokevirtual 82, 3) := by decide +kernel
theorem dX11_kind_94 : decode cX11_kind 94 = .ok (.goto 4, 3) := by decide +kernel
theorem dX11_kind_97 : decode cX11_kind 97 = .ok (.iload_n 3, 1) := by decide +kernel
theorem dX11_kind_98 : decode cX11_kind 98 = .ok (.ireturn, 1) := by decide +kernel
theorem dX11_shine_0 : decode cX11_shine 0 = .ok (.iload_n 1, 1) := by decide +kernel
theorem dX11_shine_1 : decode cX11_shine 1 = .ok (.iconst 1, 1) := by decide +kernel
theorem dX11_shine_2 : decode cX11_shine 2 = .ok (.bipush 60, 2) := by decide +kernel
theorem dX11_shine_4 : decode cX11_shine 4 = .ok (.invokestatic 77, 3) := by decide +kernel
theorem dX11_shine_7 : decode cX11_shine 7 = .ok (.ifCond .ne 10, 3) := by decide +kernel
theorem dX11_shine_10 : decode cX11_shine 10 = .ok (.aload_n 0, 1) := by decide +kernel
theorem dX11_shine_11 : decode cX11_shine 11 = .ok (.ldc 81, 2) := by decide +kernel
theorem dX11_shine_13 : decode cX11_shine 13 = .ok (.invokevirtual 82, 3) := by decide +kernel
theorem dX11_shine_16 : decode cX11_shine 16 = .ok (.ireturn, 1) := by decide +kernel
theorem dX11_shine_17 : decode cX11_shine 17 = .ok (.iconst 0, 1) := by decide +kernel
theorem dX11_shine_18 : decode cX11_shine 18 = .ok (.istore_n 2, 1) := by decide +kernel
theorem dX11_shine_19 : decode cX11_shine 19 = .ok (.bipush 7, 2) := by decide +kernel
theorem dX11_shine_21 : decode cX11_shine 21 = .ok (.istore_n 3, 1) := by decide +kernel
theorem dX11_shine_22 : decode cX11_shine 22 = .ok (.iconst 0, 1) := by decide +kernel
theorem dX11_shine_23 : decode cX11_shine 23 = .ok (.istore 4, 2) := by decide +kernel
theorem dX11_shine_25 : decode cX11_shine 25 = .ok (.iload 4, 2) := by decide +kernel
theorem dX11_shine_27 : decode cX11_shine 27 = .ok (.bipush 9, 2) := by decide +kernel
theorem dX11_shine_29 : decode cX11_shine 29 = .ok (.if_icmp .gt 61, 3) := by decide +kernel
theorem dX11_shine_32 : decode cX11_shine 32 = .ok (.aload_n 0, 1) := by decide +kernel
theorem dX11_shine_33 : decode cX11_shine 33 = .ok (.getfield 43, 3) := by decide +kernel
theorem dX11_shine_36 : decode cX11_shine 36 = .ok (.aload_n 0, 1) := by decide +kernel
theorem dX11_shine_37 : decode cX11_shine 37 = .ok (.getfield 36, 3) := by decide +kernel
theorem dX11_shine_40 : decode cX11_shine 40 = .ok (.invokevirtual 187, 3) := by decide +kernel
theorem dX11_shine_43 : decode cX11_shine 43 = .ok (.aload_n 0, 1) := by decide +kernel
theorem dX11_shine_44 : decode cX11_shine 44 = .ok (.getfield 43, 3) := by decide +kernel
theorem dX11_shine_47 : decode cX11_shine 47 = .ok (.iload 4, 2) := by decide +kernel
theorem dX11_shine_49 : decode cX11_shine 49 = .ok (.putfield 100, 3) := by decide +kernel
theorem dX11_shine_52 : decode cX11_shine 52 = .ok (.aload_n 0, 1) := by decide +kernel
theorem dX11_shine_53 : decode cX11_shine 53 = .ok (.getfield 43, 3) := by decide +kernel
theorem dX11_shine_56 : decode cX11_shine 56 = .ok (.iload_n 1, 1) := by decide +kernel
theorem dX11_shine_57 : decode cX11_shine 57 = .ok (.invokevirtual 180, 3) := by decide +kernel
theorem dX11_shine_60 : decode cX11_shine 60 = .ok (.aload_n 0, 1) := by decide +kernel
theorem dX11_shine_61 : decode cX11_shine 61 = .ok (.getfield 43, 3) := by decide +kernel
theorem dX11_shine_64 : decode cX11_shine 64 = .ok (.invokevirtual 120, 3) := by decide +kernel
theorem dX11_shine_67 : decode cX11_shine 67 = .ok (.invokestatic 207, 3) := by decide +kernel
theorem dX11_shine_70 : decode cX11_shine 70 = .ok (.istore 5, 2) := by decide +kernel
theorem dX11_shine_72 : decode cX11_shine 72 = .ok (.iload 5, 2) := by decide +kernel
theorem dX11_shine_74 : decode cX11_shine 74 = .ok (.iload_n 3, 1) := by decide +kernel
theorem dX11_shine_75 : decode cX11_shine 75 = .ok (.if_icmp .ge 9, 3) := by decide +kernel
theorem dX11_shine_78 : decode cX11_shine 78 = .ok (.iload 5, 2) := by decide +kernel
theorem dX11_shine_80 : decode cX11_shine 80 = .ok (.istore_n 3, 1) := by decide +kernel
theorem dX11_shine_81 : decode cX11_shine 81 = .ok (.iload 4, 2) := by decide +kernel
theorem dX11_shine_83 : decode cX11_shine 83 = .ok (.istore_n 2, 1) := by decide +kernel
theorem dX11_shine_84 : decode cX11_shine 84 = .ok (.iinc 4 1, 3) := by decide +kernel
theorem dX11_shine_87 : decode cX11_shine 87 = .ok (.goto (-62), 3) := by decide +kernel
theorem dX11_shine_90 : decode cX11_shine 90 = .ok (.iload_n 2, 1) := by decide +kernel
theorem dX11_shine_91 : decode cX11_shine 91 = .ok (.ireturn, 1) := by decide +kernel
theorem dX11_hour_0 : decode cX11_hour 0 = .ok (.iload_n 1, 1) := by decide +kernel
theorem dX11_hour_1 : decode cX11_hour 1 = .ok (.iconst 1, 1) := by decide +kernel
theorem dX11_hour_2 : decode cX11_hour 2 = .ok (.bipush 60, 2) := by decide +kernel
theorem dX11_hour_4 : decode cX11_hour 4 = .ok (.invokestatic 77, 3) := by decide +kernel
theorem dX11_hour_7 : decode cX11_hour 7 = .ok (.ifCond .ne 10, 3) := by decide +kernel
theorem dX11_hour_10 : decode cX11_hour 10 = .ok (.aload_n 0, 1) := by decide +kernel
theorem dX11_hour_11 : decode cX11_hour 11 = .ok (.ldc 81, 2) := by decide +kernel
theorem dX11_hour_13 : decode cX11_hour 13 = .ok (.invokevirtual 82, 3) := by decide +kernel
theorem dX11_hour_16 : decode cX11_hour 16 = .ok (.ireturn, 1) := by decide +kernel
theorem dX11_hour_17 : decode cX11_hour 17 = .ok (.iconst 0, 1) := by decide +kernel
theorem dX11_hour_18 : decode cX11_hour 18 = .ok (.istore_n 2, 1) := by decide +kernel
theorem dX11_hour_19 : decode cX11_hour 19 = .ok (.ldc 212, 2) := by decide +kernel
theorem dX11_hour_21 : decode cX11_hour 21 = .ok (.istore_n 3, 1) := by decide +kernel
theorem dX11_hour_22 : decode cX11_hour 22 = .ok (.iconst 0, 1) := by decide +kernel
theorem dX11_hour_23 : decode cX11_hour 23 = .ok (.istore 4, 2) := by decide +kernel
theorem dX11_hour_25 : decode cX11_hour 25 = .ok (.iload 4, 2) := by decide +kernel
theorem dX11_hour_27 : decode cX11_hour 27 = .ok (.bipush 12, 2) := by decide +kernel
theorem dX11_hour_29 : decode cX11_hour 29 = .ok (.if_icmp .ge 68, 3) := by decide +kernel
theorem dX11_hour_32 : decode cX11_hour 32 = .ok (.aload_n 0, 1) := by decide +kernel
theorem dX11_hour_33 : decode cX11_hour 33 = .ok (.getfield 43, 3) := by decide +kernel
theorem dX11_hour_36 : decode cX11_hour 36 = .ok (.aload_n 0, 1) := by decide +kernel
theorem dX11_hour_37 : decode cX11_hour 37 = .ok (.getfield 36, 3) := by decide +kernel
theorem dX11_hour_40 : decode cX11_hour 40 = .ok (.invokevirtual 187, 3) := by decide +kernel
theorem dX11_hour_43 : decode cX11_hour 43 = .ok (.aload_n 0, 1) := by decide +kernel
theorem dX11_hour_44 : decode cX11_hour 44 = .ok (.getfield 43, 3) := by decide +kernel
theorem dX11_hour_47 : decode cX11_hour 47 = .ok (.aload_n 0, 1) := by decide +kernel
theorem dX11_hour_48 : decode cX11_hour 48 = .ok (.getfield 36, 3) := by decide +kernel
theorem dX11_hour_51 : decode cX11_hour 51 = .ok (.getfield 97, 3) := by decide +kernel
theorem dX11_hour_54 : decode cX11_hour 54 = .ok (.iconst 1, 1) := by decide +kernel
theorem dX11_hour_55 : decode cX11_hour 55 = .ok (.iload 4, 2) := by decide +kernel
theorem dX11_hour_57 : decode cX11_hour 57 = .ok (.ishl, 1) := by decide +kernel
theorem dX11_hour_58 : decode cX11_hour 58 = .ok (.ixor, 1) := by decide +kernel
theorem dX11_hour_59 : decode cX11_hour 59 = .ok (.putfield 97, 3) := by decide +kernel
theorem dX11_hour_62 : decode cX11_hour 62 = .ok (.aload_n 0, 1) := by decide +kernel
theorem dX11_hour_63 : decode cX11_hour 63 = .ok (.getfield 43, 3) := by decide +kernel
theorem dX11_hour_66 : decode cX11_hour 66 = .ok (.iload_n 1, 1) := by decide +kernel
theorem dX11_hour_67 : decode cX11_hour 67 = .ok (.invokevirtual 180, 3) := by decide +kernel
theorem dX11_hour_70 : decode cX11_hour 70 = .ok (.aload_n 0, 1) := by decide +kernel
theorem dX11_hour_71 : decode cX11_hour 71 = .ok (.getfield 43, 3) := by decide +kernel
theorem dX11_hour_74 : decode cX11_hour 74 = .ok (.invokevirtual 213, 3) := by decide +kernel
theorem dX11_hour_77 : decode cX11_hour 77 = .ok (.istore 5, 2) := by decide +kernel
theorem dX11_hour_79 : decode cX11_hour 79 = .ok (.iload 5, 2) := by decide +kernel
theorem dX11_hour_81 : decode cX11_hour 81 = .ok (.iload_n 3, 1) := by decide +kernel
theorem dX11_hour_82 : decode cX11_hour 82 = .ok (.if_icmp .ge 9, 3) := by decide +kernel
theorem dX11_hour_85 : decode cX11_hour 85 = .ok (.iload 5, 2) := by decide +kernel
theorem dX11_hour_87 : decode cX11_hour 87 = .ok (.istore_n 3, 1) := by decide +kernel
theorem dX11_hour_88 : decode cX11_hour 88 = .ok (.iload 4, 2) := by decide +kernel
theorem dX11_hour_90 : decode cX11_hour 90 = .ok (.istore_n 2, 1) := by decide +kernel
theorem dX11_hour_91 : decode cX11_hour 91 = .ok (.iinc 4 1, 3) := by decide +kernel
theorem dX11_hour_94 : decode cX11_hour 94 = .ok (.goto (-69), 3) := by decide +kernel
theorem dX11_hour_97 : decode cX11_hour 97 = .ok (.iload_n 2, 1) := by decide +kernel
theorem dX11_hour_98 : decode cX11_hour 98 = .ok (.ireturn, 1) := by decide +kernel
theorem dX11_site_0 : decode cX11_site 0 = .ok (.iload_n 1, 1) := by decide +kernel
theorem dX11_site_1 : decode cX11_site 1 = .ok (.iconst 1, 1) := by decide +kernel
theorem dX11_site_2 : decode cX11_site 2 = .ok (.bipush 40, 2) := by decide +kernel
theorem dX11_site_4 : decode cX11_site 4 = .ok (.invokestatic 77, 3) := by decide +kernel
theorem dX11_site_7 : decode cX11_site 7 = .ok (.ifCond .ne 10, 3) := by decide +kernel
theorem dX11_site_10 : decode cX11_site 10 = .ok (.aload_n 0, 1) := by decide +kernel
theorem dX11_site_11 : decode cX11_site 11 = .ok (.ldc 81, 2) := by decide +kernel
theorem dX11_site_13 : decode cX11_site 13 = .ok (.invokevirtual 82, 3) := by decide +kernel
theorem dX11_site_16 : decode cX11_site 16 = .ok (.ireturn, 1) := by decide +kernel
theorem dX11_site_17 : decode cX11_site 17 = .ok (.iconst 0, 1) := by decide +kernel
theorem dX11_site_18 : decode cX11_site 18 = .ok (.istore_n 2, 1) := by decide +kernel
theorem dX11_site_19 : decode cX11_site 19 = .ok (.bipush 7, 2) := by decide +kernel
theorem dX11_site_21 : decode cX11_site 21 = .ok (.istore_n 3, 1) := by decide +kernel
theorem dX11_site_22 : decode cX11_site 22 = .ok (.ldc 212, 2) := by decide +kernel
theorem dX11_site_24 : decode cX11_site 24 = .ok (.istore 4, 2) := by decide +kernel
theorem dX11_site_26 : decode cX11_site 26 = .ok (.iconst 0, 1) := by decide +kernel
theorem dX11_site_27 : decode cX11_site 27 = .ok (.istore 5, 2) := by decide +kernel
theorem dX11_site_29 : decode cX11_site 29 = .ok (.iload 5, 2) := by decide +kernel
theorem dX11_site_31 : decode cX11_site 31 = .ok (.sipush 199, 3) := by decide +kernel
theorem dX11_site_34 : decode cX11_site 34 = .ok (.if_icmp .gt 102, 3) := by decide +kernel
theorem dX11_site_37 : decode cX11_site 37 = .ok (.aload_n 0, 1) := by decide +kernel
theorem dX11_site_38 : decode cX11_site 38 = .ok (.getfield 43, 3) := by decide +kernel
theorem dX11_site_41 : decode cX11_site 41 = .ok (.aload_n 0, 1) := by decide +kernel
theorem dX11_site_42 : decode cX11_site 42 = .ok (.getfield 36, 3) := by decide +kernel
theorem dX11_site_45 : decode cX11_site 45 = .ok (.invokevirtual 187, 3) := by decide +kernel
theorem dX11_site_48 : decode cX11_site 48 = .ok (.aload_n 0, 1) := by decide +kernel
theorem dX11_site_49 : decode cX11_site 49 = .ok (.getfield 43, 3) := by decide +kernel
theorem dX11_site_52 : decode cX11_site 52 = .ok (.iload 5, 2) := by decide +kernel
theorem dX11_site_54 : decode cX11_site 54 = .ok (.bipush 10, 2) := by decide +kernel
theorem dX11_site_56 : decode cX11_site 56 = .ok (.idiv, 1) := by decide +kernel
theorem dX11_site_57 : decode cX11_site 57 = .ok (.putfield 90, 3) := by decide +kernel
theorem dX11_site_60 : decode cX11_site 60 = .ok (.aload_n 0, 1) := by decide +kernel
theorem dX11_site_61 : decode cX11_site 61 = .ok (.getfield 43, 3) := by decide +kernel
theorem dX11_site_64 : decode cX11_site 64 = .ok (.iload 5, 2) := by decide +kernel
theorem dX11_site_66 : decode cX11_site 66 = .ok (.bipush 10, 2) := by decide +kernel
theorem dX11_site_68 : decode cX11_site 68 = .ok (.irem, 1) := by decide +kernel
theorem dX11_site_69 : decode cX11_site 69 = .ok (.putfield 94, 3) := by decide +kernel
theorem dX11_site_72 : decode cX11_site 72 = .ok (.aload_n 0, 1) := by decide +kernel
theorem dX11_site_73 : decode cX11_site 73 = .ok (.getfield 43, 3) := by decide +kernel
theorem dX11_site_76 : decode cX11_site 76 = .ok (.iload_n 1, 1) := by decide +kernel
theorem dX11_site_77 : decode cX11_site 77 = .ok (.invokevirtual 180, 3) := by decide +kernel
theorem dX11_site_80 : decode cX11_site 80 = .ok (.aload_n 0, 1) := by decide +kernel
theorem dX11_site_81 : decode cX11_site 81 = .ok (.getfield 43, 3) := by decide +kernel
theorem dX11_site_84 : decode cX11_site 84 = .ok (.invokevirtual 120, 3) := by decide +kernel
theorem dX11_site_87 : decode cX11_site 87 = .ok (.invokestatic 207, 3) := by decide +kernel
theorem dX11_site_90 : decode cX11_site 90 = .ok (.istore 6, 2) := by decide +kernel
theorem dX11_site_92 : decode cX11_site 92 = .ok (.aload_n 0, 1) := by decide +kernel
theorem dX11_site_93 : decode cX11_site 93 = .ok (.getfield 43, 3) := by decide +kernel
theorem dX11_site_96 : decode cX11_site 96 = .ok (.invokevirtual 213, 3) := by decide +kernel
theorem dX11_site_99 : decode cX11_site 99 = .ok (.istore 7, 2) := by decide +kernel
theorem dX11_site_101 : decode cX11_site 101 = .ok (.iload 6, 2) := by decide +kernel
theorem dX11_site_103 : decode cX11_site 103 = .ok (.iload_n 3, 1) := by decide +kernel
theorem dX11_site_104 : decode cX11_site 104 = .ok (.if_icmp .lt 16, 3) := by decide +kernel
theorem dX11_site_107 : decode cX11_site 107 = .ok (.iload 6, 2) := by decide +kernel
theorem dX11_site_109 : decode cX11_site 109 = .ok (.iload_n 3, 1) := by decide +kernel
theorem dX11_site_110 : decode cX11_site 110 = .ok (.if_icmp .ne 20, 3) := by decide +kernel
theorem dX11_site_113 : decode cX11_site 113 = .ok (.iload 7, 2) := by decide +kernel
theorem dX11_site_115 : decode cX11_site 115 = .ok (.iload 4, 2) := by decide +kernel
theorem dX11_site_117 : decode cX11_site 117 = .ok (.if_icmp .ge 13, 3) := by decide +kernel
theorem dX11_site_120 : decode cX11_site 120 = .ok (.iload 6, 2) := by decide +kernel
theorem dX11_site_122 : decode cX11_site 122 = .ok (.istore_n 3, 1) := by decide +kernel
theorem dX11_site_123 : decode cX11_site 123 = .ok (.iload 7, 2) := by decide +kernel
theorem dX11_site_125 : decode cX11_site 125 = .ok (.istore 4, 2) := by decide +kernel
theorem dX11_site_127 : decode cX11_site 127 = .ok (.iload 5, 2) := by decide +kernel
theorem dX11_site_129 : decode cX11_site 129 = .ok (.istore_n 2, 1) := by decide +kernel
theorem dX11_site_130 : decode cX11_site 130 = .ok (.iinc 5 1, 3) := by decide +kernel
theorem dX11_site_133 : decode cX11_site 133 = .ok (.goto (-104), 3) := by decide +kernel
theorem dX11_site_136 : decode cX11_site 136 = .ok (.iload_n 2, 1) := by decide +kernel
theorem dX11_site_137 : decode cX11_site 137 = .ok (.ireturn, 1) := by decide +kernel
theorem dX11_nearest_0 : decode cX11_nearest 0 = .ok (.iload_n 1, 1) := by decide +kernel
theorem dX11_nearest_1 : decode cX11_nearest 1 = .ok (.iconst 0, 1) := by decide +kernel
theorem dX11_nearest_2 : decode cX11_nearest 2 = .ok (.bipush 100, 2) := by decide +kernel
theorem dX11_nearest_4 : decode cX11_nearest 4 = .ok (.invokestatic 77, 3) := by decide +kernel
theorem dX11_nearest_7 : decode cX11_nearest 7 = .ok (.ifCond .ne 10, 3) := by decide +kernel
theorem dX11_nearest_10 : decode cX11_nearest 10 = .ok (.aload_n 0, 1) := by decide +kernel
theorem dX11_nearest_11 : decode cX11_nearest 11 = .ok (.ldc 81, 2) := by decide +kernel
theorem dX11_nearest_13 : decode cX11_nearest 13 = .ok (.invokevirtual 82, 3) := by decide +kernel
theorem dX11_nearest_16 : decode cX11_nearest 16 = .ok (.ireturn, 1) := by decide +kernel
theorem dX11_nearest_17 : decode cX11_nearest 17 = .ok (.aload_n 0, 1) := by decide +kernel
theorem dX11_nearest_18 : decode cX11_nearest 18 = .ok (.getfield 36, 3) := by decide +kernel
theorem dX11_nearest_21 : decode cX11_nearest 21 = .ok (.getfield 138, 3) := by decide +kernel
theorem dX11_nearest_24 : decode cX11_nearest 24 = .ok (.ifCond .ne 10, 3) := by decide +kernel
theorem dX11_nearest_27 : decode cX11_nearest 27 = .ok (.aload_n 0, 1) := by decide +kernel
theorem dX11_nearest_28 : decode cX11_nearest 28 = .ok (.ldc 194, 2) := by decide +kernel
theorem dX11_nearest_30 : decode cX11_nearest 30 = .ok (.invokevirtual 82, 3) := by decide +kernel
theorem dX11_nearest_33 : decode cX11_nearest 33 = .ok (.ireturn, 1) := by decide +kernel
theorem dX11_nearest_34 : decode cX11_nearest 34 = .ok (.aload_n 0, 1) := by decide +kernel
theorem dX11_nearest_35 : decode cX11_nearest 35 = .ok (.getfield 43, 3) := by decide +kernel
theorem dX11_nearest_38 : decode cX11_nearest 38 = .ok (.aload_n 0, 1) := by decide +kernel
theorem dX11_nearest_39 : decode cX11_nearest 39 = .ok (.getfield 36, 3) := by decide +kernel
theorem dX11_nearest_42 : decode cX11_nearest 42 = .ok (.invokevirtual 187, 3) := by decide +kernel
theorem dX11_nearest_45 : decode cX11_nearest 45 = .ok (.aload_n 0, 1) := by decide +kernel
theorem dX11_nearest_46 : decode cX11_nearest 46 = .ok (.getfield 43, 3) := by decide +kernel
theorem dX11_nearest_49 : decode cX11_nearest 49 = .ok (.iload_n 1, 1) := by decide +kernel
theorem dX11_nearest_50 : decode cX11_nearest 50 = .ok (.invokevirtual 180, 3) := by decide +kernel
theorem dX11_nearest_53 : decode cX11_nearest 53 = .ok (.aload_n 0, 1) := by decide +kernel
theorem dX11_nearest_54 : decode cX11_nearest 54 = .ok (.getfield 43, 3) := by decide +kernel
theorem dX11_nearest_57 : decode cX11_nearest 57 = .ok (.invokevirtual 216, 3) := by decide +kernel
theorem dX11_nearest_60 : decode cX11_nearest 60 = .ok (.ireturn, 1) := by decide +kernel
theorem dX11_feed_0 : decode cX11_feed 0 = .ok (.iload_n 2, 1) := by decide +kernel
theorem dX11_feed_1 : decode cX11_feed 1 = .ok (.iconst 1, 1) := by decide +kernel
theorem dX11_feed_2 : decode cX11_feed 2 = .ok (.iconst 4, 1) := by decide +kernel
theorem dX11_feed_3 : decode cX11_feed 3 = .ok (.invokestatic 77, 3) := by decide +kernel
theorem dX11_feed_6 : decode cX11_feed 6 = .ok (.ifCond .ne 10, 3) := by decide +kernel
theorem dX11_feed_9 : decode cX11_feed 9 = .ok (.aload_n 0, 1) := by decide +kernel
theorem dX11_feed_10 : decode cX11_feed 10 = .ok (.ldc 81, 2) := by decide +kernel
theorem dX11_feed_12 : decode cX11_feed 12 = .ok (.invokevirtual 82, 3) := by decide +kernel
theorem dX11_feed_15 : decode cX11_feed 15 = .ok (.ireturn, 1) := by decide +kernel
theorem dX11_feed_16 : decode cX11_feed 16 = .ok (.aload_n 0, 1) := by decide +kernel
theorem dX11_feed_17 : decode cX11_feed 17 = .ok (.getfield 53, 3) := by decide +kernel
theorem dX11_feed_20 : decode cX11_feed 20 = .ok (.getfield 219, 3) := by decide +kernel
theorem dX11_feed_23 : decode cX11_feed 23 = .ok (.iload_n 2, 1) := by decide +kernel
theorem dX11_feed_24 : decode cX11_feed 24 = .ok (.iadd, 1) := by decide +kernel
theorem dX11_feed_25 : decode cX11_feed 25 = .ok (.bipush 120, 2) := by decide +kernel
theorem dX11_feed_27 : decode cX11_feed 27 = .ok (.if_icmp .le 10, 3) := by decide +kernel
theorem dX11_feed_30 : decode cX11_feed 30 = .ok (.aload_n 0, 1) := by decide +kernel
theorem dX11_feed_31 : decode cX11_feed 31 = .ok (.ldc 133, 2) := by decide +kernel
theorem dX11_feed_33 : decode cX11_feed 33 = .ok (.invokevirtual 82, 3) := by decide +kernel
theorem dX11_feed_36 : decode cX11_feed 36 = .ok (.ireturn, 1) := by decide +kernel
theorem dX11_feed_37 : decode cX11_feed 37 = .ok (.iload_n 2, 1) := by decide +kernel
theorem dX11_feed_38 : decode cX11_feed 38 = .ok (.iconst 1, 1) := by decide +kernel
theorem dX11_feed_39 : decode cX11_feed 39 = .ok (.isub, 1) := by decide +kernel
theorem dX11_feed_40 : decode cX11_feed 40 = .ok (.istore_n 3, 1) := by decide +kernel
theorem dX11_feed_41 : decode cX11_feed 41 = .ok (.iload_n 3, 1) := by decide +kernel
theorem dX11_feed_42 : decode cX11_feed 42 = .ok (.ifCond .lt 23, 3) := by decide +kernel
theorem dX11_feed_45 : decode cX11_feed 45 = .ok (.aload_n 0, 1) := by decide +kernel
theorem dX11_feed_46 : decode cX11_feed 46 = .ok (.getfield 53, 3) := by decide +kernel
theorem dX11_feed_49 : decode cX11_feed 49 = .ok (.iload_n 1, 1) := by decide +kernel
theorem dX11_feed_50 : decode cX11_feed 50 = .ok (.bipush 8, 2) := by decide +kernel
theorem dX11_feed_52 : decode cX11_feed 52 = .ok (.iload_n 3, 1) := by decide +kernel
theorem dX11_feed_53 : decode cX11_feed 53 = .ok (.imul, 1) := by decide +kernel
theorem dX11_feed_54 : decode cX11_feed 54 = .ok (.iushr, 1) := by decide +kernel
theorem dX11_feed_55 : decode cX11_feed 55 = .ok (.i2b, 1) := by decide +kernel
theorem dX11_feed_56 : decode cX11_feed 56 = .ok (.invokevirtual 222, 3) := by decide +kernel
theorem dX11_feed_59 : decode cX11_feed 59 = .ok (.iinc 3 (-1), 3) := by decide +kernel
theorem dX11_feed_62 : decode cX11_feed 62 = .ok (.goto (-21), 3) := by decide +kernel
theorem dX11_feed_65 : decode cX11_feed 65 = .ok (.aload_n 0, 1) := by decide +kernel
theorem dX11_feed_66 : decode cX11_feed 66 = .ok (.getfield 53, 3) := by decide +kernel
theorem dX11_feed_69 : decode cX11_feed 69 = .ok (.getfield 219, 3) := by decide +kernel
theorem dX11_feed_72 : decode cX11_feed 72 = .ok (.ireturn, 1) := by decide +kernel
theorem dX11_wipe_0 : decode cX11_wipe 0 = .ok (.aload_n 0, 1) := by decide +kernel
theorem dX11_wipe_1 : decode cX11_wipe 1 = .ok (.getfield 53, 3) := by decide +kernel
theorem dX11_wipe_4 : decode cX11_wipe 4 = .ok (.invokevirtual 226, 3) := by decide +kernel
theorem dX11_wipe_7 : decode cX11_wipe 7 = .ok (.ireturn, 1) := by decide +kernel
theorem dX11_sea_0 : decode cX11_sea 0 = .ok (.aload_n 0, 1) := by decide +kernel
theorem dX11_sea_1 : decode cX11_sea 1 = .ok (.getfield 43, 3) := by decide +kernel
theorem dX11_sea_4 : decode cX11_sea 4 = .ok (.aload_n 0, 1) := by decide +kernel
theorem dX11_sea_5 : decode cX11_sea 5 = .ok (.getfield 36, 3) := by decide +kernel
theorem dX11_sea_8 : decode cX11_sea 8 = .ok (.invokevirtual 187, 3) := by decide +kernel
theorem dX11_sea_11 : decode cX11_sea 11 = .ok (.aload_n 0, 1) := by decide +kernel
theorem dX11_sea_12 : decode cX11_sea 12 = .ok (.getfield 62, 3) := by decide +kernel
theorem dX11_sea_15 : decode cX11_sea 15 = .ok (.aload_n 0, 1) := by decide +kernel
theorem dX11_sea_16 : decode cX11_sea 16 = .ok (.getfield 43, 3) := by decide +kernel
theorem dX11_sea_19 : decode cX11_sea 19 = .ok (.invokevirtual 229, 3) := by decide +kernel
theorem dX11_sea_22 : decode cX11_sea 22 = .ok (.istore_n 1, 1) := by decide +kernel
theorem dX11_sea_23 : decode cX11_sea 23 = .ok (.iload_n 1, 1) := by decide +kernel
theorem dX11_sea_24 : decode cX11_sea 24 = .ok (.ifCond .lt 14, 3) := by decide +kernel
theorem dX11_sea_27 : decode cX11_sea 27 = .ok (.aload_n 0, 1) := by decide +kernel
theorem dX11_sea_28 : decode cX11_sea 28 = .ok (.getfield 36, 3) := by decide +kernel
theorem dX11_sea_31 : decode cX11_sea 31 = .ok (.aload_n 0, 1) := by decide +kernel
theorem dX11_sea_32 : decode cX11_sea 32 = .ok (.getfield 43, 3) := by decide +kernel
theorem dX11_sea_35 : decode cX11_sea 35 = .ok (.invokevirtual 187, 3) := by decide +kernel
theorem dX11_sea_38 : decode cX11_sea 38 = .ok (.aload_n 0, 1) := by decide +kernel
theorem dX11_sea_39 : decode cX11_sea 39 = .ok (.getfield 53, 3) := by decide +kernel
theorem dX11_sea_42 : decode cX11_sea 42 = .ok (.invokevirtual 226, 3) := by decide +kernel
theorem dX11_sea_45 : decode cX11_sea 45 = .ok (.pop, 1) := by decide +kernel
theorem dX11_sea_46 : decode cX11_sea 46 = .ok (.iload_n 1, 1) := by decide +kernel
theorem dX11_sea_47 : decode cX11_sea 47 = .ok (.ireturn, 1) := by decide +kernel
theorem dX11_sheet_0 : decode cX11_sheet 0 = .ok (.iload_n 1, 1) := by decide +kernel
theorem dX11_sheet_1 : decode cX11_sheet 1 = .ok (.invokestatic 233, 3) := by decide +kernel
theorem dX11_sheet_4 : decode cX11_sheet 4 = .ok (.ifCond .eq 25, 3) := by decide +kernel
theorem dX11_sheet_7 : decode cX11_sheet 7 = .ok (.iload_n 2, 1) := by decide +kernel
theorem dX11_sheet_8 : decode cX11_sheet 8 = .ok (.ifCond .eq 28, 3) := by decide +kernel
theorem dX11_sheet_11 : decode cX11_sheet 11 = .ok (.iload_n 2, 1) := by decide +kernel
theorem dX11_sheet_12 : decode cX11_sheet 12 = .ok (.bipush 8, 2) := by decide +kernel
theorem dX11_sheet_14 : decode cX11_sheet 14 = .ok (.if_icmp .eq 22, 3) := by decide +kernel
theorem dX11_sheet_17 : decode cX11_sheet 17 = .ok (.iload_n 2, 1) := by decide +kernel
theorem dX11_sheet_18 : decode cX11_sheet 18 = .ok (.bipush 16, 2) := by decide +kernel
theorem dX11_sheet_20 : decode cX11_sheet 20 = .ok (.if_icmp .eq 16, 3) := by decide +kernel
theorem dX11_sheet_23 : decode cX11_sheet 23 = .ok (.iload_n 2, 1) := by decide +kernel
theorem dX11_sheet_24 : decode cX11_sheet 24 = .ok (.bipush 64, 2) := by decide +kernel
theorem dX11_sheet_26 : decode cX11_sheet 26 = .ok (.if_icmp .eq 10, 3) := by decide +kernel
theorem dX11_sheet_29 : decode cX11_sheet 29 = .ok (.aload_n 0, 1) := by decide +kernel
theorem dX11_sheet_30 : decode cX11_sheet 30 = .ok (.ldc 81, 2) := by decide +kernel
theorem dX11_sheet_32 : decode cX11_sheet 32 = .ok (.invokevirtual 82, 3) := by decide +kernel
theorem dX11_sheet_35 : decode cX11_sheet 35 = .ok (.ireturn, 1) := by decide +kernel
theorem dX11_sheet_36 : decode cX11_sheet 36 = .ok (.iload_n 3, 1) := by decide +kernel
theorem dX11_sheet_37 : decode cX11_sheet 37 = .ok (.ifCond .ge 10, 3) := by decide +kernel
theorem dX11_sheet_40 : decode cX11_sheet 40 = .ok (.aload_n 0, 1) := by decide +kernel
theorem dX11_sheet_41 : decode cX11_sheet 41 = .ok (.ldc 236, 2) := by decide +kernel
theorem dX11_sheet_43 : decode cX11_sheet 43 = .ok (.invokevirtual 82, 3) := by decide +kernel
theorem dX11_sheet_46 : decode cX11_sheet 46 = .ok (.ireturn, 1) := by decide +kernel
theorem dX11_sheet_47 : decode cX11_sheet 47 = .ok (.iload_n 3, 1) := by decide +kernel
theorem dX11_sheet_48 : decode cX11_sheet 48 = .ok (.bipush 40, 2) := by decide +kernel
theorem dX11_sheet_50 : decode cX11_sheet 50 = .ok (.if_icmp .le 10, 3) := by decide +kernel
theorem dX11_sheet_53 : decode cX11_sheet 53 = .ok (.aload_n 0, 1) := by decide +kernel
theorem dX11_sheet_54 : decode cX11_sheet 54 = .ok (.ldc 81, 2) := by decide +kernel
theorem dX11_sheet_56 : decode cX11_sheet 56 = .ok (.invokevirtual 82, 3) := by decide +kernel
theorem dX11_sheet_59 : decode cX11_sheet 59 = .ok (.ireturn, 1) := by decide +kernel
theorem dX11_sheet_60 : decode cX11_sheet 60 = .ok (.aload_n 0, 1) := by decide +kernel
theorem dX11_sheet_61 : decode cX11_sheet 61 = .ok (.getfield 69, 3) := by decide +kernel
theorem dX11_sheet_64 : decode cX11_sheet 64 = .ok (.iload_n 1, 1) := by decide +kernel
theorem dX11_sheet_65 : decode cX11_sheet 65 = .ok (.aaload, 1) := by decide +kernel
theorem dX11_sheet_66 : decode cX11_sheet 66 = .ok (.iload_n 2, 1) := by decide +kernel
theorem dX11_sheet_67 : decode cX11_sheet 67 = .ok (.iload_n 2, 1) := by decide +kernel
theorem dX11_sheet_68 : decode cX11_sheet 68 = .ok (.ifCond .ne 7, 3) := by decide +kernel
theorem dX11_sheet_71 : decode cX11_sheet 71 = .ok (.iconst 0, 1) := by decide +kernel
theorem dX11_sheet_72 : decode cX11_sheet 72 = .ok (.goto 4, 3) := by decide +kernel
theorem dX11_sheet_75 : decode cX11_sheet 75 = .ok (.iload_n 3, 1) := by decide +kernel
theorem dX11_sheet_76 : decode cX11_sheet 76 = .ok (.invokevirtual 237, 3) := by decide +kernel
theorem dX11_sheet_79 : decode cX11_sheet 79 = .ok (.aload_n 0, 1) := by decide +kernel
theorem dX11_sheet_80 : decode cX11_sheet 80 = .ok (.getfield 69, 3) := by decide +kernel
theorem dX11_sheet_83 : decode cX11_sheet 83 = .ok (.iload_n 1, 1) := by decide +kernel
theorem dX11_sheet_84 : decode cX11_sheet 84 = .ok (.aaload, 1) := by decide +kernel
theorem dX11_sheet_85 : decode cX11_sheet 85 = .ok (.getfield 240, 3) := by decide +kernel
theorem dX11_sheet_88 : decode cX11_sheet 88 = .ok (.ireturn, 1) := by decide +kernel
theorem dX11_write_0 : decode cX11_write 0 = .ok (.aload_n 0, 1) := by decide +kernel
theorem dX11_write_1 : decode cX11_write 1 = .ok (.iload_n 1, 1) := by decide +kernel
theorem dX11_write_2 : decode cX11_write 2 = .ok (.invokevirtual 241, 3) := by decide +kernel
theorem dX11_write_5 : decode cX11_write 5 = .ok (.istore 5, 2) := by decide +kernel
theorem dX11_write_7 : decode cX11_write 7 = .ok (.iload 5, 2) := by decide +kernel
theorem dX11_write_9 : decode cX11_write 9 = .ok (.ifCond .eq 11, 3) := by decide +kernel
theorem dX11_write_12 : decode cX11_write 12 = .ok (.aload_n 0, 1) := by decide +kernel
theorem dX11_write_13 : decode cX11_write 13 = .ok (.iload 5, 2) := by decide +kernel
theorem dX11_write_15 : decode cX11_write 15 = .ok (.invokevirtual 82, 3) := by decide +kernel
theorem dX11_write_18 : decode cX11_write 18 = .ok (.i2l, 1) := by decide +kernel
theorem dX11_write_19 : decode cX11_write 19 = .ok (.lreturn, 1) := by decide +kernel
theorem dX11_write_20 : decode cX11_write 20 = .ok (.aload_n 0, 1) := by decide +kernel
theorem dX11_write_21 : decode cX11_write 21 = .ok (.getfield 69, 3) := by decide +kernel
theorem dX11_write_24 : decode cX11_write 24 = .ok (.iload_n 1, 1) := by decide +kernel
theorem dX11_write_25 : decode cX11_write 25 = .ok (.aaload, 1) := by decide +kernel
theorem dX11_write_26 : decode cX11_write 26 = .ok (.astore 6, 2) := by decide +kernel
theorem dX11_write_28 : decode cX11_write 28 = .ok (.iload_n 2, 1) := by decide +kernel
theorem dX11_write_29 : decode cX11_write 29 = .ok (.iconst 0, 1) := by decide +kernel
theorem dX11_write_30 : decode cX11_write 30 = .ok (.aload 6, 2) := by decide +kernel
theorem dX11_write_32 : decode cX11_write 32 = .ok (.getfield 240, 3) := by decide +kernel
theorem dX11_write_35 : decode cX11_write 35 = .ok (.iconst 1, 1) := by decide +kernel
theorem dX11_write_36 : decode cX11_write 36 = .ok (.isub, 1) := by decide +kernel
theorem dX11_write_37 : decode cX11_write 37 = .ok (.invokestatic 77, 3) := by decide +kernel
theorem dX11_write_40 : decode cX11_write 40 = .ok (.ifCond .ne 11, 3) := by decide +kernel
theorem dX11_write_43 : decode cX11_write 43 = .ok (.aload_n 0, 1) := by decide +kernel
theorem dX11_write_44 : decode cX11_write 44 = .ok (.ldc 81, 2) := by decide +kernel
theorem dX11_write_46 : decode cX11_write 46 = .ok (.invokevirtual 82, 3) := by decide +kernel
theorem dX11_write_49 : decode cX11_write 49 = .ok (.i2l, 1) := by decide +kernel
theorem dX11_write_50 : decode cX11_write 50 = .ok (.lreturn, 1) := by decide +kernel
theorem dX11_write_51 : decode cX11_write 51 = .ok (.aload 6, 2) := by decide +kernel
theorem dX11_write_53 : decode cX11_write 53 = .ok (.iload_n 2, 1) := by decide +kernel
theorem dX11_write_54 : decode cX11_write 54 = .ok (.invokevirtual 244, 3) := by decide +kernel
theorem dX11_write_57 : decode cX11_write 57 = .ok (.lstore 7, 2) := by decide +kernel
theorem dX11_write_59 : decode cX11_write 59 = .ok (.aload 6, 2) := by decide +kernel
theorem dX11_write_61 : decode cX11_write 61 = .ok (.iload_n 2, 1) := by decide +kernel
theorem dX11_write_62 : decode cX11_write 62 = .ok (.lload_n 3, 1) := by decide +kernel
theorem dX11_write_63 : decode cX11_write 63 = .ok (.invokevirtual 248, 3) := by decide +kernel
theorem dX11_write_66 : decode cX11_write 66 = .ok (.lload 7, 2) := by decide +kernel
theorem dX11_write_68 : decode cX11_write 68 = .ok (.lreturn, 1) := by decide +kernel
theorem dX11_copy_0 : decode cX11_copy 0 = .ok (.iload_n 1, 1) := by decide +kernel
theorem dX11_copy_1 : decode cX11_copy 1 = .ok (.invokestatic 233, 3) := by decide +kernel
theorem dX11_copy_4 : decode cX11_copy 4 = .ok (.ifCond .eq 10, 3) := by decide +kernel
theorem dX11_copy_7 : decode cX11_copy 7 = .ok (.iload_n 3, 1) := by decide +kernel
theorem dX11_copy_8 : decode cX11_copy 8 = .ok (.invokestatic 233, 3) := by decide +kernel
theorem dX11_copy_11 : decode cX11_copy 11 = .ok (.ifCond .ne 10, 3) := by decide +kernel
theorem dX11_copy_14 : decode cX11_copy 14 = .ok (.aload_n 0, 1) := by decide +kernel
theorem dX11_copy_15 : decode cX11_copy 15 = .ok (.ldc 81, 2) := by decide +kernel
theorem dX11_copy_17 : decode cX11_copy 17 = .ok (.invokevirtual 82, 3) := by decide +kernel
theorem dX11_copy_20 : decode cX11_copy 20 = .ok (.ireturn, 1) := by decide +kernel
theorem dX11_copy_21 : decode cX11_copy 21 = .ok (.aload_n 0, 1) := by decide +kernel
theorem dX11_copy_22 : decode cX11_copy 22 = .ok (.getfield 69, 3) := by decide +kernel
theorem dX11_copy_25 : decode cX11_copy 25 = .ok (.iload_n 1, 1) := by decide +kernel
theorem dX11_copy_26 : decode cX11_copy 26 = .ok (.aaload, 1) := by decide +kernel
theorem dX11_copy_27 : decode cX11_copy 27 = .ok (.astore 6, 2) := by decide +kernel
theorem dX11_copy_29 : decode cX11_copy 29 = .ok (.aload_n 0, 1) := by decide +kernel
theorem dX11_copy_30 : decode cX11_copy 30 = .ok (.getfield 69, 3) := by decide +kernel
theorem dX11_copy_33 : decode cX11_copy 33 = .ok (.iload_n 3, 1) := by decide +kernel
theorem dX11_copy_34 : decode cX11_copy 34 = .ok (.aaload, 1) := by decide +kernel
theorem dX11_copy_35 : decode cX11_copy 35 = .ok (.astore 7, 2) := by decide +kernel
theorem dX11_copy_37 : decode cX11_copy 37 = .ok (.aload 6, 2) := by decide +kernel
theorem dX11_copy_39 : decode cX11_copy 39 = .ok (.invokevirtual 251, 3) := by decide +kernel
theorem dX11_copy_42 : decode cX11_copy 42 = .ok (.ifCond .ne 11, 3) := by decide +kernel
theorem dX11_copy_45 : decode cX11_copy 45 = .ok (.aload 7, 2) := by decide +kernel
theorem dX11_copy_47 : decode cX11_copy 47 = .ok (.invokevirtual 251, 3) := by decide +kernel
theorem dX11_copy_50 : decode cX11_copy 50 = .ok (.ifCond .eq 10, 3) := by decide +kernel
theorem dX11_copy_53 : decode cX11_copy 53 = .ok (.aload_n 0, 1) := by decide +kernel
theorem dX11_copy_54 : decode cX11_copy 54 = .ok (.ldc 254, 2) := by decide +kernel
theorem dX11_copy_56 : decode cX11_copy 56 = .ok (.invokevirtual 82, 3) := by decide +kernel
theorem dX11_copy_59 : decode cX11_copy 59 = .ok (.ireturn, 1) := by decide +kernel
theorem dX11_copy_60 : decode cX11_copy 60 = .ok (.aload 6, 2) := by decide +kernel
theorem dX11_copy_62 : decode cX11_copy 62 = .ok (.getfield 255, 3) := by decide +kernel
theorem dX11_copy_65 : decode cX11_copy 65 = .ok (.aload 7, 2) := by decide +kernel
theorem dX11_copy_67 : decode cX11_copy 67 = .ok (.getfield 255, 3) := by decide +kernel
theorem dX11_copy_70 : decode cX11_copy 70 = .ok (.if_icmp .eq 10, 3) := by decide +kernel
theorem dX11_copy_73 : decode cX11_copy 73 = .ok (.aload_n 0, 1) := by decide +kernel
theorem dX11_copy_74 : decode cX11_copy 74 = .ok (.ldc 177, 2) := by decide +kernel
theorem dX11_copy_76 : decode cX11_copy 76 = .ok (.invokevirtual 82, 3) := by decide +kernel
theorem dX11_copy_79 : decode cX11_copy 79 = .ok (.ireturn, 1) := by decide +kernel
theorem dX11_copy_80 : decode cX11_copy 80 = .ok (.aload 6, 2) := by decide +kernel
theorem dX11_copy_82 : decode cX11_copy 82 = .ok (.iload_n 2, 1) := by decide +kernel
theorem dX11_copy_83 : decode cX11_copy 83 = .ok (.iload 5, 2) := by decide +kernel
theorem dX11_copy_85 : decode cX11_copy 85 = .ok (.invokevirtual 258, 3) := by decide +kernel
theorem dX11_copy_88 : decode cX11_copy 88 = .ok (.ifCond .eq 15, 3) := by decide +kernel
theorem dX11_copy_91 : decode cX11_copy 91 = .ok (.aload 7, 2) := by decide +kernel
theorem dX11_copy_93 : decode cX11_copy 93 = .ok (.iload 4, 2) := by decide +kernel
theorem dX11_copy_95 : decode cX11_copy 95 = .ok (.iload 5, 2) := by decide +kernel
theorem dX11_copy_97 : decode cX11_copy 97 = .ok (.invokevirtual 258, 3) := by decide +kernel
theorem dX11_copy_100 : decode cX11_copy 100 = .ok (.ifCond .ne 10, 3) := by decide +kernel
theorem dX11_copy_103 : decode cX11_copy 103 = .ok (.aload_n 0, 1) := by decide +kernel
theorem dX11_copy_104 : decode cX11_copy 104 = .ok (.ldc 81, 2) := by decide +kernel
theorem dX11_copy_106 : decode cX11_copy 106 = .ok (.invokevirtual 82, 3) := by decide +kernel
theorem dX11_copy_109 : decode cX11_copy 109 = .ok (.ireturn, 1) := by decide +kernel
theorem dX11_copy_110 : decode cX11_copy 110 = .ok (.aload 6, 2) := by decide +kernel
theorem dX11_copy_112 : decode cX11_copy 112 = .ok (.getfield 262, 3) := by decide +kernel
theorem dX11_copy_115 : decode cX11_copy 115 = .ok (.iload_n 2, 1) := by decide +kernel
theorem dX11_copy_116 : decode cX11_copy 116 = .ok (.aload 7, 2) := by decide +kernel
theorem dX11_copy_118 : decode cX11_copy 118 = .ok (.getfield 262, 3) := by decide +kernel
theorem dX11_copy_121 : decode cX11_copy 121 = .ok (.iload 4, 2) := by decide +kernel
theorem dX11_copy_123 : decode cX11_copy 123 = .ok (.iload 5, 2) := by decide +kernel
theorem dX11_copy_125 : decode cX11_copy 125 = .ok (.invokestatic 266, 3) := by decide +kernel
theorem dX11_copy_128 : decode cX11_copy 128 = .ok (.iload 5, 2) := by decide +kernel
theorem dX11_copy_130 : decode cX11_copy 130 = .ok (.ireturn, 1) := by decide +kernel
theorem dX11_lays_0 : decode cX11_lays 0 = .ok (.aload_n 0, 1) := by decide +kernel
theorem dX11_lays_1 : decode cX11_lays 1 = .ok (.iload_n 1, 1) := by decide +kernel
theorem dX11_lays_2 : decode cX11_lays 2 = .ok (.invokevirtual 241, 3) := by decide +kernel
theorem dX11_lays_5 : decode cX11_lays 5 = .ok (.istore_n 2, 1) := by decide +kernel
theorem dX11_lays_6 : decode cX11_lays 6 = .ok (.iload_n 2, 1) := by decide +kernel
theorem dX11_lays_7 : decode cX11_lays 7 = .ok (.ifCond .eq 9, 3) := by decide +kernel
theorem dX11_lays_10 : decode cX11_lays 10 = .ok (.aload_n 0, 1) := by decide +kernel
theorem dX11_lays_11 : decode cX11_lays 11 = .ok (.iload_n 2, 1) := by decide +kernel
theorem dX11_lays_12 : decode cX11_lays 12 = .ok (.invokevirtual 82, 3) := by decide +kernel
theorem dX11_lays_15 : decode cX11_lays 15 = .ok (.ireturn, 1) := by decide +kernel
theorem dX11_lays_16 : decode cX11_lays 16 = .ok (.aload_n 0, 1) := by decide +kernel
theorem dX11_lays_17 : decode cX11_lays 17 = .ok (.getfield 69, 3) := by decide +kernel
theorem dX11_lays_20 : decode cX11_lays 20 = .ok (.iload_n 1, 1) := by decide +kernel
theorem dX11_lays_21 : decode cX11_lays 21 = .ok (.aaload, 1) := by decide +kernel
theorem dX11_lays_22 : decode cX11_lays 22 = .ok (.astore_n 3, 1) := by decide +kernel
theorem dX11_lays_23 : decode cX11_lays 23 = .ok (.iconst 0, 1) := by decide +kernel
theorem dX11_lays_24 : decode cX11_lays 24 = .ok (.istore 4, 2) := by decide +kernel
theorem dX11_lays_26 : decode cX11_lays 26 = .ok (.iconst 0, 1) := by decide +kernel
theorem dX11_lays_27 : decode cX11_lays 27 = .ok (.istore 5, 2) := by decide +kernel
theorem dX11_lays_29 : decode cX11_lays 29 = .ok (.iload 5, 2) := by decide +kernel
theorem dX11_lays_31 : decode cX11_lays 31 = .ok (.aload_n 3, 1) := by decide +kernel
theorem dX11_lays_32 : decode cX11_lays 32 = .ok (.getfield 240, 3) := by decide +kernel
theorem dX11_lays_35 : decode cX11_lays 35 = .ok (.if_icmp .ge 61, 3) := by decide +kernel
theorem dX11_lays_38 : decode cX11_lays 38 = .ok (.aload_n 0, 1) := by decide +kernel
theorem dX11_lays_39 : decode cX11_lays 39 = .ok (.iload 5, 2) := by decide +kernel
theorem dX11_lays_41 : decode cX11_lays 41 = .ok (.invokevirtual 141, 3) := by decide +kernel
theorem dX11_lays_44 : decode cX11_lays 44 = .ok (.ifCond .eq 52, 3) := by decide +kernel
theorem dX11_lays_47 : decode cX11_lays 47 = .ok (.aload_n 3, 1) := by decide +kernel
theorem dX11_lays_48 : decode cX11_lays 48 = .ok (.iload 5, 2) := by decide +kernel
theorem dX11_lays_50 : decode cX11_lays 50 = .ok (.invokevirtual 244, 3) := by decide +kernel
theorem dX11_lays_53 : decode cX11_lays 53 = .ok (.lstore 6, 2) := by decide +kernel
theorem dX11_lays_55 : decode cX11_lays 55 = .ok (.lload 6, 2) := by decide +kernel
theorem dX11_lays_57 : decode cX11_lays 57 = .ok (.lconst 0, 1) := by decide +kernel
theorem dX11_lays_58 : decode cX11_lays 58 = .ok (.lcmp, 1) := by decide +kernel
theorem dX11_lays_59 : decode cX11_lays 59 = .ok (.ifCond .lt 31, 3) := by decide +kernel
theorem dX11_lays_62 : decode cX11_lays 62 = .ok (.lload 6, 2) := by decide +kernel
theorem dX11_lays_64 : decode cX11_lays 64 = .ok (.ldc2_w 272, 3) := by decide +kernel
theorem dX11_lays_67 : decode cX11_lays 67 = .ok (.lcmp, 1) := by decide +kernel
theorem dX11_lays_68 : decode cX11_lays 68 = .ok (.ifCond .gt 22, 3) := by decide +kernel
theorem dX11_lays_71 : decode cX11_lays 71 = .ok (.aload_n 0, 1) := by decide +kernel
theorem dX11_lays_72 : decode cX11_lays 72 = .ok (.getfield 36, 3) := by decide +kernel
theorem dX11_lays_75 : decode cX11_lays 75 = .ok (.getfield 144, 3) := by decide +kernel
theorem dX11_lays_78 : decode cX11_lays 78 = .ok (.iload 5, 2) := by decide +kernel
theorem dX11_lays_80 : decode cX11_lays 80 = .ok (.aaload, 1) := by decide +kernel
theorem dX11_lays_81 : decode cX11_lays 81 = .ok (.lload 6, 2) := by decide +kernel
theorem dX11_lays_83 : decode cX11_lays 83 = .ok (.l2i, 1) := by decide +kernel
theorem dX11_lays_84 : decode cX11_lays 84 = .ok (.putfield 204, 3) := by decide +kernel
theorem dX11_lays_87 : decode cX11_lays 87 = .ok (.iinc 4 1, 3) := by decide +kernel
theorem dX11_lays_90 : decode cX11_lays 90 = .ok (.iinc 5 1, 3) := by decide +kernel
theorem dX11_lays_93 : decode cX11_lays 93 = .ok (.goto (-64), 3) := by decide +kernel
theorem dX11_lays_96 : decode cX11_lays 96 = .ok (.iload 4, 2) := by decide +kernel
theorem dX11_lays_98 : decode cX11_lays 98 = .ok (.ireturn, 1) := by decide +kernel
theorem dX11_book_0 : decode cX11_book 0 = .ok (.aload_n 0, 1) := by decide +kernel
theorem dX11_book_1 : decode cX11_book 1 = .ok (.iload_n 1, 1) := by decide +kernel
theorem dX11_book_2 : decode cX11_book 2 = .ok (.invokevirtual 241, 3) := by decide +kernel
theorem dX11_book_5 : decode cX11_book 5 = .ok (.istore_n 3, 1) := by decide +kernel
theorem dX11_book_6 : decode cX11_book 6 = .ok (.iload_n 3, 1) := by decide +kernel
theorem dX11_book_7 : decode cX11_book 7 = .ok (.ifCond .eq 9, 3) := by decide +kernel
theorem dX11_book_10 : decode cX11_book 10 = .ok (.aload_n 0, 1) := by decide +kernel
theorem dX11_book_11 : decode cX11_book 11 = .ok (.iload_n 3, 1) := by decide +kernel
theorem dX11_book_12 : decode cX11_book 12 = .ok (.invokevirtual 82, 3) := by decide +kernel
theorem dX11_book_15 : decode cX11_book 15 = .ok (.ireturn, 1) := by decide +kernel
theorem dX11_book_16 : decode cX11_book 16 = .ok (.aload_n 0, 1) := by decide +kernel
theorem dX11_book_17 : decode cX11_book 17 = .ok (.getfield 69, 3) := by decide +kernel
theorem dX11_book_20 : decode cX11_book 20 = .ok (.iload_n 1, 1) := by decide +kernel
theorem dX11_book_21 : decode cX11_book 21 = .ok (.aaload, 1) := by decide +kernel
theorem dX11_book_22 : decode cX11_book 22 = .ok (.astore 4, 2) := by decide +kernel
theorem dX11_book_24 : decode cX11_book 24 = .ok (.aload_n 0, 1) := by decide +kernel
theorem dX11_book_25 : decode cX11_book 25 = .ok (.iload_n 2, 1) := by decide +kernel
theorem dX11_book_26 : decode cX11_book 26 = .ok (.invokevirtual 141, 3) := by decide +kernel
theorem dX11_book_29 : decode cX11_book 29 = .ok (.ifCond .ne 10, 3) := by decide +kernel
theorem dX11_book_32 : decode cX11_book 32 = .ok (.aload_n 0, 1) := by decide +kernel
theorem dX11_book_33 : decode cX11_book 33 = .ok (.ldc 81, 2) := by decide +kernel
theorem dX11_book_35 : decode cX11_book 35 = .ok (.invokevirtual 82, 3) := by decide +kernel
theorem dX11_book_38 : decode cX11_book 38 = .ok (.ireturn, 1) := by decide +kernel
theorem dX11_book_39 : decode cX11_book 39 = .ok (.aload_n 0, 1) := by decide +kernel
theorem dX11_book_40 : decode cX11_book 40 = .ok (.iload_n 2, 1) := by decide +kernel
theorem dX11_book_41 : decode cX11_book 41 = .ok (.invokevirtual 184, 3) := by decide +kernel
theorem dX11_book_44 : decode cX11_book 44 = .ok (.iconst 0, 1) := by decide +kernel
theorem dX11_book_45 : decode cX11_book 45 = .ok (.istore 5, 2) := by decide +kernel
theorem dX11_book_47 : decode cX11_book 47 = .ok (.iload 5, 2) := by decide +kernel
theorem dX11_book_49 : decode cX11_book 49 = .ok (.aload 4, 2) := by decide +kernel
theorem dX11_book_51 : decode cX11_book 51 = .ok (.getfield 240, 3) := by decide +kernel
theorem dX11_book_54 : decode cX11_book 54 = .ok (.if_icmp .ge 37, 3) := by decide +kernel
theorem dX11_book_57 : decode cX11_book 57 = .ok (.aload 4, 2) := by decide +kernel
theorem dX11_book_59 : decode cX11_book 59 = .ok (.iload 5, 2) := by decide +kernel
theorem dX11_book_61 : decode cX11_book 61 = .ok (.aload_n 0, 1) := by decide +kernel
theorem dX11_book_62 : decode cX11_book 62 = .ok (.getfield 43, 3) := by decide +kernel
theorem dX11_book_65 : decode cX11_book 65 = .ok (.getfield 144, 3) := by decide +kernel
theorem dX11_book_68 : decode cX11_book 68 = .ok (.iconst 0, 1) := by decide +kernel
theorem dX11_book_69 : decode cX11_book 69 = .ok (.aaload, 1) := by decide +kernel
theorem dX11_book_70 : decode cX11_book 70 = .ok (.getfield 204, 3) := by decide +kernel
theorem dX11_book_73 : decode cX11_book 73 = .ok (.i2l, 1) := by decide +kernel
theorem dX11_book_74 : decode cX11_book 74 = .ok (.invokevirtual 248, 3) := by decide +kernel
theorem dX11_book_77 : decode cX11_book 77 = .ok (.aload_n 0, 1) := by decide +kernel
theorem dX11_book_78 : decode cX11_book 78 = .ok (.getfield 43, 3) := by decide +kernel
theorem dX11_book_81 : decode cX11_book 81 = .ok (.iconst 1, 1) := by decide +kernel
theorem dX11_book_82 : decode cX11_book 82 = .ok (.invokevirtual 180, 3) := by decide +kernel
theorem dX11_book_85 : decode cX11_book 85 = .ok (.iinc 5 1, 3) := by decide +kernel
theorem dX11_book_88 : decode cX11_book 88 = .ok (.goto (-41), 3) := by decide +kernel
theorem dX11_book_91 : decode cX11_book 91 = .ok (.aload 4, 2) := by decide +kernel
theorem dX11_book_93 : decode cX11_book 93 = .ok (.getfield 240, 3) := by decide +kernel
theorem dX11_book_96 : decode cX11_book 96 = .ok (.ireturn, 1) := by decide +kernel
theorem dX11_read_0 : decode cX11_read 0 = .ok (.aload_n 0, 1) := by decide +kernel
theorem dX11_read_1 : decode cX11_read 1 = .ok (.iload_n 1, 1) := by decide +kernel
theorem dX11_read_2 : decode cX11_read 2 = .ok (.invokevirtual 241, 3) := by decide +kernel
theorem dX11_read_5 : decode cX11_read 5 = .ok (.istore_n 3, 1) := by decide +kernel
theorem dX11_read_6 : decode cX11_read 6 = .ok (.iload_n 3, 1) := by decide +kernel
theorem dX11_read_7 : decode cX11_read 7 = .ok (.ifCond .eq 9, 3) := by decide +kernel
theorem dX11_read_10 : decode cX11_read 10 = .ok (.aload_n 0, 1) := by decide +kernel
theorem dX11_read_11 : decode cX11_read 11 = .ok (.iload_n 3, 1) := by decide +kernel
theorem dX11_read_12 : decode cX11_read 12 = .ok (.invokevirtual 82, 3) := by decide +kernel
theorem dX11_read_15 : decode cX11_read 15 = .ok (.ireturn, 1) := by decide +kernel
theorem dX11_read_16 : decode cX11_read 16 = .ok (.aload_n 0, 1) := by decide +kernel
theorem dX11_read_17 : decode cX11_read 17 = .ok (.getfield 69, 3) := by decide +kernel
theorem dX11_read_20 : decode cX11_read 20 = .ok (.iload_n 1, 1) := by decide +kernel
theorem dX11_read_21 : decode cX11_read 21 = .ok (.aaload, 1) := by decide +kernel
theorem dX11_read_22 : decode cX11_read 22 = .ok (.astore 4, 2) := by decide +kernel
theorem dX11_read_24 : decode cX11_read 24 = .ok (.aload_n 0, 1) := by decide +kernel
theorem dX11_read_25 : decode cX11_read 25 = .ok (.iload_n 2, 1) := by decide +kernel
theorem dX11_read_26 : decode cX11_read 26 = .ok (.invokevirtual 141, 3) := by decide +kernel
theorem dX11_read_29 : decode cX11_read 29 = .ok (.ifCond .ne 10, 3) := by decide +kernel
theorem dX11_read_32 : decode cX11_read 32 = .ok (.aload_n 0, 1) := by decide +kernel
theorem dX11_read_33 : decode cX11_read 33 = .ok (.ldc 81, 2) := by decide +kernel
theorem dX11_read_35 : decode cX11_read 35 = .ok (.invokevirtual 82, 3) := by decide +kernel
theorem dX11_read_38 : decode cX11_read 38 = .ok (.ireturn, 1) := by decide +kernel
theorem dX11_read_39 : decode cX11_read 39 = .ok (.iconst 0, 1) := by decide +kernel
theorem dX11_read_40 : decode cX11_read 40 = .ok (.istore 5, 2) := by decide +kernel
theorem dX11_read_42 : decode cX11_read 42 = .ok (.iconst 0, 1) := by decide +kernel
theorem dX11_read_43 : decode cX11_read 43 = .ok (.istore 6, 2) := by decide +kernel
theorem dX11_read_45 : decode cX11_read 45 = .ok (.iload 6, 2) := by decide +kernel
theorem dX11_read_47 : decode cX11_read 47 = .ok (.iconst 5, 1) := by decide +kernel
theorem dX11_read_48 : decode cX11_read 48 = .ok (.if_icmp .gt 70, 3) := by decide +kernel
theorem dX11_read_51 : decode cX11_read 51 = .ok (.iconst 0, 1) := by decide +kernel
theorem dX11_read_52 : decode cX11_read 52 = .ok (.istore 7, 2) := by decide +kernel
theorem dX11_read_54 : decode cX11_read 54 = .ok (.iload 7, 2) := by decide +kernel
theorem dX11_read_56 : decode cX11_read 56 = .ok (.bipush 9, 2) := by decide +kernel
theorem dX11_read_58 : decode cX11_read 58 = .ok (.if_icmp .gt 54, 3) := by decide +kernel
theorem dX11_read_61 : decode cX11_read 61 = .ok (.aload_n 0, 1) := by decide +kernel
theorem dX11_read_62 : decode cX11_read 62 = .ok (.iload_n 2, 1) := by decide +kernel
theorem dX11_read_63 : decode cX11_read 63 = .ok (.invokevirtual 184, 3) := by decide +kernel
theorem dX11_read_66 : decode cX11_read 66 = .ok (.aload_n 0, 1) := by decide +kernel
theorem dX11_read_67 : decode cX11_read 67 = .ok (.getfield 43, 3) := by decide +kernel
theorem dX11_read_70 : decode cX11_read 70 = .ok (.getfield 144, 3) := by decide +kernel
theorem dX11_read_73 : decode cX11_read 73 = .ok (.iconst 0, 1) := by decide +kernel
theorem dX11_read_74 : decode cX11_read 74 = .ok (.aaload, 1) := by decide +kernel
theorem dX11_read_75 : decode cX11_read 75 = .ok (.aload_n 0, 1) := by decide +kernel
theorem dX11_read_76 : decode cX11_read 76 = .ok (.getfield 27, 3) := by decide +kernel
theorem dX11_read_79 : decode cX11_read 79 = .ok (.iload 6, 2) := by decide +kernel
theorem dX11_read_81 : decode cX11_read 81 = .ok (.aaload, 1) := by decide +kernel
theorem dX11_read_82 : decode cX11_read 82 = .ok (.putfield 164, 3) := by decide +kernel
theorem dX11_read_85 : decode cX11_read 85 = .ok (.aload_n 0, 1) := by decide +kernel
theorem dX11_read_86 : decode cX11_read 86 = .ok (.getfield 43, 3) := by decide +kernel
theorem dX11_read_89 : decode cX11_read 89 = .ok (.iload 7, 2) := by decide +kernel
theorem dX11_read_91 : decode cX11_read 91 = .ok (.putfield 100, 3) := by decide +kernel
theorem dX11_read_94 : decode cX11_read 94 = .ok (.aload_n 0, 1) := by decide +kernel
theorem dX11_read_95 : decode cX11_read 95 = .ok (.aload 4, 2) := by decide +kernel
theorem dX11_read_97 : decode cX11_read 97 = .ok (.invokevirtual 274, 3) := by decide +kernel
theorem dX11_read_100 : decode cX11_read 100 = .ok (.ifCond .eq 6, 3) := by decide +kernel
theorem dX11_read_103 : decode cX11_read 103 = .ok (.iinc 5 1, 3) := by decide +kernel
theorem dX11_read_106 : decode cX11_read 106 = .ok (.iinc 7 1, 3) := by decide +kernel
theorem dX11_read_109 : decode cX11_read 109 = .ok (.goto (-55), 3) := by decide +kernel
theorem dX11_read_112 : decode cX11_read 112 = .ok (.iinc 6 1, 3) := by decide +kernel
theorem dX11_read_115 : decode cX11_read 115 = .ok (.goto (-70), 3) := by decide +kernel
theorem dX11_read_118 : decode cX11_read 118 = .ok (.iload 5, 2) := by decide +kernel
theorem dX11_read_120 : decode cX11_read 120 = .ok (.ireturn, 1) := by decide +kernel
theorem dX11_image_0 : decode cX11_image 0 = .ok (.aload_n 0, 1) := by decide +kernel
theorem dX11_image_1 : decode cX11_image 1 = .ok (.getfield 40, 3) := by decide +kernel
theorem dX11_image_4 : decode cX11_image 4 = .ok (.aload_n 0, 1) := by decide +kernel
theorem dX11_image_5 : decode cX11_image 5 = .ok (.getfield 36, 3) := by decide +kernel
theorem dX11_image_8 : decode cX11_image 8 = .ok (.invokevirtual 187, 3) := by decide +kernel
theorem dX11_image_11 : decode cX11_image 11 = .ok (.aload_n 0, 1) := by decide +kernel
theorem dX11_image_12 : decode cX11_image 12 = .ok (.iconst 1, 1) := by decide +kernel
theorem dX11_image_13 : decode cX11_image 13 = .ok (.putfield 46, 3) := by decide +kernel
theorem dX11_image_16 : decode cX11_image 16 = .ok (.iconst 1, 1) := by decide +kernel
theorem dX11_image_17 : decode cX11_image 17 = .ok (.ireturn, 1) := by decide +kernel
theorem dX11_undo_0 : decode cX11_undo 0 = .ok (.aload_n 0, 1) := by decide +kernel
theorem dX11_undo_1 : decode cX11_undo 1 = .ok (.getfield 46, 3) := by decide +kernel
theorem dX11_undo_4 : decode cX11_undo 4 = .ok (.ifCond .ne 10, 3) := by decide +kernel
theorem dX11_undo_7 : decode cX11_undo 7 = .ok (.aload_n 0, 1) := by decide +kernel
theorem dX11_undo_8 : decode cX11_undo 8 = .ok (.ldc 194, 2) := by decide +kernel
theorem dX11_undo_10 : decode cX11_undo 10 = .ok (.invokevirtual 82, 3) := by decide +kernel
theorem dX11_undo_13 : decode cX11_undo 13 = .ok (.ireturn, 1) := by decide +kernel
theorem dX11_undo_14 : decode cX11_undo 14 = .ok (.aload_n 0, 1) := by decide +kernel
theorem dX11_undo_15 : decode cX11_undo 15 = .ok (.getfield 36, 3) := by decide +kernel
theorem dX11_undo_18 : decode cX11_undo 18 = .ok (.aload_n 0, 1) := by decide +kernel
theorem dX11_undo_19 : decode cX11_undo 19 = .ok (.getfield 40, 3) := by decide +kernel
theorem dX11_undo_22 : decode cX11_undo 22 = .ok (.invokevirtual 187, 3) := by decide +kernel
theorem dX11_undo_25 : decode cX11_undo 25 = .ok (.aload_n 0, 1) := by decide +kernel
theorem dX11_undo_26 : decode cX11_undo 26 = .ok (.getfield 36, 3) := by decide +kernel
theorem dX11_undo_29 : decode cX11_undo 29 = .ok (.getfield 138, 3) := by decide +kernel
theorem dX11_undo_32 : decode cX11_undo 32 = .ok (.ireturn, 1) := by decide +kernel
theorem dX11_tear_0 : decode cX11_tear 0 = .ok (.aload_n 0, 1) := by decide +kernel
theorem dX11_tear_1 : decode cX11_tear 1 = .ok (.getfield 46, 3) := by decide +kernel
theorem dX11_tear_4 : decode cX11_tear 4 = .ok (.invokestatic 113, 3) := by decide +kernel
theorem dX11_tear_7 : decode cX11_tear 7 = .ok (.istore_n 1, 1) := by decide +kernel
theorem dX11_tear_8 : decode cX11_tear 8 = .ok (.aload_n 0, 1) := by decide +kernel
theorem dX11_tear_9 : decode cX11_tear 9 = .ok (.iconst 0, 1) := by decide +kernel
theorem dX11_tear_10 : decode cX11_tear 10 = .ok (.putfield 46, 3) := by decide +kernel
theorem dX11_tear_13 : decode cX11_tear 13 = .ok (.iload_n 1, 1) := by decide +kernel
theorem dX11_tear_14 : decode cX11_tear 14 = .ok (.ireturn, 1) := by decide +kernel
theorem dX11_count_0 : decode cX11_count 0 = .ok (.iload_n 1, 1) := by decide +kernel
theorem dX11_count_1 : decode cX11_count 1 = .ok (.tableswitch 66 0 3 #[31, 39, 47, 58], 31) := by decide +kernel
theorem dX11_count_32 : decode cX11_count 32 = .ok (.aload_n 0, 1) := by decide +kernel
theorem dX11_count_33 : decode cX11_count 33 = .ok (.getfield 36, 3) := by decide +kernel
theorem dX11_count_36 : decode cX11_count 36 = .ok (.getfield 138, 3) := by decide +kernel
theorem dX11_count_39 : decode cX11_count 39 = .ok (.ireturn, 1) := by decide +kernel
theorem dX11_count_40 : decode cX11_count 40 = .ok (.aload_n 0, 1) := by decide +kernel
theorem dX11_count_41 : decode cX11_count 41 = .ok (.getfield 53, 3) := by decide +kernel
theorem dX11_count_44 : decode cX11_count 44 = .ok (.getfield 219, 3) := by decide +kernel
theorem dX11_count_47 : decode cX11_count 47 = .ok (.ireturn, 1) := by decide +kernel
theorem dX11_count_48 : decode cX11_count 48 = .ok (.aload_n 0, 1) := by decide +kernel
theorem dX11_count_49 : decode cX11_count 49 = .ok (.getfield 36, 3) := by decide +kernel
theorem dX11_count_52 : decode cX11_count 52 = .ok (.getfield 97, 3) := by decide +kernel
theorem dX11_count_55 : decode cX11_count 55 = .ok (.invokestatic 207, 3) := by decide +kernel
theorem dX11_count_58 : decode cX11_count 58 = .ok (.ireturn, 1) := by decide +kernel
theorem dX11_count_59 : decode cX11_count 59 = .ok (.aload_n 0, 1) := by decide +kernel
theorem dX11_count_60 : decode cX11_count 60 = .ok (.getfield 36, 3) := by decide +kernel
theorem dX11_count_63 : decode cX11_count 63 = .ok (.invokevirtual 213, 3) := by decide +kernel
theorem dX11_count_66 : decode cX11_count 66 = .ok (.ireturn, 1) := by decide +kernel
theorem dX11_count_67 : decode cX11_count 67 = .ok (.aload_n 0, 1) := by decide +kernel
theorem dX11_count_68 : decode cX11_count 68 = .ok (.ldc 81, 2) := by decide +kernel
theorem dX11_count_70 : decode cX11_count 70 = .ok (.invokevirtual 82, 3) := by decide +kernel
theorem dX11_count_73 : decode cX11_count 73 = .ok (.ireturn, 1) := by decide +kernel
theorem dX11_status_0 : decode cX11_status 0 = .ok (.iload_n 1, 1) := by decide +kernel
theorem dX11_status_1 : decode cX11_status 1 = .ok (.iconst (-1), 1) := by decide +kernel
theorem dX11_status_2 : decode cX11_status 2 = .ok (.bipush 6, 2) := by decide +kernel
theorem dX11_status_4 : decode cX11_status 4 = .ok (.invokestatic 77, 3) := by decide +kernel
theorem dX11_status_7 : decode cX11_status 7 = .ok (.ifCond .ne 10, 3) := by decide +kernel
theorem dX11_status_10 : decode cX11_status 10 = .ok (.aload_n 0, 1) := by decide +kernel
theorem dX11_status_11 : decode cX11_status 11 = .ok (.ldc 81, 2) := by decide +kernel
theorem dX11_status_13 : decode cX11_status 13 = .ok (.invokevirtual 82, 3) := by decide +kernel
theorem dX11_status_16 : decode cX11_status 16 = .ok (.ireturn, 1) := by decide +kernel
theorem dX11_status_17 : decode cX11_status 17 = .ok (.iload_n 1, 1) := by decide +kernel
theorem dX11_status_18 : decode cX11_status 18 = .ok (.ifCond .lt 10, 3) := by decide +kernel
theorem dX11_status_21 : decode cX11_status 21 = .ok (.aload_n 0, 1) := by decide +kernel
theorem dX11_status_22 : decode cX11_status 22 = .ok (.getfield 73, 3) := by decide +kernel
theorem dX11_status_25 : decode cX11_status 25 = .ok (.iload_n 1, 1) := by decide +kernel
theorem dX11_status_26 : decode cX11_status 26 = .ok (.iaload, 1) := by decide +kernel
theorem dX11_status_27 : decode cX11_status 27 = .ok (.ireturn, 1) := by decide +kernel
theorem dX11_status_28 : decode cX11_status 28 = .ok (.iconst 0, 1) := by decide +kernel
theorem dX11_status_29 : decode cX11_status 29 = .ok (.istore_n 2, 1) := by decide +kernel
theorem dX11_status_30 : decode cX11_status 30 = .ok (.iconst 0, 1) := by decide +kernel
theorem dX11_status_31 : decode cX11_status 31 = .ok (.istore_n 3, 1) := by decide +kernel
theorem dX11_status_32 : decode cX11_status 32 = .ok (.iload_n 3, 1) := by decide +kernel
theorem dX11_status_33 : decode cX11_status 33 = .ok (.bipush 7, 2) := by decide +kernel
theorem dX11_status_35 : decode cX11_status 35 = .ok (.if_icmp .ge 18, 3) := by decide +kernel
theorem dX11_status_38 : decode cX11_status 38 = .ok (.iload_n 2, 1) := by decide +kernel
theorem dX11_status_39 : decode cX11_status 39 = .ok (.aload_n 0, 1) := by decide +kernel
theorem dX11_status_40 : decode cX11_status 40 = .ok (.getfield 73, 3) := by decide +kernel
theorem dX11_status_43 : decode cX11_status 43 = .ok (.iload_n 3, 1) := by decide +kernel
theorem dX11_status_44 : decode cX11_status 44 = .ok (.iaload, 1) := by decide +kernel
theorem dX11_status_45 : decode cX11_status 45 = .ok (.iadd, 1) := by decide +kernel
theorem dX11_status_46 : decode cX11_status 46 = .ok (.istore_n 2, 1) := by decide +kernel
theorem dX11_status_47 : decode cX11_status 47 = .ok (.iinc 3 1, 3) := by decide +kernel
theorem dX11_status_50 : decode cX11_status 50 = .ok (.goto (-18), 3) := by decide +kernel
theorem dX11_status_53 : decode cX11_status 53 = .ok (.iload_n 2, 1) := by decide +kernel
theorem dX11_status_54 : decode cX11_status 54 = .ok (.ireturn, 1) := by decide +kernel
theorem dX11_found_0 : decode cX11_found 0 = .ok (.ldc 81, 2) := by decide +kernel
theorem dX11_found_2 : decode cX11_found 2 = .ok (.iload_n 1, 1) := by decide +kernel
theorem dX11_found_3 : decode cX11_found 3 = .ok (.isub, 1) := by decide +kernel
theorem dX11_found_4 : decode cX11_found 4 = .ok (.istore_n 2, 1) := by decide +kernel
theorem dX11_found_5 : decode cX11_found 5 = .ok (.iload_n 2, 1) := by decide +kernel
theorem dX11_found_6 : decode cX11_found 6 = .ok (.iconst 0, 1) := by decide +kernel
theorem dX11_found_7 : decode cX11_found 7 = .ok (.bipush 6, 2) := by decide +kernel
theorem dX11_found_9 : decode cX11_found 9 = .ok (.invokestatic 77, 3) := by decide +kernel
theorem dX11_found_12 : decode cX11_found 12 = .ok (.ifCond .eq 13, 3) := by decide +kernel
theorem dX11_found_15 : decode cX11_found 15 = .ok (.aload_n 0, 1) := by decide +kernel
theorem dX11_found_16 : decode cX11_found 16 = .ok (.getfield 73, 3) := by decide +kernel
theorem dX11_found_19 : decode cX11_found 19 = .ok (.iload_n 2, 1) := by decide +kernel
theorem dX11_found_20 : decode cX11_found 20 = .ok (.dup2, 1) := by decide +kernel
theorem dX11_found_21 : decode cX11_found 21 = .ok (.iaload, 1) := by decide +kernel
theorem dX11_found_22 : decode cX11_found 22 = .ok (.iconst 1, 1) := by decide +kernel
theorem dX11_found_23 : decode cX11_found 23 = .ok (.iadd, 1) := by decide +kernel
theorem dX11_found_24 : decode cX11_found 24 = .ok (.iastore, 1) := by decide +kernel
theorem dX11_found_25 : decode cX11_found 25 = .ok (.iload_n 1, 1) := by decide +kernel
theorem dX11_found_26 : decode cX11_found 26 = .ok (.ireturn, 1) := by decide +kernel
theorem dX11_isShip_0 : decode cX11_isShip 0 = .ok (.iload_n 1, 1) := by decide +kernel
theorem dX11_isShip_1 : decode cX11_isShip 1 = .ok (.ifCond .lt 18, 3) := by decide +kernel
theorem dX11_isShip_4 : decode cX11_isShip 4 = .ok (.iload_n 1, 1) := by decide +kernel
theorem dX11_isShip_5 : decode cX11_isShip 5 = .ok (.aload_n 0, 1) := by decide +kernel
theorem dX11_isShip_6 : decode cX11_isShip 6 = .ok (.getfield 36, 3) := by decide +kernel
theorem dX11_isShip_9 : decode cX11_isShip 9 = .ok (.getfield 138, 3) := by decide +kernel
theorem dX11_isShip_12 : decode cX11_isShip 12 = .ok (.if_icmp .ge 7, 3) := by decide +kernel
theorem dX11_isShip_15 : decode cX11_isShip 15 = .ok (.iconst 1, 1) := by decide +kernel
theorem dX11_isShip_16 : decode cX11_isShip 16 = .ok (.goto 4, 3) := by decide +kernel
theorem dX11_isShip_19 : decode cX11_isShip 19 = .ok (.iconst 0, 1) := by decide +kernel
theorem dX11_isShip_20 : decode cX11_isShip 20 = .ok (.ireturn, 1) := by decide +kernel
theorem dX11_amissUnderWay_0 : decode cX11_amissUnderWay 0 = .ok (.aload_n 0, 1) := by decide +kernel
theorem dX11_amissUnderWay_1 : decode cX11_amissUnderWay 1 = .ok (.iload_n 1, 1) := by decide +kernel
theorem dX11_amissUnderWay_2 : decode cX11_amissUnderWay 2 = .ok (.invokevirtual 141, 3) := by decide +kernel
theorem dX11_amissUnderWay_5 : decode cX11_amissUnderWay 5 = .ok (.ifCond .ne 6, 3) := by decide +kernel
theorem dX11_amissUnderWay_8 : decode cX11_amissUnderWay 8 = .ok (.ldc 81, 2) := by decide +kernel
theorem dX11_amissUnderWay_10 : decode cX11_amissUnderWay 10 = .ok (.ireturn, 1) := by decide +kernel
theorem dX11_amissUnderWay_11 : decode cX11_amissUnderWay 11 = .ok (.aload_n 0, 1) := by decide +kernel
theorem dX11_amissUnderWay_12 : decode cX11_amissUnderWay 12 = .ok (.getfield 36, 3) := by decide +kernel
theorem dX11_amissUnderWay_15 : decode cX11_amissUnderWay 15 = .ok (.getfield 144, 3) := by decide +kernel
theorem dX11_amissUnderWay_18 : decode cX11_amissUnderWay 18 = .ok (.iload_n 1, 1) := by decide +kernel
theorem dX11_amissUnderWay_19 : decode cX11_amissUnderWay 19 = .ok (.aaload, 1) := by decide +kernel
theorem dX11_amissUnderWay_20 : decode cX11_amissUnderWay 20 = .ok (.invokevirtual 278, 3) := by decide +kernel
theorem dX11_amissUnderWay_23 : decode cX11_amissUnderWay 23 = .ok (.ifCond .eq 7, 3) := by decide +kernel
theorem dX11_amissUnderWay_26 : decode cX11_amissUnderWay 26 = .ok (.iconst 0, 1) := by decide +kernel
theorem dX11_amissUnderWay_27 : decode cX11_amissUnderWay 27 = .ok (.goto 5, 3) := by decide +kernel
theorem dX11_amissUnderWay_30 : decode cX11_amissUnderWay 30 = .ok (.ldc 179, 2) := by decide +kernel
theorem dX11_amissUnderWay_32 : decode cX11_amissUnderWay 32 = .ok (.ireturn, 1) := by decide +kernel
theorem dX11_amissInSheet_0 : decode cX11_amissInSheet 0 = .ok (.iload_n 1, 1) := by decide +kernel
theorem dX11_amissInSheet_1 : decode cX11_amissInSheet 1 = .ok (.invokestatic 233, 3) := by decide +kernel
theorem dX11_amissInSheet_4 : decode cX11_amissInSheet 4 = .ok (.ifCond .ne 6, 3) := by decide +kernel
theorem dX11_amissInSheet_7 : decode cX11_amissInSheet 7 = .ok (.ldc 81, 2) := by decide +kernel
theorem dX11_amissInSheet_9 : decode cX11_amissInSheet 9 = .ok (.ireturn, 1) := by decide +kernel
theorem dX11_amissInSheet_10 : decode cX11_amissInSheet 10 = .ok (.aload_n 0, 1) := by decide +kernel
theorem dX11_amissInSheet_11 : decode cX11_amissInSheet 11 = .ok (.getfield 69, 3) := by decide +kernel
theorem dX11_amissInSheet_14 : decode cX11_amissInSheet 14 = .ok (.iload_n 1, 1) := by decide +kernel
theorem dX11_amissInSheet_15 : decode cX11_amissInSheet 15 = .ok (.aaload, 1) := by decide +kernel
theorem dX11_amissInSheet_16 : decode cX11_amissInSheet 16 = .ok (.invokevirtual 251, 3) := by decide +kernel
theorem dX11_amissInSheet_19 : decode cX11_amissInSheet 19 = .ok (.ifCond .eq 8, 3) := by decide +kernel
theorem dX11_amissInSheet_22 : decode cX11_amissInSheet 22 = .ok (.ldc 254, 2) := by decide +kernel
theorem dX11_amissInSheet_24 : decode cX11_amissInSheet 24 = .ok (.goto 4, 3) := by decide +kernel
theorem dX11_amissInSheet_27 : decode cX11_amissInSheet 27 = .ok (.iconst 0, 1) := by decide +kernel
theorem dX11_amissInSheet_28 : decode cX11_amissInSheet 28 = .ok (.ireturn, 1) := by decide +kernel
theorem dX11_isKind_0 : decode cX11_isKind 0 = .ok (.iload_n 0, 1) := by decide +kernel
theorem dX11_isKind_1 : decode cX11_isKind 1 = .ok (.iconst 0, 1) := by decide +kernel
theorem dX11_isKind_2 : decode cX11_isKind 2 = .ok (.iconst 5, 1) := by decide +kernel
theorem dX11_isKind_3 : decode cX11_isKind 3 = .ok (.invokestatic 77, 3) := by decide +kernel
theorem dX11_isKind_6 : decode cX11_isKind 6 = .ok (.ireturn, 1) := by decide +kernel
theorem dX11_isSheet_0 : decode cX11_isSheet 0 = .ok (.iload_n 0, 1) := by decide +kernel
theorem dX11_isSheet_1 : decode cX11_isSheet 1 = .ok (.iconst 0, 1) := by decide +kernel
theorem dX11_isSheet_2 : decode cX11_isSheet 2 = .ok (.iconst 3, 1) := by decide +kernel
theorem dX11_isSheet_3 : decode cX11_isSheet 3 = .ok (.invokestatic 77, 3) := by decide +kernel
theorem dX11_isSheet_6 : decode cX11_isSheet 6 = .ok (.ireturn, 1) := by decide +kernel
theorem dX11_isWithin_0 : decode cX11_isWithin 0 = .ok (.iload_n 0, 1) := by decide +kernel
theorem dX11_isWithin_1 : decode cX11_isWithin 1 = .ok (.iload_n 1, 1) := by decide +kernel
theorem dX11_isWithin_2 : decode cX11_isWithin 2 = .ok (.if_icmp .lt 12, 3) := by decide +kernel
theorem dX11_isWithin_5 : decode cX11_isWithin 5 = .ok (.iload_n 0, 1) := by decide +kernel
theorem dX11_isWithin_6 : decode cX11_isWithin 6 = .ok (.iload_n 2, 1) := by decide +kernel
theorem dX11_isWithin_7 : decode cX11_isWithin 7 = .ok (.if_icmp .gt 7, 3) := by decide +kernel
theorem dX11_isWithin_10 : decode cX11_isWithin 10 = .ok (.iconst 1, 1) := by decide +kernel
theorem dX11_isWithin_11 : decode cX11_isWithin 11 = .ok (.goto 4, 3) := by decide +kernel
theorem dX11_isWithin_14 : decode cX11_isWithin 14 = .ok (.iconst 0, 1) := by decide +kernel
theorem dX11_isWithin_15 : decode cX11_isWithin 15 = .ok (.ireturn, 1) := by decide +kernel
theorem dX11_asNumber_0 : decode cX11_asNumber 0 = .ok (.iload_n 0, 1) := by decide +kernel
theorem dX11_asNumber_1 : decode cX11_asNumber 1 = .ok (.ifCond .eq 7, 3) := by decide +kernel
theorem dX11_asNumber_4 : decode cX11_asNumber 4 = .ok (.iconst 1, 1) := by decide +kernel
theorem dX11_asNumber_5 : decode cX11_asNumber 5 = .ok (.goto 4, 3) := by decide +kernel
theorem dX11_asNumber_8 : decode cX11_asNumber 8 = .ok (.iconst 0, 1) := by decide +kernel
theorem dX11_asNumber_9 : decode cX11_asNumber 9 = .ok (.ireturn, 1) := by decide +kernel
theorem dX11_tryAlone_0 : decode cX11_tryAlone 0 = .ok (.aload_n 0, 1) := by decide +kernel
theorem dX11_tryAlone_1 : decode cX11_tryAlone 1 = .ok (.getfield 43, 3) := by decide +kernel
theorem dX11_tryAlone_4 : decode cX11_tryAlone 4 = .ok (.aload_n 0, 1) := by decide +kernel
theorem dX11_tryAlone_5 : decode cX11_tryAlone 5 = .ok (.getfield 36, 3) := by decide +kernel
theorem dX11_tryAlone_8 : decode cX11_tryAlone 8 = .ok (.iload_n 1, 1) := by decide +kernel
theorem dX11_tryAlone_9 : decode cX11_tryAlone 9 = .ok (.invokevirtual 281, 3) := by decide +kernel
theorem dX11_tryAlone_12 : decode cX11_tryAlone 12 = .ok (.return_, 1) := by decide +kernel
theorem dX11_hoursUntilEnd_0 : decode cX11_hoursUntilEnd 0 = .ok (.iconst 0, 1) := by decide +kernel
theorem dX11_hoursUntilEnd_1 : decode cX11_hoursUntilEnd 1 = .ok (.istore_n 1, 1) := by decide +kernel
theorem dX11_hoursUntilEnd_2 : decode cX11_hoursUntilEnd 2 = .ok (.iload_n 1, 1) := by decide +kernel
theorem dX11_hoursUntilEnd_3 : decode cX11_hoursUntilEnd 3 = .ok (.bipush 100, 2) := by decide +kernel
theorem dX11_hoursUntilEnd_5 : decode cX11_hoursUntilEnd 5 = .ok (.if_icmp .ge 32, 3) := by decide +kernel
theorem dX11_hoursUntilEnd_8 : decode cX11_hoursUntilEnd 8 = .ok (.aload_n 0, 1) := by decide +kernel
theorem dX11_hoursUntilEnd_9 : decode cX11_hoursUntilEnd 9 = .ok (.getfield 43, 3) := by decide +kernel
theorem dX11_hoursUntilEnd_12 : decode cX11_hoursUntilEnd 12 = .ok (.getfield 144, 3) := by decide +kernel
theorem dX11_hoursUntilEnd_15 : decode cX11_hoursUntilEnd 15 = .ok (.iconst 0, 1) := by decide +kernel
theorem dX11_hoursUntilEnd_16 : decode cX11_hoursUntilEnd 16 = .ok (.aaload, 1) := by decide +kernel
theorem dX11_hoursUntilEnd_17 : decode cX11_hoursUntilEnd 17 = .ok (.invokevirtual 278, 3) := by decide +kernel
theorem dX11_hoursUntilEnd_20 : decode cX11_hoursUntilEnd 20 = .ok (.ifCond .eq 17, 3) := by decide +kernel
theorem dX11_hoursUntilEnd_23 : decode cX11_hoursUntilEnd 23 = .ok (.aload_n 0, 1) := by decide +kernel
theorem dX11_hoursUntilEnd_24 : decode cX11_hoursUntilEnd 24 = .ok (.getfield 43, 3) := by decide +kernel
theorem dX11_hoursUntilEnd_27 : decode cX11_hoursUntilEnd 27 = .ok (.iconst 1, 1) := by decide +kernel
theorem dX11_hoursUntilEnd_28 : decode cX11_hoursUntilEnd 28 = .ok (.invokevirtual 180, 3) := by decide +kernel
theorem dX11_hoursUntilEnd_31 : decode cX11_hoursUntilEnd 31 = .ok (.iinc 1 1, 3) := by decide +kernel
theorem dX11_hoursUntilEnd_34 : decode cX11_hoursUntilEnd 34 = .ok (.goto (-32), 3) := by decide +kernel
theorem dX11_hoursUntilEnd_37 : decode cX11_hoursUntilEnd 37 = .ok (.iload_n 1, 1) := by decide +kernel
theorem dX11_hoursUntilEnd_38 : decode cX11_hoursUntilEnd 38 = .ok (.ireturn, 1) := by decide +kernel
theorem dX11_hoursUntilBy_0 : decode cX11_hoursUntilBy 0 = .ok (.aload_n 0, 1) := by decide +kernel
theorem dX11_hoursUntilBy_1 : decode cX11_hoursUntilBy 1 = .ok (.invokevirtual 195, 3) := by decide +kernel
theorem dX11_hoursUntilBy_4 : decode cX11_hoursUntilBy 4 = .ok (.istore_n 1, 1) := by decide +kernel
theorem dX11_hoursUntilBy_5 : decode cX11_hoursUntilBy 5 = .ok (.aload_n 0, 1) := by decide +kernel
theorem dX11_hoursUntilBy_6 : decode cX11_hoursUntilBy 6 = .ok (.getfield 43, 3) := by decide +kernel
theorem dX11_hoursUntilBy_9 : decode cX11_hoursUntilBy 9 = .ok (.getfield 144, 3) := by decide +kernel
theorem dX11_hoursUntilBy_12 : decode cX11_hoursUntilBy 12 = .ok (.iconst 0, 1) := by decide +kernel
theorem dX11_hoursUntilBy_13 : decode cX11_hoursUntilBy 13 = .ok (.aaload, 1) := by decide +kernel
theorem dX11_hoursUntilBy_14 : decode cX11_hoursUntilBy 14 = .ok (.getfield 285, 3) := by decide +kernel
theorem dX11_hoursUntilBy_17 : decode cX11_hoursUntilBy 17 = .ok (.ifCond .eq 7, 3) := by decide +kernel
theorem dX11_hoursUntilBy_20 : decode cX11_hoursUntilBy 20 = .ok (.iload_n 1, 1) := by decide +kernel
theorem dX11_hoursUntilBy_21 : decode cX11_hoursUntilBy 21 = .ok (.goto 5, 3) := by decide +kernel
theorem dX11_hoursUntilBy_24 : decode cX11_hoursUntilBy 24 = .ok (.bipush 101, 2) := by decide +kernel
theorem dX11_hoursUntilBy_26 : decode cX11_hoursUntilBy 26 = .ok (.ireturn, 1) := by decide +kernel
theorem dX11_goesAsTold_0 : decode cX11_goesAsTold 0 = .ok (.iconst 0, 1) := by decide +kernel
theorem dX11_goesAsTold_1 : decode cX11_goesAsTold 1 = .ok (.istore_n 2, 1) := by decide +kernel
theorem dX11_goesAsTold_2 : decode cX11_goesAsTold 2 = .ok (.iload_n 2, 1) := by decide +kernel
theorem dX11_goesAsTold_3 : decode cX11_goesAsTold 3 = .ok (.aload_n 1, 1) := by decide +kernel
theorem dX11_goesAsTold_4 : decode cX11_goesAsTold 4 = .ok (.getfield 240, 3) := by decide +kernel
theorem dX11_goesAsTold_7 : decode cX11_goesAsTold 7 = .ok (.if_icmp .ge 41, 3) := by decide +kernel
theorem dX11_goesAsTold_10 : decode cX11_goesAsTold 10 = .ok (.aload_n 1, 1) := by decide +kernel
theorem dX11_goesAsTold_11 : decode cX11_goesAsTold 11 = .ok (.iload_n 2, 1) := by decide +kernel
theorem dX11_goesAsTold_12 : decode cX11_goesAsTold 12 = .ok (.invokevirtual 244, 3) := by decide +kernel
theorem dX11_goesAsTold_15 : decode cX11_goesAsTold 15 = .ok (.aload_n 0, 1) := by decide +kernel
theorem dX11_goesAsTold_16 : decode cX11_goesAsTold 16 = .ok (.getfield 43, 3) := by decide +kernel
theorem dX11_goesAsTold_19 : decode cX11_goesAsTold 19 = .ok (.getfield 144, 3) := by decide +kernel
theorem dX11_goesAsTold_22 : decode cX11_goesAsTold 22 = .ok (.iconst 0, 1) := by decide +kernel
theorem dX11_goesAsTold_23 : decode cX11_goesAsTold 23 = .ok (.aaload, 1) := by decide +kernel
theorem dX11_goesAsTold_24 : decode cX11_goesAsTold 24 = .ok (.getfield 204, 3) := by decide +kernel
theorem dX11_goesAsTold_27 : decode cX11_goesAsTold 27 = .ok (.i2l, 1) := by decide +kernel
theorem dX11_goesAsTold_28 : decode cX11_goesAsTold 28 = .ok (.lcmp, 1) := by decide +kernel
theorem dX11_goesAsTold_29 : decode cX11_goesAsTold 29 = .ok (.ifCond .eq 5, 3) := by decide +kernel
theorem dX11_goesAsTold_32 : decode cX11_goesAsTold 32 = .ok (.iconst 0, 1) := by decide +kernel
theorem dX11_goesAsTold_33 : decode cX11_goesAsTold 33 = .ok (.ireturn, 1) := by decide +kernel
theorem dX11_goesAsTold_34 : decode cX11_goesAsTold 34 = .ok (.aload_n 0, 1) := by decide +kernel
theorem dX11_goesAsTold_35 : decode cX11_goesAsTold 35 = .ok (.getfield 43, 3) := by decide +kernel
theorem dX11_goesAsTold_38 : decode cX11_goesAsTold 38 = .ok (.iconst 1, 1) := by decide +kernel
theorem dX11_goesAsTold_39 : decode cX11_goesAsTold 39 = .ok (.invokevirtual 180, 3) := by decide +kernel
theorem dX11_goesAsTold_42 : decode cX11_goesAsTold 42 = .ok (.iinc 2 1, 3) := by decide +kernel
theorem dX11_goesAsTold_45 : decode cX11_goesAsTold 45 = .ok (.goto (-43), 3) := by decide +kernel
theorem dX11_goesAsTold_48 : decode cX11_goesAsTold 48 = .ok (.iconst 1, 1) := by decide +kernel
theorem dX11_goesAsTold_49 : decode cX11_goesAsTold 49 = .ok (.ireturn, 1) := by decide +kernel
end
section
theorem dX12_init_0 : decode cX12_init 0 = .ok (.aload_n 0, 1) := by decide +kernel
theorem dX12_init_1 : decode cX12_init 1 = .ok (.invokespecial 1, 3) := by decide +kernel
theorem dX12_init_4 : decode cX12_init 4 = .ok (.aload_n 0, 1) := by decide +kernel
theorem dX12_init_5 : decode cX12_init 5 = .ok (.bipush 48, 2) := by decide +kernel
theorem dX12_init_7 : decode cX12_init 7 = .ok (.newarray .int, 2) := by decide +kernel
theorem dX12_init_9 : decode cX12_init 9 = .ok (.putfield 7, 3) := by decide +kernel
theorem dX12_init_12 : decode cX12_init 12 = .ok (.aload_n 0, 1) := by decide +kernel
theorem dX12_init_13 : decode cX12_init 13 = .ok (.bipush 7, 2) := by decide +kernel
theorem dX12_init_15 : decode cX12_init 15 = .ok (.newarray .int, 2) := by decide +kernel
theorem dX12_init_17 : decode cX12_init 17 = .ok (.putfield 13, 3) := by decide +kernel
theorem dX12_init_20 : decode cX12_init 20 = .ok (.aload_n 0, 1) := by decide +kernel
theorem dX12_init_21 : decode cX12_init 21 = .ok (.bipush 48, 2) := by decide +kernel
theorem dX12_init_23 : decode cX12_init 23 = .ok (.newarray .int, 2) := by decide +kernel
theorem dX12_init_25 : decode cX12_init 25 = .ok (.putfield 16, 3) := by decide +kernel
theorem dX12_init_28 : decode cX12_init 28 = .ok (.aload_n 0, 1) := by decide +kernel
theorem dX12_init_29 : decode cX12_init 29 = .ok (.bipush 48, 2) := by decide +kernel
theorem dX12_init_31 : decode cX12_init 31 = .ok (.newarray .int, 2) := by decide +kernel
theorem dX12_init_33 : decode cX12_init 33 = .ok (.putfield 19, 3) := by decide +kernel
theorem dX12_init_36 : decode cX12_init 36 = .ok (.aload_n 0, 1) := by decide +kernel
theorem dX12_init_37 : decode cX12_init 37 = .ok (.bipush 120, 2) := by decide +kernel
theorem dX12_init_39 : decode cX12_init 39 = .ok (.newarray .int, 2) := by decide +kernel
theorem dX12_init_41 : decode cX12_init 41 = .ok (.putfield 22, 3) := by decide +kernel
theorem dX12_init_44 : decode cX12_init 44 = .ok (.aload_n 0, 1) := by decide +kernel
theorem dX12_init_45 : decode cX12_init 45 = .ok (.iconst 4, 1) := by decide +kernel
theorem dX12_init_46 : decode cX12_init 46 = .ok (.newarray .int, 2) := by decide +kernel
theorem dX12_init_48 : decode cX12_init 48 = .ok (.putfield 25, 3) := by decide +kernel
theorem dX12_init_51 : decode cX12_init 51 = .ok (.aload_n 0, 1) := by decide +kernel
theorem dX12_init_52 : decode cX12_init 52 = .ok (.iconst 4, 1) := by decide +kernel
theorem dX12_init_53 : decode cX12_init 53 = .ok (.newarray .int, 2) := by decide +kernel
theorem dX12_init_55 : decode cX12_init 55 = .ok (.putfield 28, 3) := by decide +kernel
theorem dX12_init_58 : decode cX12_init 58 = .ok (.aload_n 0, 1) := by decide +kernel
theorem dX12_init_59 : decode cX12_init 59 = .ok (.sipush 160, 3) := by decide +kernel
theorem dX12_init_62 : decode cX12_init 62 = .ok (.newarray .long, 2) := by decide +kernel
theorem dX12_init_64 : decode cX12_init 64 = .ok (.putfield 31, 3) := by decide +kernel
theorem dX12_init_67 : decode cX12_init 67 = .ok (.aload_n 0, 1) := by decide +kernel
theorem dX12_init_68 : decode cX12_init 68 = .ok (.bipush 40, 2) := by decide +kernel
theorem dX12_init_70 : decode cX12_init 70 = .ok (.newarray .long, 2) := by decide +kernel
theorem dX12_init_72 : decode cX12_init 72 = .ok (.putfield 35, 3) := by decide +kernel
theorem dX12_init_75 : decode cX12_init 75 = .ok (.aload_n 0, 1) := by decide +kernel
theorem dX12_init_76 : decode cX12_init 76 = .ok (.bipush 48, 2) := by decide +kernel
theorem dX12_init_78 : decode cX12_init 78 = .ok (.newarray .int, 2) := by decide +kernel
theorem dX12_init_80 : decode cX12_init 80 = .ok (.putfield 38, 3) := by decide +kernel
theorem dX12_init_83 : decode cX12_init 83 = .ok (.aload_n 0, 1) := by decide +kernel
theorem dX12_init_84 : decode cX12_init 84 = .ok (.bipush 48, 2) := by decide +kernel
theorem dX12_init_86 : decode cX12_init 86 = .ok (.newarray .int, 2) := by decide +kernel
theorem dX12_init_88 : decode cX12_init 88 = .ok (.putfield 41, 3) := by decide +kernel
theorem dX12_init_91 : decode cX12_init 91 = .ok (.aload_n 0, 1) := by decide +kernel
theorem dX12_init_92 : decode cX12_init 92 = .ok (.getfield 7, 3) := by decide +kernel
theorem dX12_init_95 : decode cX12_init 95 = .ok (.iconst 1, 1) := by decide +kernel
theorem dX12_init_96 : decode cX12_init 96 = .ok (.bipush 10, 2) := by decide +kernel
theorem dX12_init_98 : decode cX12_init 98 = .ok (.iastore, 1) := by decide +kernel
theorem dX12_init_99 : decode cX12_init 99 = .ok (.aload_n 0, 1) := by decide +kernel
theorem dX12_init_100 : decode cX12_init 100 = .ok (.getfield 7, 3) := by decide +kernel
theorem dX12_init_103 : decode cX12_init 103 = .ok (.iconst 2, 1) := by decide +kernel
theorem dX12_init_104 : decode cX12_init 104 = .ok (.iconst 5, 1) := by decide +kernel
theorem dX12_init_105 : decode cX12_init 105 = .ok (.iastore, 1) := by decide +kernel
theorem dX12_init_106 : decode cX12_init 106 = .ok (.aload_n 0, 1) := by decide +kernel
theorem dX12_init_107 : decode cX12_init 107 = .ok (.getfield 7, 3) := by decide +kernel
theorem dX12_init_110 : decode cX12_init 110 = .ok (.iconst 3, 1) := by decide +kernel
theorem dX12_init_111 : decode cX12_init 111 = .ok (.sipush 4032, 3) := by decide +kernel
theorem dX12_init_114 : decode cX12_init 114 = .ok (.iastore, 1) := by decide +kernel
theorem dX12_init_115 : decode cX12_init 115 = .ok (.aload_n 0, 1) := by decide +kernel
theorem dX12_init_116 : decode cX12_init 116 = .ok (.getfield 7, 3) := by decide +kernel
theorem dX12_init_119 : decode cX12_init 119 = .ok (.iconst 4, 1) := by decide +kernel
theorem dX12_init_120 : decode cX12_init 120 = .ok (.iconst 4, 1) := by decide +kernel
theorem dX12_init_121 : decode cX12_init 121 = .ok (.iastore, 1) := by decide +kernel
theorem dX12_init_122 : decode cX12_init 122 = .ok (.return_, 1) := by decide +kernel
theorem dX12_in_0 : decode cX12_in 0 = .ok (.iload_n 0, 1) := by decide +kernel
theorem dX12_in_1 : decode cX12_in 1 = .ok (.iload_n 1, 1) := by decide +kernel
theorem dX12_in_2 : decode cX12_in 2 = .ok (.if_icmp .lt 12, 3) := by decide +kernel
theorem dX12_in_5 : decode cX12_in 5 = .ok (.iload_n 0, 1) := by decide +kernel
theorem dX12_in_6 : decode cX12_in 6 = .ok (.iload_n 2, 1) := by decide +kernel
theorem dX12_in_7 : decode cX12_in 7 = .ok (.if_icmp .gt 7, 3) := by decide +kernel
theorem dX12_in_10 : decode cX12_in 10 = .ok (.iconst 1, 1) := by decide +kernel
theorem dX12_in_11 : decode cX12_in 11 = .ok (.goto 4, 3) := by decide +kernel
theorem dX12_in_14 : decode cX12_in 14 = .ok (.iconst 0, 1) := by decide +kernel
theorem dX12_in_15 : decode cX12_in 15 = .ok (.ireturn, 1) := by decide +kernel
theorem dX12_finds_0 : decode cX12_finds 0 = .ok (.aload_n 0, 1) := by decide +kernel
theorem dX12_finds_1 : decode cX12_finds 1 = .ok (.getfield 13, 3) := by decide +kernel
theorem dX12_finds_4 : decode cX12_finds 4 = .ok (.ldc 44, 2) := by decide +kernel
theorem dX12_finds_6 : decode cX12_finds 6 = .ok (.iload_n 1, 1) := by decide +kernel
theorem dX12_finds_7 : decode cX12_finds 7 = .ok (.isub, 1) := by decide +kernel
theorem dX12_finds_8 : decode cX12_finds 8 = .ok (.dup2, 1) := by decide +kernel
theorem dX12_finds_9 : decode cX12_finds 9 = .ok (.iaload, 1) := by decide +kernel
theorem dX12_finds_10 : decode cX12_finds 10 = .ok (.iconst 1, 1) := by decide +kernel
theorem dX12_finds_11 : decode cX12_finds 11 = .ok (.iadd, 1) := by decide +kernel
theorem dX12_finds_12 : decode cX12_finds 12 = .ok (.iastore, 1) := by decide +kernel
theorem dX12_finds_13 : decode cX12_finds 13 = .ok (.iload_n 1, 1) := by decide +kernel
theorem dX12_finds_14 : decode cX12_finds 14 = .ok (.ireturn, 1) := by decide +kernel
theorem dX12_held_0 : decode cX12_held 0 = .ok (.iload_n 0, 1) := by decide +kernel
theorem dX12_held_1 : decode cX12_held 1 = .ok (.iload_n 1, 1) := by decide +kernel
theorem dX12_held_2 : decode cX12_held 2 = .ok (.if_icmp .ge 7, 3) := by decide +kernel
theorem dX12_held_5 : decode cX12_held 5 = .ok (.iload_n 1, 1) := by decide +kernel
theorem dX12_held_6 : decode cX12_held 6 = .ok (.goto 13, 3) := by decide +kernel
theorem dX12_held_9 : decode cX12_held 9 = .ok (.iload_n 0, 1) := by decide +kernel
theorem dX12_held_10 : decode cX12_held 10 = .ok (.iload_n 2, 1) := by decide +kernel
theorem dX12_held_11 : decode cX12_held 11 = .ok (.if_icmp .le 7, 3) := by decide +kernel
theorem dX12_held_14 : decode cX12_held 14 = .ok (.iload_n 2, 1) := by decide +kernel
theorem dX12_held_15 : decode cX12_held 15 = .ok (.goto 4, 3) := by decide +kernel
theorem dX12_held_18 : decode cX12_held 18 = .ok (.iload_n 0, 1) := by decide +kernel
theorem dX12_held_19 : decode cX12_held 19 = .ok (.ireturn, 1) := by decide +kernel
theorem dX12_its_0 : decode cX12_its 0 = .ok (.aload_n 0, 1) := by decide +kernel
theorem dX12_its_1 : decode cX12_its 1 = .ok (.getfield 7, 3) := by decide +kernel
theorem dX12_its_4 : decode cX12_its 4 = .ok (.bipush 6, 2) := by decide +kernel
theorem dX12_its_6 : decode cX12_its 6 = .ok (.bipush 7, 2) := by decide +kernel
theorem dX12_its_8 : decode cX12_its 8 = .ok (.iload_n 1, 1) := by decide +kernel
theorem dX12_its_9 : decode cX12_its 9 = .ok (.imul, 1) := by decide +kernel
theorem dX12_its_10 : decode cX12_its 10 = .ok (.iadd, 1) := by decide +kernel
theorem dX12_its_11 : decode cX12_its 11 = .ok (.iload_n 2, 1) := by decide +kernel
theorem dX12_its_12 : decode cX12_its 12 = .ok (.iadd, 1) := by decide +kernel
theorem dX12_its_13 : decode cX12_its 13 = .ok (.iaload, 1) := by decide +kernel
theorem dX12_its_14 : decode cX12_its 14 = .ok (.ireturn, 1) := by decide +kernel
theorem dX12_puts_0 : decode cX12_puts 0 = .ok (.aload_n 0, 1) := by decide +kernel
theorem dX12_puts_1 : decode cX12_puts 1 = .ok (.getfield 7, 3) := by decide +kernel
theorem dX12_puts_4 : decode cX12_puts 4 = .ok (.bipush 6, 2) := by decide +kernel
theorem dX12_puts_6 : decode cX12_puts 6 = .ok (.bipush 7, 2) := by decide +kernel
theorem dX12_puts_8 : decode cX12_puts 8 = .ok (.iload_n 1, 1) := by decide +kernel
theorem dX12_puts_9 : decode cX12_puts 9 = .ok (.imul, 1) := by decide +kernel
theorem dX12_puts_10 : decode cX12_puts 10 = .ok (.iadd, 1) := by decide +kernel
theorem dX12_puts_11 : decode cX12_puts 11 = .ok (.iload_n 2, 1) := by decide +kernel
theorem dX12_puts_12 : decode cX12_puts 12 = .ok (.iadd, 1) := by decide +kernel
theorem dX12_puts_13 : decode cX12_puts 13 = .ok (.iload_n 3, 1) := by decide +kernel
theorem dX12_puts_14 : decode cX12_puts 14 = .ok (.iastore, 1) := by decide +kernel
theorem dX12_puts_15 : decode cX12_puts 15 = .ok (.return_, 1) := by decide +kernel
theorem dX12_becomes_0 : decode cX12_becomes 0 = .ok (.aload_n 0, 1) := by decide +kernel
theorem dX12_becomes_1 : decode cX12_becomes 1 = .ok (.getfield 7, 3) := by decide +kernel
theorem dX12_becomes_4 : decode cX12_becomes 4 = .ok (.iload_n 1, 1) := by decide +kernel
theorem dX12_becomes_5 : decode cX12_becomes 5 = .ok (.iaload, 1) := by decide +kernel
theorem dX12_becomes_6 : decode cX12_becomes 6 = .ok (.istore_n 3, 1) := by decide +kernel
theorem dX12_becomes_7 : decode cX12_becomes 7 = .ok (.aload_n 0, 1) := by decide +kernel
theorem dX12_becomes_8 : decode cX12_becomes 8 = .ok (.getfield 7, 3) := by decide +kernel
theorem dX12_becomes_11 : decode cX12_becomes 11 = .ok (.iload_n 1, 1) := by decide +kernel
theorem dX12_becomes_12 : decode cX12_becomes 12 = .ok (.iload_n 2, 1) := by decide +kernel
theorem dX12_becomes_13 : decode cX12_becomes 13 = .ok (.iastore, 1) := by decide +kernel
theorem dX12_becomes_14 : decode cX12_becomes 14 = .ok (.iload_n 3, 1) := by decide +kernel
theorem dX12_becomes_15 : decode cX12_becomes 15 = .ok (.ireturn, 1) := by decide +kernel
theorem dX12_isOne_0 : decode cX12_isOne 0 = .ok (.iload_n 1, 1) := by decide +kernel
theorem dX12_isOne_1 : decode cX12_isOne 1 = .ok (.iconst 0, 1) := by decide +kernel
theorem dX12_isOne_2 : decode cX12_isOne 2 = .ok (.aload_n 0, 1) := by decide +kernel
theorem dX12_isOne_3 : decode cX12_isOne 3 = .ok (.getfield 7, 3) := by decide +kernel
theorem dX12_isOne_6 : decode cX12_isOne 6 = .ok (.iconst 5, 1) := by decide +kernel
theorem dX12_isOne_7 : decode cX12_isOne 7 = .ok (.iaload, 1) := by decide +kernel
theorem dX12_isOne_8 : decode cX12_isOne 8 = .ok (.iconst 1, 1) := by decide +kernel
theorem dX12_isOne_9 : decode cX12_isOne 9 = .ok (.isub, 1) := by decide +kernel
theorem dX12_isOne_10 : decode cX12_isOne 10 = .ok (.invokestatic 45, 3) := by decide +kernel
theorem dX12_isOne_13 : decode cX12_isOne 13 = .ok (.ireturn, 1) := by decide +kernel
theorem dX12_isKind_0 : decode cX12_isKind 0 = .ok (.iload_n 0, 1) := by decide +kernel
theorem dX12_isKind_1 : decode cX12_isKind 1 = .ok (.iconst 0, 1) := by decide +kernel
theorem dX12_isKind_2 : decode cX12_isKind 2 = .ok (.iconst 5, 1) := by decide +kernel
theorem dX12_isKind_3 : decode cX12_isKind 3 = .ok (.invokestatic 45, 3) := by decide +kernel
theorem dX12_isKind_6 : decode cX12_isKind 6 = .ok (.ireturn, 1) := by decide +kernel
theorem dX12_isRow_0 : decode cX12_isRow 0 = .ok (.iload_n 0, 1) := by decide +kernel
theorem dX12_isRow_1 : decode cX12_isRow 1 = .ok (.iconst 0, 1) := by decide +kernel
theorem dX12_isRow_2 : decode cX12_isRow 2 = .ok (.bipush 9, 2) := by decide +kernel
theorem dX12_isRow_4 : decode cX12_isRow 4 = .ok (.invokestatic 45, 3) := by decide +kernel
theorem dX12_isRow_7 : decode cX12_isRow 7 = .ok (.ireturn, 1) := by decide +kernel
theorem dX12_bits_0 : decode cX12_bits 0 = .ok (.iconst 0, 1) := by decide +kernel
theorem dX12_bits_1 : decode cX12_bits 1 = .ok (.istore_n 1, 1) := by decide +kernel
theorem dX12_bits_2 : decode cX12_bits 2 = .ok (.iload_n 0, 1) := by decide +kernel
theorem dX12_bits_3 : decode cX12_bits 3 = .ok (.istore_n 2, 1) := by decide +kernel
theorem dX12_bits_4 : decode cX12_bits 4 = .ok (.iload_n 2, 1) := by decide +kernel
theorem dX12_bits_5 : decode cX12_bits 5 = .ok (.ifCond .eq 15, 3) := by decide +kernel
theorem dX12_bits_8 : decode cX12_bits 8 = .ok (.iinc 1 1, 3) := by decide +kernel
theorem dX12_bits_11 : decode cX12_bits 11 = .ok (.iload_n 2, 1) := by decide +kernel
theorem dX12_bits_12 : decode cX12_bits 12 = .ok (.iload_n 2, 1) := by decide +kernel
theorem dX12_bits_13 : decode cX12_bits 13 = .ok (.iconst 1, 1) := by decide +kernel
theorem dX12_bits_14 : decode cX12_bits 14 = .ok (.isub, 1) := by decide +kernel
theorem dX12_bits_15 : decode cX12_bits 15 = .ok (.iand, 1) := by decide +kernel
theorem dX12_bits_16 : decode cX12_bits 16 = .ok (.istore_n 2, 1) := by decide +kernel
theorem dX12_bits_17 : decode cX12_bits 17 = .ok (.goto (-13), 3) := by decide +kernel
theorem dX12_bits_20 : decode cX12_bits 20 = .ok (.iload_n 1, 1) := by decide +kernel
theorem dX12_bits_21 : decode cX12_bits 21 = .ok (.ireturn, 1) := by decide +kernel
theorem dX12_isNight_0 : decode cX12_isNight 0 = .ok (.aload_n 0, 1) := by decide +kernel
theorem dX12_isNight_1 : decode cX12_isNight 1 = .ok (.getfield 7, 3) := by decide +kernel
theorem dX12_isNight_4 : decode cX12_isNight 4 = .ok (.iconst 0, 1) := by decide +kernel
theorem dX12_isNight_5 : decode cX12_isNight 5 = .ok (.iaload, 1) := by decide +kernel
theorem dX12_isNight_6 : decode cX12_isNight 6 = .ok (.bipush 12, 2) := by decide +kernel
theorem dX12_isNight_8 : decode cX12_isNight 8 = .ok (.irem, 1) := by decide +kernel
theorem dX12_isNight_9 : decode cX12_isNight 9 = .ok (.bipush 6, 2) := by decide +kernel
theorem dX12_isNight_11 : decode cX12_isNight 11 = .ok (.if_icmp .lt 7, 3) := by decide +kernel
theorem dX12_isNight_14 : decode cX12_isNight 14 = .ok (.iconst 1, 1) := by decide +kernel
theorem dX12_isNight_15 : decode cX12_isNight 15 = .ok (.goto 4, 3) := by decide +kernel
theorem dX12_isNight_18 : decode cX12_isNight 18 = .ok (.iconst 0, 1) := by decide +kernel
theorem dX12_isNight_19 : decode cX12_isNight 19 = .ok (.ireturn, 1) := by decide +kernel
theorem dX12_isBurning_0 : decode cX12_isBurning 0 = .ok (.aload_n 0, 1) := by decide +kernel
theorem dX12_isBurning_1 : decode cX12_isBurning 1 = .ok (.getfield 7, 3) := by decide +kernel
theorem dX12_isBurning_4 : decode cX12_isBurning 4 = .ok (.iconst 3, 1) := by decide +kernel
theorem dX12_isBurning_5 : decode cX12_isBurning 5 = .ok (.iaload, 1) := by decide +kernel
theorem dX12_isBurning_6 : decode cX12_isBurning 6 = .ok (.aload_n 0, 1) := by decide +kernel
theorem dX12_isBurning_7 : decode cX12_isBurning 7 = .ok (.getfield 7, 3) := by decide +kernel
theorem dX12_isBurning_10 : decode cX12_isBurning 10 = .ok (.iconst 0, 1) := by decide +kernel
theorem dX12_isBurning_11 : decode cX12_isBurning 11 = .ok (.iaload, 1) := by decide +kernel
theorem dX12_isBurning_12 : decode cX12_isBurning 12 = .ok (.bipush 12, 2) := by decide +kernel
theorem dX12_isBurning_14 : decode cX12_isBurning 14 = .ok (.irem, 1) := by decide +kernel
theorem dX12_isBurning_15 : decode cX12_isBurning 15 = .ok (.ishr, 1) := by decide +kernel
theorem dX12_isBurning_16 : decode cX12_isBurning 16 = .ok (.iconst 1, 1) := by decide +kernel
theorem dX12_isBurning_17 : decode cX12_isBurning 17 = .ok (.iand, 1) := by decide +kernel
theorem dX12_isBurning_18 : decode cX12_isBurning 18 = .ok (.iconst 1, 1) := by decide +kernel
theorem dX12_isBurning_19 : decode cX12_isBurning 19 = .ok (.if_icmp .ne 7, 3) := by decide +kernel
theorem dX12_isBurning_22 : decode cX12_isBurning 22 = .ok (.iconst 1, 1) := by decide +kernel
theorem dX12_isBurning_23 : decode cX12_isBurning 23 = .ok (.goto 4, 3) := by decide +kernel
theorem dX12_isBurning_26 : decode cX12_isBurning 26 = .ok (.iconst 0, 1) := by decide +kernel
theorem dX12_isBurning_27 : decode cX12_isBurning 27 = .ok (.ireturn, 1) := by decide +kernel
theorem dX12_place_0 : decode cX12_place 0 = .ok (.bipush 10, 2) := by decide +kernel
theorem dX12_place_2 : decode cX12_place 2 = .ok (.aload_n 0, 1) := by decide +kernel
theorem dX12_place_3 : decode cX12_place 3 = .ok (.getfield 7, 3) := by decide +kernel
theorem dX12_place_6 : decode cX12_place 6 = .ok (.iconst 1, 1) := by decide +kernel
theorem dX12_place_7 : decode cX12_place 7 = .ok (.iaload, 1) := by decide +kernel
theorem dX12_place_8 : decode cX12_place 8 = .ok (.imul, 1) := by decide +kernel
theorem dX12_place_9 : decode cX12_place 9 = .ok (.aload_n 0, 1) := by decide +kernel
theorem dX12_place_10 : decode cX12_place 10 = .ok (.getfield 7, 3) := by decide +kernel
theorem dX12_place_13 : decode cX12_place 13 = .ok (.iconst 2, 1) := by decide +kernel
theorem dX12_place_14 : decode cX12_place 14 = .ok (.iaload, 1) := by decide +kernel
theorem dX12_place_15 : decode cX12_place 15 = .ok (.iadd, 1) := by decide +kernel
theorem dX12_place_16 : decode cX12_place 16 = .ok (.ireturn, 1) := by decide +kernel
theorem dX12_stands_0 : decode cX12_stands 0 = .ok (.aload_n 0, 1) := by decide +kernel
theorem dX12_stands_1 : decode cX12_stands 1 = .ok (.getfield 7, 3) := by decide +kernel
theorem dX12_stands_4 : decode cX12_stands 4 = .ok (.iconst 1, 1) := by decide +kernel
theorem dX12_stands_5 : decode cX12_stands 5 = .ok (.iload_n 1, 1) := by decide +kernel
theorem dX12_stands_6 : decode cX12_stands 6 = .ok (.bipush 10, 2) := by decide +kernel
theorem dX12_stands_8 : decode cX12_stands 8 = .ok (.idiv, 1) := by decide +kernel
theorem dX12_stands_9 : decode cX12_stands 9 = .ok (.iastore, 1) := by decide +kernel
theorem dX12_stands_10 : decode cX12_stands 10 = .ok (.aload_n 0, 1) := by decide +kernel
theorem dX12_stands_11 : decode cX12_stands 11 = .ok (.getfield 7, 3) := by decide +kernel
theorem dX12_stands_14 : decode cX12_stands 14 = .ok (.iconst 2, 1) := by decide +kernel
theorem dX12_stands_15 : decode cX12_stands 15 = .ok (.iload_n 1, 1) := by decide +kernel
theorem dX12_stands_16 : decode cX12_stands 16 = .ok (.bipush 10, 2) := by decide +kernel
theorem dX12_stands_18 : decode cX12_stands 18 = .ok (.irem, 1) := by decide +kernel
theorem dX12_stands_19 : decode cX12_stands 19 = .ok (.iastore, 1) := by decide +kernel
theorem dX12_stands_20 : decode cX12_stands 20 = .ok (.return_, 1) := by decide +kernel
theorem dX12_tower_0 : decode cX12_tower 0 = .ok (.iload_n 1, 1) := by decide +kernel
theorem dX12_tower_1 : decode cX12_tower 1 = .ok (.iconst 0, 1) := by decide +kernel
theorem dX12_tower_2 : decode cX12_tower 2 = .ok (.bipush 19, 2) := by decide +kernel
theorem dX12_tower_4 : decode cX12_tower 4 = .ok (.invokestatic 45, 3) := by decide +kernel
theorem dX12_tower_7 : decode cX12_tower 7 = .ok (.ifCond .eq 10, 3) := by decide +kernel
theorem dX12_tower_10 : decode cX12_tower 10 = .ok (.iload_n 2, 1) := by decide +kernel
theorem dX12_tower_11 : decode cX12_tower 11 = .ok (.invokestatic 49, 3) := by decide +kernel
theorem dX12_tower_14 : decode cX12_tower 14 = .ok (.ifCond .ne 10, 3) := by decide +kernel
theorem dX12_tower_17 : decode cX12_tower 17 = .ok (.aload_n 0, 1) := by decide +kernel
theorem dX12_tower_18 : decode cX12_tower 18 = .ok (.ldc 44, 2) := by decide +kernel
theorem dX12_tower_20 : decode cX12_tower 20 = .ok (.invokevirtual 53, 3) := by decide +kernel
theorem dX12_tower_23 : decode cX12_tower 23 = .ok (.ireturn, 1) := by decide +kernel
theorem dX12_tower_24 : decode cX12_tower 24 = .ok (.aload_n 0, 1) := by decide +kernel
theorem dX12_tower_25 : decode cX12_tower 25 = .ok (.invokevirtual 57, 3) := by decide +kernel
theorem dX12_tower_28 : decode cX12_tower 28 = .ok (.istore_n 3, 1) := by decide +kernel
theorem dX12_tower_29 : decode cX12_tower 29 = .ok (.aload_n 0, 1) := by decide +kernel
theorem dX12_tower_30 : decode cX12_tower 30 = .ok (.bipush 10, 2) := by decide +kernel
theorem dX12_tower_32 : decode cX12_tower 32 = .ok (.iload_n 1, 1) := by decide +kernel
theorem dX12_tower_33 : decode cX12_tower 33 = .ok (.imul, 1) := by decide +kernel
theorem dX12_tower_34 : decode cX12_tower 34 = .ok (.iload_n 2, 1) := by decide +kernel
theorem dX12_tower_35 : decode cX12_tower 35 = .ok (.iadd, 1) := by decide +kernel
theorem dX12_tower_36 : decode cX12_tower 36 = .ok (.invokevirtual 61, 3) := by decide +kernel
theorem dX12_tower_39 : decode cX12_tower 39 = .ok (.iload_n 3, 1) := by decide +kernel
theorem dX12_tower_40 : decode cX12_tower 40 = .ok (.ireturn, 1) := by decide +kernel
theorem dX12_lamp_0 : decode cX12_lamp 0 = .ok (.iload_n 1, 1) := by decide +kernel
theorem dX12_lamp_1 : decode cX12_lamp 1 = .ok (.iconst 0, 1) := by decide +kernel
theorem dX12_lamp_2 : decode cX12_lamp 2 = .ok (.sipush 4095, 3) := by decide +kernel
theorem dX12_lamp_5 : decode cX12_lamp 5 = .ok (.invokestatic 45, 3) := by decide +kernel
theorem dX12_lamp_8 : decode cX12_lamp 8 = .ok (.ifCond .eq 12, 3) := by decide +kernel
theorem dX12_lamp_11 : decode cX12_lamp 11 = .ok (.aload_n 0, 1) := by decide +kernel
theorem dX12_lamp_12 : decode cX12_lamp 12 = .ok (.iconst 3, 1) := by decide +kernel
theorem dX12_lamp_13 : decode cX12_lamp 13 = .ok (.iload_n 1, 1) := by decide +kernel
theorem dX12_lamp_14 : decode cX12_lamp 14 = .ok (.invokevirtual 65, 3) := by decide +kernel
theorem dX12_lamp_17 : decode cX12_lamp 17 = .ok (.goto 9, 3) := by decide +kernel
theorem dX12_lamp_20 : decode cX12_lamp 20 = .ok (.aload_n 0, 1) := by decide +kernel
theorem dX12_lamp_21 : decode cX12_lamp 21 = .ok (.ldc 44, 2) := by decide +kernel
theorem dX12_lamp_23 : decode cX12_lamp 23 = .ok (.invokevirtual 53, 3) := by decide +kernel
theorem dX12_lamp_26 : decode cX12_lamp 26 = .ok (.ireturn, 1) := by decide +kernel
theorem dX12_reach_0 : decode cX12_reach 0 = .ok (.iload_n 1, 1) := by decide +kernel
theorem dX12_reach_1 : decode cX12_reach 1 = .ok (.iconst 0, 1) := by decide +kernel
theorem dX12_reach_2 : decode cX12_reach 2 = .ok (.bipush 9, 2) := by decide +kernel
theorem dX12_reach_4 : decode cX12_reach 4 = .ok (.invokestatic 45, 3) := by decide +kernel
theorem dX12_reach_7 : decode cX12_reach 7 = .ok (.ifCond .eq 12, 3) := by decide +kernel
theorem dX12_reach_10 : decode cX12_reach 10 = .ok (.aload_n 0, 1) := by decide +kernel
theorem dX12_reach_11 : decode cX12_reach 11 = .ok (.iconst 4, 1) := by decide +kernel
theorem dX12_reach_12 : decode cX12_reach 12 = .ok (.iload_n 1, 1) := by decide +kernel
theorem dX12_reach_13 : decode cX12_reach 13 = .ok (.invokevirtual 65, 3) := by decide +kernel
theorem dX12_reach_16 : decode cX12_reach 16 = .ok (.goto 9, 3) := by decide +kernel
theorem dX12_reach_19 : decode cX12_reach 19 = .ok (.aload_n 0, 1) := by decide +kernel
theorem dX12_reach_20 : decode cX12_reach 20 = .ok (.ldc 44, 2) := by decide +kernel
theorem dX12_reach_22 : decode cX12_reach 22 = .ok (.invokevirtual 53, 3) := by decide +kernel
theorem dX12_reach_25 : decode cX12_reach 25 = .ok (.ireturn, 1) := by decide +kernel
theorem dX12_setOf_0 : decode cX12_setOf 0 = .ok (.iconst 0, 1) := by decide +kernel
theorem dX12_setOf_1 : decode cX12_setOf 1 = .ok (.istore_n 2, 1) := by decide +kernel
theorem dX12_setOf_2 : decode cX12_setOf 2 = .ok (.iconst 0, 1) := by decide +kernel
theorem dX12_setOf_3 : decode cX12_setOf 3 = .ok (.istore_n 3, 1) := by decide +kernel
theorem dX12_setOf_4 : decode cX12_setOf 4 = .ok (.iload_n 3, 1) := by decide +kernel
theorem dX12_setOf_5 : decode cX12_setOf 5 = .ok (.aload_n 0, 1) := by decide +kernel
theorem dX12_setOf_6 : decode cX12_setOf 6 = .ok (.getfield 7, 3) := by decide +kernel
theorem dX12_setOf_9 : decode cX12_setOf 9 = .ok (.iconst 5, 1) := by decide +kernel
theorem dX12_setOf_10 : decode cX12_setOf 10 = .ok (.iaload, 1) := by decide +kernel
theorem dX12_setOf_11 : decode cX12_setOf 11 = .ok (.if_icmp .ge 20, 3) := by decide +kernel
theorem dX12_setOf_14 : decode cX12_setOf 14 = .ok (.iload_n 2, 1) := by decide +kernel
theorem dX12_setOf_15 : decode cX12_setOf 15 = .ok (.aload_n 0, 1) := by decide +kernel
theorem dX12_setOf_16 : decode cX12_setOf 16 = .ok (.iload_n 3, 1) := by decide +kernel
theorem dX12_setOf_17 : decode cX12_setOf 17 = .ok (.iload_n 1, 1) := by decide +kernel
theorem dX12_setOf_18 : decode cX12_setOf 18 = .ok (.invokevirtual 69, 3) := by decide +kernel
theorem dX12_setOf_21 : decode cX12_setOf 21 = .ok (.iload_n 3, 1) := by decide +kernel
theorem dX12_setOf_22 : decode cX12_setOf 22 = .ok (.ishl, 1) := by decide +kernel
theorem dX12_setOf_23 : decode cX12_setOf 23 = .ok (.ior, 1) := by decide +kernel
theorem dX12_setOf_24 : decode cX12_setOf 24 = .ok (.istore_n 2, 1) := by decide +kernel
theorem dX12_setOf_25 : decode cX12_setOf 25 = .ok (.iinc 3 1, 3) := by decide +kernel
theorem dX12_setOf_28 : decode cX12_setOf 28 = .ok (.goto (-24), 3) := by decide +kernel
theorem dX12_setOf_31 : decode cX12_setOf 31 = .ok (.iload_n 2, 1) := by decide +kernel
theorem dX12_setOf_32 : decode cX12_setOf 32 = .ok (.ireturn, 1) := by decide +kernel
theorem dX12_costOfAll_0 : decode cX12_costOfAll 0 = .ok (.iconst 0, 1) := by decide +kernel
theorem dX12_costOfAll_1 : decode cX12_costOfAll 1 = .ok (.istore_n 1, 1) := by decide +kernel
theorem dX12_costOfAll_2 : decode cX12_costOfAll 2 = .ok (.iconst 0, 1) := by decide +kernel
theorem dX12_costOfAll_3 : decode cX12_costOfAll 3 = .ok (.istore_n 2, 1) := by decide +kernel
theorem dX12_costOfAll_4 : decode cX12_costOfAll 4 = .ok (.iload_n 2, 1) := by decide +kernel
theorem dX12_costOfAll_5 : decode cX12_costOfAll 5 = .ok (.aload_n 0, 1) := by decide +kernel
theorem dX12_costOfAll_6 : decode cX12_costOfAll 6 = .ok (.getfield 7, 3) := by decide +kernel
theorem dX12_costOfAll_9 : decode cX12_costOfAll 9 = .ok (.iconst 5, 1) := by decide +kernel
theorem dX12_costOfAll_10 : decode cX12_costOfAll 10 = .ok (.iaload, 1) := by decide +kernel
theorem dX12_costOfAll_11 : decode cX12_costOfAll 11 = .ok (.if_icmp .ge 18, 3) := by decide +kernel
theorem dX12_costOfAll_14 : decode cX12_costOfAll 14 = .ok (.iload_n 1, 1) := by decide +kernel
theorem dX12_costOfAll_15 : decode cX12_costOfAll 15 = .ok (.aload_n 0, 1) := by decide +kernel
theorem dX12_costOfAll_16 : decode cX12_costOfAll 16 = .ok (.iload_n 2, 1) := by decide +kernel
theorem dX12_costOfAll_17 : decode cX12_costOfAll 17 = .ok (.iconst 3, 1) := by decide +kernel
theorem dX12_costOfAll_18 : decode cX12_costOfAll 18 = .ok (.invokevirtual 69, 3) := by decide +kernel
theorem dX12_costOfAll_21 : decode cX12_costOfAll 21 = .ok (.iadd, 1) := by decide +kernel
theorem dX12_costOfAll_22 : decode cX12_costOfAll 22 = .ok (.istore_n 1, 1) := by decide +kernel
theorem dX12_costOfAll_23 : decode cX12_costOfAll 23 = .ok (.iinc 2 1, 3) := by decide +kernel
theorem dX12_costOfAll_26 : decode cX12_costOfAll 26 = .ok (.goto (-22), 3) := by decide +kernel
theorem dX12_costOfAll_29 : decode cX12_costOfAll 29 = .ok (.iload_n 1, 1) := by decide +kernel
theorem dX12_costOfAll_30 : decode cX12_costOfAll 30 = .ok (.ireturn, 1) := by decide +kernel
theorem dX12_now_0 : decode cX12_now 0 = .ok (.iload_n 1, 1) := by decide +kernel
theorem dX12_now_1 : decode cX12_now 1 = .ok (.tableswitch 115 0 7 #[47, 54, 64, 77, 90, 95, 102, 108], 47) := by decide +kernel
theorem dX12_now_48 : decode cX12_now 48 = .ok (.aload_n 0, 1) := by decide +kernel
theorem dX12_now_49 : decode cX12_now 49 = .ok (.getfield 7, 3) := by decide +kernel
theorem dX12_now_52 : decode cX12_now 52 = .ok (.iconst 0, 1) := by decide +kernel
theorem dX12_now_53 : decode cX12_now 53 = .ok (.iaload, 1) := by decide +kernel
theorem dX12_now_54 : decode cX12_now 54 = .ok (.ireturn, 1) := by decide +kernel
theorem dX12_now_55 : decode cX12_now 55 = .ok (.aload_n 0, 1) := by decide +kernel
theorem dX12_now_56 : decode cX12_now 56 = .ok (.getfield 7, 3) := by decide +kernel
theorem dX12_now_59 : decode cX12_now 59 = .ok (.iconst 0, 1) := by decide +kernel
theorem dX12_now_60 : decode cX12_now 60 = .ok (.iaload, 1) := by decide +kernel
theorem dX12_now_61 : decode cX12_now 61 = .ok (.bipush 12, 2) := by decide +kernel
theorem dX12_now_63 : decode cX12_now 63 = .ok (.irem, 1) := by decide +kernel
theorem dX12_now_64 : decode cX12_now 64 = .ok (.ireturn, 1) := by decide +kernel
theorem dX12_now_65 : decode cX12_now 65 = .ok (.aload_n 0, 1) := by decide +kernel
theorem dX12_now_66 : decode cX12_now 66 = .ok (.invokevirtual 72, 3) := by decide +kernel
theorem dX12_now_69 : decode cX12_now 69 = .ok (.ifCond .eq 7, 3) := by decide +kernel
theorem dX12_now_72 : decode cX12_now 72 = .ok (.iconst 1, 1) := by decide +kernel
theorem dX12_now_73 : decode cX12_now 73 = .ok (.goto 4, 3) := by decide +kernel
theorem dX12_now_76 : decode cX12_now 76 = .ok (.iconst 0, 1) := by decide +kernel
theorem dX12_now_77 : decode cX12_now 77 = .ok (.ireturn, 1) := by decide +kernel
theorem dX12_now_78 : decode cX12_now 78 = .ok (.aload_n 0, 1) := by decide +kernel
theorem dX12_now_79 : decode cX12_now 79 = .ok (.invokevirtual 76, 3) := by decide +kernel
theorem dX12_now_82 : decode cX12_now 82 = .ok (.ifCond .eq 7, 3) := by decide +kernel
theorem dX12_now_85 : decode cX12_now 85 = .ok (.iconst 1, 1) := by decide +kernel
theorem dX12_now_86 : decode cX12_now 86 = .ok (.goto 4, 3) := by decide +kernel
theorem dX12_now_89 : decode cX12_now 89 = .ok (.iconst 0, 1) := by decide +kernel
theorem dX12_now_90 : decode cX12_now 90 = .ok (.ireturn, 1) := by decide +kernel
theorem dX12_now_91 : decode cX12_now 91 = .ok (.aload_n 0, 1) := by decide +kernel
theorem dX12_now_92 : decode cX12_now 92 = .ok (.invokevirtual 57, 3) := by decide +kernel
theorem dX12_now_95 : decode cX12_now 95 = .ok (.ireturn, 1) := by decide +kernel
theorem dX12_now_96 : decode cX12_now 96 = .ok (.aload_n 0, 1) := by decide +kernel
theorem dX12_now_97 : decode cX12_now 97 = .ok (.getfield 7, 3) := by decide +kernel
theorem dX12_now_100 : decode cX12_now 100 = .ok (.iconst 4, 1) := by decide +kernel
theorem dX12_now_101 : decode cX12_now 101 = .ok (.iaload, 1) := by decide +kernel
theorem dX12_now_102 : decode cX12_now 102 = .ok (.ireturn, 1) := by decide +kernel
theorem dX12_now_103 : decode cX12_now 103 = .ok (.aload_n 0, 1) := by decide +kernel
theorem dX12_now_104 : decode cX12_now 104 = .ok (.iconst 5, 1) := by decide +kernel
theorem dX12_now_105 : decode cX12_now 105 = .ok (.invokevirtual 79, 3) := by decide +kernel
theorem dX12_now_108 : decode cX12_now 108 = .ok (.ireturn, 1) := by decide +kernel
theorem dX12_now_109 : decode cX12_now 109 = .ok (.aload_n 0, 1) := by decide +kernel
theorem dX12_now_110 : decode cX12_now 110 = .ok (.bipush 6, 2) := by decide +kernel
theorem dX12_now_112 : decode cX12_now 112 = .ok (.invokevirtual 79, 3) := by decide +kernel
theorem dX12_now_115 : decode cX12_now 115 = .ok (.ireturn, 1) := by decide +kernel
theorem dX12_now_116 : decode cX12_now 116 = .ok (.aload_n 0, 1) := by decide +kernel
theorem dX12_now_117 : decode cX12_now 117 = .ok (.ldc 44, 2) := by decide +kernel
theorem dX12_now_119 : decode cX12_now 119 = .ok (.invokevirtual 53, 3) := by decide +kernel
theorem dX12_now_122 : decode cX12_now 122 = .ok (.ireturn, 1) := by decide +kernel
theorem dX12_apart_0 : decode cX12_apart 0 = .ok (.iload_n 0, 1) := by decide +kernel
theorem dX12_apart_1 : decode cX12_apart 1 = .ok (.iload_n 1, 1) := by decide +kernel
theorem dX12_apart_2 : decode cX12_apart 2 = .ok (.if_icmp .le 9, 3) := by decide +kernel
theorem dX12_apart_5 : decode cX12_apart 5 = .ok (.iload_n 0, 1) := by decide +kernel
theorem dX12_apart_6 : decode cX12_apart 6 = .ok (.iload_n 1, 1) := by decide +kernel
theorem dX12_apart_7 : decode cX12_apart 7 = .ok (.isub, 1) := by decide +kernel
theorem dX12_apart_8 : decode cX12_apart 8 = .ok (.goto 6, 3) := by decide +kernel
theorem dX12_apart_11 : decode cX12_apart 11 = .ok (.iload_n 1, 1) := by decide +kernel
theorem dX12_apart_12 : decode cX12_apart 12 = .ok (.iload_n 0, 1) := by decide +kernel
theorem dX12_apart_13 : decode cX12_apart 13 = .ok (.isub, 1) := by decide +kernel
theorem dX12_apart_14 : decode cX12_apart 14 = .ok (.ireturn, 1) := by decide +kernel
theorem dX12_distance_0 : decode cX12_distance 0 = .ok (.aload_n 0, 1) := by decide +kernel
theorem dX12_distance_1 : decode cX12_distance 1 = .ok (.iload_n 1, 1) := by decide +kernel
theorem dX12_distance_2 : decode cX12_distance 2 = .ok (.iconst 1, 1) := by decide +kernel
theorem dX12_distance_3 : decode cX12_distance 3 = .ok (.invokevirtual 69, 3) := by decide +kernel
theorem dX12_distance_6 : decode cX12_distance 6 = .ok (.aload_n 0, 1) := by decide +kernel
theorem dX12_distance_7 : decode cX12_distance 7 = .ok (.getfield 7, 3) := by decide +kernel
theorem dX12_distance_10 : decode cX12_distance 10 = .ok (.iconst 1, 1) := by decide +kernel
theorem dX12_distance_11 : decode cX12_distance 11 = .ok (.iaload, 1) := by decide +kernel
theorem dX12_distance_12 : decode cX12_distance 12 = .ok (.invokestatic 82, 3) := by decide +kernel
theorem dX12_distance_15 : decode cX12_distance 15 = .ok (.istore_n 2, 1) := by decide +kernel
theorem dX12_distance_16 : decode cX12_distance 16 = .ok (.aload_n 0, 1) := by decide +kernel
theorem dX12_distance_17 : decode cX12_distance 17 = .ok (.iload_n 1, 1) := by decide +kernel
theorem dX12_distance_18 : decode cX12_distance 18 = .ok (.iconst 2, 1) := by decide +kernel
theorem dX12_distance_19 : decode cX12_distance 19 = .ok (.invokevirtual 69, 3) := by decide +kernel
theorem dX12_distance_22 : decode cX12_distance 22 = .ok (.aload_n 0, 1) := by decide +kernel
theorem dX12_distance_23 : decode cX12_distance 23 = .ok (.getfield 7, 3) := by decide +kernel
theorem dX12_distance_26 : decode cX12_distance 26 = .ok (.iconst 2, 1) := by decide +kernel
theorem dX12_distance_27 : decode cX12_distance 27 = .ok (.iaload, 1) := by decide +kernel
theorem dX12_distance_28 : decode cX12_distance 28 = .ok (.invokestatic 82, 3) := by decide +kernel
theorem dX12_distance_31 : decode cX12_distance 31 = .ok (.istore_n 3, 1) := by decide +kernel
theorem dX12_distance_32 : decode cX12_distance 32 = .ok (.iload_n 2, 1) := by decide +kernel
theorem dX12_distance_33 : decode cX12_distance 33 = .ok (.iload_n 3, 1) := by decide +kernel
theorem dX12_distance_34 : decode cX12_distance 34 = .ok (.if_icmp .le 7, 3) := by decide +kernel
theorem dX12_distance_37 : decode cX12_distance 37 = .ok (.iload_n 2, 1) := by decide +kernel
theorem dX12_distance_38 : decode cX12_distance 38 = .ok (.goto 4, 3) := by decide +kernel
theorem dX12_distance_41 : decode cX12_distance 41 = .ok (.iload_n 3, 1) := by decide +kernel
theorem dX12_distance_42 : decode cX12_distance 42 = .ok (.ireturn, 1) := by decide +kernel
theorem dX12_isSeeing_0 : decode cX12_isSeeing 0 = .ok (.aload_n 0, 1) := by decide +kernel
theorem dX12_isSeeing_1 : decode cX12_isSeeing 1 = .ok (.iload_n 1, 1) := by decide +kernel
theorem dX12_isSeeing_2 : decode cX12_isSeeing 2 = .ok (.invokevirtual 85, 3) := by decide +kernel
theorem dX12_isSeeing_5 : decode cX12_isSeeing 5 = .ok (.istore_n 2, 1) := by decide +kernel
theorem dX12_isSeeing_6 : decode cX12_isSeeing 6 = .ok (.aload_n 0, 1) := by decide +kernel
theorem dX12_isSeeing_7 : decode cX12_isSeeing 7 = .ok (.invokevirtual 72, 3) := by decide +kernel
theorem dX12_isSeeing_10 : decode cX12_isSeeing 10 = .ok (.istore_n 3, 1) := by decide +kernel
theorem dX12_isSeeing_11 : decode cX12_isSeeing 11 = .ok (.aload_n 0, 1) := by decide +kernel
theorem dX12_isSeeing_12 : decode cX12_isSeeing 12 = .ok (.invokevirtual 76, 3) := by decide +kernel
theorem dX12_isSeeing_15 : decode cX12_isSeeing 15 = .ok (.istore 4, 2) := by decide +kernel
theorem dX12_isSeeing_17 : decode cX12_isSeeing 17 = .ok (.aload_n 0, 1) := by decide +kernel
theorem dX12_isSeeing_18 : decode cX12_isSeeing 18 = .ok (.iload_n 1, 1) := by decide +kernel
theorem dX12_isSeeing_19 : decode cX12_isSeeing 19 = .ok (.iconst 0, 1) := by decide +kernel
theorem dX12_isSeeing_20 : decode cX12_isSeeing 20 = .ok (.invokevirtual 69, 3) := by decide +kernel
theorem dX12_isSeeing_23 : decode cX12_isSeeing 23 = .ok (.tableswitch 156 1 5 #[33, 111, 154, 71, 139], 33) := by decide +kernel
theorem dX12_isSeeing_56 : decode cX12_isSeeing 56 = .ok (.iload_n 2, 1) := by decide +kernel
theorem dX12_isSeeing_57 : decode cX12_isSeeing 57 = .ok (.iconst 1, 1) := by decide +kernel
theorem dX12_isSeeing_58 : decode cX12_isSeeing 58 = .ok (.if_icmp .eq 30, 3) := by decide +kernel
theorem dX12_isSeeing_61 : decode cX12_isSeeing 61 = .ok (.iload_n 3, 1) := by decide +kernel
theorem dX12_isSeeing_62 : decode cX12_isSeeing 62 = .ok (.ifCond .eq 21, 3) := by decide +kernel
theorem dX12_isSeeing_65 : decode cX12_isSeeing 65 = .ok (.iload 4, 2) := by decide +kernel
theorem dX12_isSeeing_67 : decode cX12_isSeeing 67 = .ok (.ifCond .eq 25, 3) := by decide +kernel
theorem dX12_isSeeing_70 : decode cX12_isSeeing 70 = .ok (.iload_n 2, 1) := by decide +kernel
theorem dX12_isSeeing_71 : decode cX12_isSeeing 71 = .ok (.aload_n 0, 1) := by decide +kernel
theorem dX12_isSeeing_72 : decode cX12_isSeeing 72 = .ok (.getfield 7, 3) := by decide +kernel
theorem dX12_isSeeing_75 : decode cX12_isSeeing 75 = .ok (.iconst 4, 1) := by decide +kernel
theorem dX12_isSeeing_76 : decode cX12_isSeeing 76 = .ok (.iaload, 1) := by decide +kernel
theorem dX12_isSeeing_77 : decode cX12_isSeeing 77 = .ok (.if_icmp .gt 15, 3) := by decide +kernel
theorem dX12_isSeeing_80 : decode cX12_isSeeing 80 = .ok (.goto 8, 3) := by decide +kernel
theorem dX12_isSeeing_83 : decode cX12_isSeeing 83 = .ok (.iload_n 2, 1) := by decide +kernel
theorem dX12_isSeeing_84 : decode cX12_isSeeing 84 = .ok (.iconst 3, 1) := by decide +kernel
theorem dX12_isSeeing_85 : decode cX12_isSeeing 85 = .ok (.if_icmp .gt 7, 3) := by decide +kernel
theorem dX12_isSeeing_88 : decode cX12_isSeeing 88 = .ok (.iconst 1, 1) := by decide +kernel
theorem dX12_isSeeing_89 : decode cX12_isSeeing 89 = .ok (.goto 4, 3) := by decide +kernel
theorem dX12_isSeeing_92 : decode cX12_isSeeing 92 = .ok (.iconst 0, 1) := by decide +kernel
theorem dX12_isSeeing_93 : decode cX12_isSeeing 93 = .ok (.ireturn, 1) := by decide +kernel
theorem dX12_isSeeing_94 : decode cX12_isSeeing 94 = .ok (.iload_n 2, 1) := by decide +kernel
theorem dX12_isSeeing_95 : decode cX12_isSeeing 95 = .ok (.iconst 1, 1) := by decide +kernel
theorem dX12_isSeeing_96 : decode cX12_isSeeing 96 = .ok (.if_icmp .eq 32, 3) := by decide +kernel
theorem dX12_isSeeing_99 : decode cX12_isSeeing 99 = .ok (.iload_n 3, 1) := by decide +kernel
theorem dX12_isSeeing_100 : decode cX12_isSeeing 100 = .ok (.ifCond .eq 23, 3) := by decide +kernel
theorem dX12_isSeeing_103 : decode cX12_isSeeing 103 = .ok (.iload 4, 2) := by decide +kernel
theorem dX12_isSeeing_105 : decode cX12_isSeeing 105 = .ok (.ifCond .eq 27, 3) := by decide +kernel
theorem dX12_isSeeing_108 : decode cX12_isSeeing 108 = .ok (.iload_n 2, 1) := by decide +kernel
theorem dX12_isSeeing_109 : decode cX12_isSeeing 109 = .ok (.aload_n 0, 1) := by decide +kernel
theorem dX12_isSeeing_110 : decode cX12_isSeeing 110 = .ok (.getfield 7, 3) := by decide +kernel
theorem dX12_isSeeing_113 : decode cX12_isSeeing 113 = .ok (.iconst 4, 1) := by decide +kernel
theorem dX12_isSeeing_114 : decode cX12_isSeeing 114 = .ok (.iaload, 1) := by decide +kernel
theorem dX12_isSeeing_115 : decode cX12_isSeeing 115 = .ok (.iconst 2, 1) := by decide +kernel
theorem dX12_isSeeing_116 : decode cX12_isSeeing 116 = .ok (.iadd, 1) := by decide +kernel
theorem dX12_isSeeing_117 : decode cX12_isSeeing 117 = .ok (.if_icmp .gt 15, 3) := by decide +kernel
theorem dX12_isSeeing_120 : decode cX12_isSeeing 120 = .ok (.goto 8, 3) := by decide +kernel
theorem dX12_isSeeing_123 : decode cX12_isSeeing 123 = .ok (.iload_n 2, 1) := by decide +kernel
theorem dX12_isSeeing_124 : decode cX12_isSeeing 124 = .ok (.iconst 3, 1) := by decide +kernel
theorem dX12_isSeeing_125 : decode cX12_isSeeing 125 = .ok (.if_icmp .gt 7, 3) := by decide +kernel
theorem dX12_isSeeing_128 : decode cX12_isSeeing 128 = .ok (.iconst 1, 1) := by decide +kernel
theorem dX12_isSeeing_129 : decode cX12_isSeeing 129 = .ok (.goto 4, 3) := by decide +kernel
theorem dX12_isSeeing_132 : decode cX12_isSeeing 132 = .ok (.iconst 0, 1) := by decide +kernel
theorem dX12_isSeeing_133 : decode cX12_isSeeing 133 = .ok (.ireturn, 1) := by decide +kernel
theorem dX12_isSeeing_134 : decode cX12_isSeeing 134 = .ok (.iload_n 3, 1) := by decide +kernel
theorem dX12_isSeeing_135 : decode cX12_isSeeing 135 = .ok (.ifCond .eq 16, 3) := by decide +kernel
theorem dX12_isSeeing_138 : decode cX12_isSeeing 138 = .ok (.iload_n 2, 1) := by decide +kernel
theorem dX12_isSeeing_139 : decode cX12_isSeeing 139 = .ok (.iconst 2, 1) := by decide +kernel
theorem dX12_isSeeing_140 : decode cX12_isSeeing 140 = .ok (.if_icmp .gt 7, 3) := by decide +kernel
theorem dX12_isSeeing_143 : decode cX12_isSeeing 143 = .ok (.iconst 1, 1) := by decide +kernel
theorem dX12_isSeeing_144 : decode cX12_isSeeing 144 = .ok (.goto 17, 3) := by decide +kernel
theorem dX12_isSeeing_147 : decode cX12_isSeeing 147 = .ok (.iconst 0, 1) := by decide +kernel
theorem dX12_isSeeing_148 : decode cX12_isSeeing 148 = .ok (.goto 13, 3) := by decide +kernel
theorem dX12_isSeeing_151 : decode cX12_isSeeing 151 = .ok (.iload_n 2, 1) := by decide +kernel
theorem dX12_isSeeing_152 : decode cX12_isSeeing 152 = .ok (.iconst 3, 1) := by decide +kernel
theorem dX12_isSeeing_153 : decode cX12_isSeeing 153 = .ok (.if_icmp .gt 7, 3) := by decide +kernel
theorem dX12_isSeeing_156 : decode cX12_isSeeing 156 = .ok (.iconst 1, 1) := by decide +kernel
theorem dX12_isSeeing_157 : decode cX12_isSeeing 157 = .ok (.goto 4, 3) := by decide +kernel
theorem dX12_isSeeing_160 : decode cX12_isSeeing 160 = .ok (.iconst 0, 1) := by decide +kernel
theorem dX12_isSeeing_161 : decode cX12_isSeeing 161 = .ok (.ireturn, 1) := by decide +kernel
theorem dX12_isSeeing_162 : decode cX12_isSeeing 162 = .ok (.iload_n 3, 1) := by decide +kernel
theorem dX12_isSeeing_163 : decode cX12_isSeeing 163 = .ok (.ifCond .eq 8, 3) := by decide +kernel
theorem dX12_isSeeing_166 : decode cX12_isSeeing 166 = .ok (.iload_n 2, 1) := by decide +kernel
theorem dX12_isSeeing_167 : decode cX12_isSeeing 167 = .ok (.iconst 2, 1) := by decide +kernel
theorem dX12_isSeeing_168 : decode cX12_isSeeing 168 = .ok (.if_icmp .gt 7, 3) := by decide +kernel
theorem dX12_isSeeing_171 : decode cX12_isSeeing 171 = .ok (.iconst 1, 1) := by decide +kernel
theorem dX12_isSeeing_172 : decode cX12_isSeeing 172 = .ok (.goto 4, 3) := by decide +kernel
theorem dX12_isSeeing_175 : decode cX12_isSeeing 175 = .ok (.iconst 0, 1) := by decide +kernel
theorem dX12_isSeeing_176 : decode cX12_isSeeing 176 = .ok (.ireturn, 1) := by decide +kernel
theorem dX12_isSeeing_177 : decode cX12_isSeeing 177 = .ok (.iconst 0, 1) := by decide +kernel
theorem dX12_isSeeing_178 : decode cX12_isSeeing 178 = .ok (.ireturn, 1) := by decide +kernel
theorem dX12_isSeeing_179 : decode cX12_isSeeing 179 = .ok (.iload_n 3, 1) := by decide +kernel
theorem dX12_isSeeing_180 : decode cX12_isSeeing 180 = .ok (.ifCond .eq 26, 3) := by decide +kernel
theorem dX12_isSeeing_183 : decode cX12_isSeeing 183 = .ok (.iload 4, 2) := by decide +kernel
theorem dX12_isSeeing_185 : decode cX12_isSeeing 185 = .ok (.ifCond .eq 17, 3) := by decide +kernel
theorem dX12_isSeeing_188 : decode cX12_isSeeing 188 = .ok (.iload_n 2, 1) := by decide +kernel
theorem dX12_isSeeing_189 : decode cX12_isSeeing 189 = .ok (.aload_n 0, 1) := by decide +kernel
theorem dX12_isSeeing_190 : decode cX12_isSeeing 190 = .ok (.getfield 7, 3) := by decide +kernel
theorem dX12_isSeeing_193 : decode cX12_isSeeing 193 = .ok (.iconst 4, 1) := by decide +kernel
theorem dX12_isSeeing_194 : decode cX12_isSeeing 194 = .ok (.iaload, 1) := by decide +kernel
theorem dX12_isSeeing_195 : decode cX12_isSeeing 195 = .ok (.if_icmp .gt 7, 3) := by decide +kernel
theorem dX12_isSeeing_198 : decode cX12_isSeeing 198 = .ok (.iconst 1, 1) := by decide +kernel
theorem dX12_isSeeing_199 : decode cX12_isSeeing 199 = .ok (.goto 17, 3) := by decide +kernel
theorem dX12_isSeeing_202 : decode cX12_isSeeing 202 = .ok (.iconst 0, 1) := by decide +kernel
theorem dX12_isSeeing_203 : decode cX12_isSeeing 203 = .ok (.goto 13, 3) := by decide +kernel
theorem dX12_isSeeing_206 : decode cX12_isSeeing 206 = .ok (.iload_n 2, 1) := by decide +kernel
theorem dX12_isSeeing_207 : decode cX12_isSeeing 207 = .ok (.iconst 3, 1) := by decide +kernel
theorem dX12_isSeeing_208 : decode cX12_isSeeing 208 = .ok (.if_icmp .gt 7, 3) := by decide +kernel
theorem dX12_isSeeing_211 : decode cX12_isSeeing 211 = .ok (.iconst 1, 1) := by decide +kernel
theorem dX12_isSeeing_212 : decode cX12_isSeeing 212 = .ok (.goto 4, 3) := by decide +kernel
theorem dX12_isSeeing_215 : decode cX12_isSeeing 215 = .ok (.iconst 0, 1) := by decide +kernel
theorem dX12_isSeeing_216 : decode cX12_isSeeing 216 = .ok (.ireturn, 1) := by decide +kernel
theorem dX12_speed_0 : decode cX12_speed 0 = .ok (.aload_n 0, 1) := by decide +kernel
theorem dX12_speed_1 : decode cX12_speed 1 = .ok (.iload_n 1, 1) := by decide +kernel
theorem dX12_speed_2 : decode cX12_speed 2 = .ok (.iconst 0, 1) := by decide +kernel
theorem dX12_speed_3 : decode cX12_speed 3 = .ok (.invokevirtual 69, 3) := by decide +kernel
theorem dX12_speed_6 : decode cX12_speed 6 = .ok (.tableswitch 71 1 5 #[34, 71, 38, 36, 58], 34) := by decide +kernel
theorem dX12_speed_40 : decode cX12_speed 40 = .ok (.iconst 2, 1) := by decide +kernel
theorem dX12_speed_41 : decode cX12_speed 41 = .ok (.ireturn, 1) := by decide +kernel
theorem dX12_speed_42 : decode cX12_speed 42 = .ok (.iconst 3, 1) := by decide +kernel
theorem dX12_speed_43 : decode cX12_speed 43 = .ok (.ireturn, 1) := by decide +kernel
theorem dX12_speed_44 : decode cX12_speed 44 = .ok (.aload_n 0, 1) := by decide +kernel
theorem dX12_speed_45 : decode cX12_speed 45 = .ok (.getfield 7, 3) := by decide +kernel
theorem dX12_speed_48 : decode cX12_speed 48 = .ok (.iconst 0, 1) := by decide +kernel
theorem dX12_speed_49 : decode cX12_speed 49 = .ok (.iaload, 1) := by decide +kernel
theorem dX12_speed_50 : decode cX12_speed 50 = .ok (.bipush 12, 2) := by decide +kernel
theorem dX12_speed_52 : decode cX12_speed 52 = .ok (.irem, 1) := by decide +kernel
theorem dX12_speed_53 : decode cX12_speed 53 = .ok (.iconst 2, 1) := by decide +kernel
theorem dX12_speed_54 : decode cX12_speed 54 = .ok (.irem, 1) := by decide +kernel
theorem dX12_speed_55 : decode cX12_speed 55 = .ok (.ifCond .ne 7, 3) := by decide +kernel
theorem dX12_speed_58 : decode cX12_speed 58 = .ok (.iconst 1, 1) := by decide +kernel
theorem dX12_speed_59 : decode cX12_speed 59 = .ok (.goto 4, 3) := by decide +kernel
theorem dX12_speed_62 : decode cX12_speed 62 = .ok (.iconst 0, 1) := by decide +kernel
theorem dX12_speed_63 : decode cX12_speed 63 = .ok (.ireturn, 1) := by decide +kernel
theorem dX12_speed_64 : decode cX12_speed 64 = .ok (.aload_n 0, 1) := by decide +kernel
theorem dX12_speed_65 : decode cX12_speed 65 = .ok (.invokevirtual 72, 3) := by decide +kernel
theorem dX12_speed_68 : decode cX12_speed 68 = .ok (.ifCond .eq 7, 3) := by decide +kernel
theorem dX12_speed_71 : decode cX12_speed 71 = .ok (.iconst 1, 1) := by decide +kernel
theorem dX12_speed_72 : decode cX12_speed 72 = .ok (.goto 4, 3) := by decide +kernel
theorem dX12_speed_75 : decode cX12_speed 75 = .ok (.iconst 2, 1) := by decide +kernel
theorem dX12_speed_76 : decode cX12_speed 76 = .ok (.ireturn, 1) := by decide +kernel
theorem dX12_speed_77 : decode cX12_speed 77 = .ok (.iconst 1, 1) := by decide +kernel
theorem dX12_speed_78 : decode cX12_speed 78 = .ok (.ireturn, 1) := by decide +kernel
theorem dX12_keepsOff_0 : decode cX12_keepsOff 0 = .ok (.aload_n 0, 1) := by decide +kernel
theorem dX12_keepsOff_1 : decode cX12_keepsOff 1 = .ok (.iload_n 1, 1) := by decide +kernel
theorem dX12_keepsOff_2 : decode cX12_keepsOff 2 = .ok (.iconst 0, 1) := by decide +kernel
theorem dX12_keepsOff_3 : decode cX12_keepsOff 3 = .ok (.invokevirtual 69, 3) := by decide +kernel
theorem dX12_keepsOff_6 : decode cX12_keepsOff 6 = .ok (.tableswitch 51 2 5 #[30, 32, 34, 49], 30) := by decide +kernel
theorem dX12_keepsOff_36 : decode cX12_keepsOff 36 = .ok (.iconst 2, 1) := by decide +kernel
theorem dX12_keepsOff_37 : decode cX12_keepsOff 37 = .ok (.ireturn, 1) := by decide +kernel
theorem dX12_keepsOff_38 : decode cX12_keepsOff 38 = .ok (.iconst 0, 1) := by decide +kernel
theorem dX12_keepsOff_39 : decode cX12_keepsOff 39 = .ok (.ireturn, 1) := by decide +kernel
theorem dX12_keepsOff_40 : decode cX12_keepsOff 40 = .ok (.aload_n 0, 1) := by decide +kernel
theorem dX12_keepsOff_41 : decode cX12_keepsOff 41 = .ok (.iload_n 1, 1) := by decide +kernel
theorem dX12_keepsOff_42 : decode cX12_keepsOff 42 = .ok (.invokevirtual 85, 3) := by decide +kernel
theorem dX12_keepsOff_45 : decode cX12_keepsOff 45 = .ok (.iconst 3, 1) := by decide +kernel
theorem dX12_keepsOff_46 : decode cX12_keepsOff 46 = .ok (.if_icmp .le 7, 3) := by decide +kernel
theorem dX12_keepsOff_49 : decode cX12_keepsOff 49 = .ok (.iconst 0, 1) := by decide +kernel
theorem dX12_keepsOff_50 : decode cX12_keepsOff 50 = .ok (.goto 4, 3) := by decide +kernel
theorem dX12_keepsOff_53 : decode cX12_keepsOff 53 = .ok (.iconst 1, 1) := by decide +kernel
theorem dX12_keepsOff_54 : decode cX12_keepsOff 54 = .ok (.ireturn, 1) := by decide +kernel
theorem dX12_keepsOff_55 : decode cX12_keepsOff 55 = .ok (.iconst (-1), 1) := by decide +kernel
theorem dX12_keepsOff_56 : decode cX12_keepsOff 56 = .ok (.ireturn, 1) := by decide +kernel
theorem dX12_keepsOff_57 : decode cX12_keepsOff 57 = .ok (.iconst 1, 1) := by decide +kernel
theorem dX12_keepsOff_58 : decode cX12_keepsOff 58 = .ok (.ireturn, 1) := by decide +kernel
theorem dX12_isStanding_0 : decode cX12_isStanding 0 = .ok (.aload_n 0, 1) := by decide +kernel
theorem dX12_isStanding_1 : decode cX12_isStanding 1 = .ok (.iload_n 1, 1) := by decide +kernel
theorem dX12_isStanding_2 : decode cX12_isStanding 2 = .ok (.iconst 0, 1) := by decide +kernel
theorem dX12_isStanding_3 : decode cX12_isStanding 3 = .ok (.invokevirtual 69, 3) := by decide +kernel
theorem dX12_isStanding_6 : decode cX12_isStanding 6 = .ok (.istore_n 2, 1) := by decide +kernel
theorem dX12_isStanding_7 : decode cX12_isStanding 7 = .ok (.iload_n 2, 1) := by decide +kernel
theorem dX12_isStanding_8 : decode cX12_isStanding 8 = .ok (.iconst 1, 1) := by decide +kernel
theorem dX12_isStanding_9 : decode cX12_isStanding 9 = .ok (.if_icmp .eq 18, 3) := by decide +kernel
theorem dX12_isStanding_12 : decode cX12_isStanding 12 = .ok (.iload_n 2, 1) := by decide +kernel
theorem dX12_isStanding_13 : decode cX12_isStanding 13 = .ok (.iconst 4, 1) := by decide +kernel
theorem dX12_isStanding_14 : decode cX12_isStanding 14 = .ok (.if_icmp .ne 17, 3) := by decide +kernel
theorem dX12_isStanding_17 : decode cX12_isStanding 17 = .ok (.aload_n 0, 1) := by decide +kernel
theorem dX12_isStanding_18 : decode cX12_isStanding 18 = .ok (.iload_n 1, 1) := by decide +kernel
theorem dX12_isStanding_19 : decode cX12_isStanding 19 = .ok (.iconst 3, 1) := by decide +kernel
theorem dX12_isStanding_20 : decode cX12_isStanding 20 = .ok (.invokevirtual 69, 3) := by decide +kernel
theorem dX12_isStanding_23 : decode cX12_isStanding 23 = .ok (.iconst 5, 1) := by decide +kernel
theorem dX12_isStanding_24 : decode cX12_isStanding 24 = .ok (.if_icmp .ge 7, 3) := by decide +kernel
theorem dX12_isStanding_27 : decode cX12_isStanding 27 = .ok (.iconst 1, 1) := by decide +kernel
theorem dX12_isStanding_28 : decode cX12_isStanding 28 = .ok (.goto 4, 3) := by decide +kernel
theorem dX12_isStanding_31 : decode cX12_isStanding 31 = .ok (.iconst 0, 1) := by decide +kernel
theorem dX12_isStanding_32 : decode cX12_isStanding 32 = .ok (.istore_n 3, 1) := by decide +kernel
theorem dX12_isStanding_33 : decode cX12_isStanding 33 = .ok (.iload_n 3, 1) := by decide +kernel
theorem dX12_isStanding_34 : decode cX12_isStanding 34 = .ok (.ifCond .eq 23, 3) := by decide +kernel
theorem dX12_isStanding_37 : decode cX12_isStanding 37 = .ok (.aload_n 0, 1) := by decide +kernel
theorem dX12_isStanding_38 : decode cX12_isStanding 38 = .ok (.invokevirtual 72, 3) := by decide +kernel
theorem dX12_isStanding_41 : decode cX12_isStanding 41 = .ok (.ifCond .eq 16, 3) := by decide +kernel
theorem dX12_isStanding_44 : decode cX12_isStanding 44 = .ok (.aload_n 0, 1) := by decide +kernel
theorem dX12_isStanding_45 : decode cX12_isStanding 45 = .ok (.iload_n 1, 1) := by decide +kernel
theorem dX12_isStanding_46 : decode cX12_isStanding 46 = .ok (.invokevirtual 85, 3) := by decide +kernel
theorem dX12_isStanding_49 : decode cX12_isStanding 49 = .ok (.iconst 1, 1) := by decide +kernel
theorem dX12_isStanding_50 : decode cX12_isStanding 50 = .ok (.if_icmp .ne 7, 3) := by decide +kernel
theorem dX12_isStanding_53 : decode cX12_isStanding 53 = .ok (.iconst 1, 1) := by decide +kernel
theorem dX12_isStanding_54 : decode cX12_isStanding 54 = .ok (.goto 4, 3) := by decide +kernel
theorem dX12_isStanding_57 : decode cX12_isStanding 57 = .ok (.iconst 0, 1) := by decide +kernel
theorem dX12_isStanding_58 : decode cX12_isStanding 58 = .ok (.ireturn, 1) := by decide +kernel
theorem dX12_adds_0 : decode cX12_adds 0 = .ok (.aload_n 0, 1) := by decide +kernel
theorem dX12_adds_1 : decode cX12_adds 1 = .ok (.getfield 7, 3) := by decide +kernel
theorem dX12_adds_4 : decode cX12_adds 4 = .ok (.iconst 5, 1) := by decide +kernel
theorem dX12_adds_5 : decode cX12_adds 5 = .ok (.iaload, 1) := by decide +kernel
theorem dX12_adds_6 : decode cX12_adds 6 = .ok (.istore 4, 2) := by decide +kernel
theorem dX12_adds_8 : decode cX12_adds 8 = .ok (.aload_n 0, 1) := by decide +kernel
theorem dX12_adds_9 : decode cX12_adds 9 = .ok (.iload 4, 2) := by decide +kernel
theorem dX12_adds_11 : decode cX12_adds 11 = .ok (.iconst 0, 1) := by decide +kernel
theorem dX12_adds_12 : decode cX12_adds 12 = .ok (.iload_n 1, 1) := by decide +kernel
theorem dX12_adds_13 : decode cX12_adds 13 = .ok (.invokevirtual 88, 3) := by decide +kernel
theorem dX12_adds_16 : decode cX12_adds 16 = .ok (.aload_n 0, 1) := by decide +kernel
theorem dX12_adds_17 : decode cX12_adds 17 = .ok (.iload 4, 2) := by decide +kernel
theorem dX12_adds_19 : decode cX12_adds 19 = .ok (.iconst 1, 1) := by decide +kernel
theorem dX12_adds_20 : decode cX12_adds 20 = .ok (.iload_n 2, 1) := by decide +kernel
theorem dX12_adds_21 : decode cX12_adds 21 = .ok (.invokevirtual 88, 3) := by decide +kernel
theorem dX12_adds_24 : decode cX12_adds 24 = .ok (.aload_n 0, 1) := by decide +kernel
theorem dX12_adds_25 : decode cX12_adds 25 = .ok (.iload 4, 2) := by decide +kernel
theorem dX12_adds_27 : decode cX12_adds 27 = .ok (.iconst 2, 1) := by decide +kernel
theorem dX12_adds_28 : decode cX12_adds 28 = .ok (.iload_n 3, 1) := by decide +kernel
theorem dX12_adds_29 : decode cX12_adds 29 = .ok (.invokevirtual 88, 3) := by decide +kernel
theorem dX12_adds_32 : decode cX12_adds 32 = .ok (.aload_n 0, 1) := by decide +kernel
theorem dX12_adds_33 : decode cX12_adds 33 = .ok (.iload 4, 2) := by decide +kernel
theorem dX12_adds_35 : decode cX12_adds 35 = .ok (.iconst 3, 1) := by decide +kernel
theorem dX12_adds_36 : decode cX12_adds 36 = .ok (.iconst 0, 1) := by decide +kernel
theorem dX12_adds_37 : decode cX12_adds 37 = .ok (.invokevirtual 88, 3) := by decide +kernel
theorem dX12_adds_40 : decode cX12_adds 40 = .ok (.aload_n 0, 1) := by decide +kernel
theorem dX12_adds_41 : decode cX12_adds 41 = .ok (.iload 4, 2) := by decide +kernel
theorem dX12_adds_43 : decode cX12_adds 43 = .ok (.iconst 4, 1) := by decide +kernel
theorem dX12_adds_44 : decode cX12_adds 44 = .ok (.bipush 99, 2) := by decide +kernel
theorem dX12_adds_46 : decode cX12_adds 46 = .ok (.invokevirtual 88, 3) := by decide +kernel
theorem dX12_adds_49 : decode cX12_adds 49 = .ok (.aload_n 0, 1) := by decide +kernel
theorem dX12_adds_50 : decode cX12_adds 50 = .ok (.iload 4, 2) := by decide +kernel
theorem dX12_adds_52 : decode cX12_adds 52 = .ok (.iconst 5, 1) := by decide +kernel
theorem dX12_adds_53 : decode cX12_adds 53 = .ok (.iconst 0, 1) := by decide +kernel
theorem dX12_adds_54 : decode cX12_adds 54 = .ok (.invokevirtual 88, 3) := by decide +kernel
theorem dX12_adds_57 : decode cX12_adds 57 = .ok (.aload_n 0, 1) := by decide +kernel
theorem dX12_adds_58 : decode cX12_adds 58 = .ok (.iload 4, 2) := by decide +kernel
theorem dX12_adds_60 : decode cX12_adds 60 = .ok (.bipush 6, 2) := by decide +kernel
theorem dX12_adds_62 : decode cX12_adds 62 = .ok (.iconst 0, 1) := by decide +kernel
theorem dX12_adds_63 : decode cX12_adds 63 = .ok (.invokevirtual 88, 3) := by decide +kernel
theorem dX12_adds_66 : decode cX12_adds 66 = .ok (.aload_n 0, 1) := by decide +kernel
theorem dX12_adds_67 : decode cX12_adds 67 = .ok (.getfield 7, 3) := by decide +kernel
theorem dX12_adds_70 : decode cX12_adds 70 = .ok (.iconst 5, 1) := by decide +kernel
theorem dX12_adds_71 : decode cX12_adds 71 = .ok (.dup2, 1) := by decide +kernel
theorem dX12_adds_72 : decode cX12_adds 72 = .ok (.iaload, 1) := by decide +kernel
theorem dX12_adds_73 : decode cX12_adds 73 = .ok (.iconst 1, 1) := by decide +kernel
theorem dX12_adds_74 : decode cX12_adds 74 = .ok (.iadd, 1) := by decide +kernel
theorem dX12_adds_75 : decode cX12_adds 75 = .ok (.iastore, 1) := by decide +kernel
theorem dX12_adds_76 : decode cX12_adds 76 = .ok (.return_, 1) := by decide +kernel
theorem dX12_ship_0 : decode cX12_ship 0 = .ok (.iload_n 1, 1) := by decide +kernel
theorem dX12_ship_1 : decode cX12_ship 1 = .ok (.invokestatic 92, 3) := by decide +kernel
theorem dX12_ship_4 : decode cX12_ship 4 = .ok (.ifCond .eq 10, 3) := by decide +kernel
theorem dX12_ship_7 : decode cX12_ship 7 = .ok (.iload_n 2, 1) := by decide +kernel
theorem dX12_ship_8 : decode cX12_ship 8 = .ok (.invokestatic 49, 3) := by decide +kernel
theorem dX12_ship_11 : decode cX12_ship 11 = .ok (.ifCond .ne 10, 3) := by decide +kernel
theorem dX12_ship_14 : decode cX12_ship 14 = .ok (.aload_n 0, 1) := by decide +kernel
theorem dX12_ship_15 : decode cX12_ship 15 = .ok (.ldc 44, 2) := by decide +kernel
theorem dX12_ship_17 : decode cX12_ship 17 = .ok (.invokevirtual 53, 3) := by decide +kernel
theorem dX12_ship_20 : decode cX12_ship 20 = .ok (.ireturn, 1) := by decide +kernel
theorem dX12_ship_21 : decode cX12_ship 21 = .ok (.aload_n 0, 1) := by decide +kernel
theorem dX12_ship_22 : decode cX12_ship 22 = .ok (.getfield 7, 3) := by decide +kernel
theorem dX12_ship_25 : decode cX12_ship 25 = .ok (.iconst 5, 1) := by decide +kernel
theorem dX12_ship_26 : decode cX12_ship 26 = .ok (.iaload, 1) := by decide +kernel
theorem dX12_ship_27 : decode cX12_ship 27 = .ok (.bipush 6, 2) := by decide +kernel
theorem dX12_ship_29 : decode cX12_ship 29 = .ok (.if_icmp .ne 10, 3) := by decide +kernel
theorem dX12_ship_32 : decode cX12_ship 32 = .ok (.aload_n 0, 1) := by decide +kernel
theorem dX12_ship_33 : decode cX12_ship 33 = .ok (.ldc 95, 2) := by decide +kernel
theorem dX12_ship_35 : decode cX12_ship 35 = .ok (.invokevirtual 53, 3) := by decide +kernel
theorem dX12_ship_38 : decode cX12_ship 38 = .ok (.ireturn, 1) := by decide +kernel
theorem dX12_ship_39 : decode cX12_ship 39 = .ok (.aload_n 0, 1) := by decide +kernel
theorem dX12_ship_40 : decode cX12_ship 40 = .ok (.iload_n 1, 1) := by decide +kernel
theorem dX12_ship_41 : decode cX12_ship 41 = .ok (.iconst 0, 1) := by decide +kernel
theorem dX12_ship_42 : decode cX12_ship 42 = .ok (.iload_n 2, 1) := by decide +kernel
theorem dX12_ship_43 : decode cX12_ship 43 = .ok (.invokevirtual 96, 3) := by decide +kernel
theorem dX12_ship_46 : decode cX12_ship 46 = .ok (.aload_n 0, 1) := by decide +kernel
theorem dX12_ship_47 : decode cX12_ship 47 = .ok (.getfield 7, 3) := by decide +kernel
theorem dX12_ship_50 : decode cX12_ship 50 = .ok (.iconst 5, 1) := by decide +kernel
theorem dX12_ship_51 : decode cX12_ship 51 = .ok (.iaload, 1) := by decide +kernel
theorem dX12_ship_52 : decode cX12_ship 52 = .ok (.iconst 1, 1) := by decide +kernel
theorem dX12_ship_53 : decode cX12_ship 53 = .ok (.isub, 1) := by decide +kernel
theorem dX12_ship_54 : decode cX12_ship 54 = .ok (.ireturn, 1) := by decide +kernel
theorem dX12_of_0 : decode cX12_of 0 = .ok (.aload_n 0, 1) := by decide +kernel
theorem dX12_of_1 : decode cX12_of 1 = .ok (.iload_n 1, 1) := by decide +kernel
theorem dX12_of_2 : decode cX12_of 2 = .ok (.invokevirtual 99, 3) := by decide +kernel
theorem dX12_of_5 : decode cX12_of 5 = .ok (.ifCond .eq 13, 3) := by decide +kernel
theorem dX12_of_8 : decode cX12_of 8 = .ok (.iload_n 2, 1) := by decide +kernel
theorem dX12_of_9 : decode cX12_of 9 = .ok (.iconst 0, 1) := by decide +kernel
theorem dX12_of_10 : decode cX12_of 10 = .ok (.bipush 11, 2) := by decide +kernel
theorem dX12_of_12 : decode cX12_of 12 = .ok (.invokestatic 45, 3) := by decide +kernel
theorem dX12_of_15 : decode cX12_of 15 = .ok (.ifCond .ne 10, 3) := by decide +kernel
theorem dX12_of_18 : decode cX12_of 18 = .ok (.aload_n 0, 1) := by decide +kernel
theorem dX12_of_19 : decode cX12_of 19 = .ok (.ldc 44, 2) := by decide +kernel
theorem dX12_of_21 : decode cX12_of 21 = .ok (.invokevirtual 53, 3) := by decide +kernel
theorem dX12_of_24 : decode cX12_of 24 = .ok (.ireturn, 1) := by decide +kernel
theorem dX12_of_25 : decode cX12_of 25 = .ok (.iload_n 2, 1) := by decide +kernel
theorem dX12_of_26 : decode cX12_of 26 = .ok (.tableswitch 83 7 11 #[34, 40, 54, 60, 69], 34) := by decide +kernel
theorem dX12_of_60 : decode cX12_of 60 = .ok (.aload_n 0, 1) := by decide +kernel
theorem dX12_of_61 : decode cX12_of 61 = .ok (.iload_n 1, 1) := by decide +kernel
theorem dX12_of_62 : decode cX12_of 62 = .ok (.invokevirtual 85, 3) := by decide +kernel
theorem dX12_of_65 : decode cX12_of 65 = .ok (.ireturn, 1) := by decide +kernel
theorem dX12_of_66 : decode cX12_of 66 = .ok (.aload_n 0, 1) := by decide +kernel
theorem dX12_of_67 : decode cX12_of 67 = .ok (.iload_n 1, 1) := by decide +kernel
theorem dX12_of_68 : decode cX12_of 68 = .ok (.invokevirtual 102, 3) := by decide +kernel
theorem dX12_of_71 : decode cX12_of 71 = .ok (.ifCond .eq 7, 3) := by decide +kernel
theorem dX12_of_74 : decode cX12_of 74 = .ok (.iconst 1, 1) := by decide +kernel
theorem dX12_of_75 : decode cX12_of 75 = .ok (.goto 4, 3) := by decide +kernel
theorem dX12_of_78 : decode cX12_of 78 = .ok (.iconst 0, 1) := by decide +kernel
theorem dX12_of_79 : decode cX12_of 79 = .ok (.ireturn, 1) := by decide +kernel
theorem dX12_of_80 : decode cX12_of 80 = .ok (.aload_n 0, 1) := by decide +kernel
theorem dX12_of_81 : decode cX12_of 81 = .ok (.iload_n 1, 1) := by decide +kernel
theorem dX12_of_82 : decode cX12_of 82 = .ok (.invokevirtual 105, 3) := by decide +kernel
theorem dX12_of_85 : decode cX12_of 85 = .ok (.ireturn, 1) := by decide +kernel
theorem dX12_of_86 : decode cX12_of 86 = .ok (.bipush 100, 2) := by decide +kernel
theorem dX12_of_88 : decode cX12_of 88 = .ok (.aload_n 0, 1) := by decide +kernel
theorem dX12_of_89 : decode cX12_of 89 = .ok (.iload_n 1, 1) := by decide +kernel
theorem dX12_of_90 : decode cX12_of 90 = .ok (.invokevirtual 108, 3) := by decide +kernel
theorem dX12_of_93 : decode cX12_of 93 = .ok (.iadd, 1) := by decide +kernel
theorem dX12_of_94 : decode cX12_of 94 = .ok (.ireturn, 1) := by decide +kernel
theorem dX12_of_95 : decode cX12_of 95 = .ok (.aload_n 0, 1) := by decide +kernel
theorem dX12_of_96 : decode cX12_of 96 = .ok (.iload_n 1, 1) := by decide +kernel
theorem dX12_of_97 : decode cX12_of 97 = .ok (.invokevirtual 111, 3) := by decide +kernel
theorem dX12_of_100 : decode cX12_of 100 = .ok (.ifCond .eq 7, 3) := by decide +kernel
theorem dX12_of_103 : decode cX12_of 103 = .ok (.iconst 1, 1) := by decide +kernel
theorem dX12_of_104 : decode cX12_of 104 = .ok (.goto 4, 3) := by decide +kernel
theorem dX12_of_107 : decode cX12_of 107 = .ok (.iconst 0, 1) := by decide +kernel
theorem dX12_of_108 : decode cX12_of 108 = .ok (.ireturn, 1) := by decide +kernel
theorem dX12_of_109 : decode cX12_of 109 = .ok (.aload_n 0, 1) := by decide +kernel
theorem dX12_of_110 : decode cX12_of 110 = .ok (.iload_n 1, 1) := by decide +kernel
theorem dX12_of_111 : decode cX12_of 111 = .ok (.iload_n 2, 1) := by decide +kernel
theorem dX12_of_112 : decode cX12_of 112 = .ok (.invokevirtual 69, 3) := by decide +kernel
theorem dX12_of_115 : decode cX12_of 115 = .ok (.ireturn, 1) := by decide +kernel
theorem dX12_isPart_0 : decode cX12_isPart 0 = .ok (.iload_n 0, 1) := by decide +kernel
theorem dX12_isPart_1 : decode cX12_isPart 1 = .ok (.tableswitch 49 1 3 #[27, 35, 40], 27) := by decide +kernel
theorem dX12_isPart_28 : decode cX12_isPart 28 = .ok (.iload_n 1, 1) := by decide +kernel
theorem dX12_isPart_29 : decode cX12_isPart 29 = .ok (.iconst 0, 1) := by decide +kernel
theorem dX12_isPart_30 : decode cX12_isPart 30 = .ok (.bipush 19, 2) := by decide +kernel
theorem dX12_isPart_32 : decode cX12_isPart 32 = .ok (.invokestatic 45, 3) := by decide +kernel
theorem dX12_isPart_35 : decode cX12_isPart 35 = .ok (.ireturn, 1) := by decide +kernel
theorem dX12_isPart_36 : decode cX12_isPart 36 = .ok (.iload_n 1, 1) := by decide +kernel
theorem dX12_isPart_37 : decode cX12_isPart 37 = .ok (.invokestatic 49, 3) := by decide +kernel
theorem dX12_isPart_40 : decode cX12_isPart 40 = .ok (.ireturn, 1) := by decide +kernel
theorem dX12_isPart_41 : decode cX12_isPart 41 = .ok (.iload_n 1, 1) := by decide +kernel
theorem dX12_isPart_42 : decode cX12_isPart 42 = .ok (.iconst 0, 1) := by decide +kernel
theorem dX12_isPart_43 : decode cX12_isPart 43 = .ok (.sipush 9999, 3) := by decide +kernel
theorem dX12_isPart_46 : decode cX12_isPart 46 = .ok (.invokestatic 45, 3) := by decide +kernel
theorem dX12_isPart_49 : decode cX12_isPart 49 = .ok (.ireturn, 1) := by decide +kernel
theorem dX12_isPart_50 : decode cX12_isPart 50 = .ok (.iload_n 0, 1) := by decide +kernel
theorem dX12_isPart_51 : decode cX12_isPart 51 = .ok (.iconst 4, 1) := by decide +kernel
theorem dX12_isPart_52 : decode cX12_isPart 52 = .ok (.if_icmp .ne 17, 3) := by decide +kernel
theorem dX12_isPart_55 : decode cX12_isPart 55 = .ok (.iload_n 1, 1) := by decide +kernel
theorem dX12_isPart_56 : decode cX12_isPart 56 = .ok (.iconst 0, 1) := by decide +kernel
theorem dX12_isPart_57 : decode cX12_isPart 57 = .ok (.bipush 99, 2) := by decide +kernel
theorem dX12_isPart_59 : decode cX12_isPart 59 = .ok (.invokestatic 45, 3) := by decide +kernel
theorem dX12_isPart_62 : decode cX12_isPart 62 = .ok (.ifCond .eq 7, 3) := by decide +kernel
theorem dX12_isPart_65 : decode cX12_isPart 65 = .ok (.iconst 1, 1) := by decide +kernel
theorem dX12_isPart_66 : decode cX12_isPart 66 = .ok (.goto 4, 3) := by decide +kernel
theorem dX12_isPart_69 : decode cX12_isPart 69 = .ok (.iconst 0, 1) := by decide +kernel
theorem dX12_isPart_70 : decode cX12_isPart 70 = .ok (.ireturn, 1) := by decide +kernel
theorem dX12_set_0 : decode cX12_set 0 = .ok (.aload_n 0, 1) := by decide +kernel
theorem dX12_set_1 : decode cX12_set 1 = .ok (.iload_n 1, 1) := by decide +kernel
theorem dX12_set_2 : decode cX12_set 2 = .ok (.invokevirtual 99, 3) := by decide +kernel
theorem dX12_set_5 : decode cX12_set 5 = .ok (.ifCond .eq 11, 3) := by decide +kernel
theorem dX12_set_8 : decode cX12_set 8 = .ok (.iload_n 2, 1) := by decide +kernel
theorem dX12_set_9 : decode cX12_set 9 = .ok (.iload_n 3, 1) := by decide +kernel
theorem dX12_set_10 : decode cX12_set 10 = .ok (.invokestatic 114, 3) := by decide +kernel
theorem dX12_set_13 : decode cX12_set 13 = .ok (.ifCond .ne 10, 3) := by decide +kernel
theorem dX12_set_16 : decode cX12_set 16 = .ok (.aload_n 0, 1) := by decide +kernel
theorem dX12_set_17 : decode cX12_set 17 = .ok (.ldc 44, 2) := by decide +kernel
theorem dX12_set_19 : decode cX12_set 19 = .ok (.invokevirtual 53, 3) := by decide +kernel
theorem dX12_set_22 : decode cX12_set 22 = .ok (.ireturn, 1) := by decide +kernel
theorem dX12_set_23 : decode cX12_set 23 = .ok (.iload_n 2, 1) := by decide +kernel
theorem dX12_set_24 : decode cX12_set 24 = .ok (.iconst 1, 1) := by decide +kernel
theorem dX12_set_25 : decode cX12_set 25 = .ok (.if_icmp .ne 18, 3) := by decide +kernel
theorem dX12_set_28 : decode cX12_set 28 = .ok (.aload_n 0, 1) := by decide +kernel
theorem dX12_set_29 : decode cX12_set 29 = .ok (.iload_n 1, 1) := by decide +kernel
theorem dX12_set_30 : decode cX12_set 30 = .ok (.iconst 5, 1) := by decide +kernel
theorem dX12_set_31 : decode cX12_set 31 = .ok (.iconst 0, 1) := by decide +kernel
theorem dX12_set_32 : decode cX12_set 32 = .ok (.invokevirtual 88, 3) := by decide +kernel
theorem dX12_set_35 : decode cX12_set 35 = .ok (.aload_n 0, 1) := by decide +kernel
theorem dX12_set_36 : decode cX12_set 36 = .ok (.iload_n 1, 1) := by decide +kernel
theorem dX12_set_37 : decode cX12_set 37 = .ok (.bipush 6, 2) := by decide +kernel
theorem dX12_set_39 : decode cX12_set 39 = .ok (.iconst 0, 1) := by decide +kernel
theorem dX12_set_40 : decode cX12_set 40 = .ok (.invokevirtual 88, 3) := by decide +kernel
theorem dX12_set_43 : decode cX12_set 43 = .ok (.aload_n 0, 1) := by decide +kernel
theorem dX12_set_44 : decode cX12_set 44 = .ok (.bipush 6, 2) := by decide +kernel
theorem dX12_set_46 : decode cX12_set 46 = .ok (.bipush 7, 2) := by decide +kernel
theorem dX12_set_48 : decode cX12_set 48 = .ok (.iload_n 1, 1) := by decide +kernel
theorem dX12_set_49 : decode cX12_set 49 = .ok (.imul, 1) := by decide +kernel
theorem dX12_set_50 : decode cX12_set 50 = .ok (.iadd, 1) := by decide +kernel
theorem dX12_set_51 : decode cX12_set 51 = .ok (.iload_n 2, 1) := by decide +kernel
theorem dX12_set_52 : decode cX12_set 52 = .ok (.iadd, 1) := by decide +kernel
theorem dX12_set_53 : decode cX12_set 53 = .ok (.iload_n 3, 1) := by decide +kernel
theorem dX12_set_54 : decode cX12_set 54 = .ok (.invokevirtual 65, 3) := by decide +kernel
theorem dX12_set_57 : decode cX12_set 57 = .ok (.ireturn, 1) := by decide +kernel
theorem dX12_turn_0 : decode cX12_turn 0 = .ok (.aload_n 0, 1) := by decide +kernel
theorem dX12_turn_1 : decode cX12_turn 1 = .ok (.iload_n 1, 1) := by decide +kernel
theorem dX12_turn_2 : decode cX12_turn 2 = .ok (.invokevirtual 99, 3) := by decide +kernel
theorem dX12_turn_5 : decode cX12_turn 5 = .ok (.ifCond .eq 25, 3) := by decide +kernel
theorem dX12_turn_8 : decode cX12_turn 8 = .ok (.iload_n 2, 1) := by decide +kernel
theorem dX12_turn_9 : decode cX12_turn 9 = .ok (.invokestatic 92, 3) := by decide +kernel
theorem dX12_turn_12 : decode cX12_turn 12 = .ok (.ifCond .eq 18, 3) := by decide +kernel
theorem dX12_turn_15 : decode cX12_turn 15 = .ok (.aload_n 0, 1) := by decide +kernel
theorem dX12_turn_16 : decode cX12_turn 16 = .ok (.bipush 6, 2) := by decide +kernel
theorem dX12_turn_18 : decode cX12_turn 18 = .ok (.bipush 7, 2) := by decide +kernel
theorem dX12_turn_20 : decode cX12_turn 20 = .ok (.iload_n 1, 1) := by decide +kernel
theorem dX12_turn_21 : decode cX12_turn 21 = .ok (.imul, 1) := by decide +kernel
theorem dX12_turn_22 : decode cX12_turn 22 = .ok (.iadd, 1) := by decide +kernel
theorem dX12_turn_23 : decode cX12_turn 23 = .ok (.iload_n 2, 1) := by decide +kernel
theorem dX12_turn_24 : decode cX12_turn 24 = .ok (.invokevirtual 65, 3) := by decide +kernel
theorem dX12_turn_27 : decode cX12_turn 27 = .ok (.goto 9, 3) := by decide +kernel
theorem dX12_turn_30 : decode cX12_turn 30 = .ok (.aload_n 0, 1) := by decide +kernel
theorem dX12_turn_31 : decode cX12_turn 31 = .ok (.ldc 44, 2) := by decide +kernel
theorem dX12_turn_33 : decode cX12_turn 33 = .ok (.invokevirtual 53, 3) := by decide +kernel
theorem dX12_turn_36 : decode cX12_turn 36 = .ok (.ireturn, 1) := by decide +kernel
theorem dX12_as_0 : decode cX12_as 0 = .ok (.aload_n 0, 1) := by decide +kernel
theorem dX12_as_1 : decode cX12_as 1 = .ok (.iload_n 1, 1) := by decide +kernel
theorem dX12_as_2 : decode cX12_as 2 = .ok (.invokevirtual 99, 3) := by decide +kernel
theorem dX12_as_5 : decode cX12_as 5 = .ok (.ifCond .eq 10, 3) := by decide +kernel
theorem dX12_as_8 : decode cX12_as 8 = .ok (.iload_n 2, 1) := by decide +kernel
theorem dX12_as_9 : decode cX12_as 9 = .ok (.invokestatic 92, 3) := by decide +kernel
theorem dX12_as_12 : decode cX12_as 12 = .ok (.ifCond .ne 10, 3) := by decide +kernel
theorem dX12_as_15 : decode cX12_as 15 = .ok (.aload_n 0, 1) := by decide +kernel
theorem dX12_as_16 : decode cX12_as 16 = .ok (.ldc 44, 2) := by decide +kernel
theorem dX12_as_18 : decode cX12_as 18 = .ok (.invokevirtual 53, 3) := by decide +kernel
theorem dX12_as_21 : decode cX12_as 21 = .ok (.ireturn, 1) := by decide +kernel
theorem dX12_as_22 : decode cX12_as 22 = .ok (.aload_n 0, 1) := by decide +kernel
theorem dX12_as_23 : decode cX12_as 23 = .ok (.iload_n 1, 1) := by decide +kernel
theorem dX12_as_24 : decode cX12_as 24 = .ok (.iconst 0, 1) := by decide +kernel
theorem dX12_as_25 : decode cX12_as 25 = .ok (.invokevirtual 69, 3) := by decide +kernel
theorem dX12_as_28 : decode cX12_as 28 = .ok (.istore_n 3, 1) := by decide +kernel
theorem dX12_as_29 : decode cX12_as 29 = .ok (.iload_n 2, 1) := by decide +kernel
theorem dX12_as_30 : decode cX12_as 30 = .ok (.ifCond .eq 28, 3) := by decide +kernel
theorem dX12_as_33 : decode cX12_as 33 = .ok (.iload_n 2, 1) := by decide +kernel
theorem dX12_as_34 : decode cX12_as 34 = .ok (.iload_n 3, 1) := by decide +kernel
theorem dX12_as_35 : decode cX12_as 35 = .ok (.if_icmp .eq 23, 3) := by decide +kernel
theorem dX12_as_38 : decode cX12_as 38 = .ok (.iload_n 2, 1) := by decide +kernel
theorem dX12_as_39 : decode cX12_as 39 = .ok (.iconst 1, 1) := by decide +kernel
theorem dX12_as_40 : decode cX12_as 40 = .ok (.if_icmp .ne 8, 3) := by decide +kernel
theorem dX12_as_43 : decode cX12_as 43 = .ok (.iload_n 3, 1) := by decide +kernel
theorem dX12_as_44 : decode cX12_as 44 = .ok (.iconst 4, 1) := by decide +kernel
theorem dX12_as_45 : decode cX12_as 45 = .ok (.if_icmp .eq 13, 3) := by decide +kernel
theorem dX12_as_48 : decode cX12_as 48 = .ok (.iload_n 2, 1) := by decide +kernel
theorem dX12_as_49 : decode cX12_as 49 = .ok (.iconst 2, 1) := by decide +kernel
theorem dX12_as_50 : decode cX12_as 50 = .ok (.if_icmp .ne 12, 3) := by decide +kernel
theorem dX12_as_53 : decode cX12_as 53 = .ok (.iload_n 3, 1) := by decide +kernel
theorem dX12_as_54 : decode cX12_as 54 = .ok (.iconst 5, 1) := by decide +kernel
theorem dX12_as_55 : decode cX12_as 55 = .ok (.if_icmp .ne 7, 3) := by decide +kernel
theorem dX12_as_58 : decode cX12_as 58 = .ok (.iconst 1, 1) := by decide +kernel
theorem dX12_as_59 : decode cX12_as 59 = .ok (.goto 4, 3) := by decide +kernel
theorem dX12_as_62 : decode cX12_as 62 = .ok (.iconst 0, 1) := by decide +kernel
theorem dX12_as_63 : decode cX12_as 63 = .ok (.istore 4, 2) := by decide +kernel
theorem dX12_as_65 : decode cX12_as 65 = .ok (.iload 4, 2) := by decide +kernel
theorem dX12_as_67 : decode cX12_as 67 = .ok (.ifCond .eq 12, 3) := by decide +kernel
theorem dX12_as_70 : decode cX12_as 70 = .ok (.aload_n 0, 1) := by decide +kernel
theorem dX12_as_71 : decode cX12_as 71 = .ok (.iload_n 1, 1) := by decide +kernel
theorem dX12_as_72 : decode cX12_as 72 = .ok (.iconst 3, 1) := by decide +kernel
theorem dX12_as_73 : decode cX12_as 73 = .ok (.invokevirtual 69, 3) := by decide +kernel
theorem dX12_as_76 : decode cX12_as 76 = .ok (.goto 9, 3) := by decide +kernel
theorem dX12_as_79 : decode cX12_as 79 = .ok (.aload_n 0, 1) := by decide +kernel
theorem dX12_as_80 : decode cX12_as 80 = .ok (.ldc 118, 2) := by decide +kernel
theorem dX12_as_82 : decode cX12_as 82 = .ok (.invokevirtual 53, 3) := by decide +kernel
theorem dX12_as_85 : decode cX12_as 85 = .ok (.ireturn, 1) := by decide +kernel
theorem dX12_costs_0 : decode cX12_costs 0 = .ok (.aload_n 0, 1) := by decide +kernel
theorem dX12_costs_1 : decode cX12_costs 1 = .ok (.iload_n 1, 1) := by decide +kernel
theorem dX12_costs_2 : decode cX12_costs 2 = .ok (.iconst 3, 1) := by decide +kernel
theorem dX12_costs_3 : decode cX12_costs 3 = .ok (.aload_n 0, 1) := by decide +kernel
theorem dX12_costs_4 : decode cX12_costs 4 = .ok (.iload_n 1, 1) := by decide +kernel
theorem dX12_costs_5 : decode cX12_costs 5 = .ok (.iconst 3, 1) := by decide +kernel
theorem dX12_costs_6 : decode cX12_costs 6 = .ok (.invokevirtual 69, 3) := by decide +kernel
theorem dX12_costs_9 : decode cX12_costs 9 = .ok (.iconst 1, 1) := by decide +kernel
theorem dX12_costs_10 : decode cX12_costs 10 = .ok (.iadd, 1) := by decide +kernel
theorem dX12_costs_11 : decode cX12_costs 11 = .ok (.iconst 0, 1) := by decide +kernel
theorem dX12_costs_12 : decode cX12_costs 12 = .ok (.sipush 9999, 3) := by decide +kernel
theorem dX12_costs_15 : decode cX12_costs 15 = .ok (.invokestatic 119, 3) := by decide +kernel
theorem dX12_costs_18 : decode cX12_costs 18 = .ok (.invokevirtual 88, 3) := by decide +kernel
theorem dX12_costs_21 : decode cX12_costs 21 = .ok (.return_, 1) := by decide +kernel
theorem dX12_turnsOff_0 : decode cX12_turnsOff 0 = .ok (.aload_n 0, 1) := by decide +kernel
theorem dX12_turnsOff_1 : decode cX12_turnsOff 1 = .ok (.iload_n 1, 1) := by decide +kernel
theorem dX12_turnsOff_2 : decode cX12_turnsOff 2 = .ok (.invokevirtual 108, 3) := by decide +kernel
theorem dX12_turnsOff_5 : decode cX12_turnsOff 5 = .ok (.istore_n 2, 1) := by decide +kernel
theorem dX12_turnsOff_6 : decode cX12_turnsOff 6 = .ok (.aload_n 0, 1) := by decide +kernel
theorem dX12_turnsOff_7 : decode cX12_turnsOff 7 = .ok (.iload_n 1, 1) := by decide +kernel
theorem dX12_turnsOff_8 : decode cX12_turnsOff 8 = .ok (.iconst 2, 1) := by decide +kernel
theorem dX12_turnsOff_9 : decode cX12_turnsOff 9 = .ok (.invokevirtual 69, 3) := by decide +kernel
theorem dX12_turnsOff_12 : decode cX12_turnsOff 12 = .ok (.istore_n 3, 1) := by decide +kernel
theorem dX12_turnsOff_13 : decode cX12_turnsOff 13 = .ok (.aload_n 0, 1) := by decide +kernel
theorem dX12_turnsOff_14 : decode cX12_turnsOff 14 = .ok (.getfield 7, 3) := by decide +kernel
theorem dX12_turnsOff_17 : decode cX12_turnsOff 17 = .ok (.iconst 2, 1) := by decide +kernel
theorem dX12_turnsOff_18 : decode cX12_turnsOff 18 = .ok (.iaload, 1) := by decide +kernel
theorem dX12_turnsOff_19 : decode cX12_turnsOff 19 = .ok (.istore 4, 2) := by decide +kernel
theorem dX12_turnsOff_21 : decode cX12_turnsOff 21 = .ok (.aload_n 0, 1) := by decide +kernel
theorem dX12_turnsOff_22 : decode cX12_turnsOff 22 = .ok (.iload_n 1, 1) := by decide +kernel
theorem dX12_turnsOff_23 : decode cX12_turnsOff 23 = .ok (.iconst 2, 1) := by decide +kernel
theorem dX12_turnsOff_24 : decode cX12_turnsOff 24 = .ok (.iload_n 3, 1) := by decide +kernel
theorem dX12_turnsOff_25 : decode cX12_turnsOff 25 = .ok (.iload 4, 2) := by decide +kernel
theorem dX12_turnsOff_27 : decode cX12_turnsOff 27 = .ok (.if_icmp .gt 15, 3) := by decide +kernel
theorem dX12_turnsOff_30 : decode cX12_turnsOff 30 = .ok (.iload_n 3, 1) := by decide +kernel
theorem dX12_turnsOff_31 : decode cX12_turnsOff 31 = .ok (.iload_n 2, 1) := by decide +kernel
theorem dX12_turnsOff_32 : decode cX12_turnsOff 32 = .ok (.isub, 1) := by decide +kernel
theorem dX12_turnsOff_33 : decode cX12_turnsOff 33 = .ok (.iconst 0, 1) := by decide +kernel
theorem dX12_turnsOff_34 : decode cX12_turnsOff 34 = .ok (.iload 4, 2) := by decide +kernel
theorem dX12_turnsOff_36 : decode cX12_turnsOff 36 = .ok (.invokestatic 119, 3) := by decide +kernel
theorem dX12_turnsOff_39 : decode cX12_turnsOff 39 = .ok (.goto 13, 3) := by decide +kernel
theorem dX12_turnsOff_42 : decode cX12_turnsOff 42 = .ok (.iload_n 3, 1) := by decide +kernel
theorem dX12_turnsOff_43 : decode cX12_turnsOff 43 = .ok (.iload_n 2, 1) := by decide +kernel
theorem dX12_turnsOff_44 : decode cX12_turnsOff 44 = .ok (.iadd, 1) := by decide +kernel
theorem dX12_turnsOff_45 : decode cX12_turnsOff 45 = .ok (.iload 4, 2) := by decide +kernel
theorem dX12_turnsOff_47 : decode cX12_turnsOff 47 = .ok (.bipush 9, 2) := by decide +kernel
theorem dX12_turnsOff_49 : decode cX12_turnsOff 49 = .ok (.invokestatic 119, 3) := by decide +kernel
theorem dX12_turnsOff_52 : decode cX12_turnsOff 52 = .ok (.invokevirtual 88, 3) := by decide +kernel
theorem dX12_turnsOff_55 : decode cX12_turnsOff 55 = .ok (.aload_n 0, 1) := by decide +kernel
theorem dX12_turnsOff_56 : decode cX12_turnsOff 56 = .ok (.iload_n 1, 1) := by decide +kernel
theorem dX12_turnsOff_57 : decode cX12_turnsOff 57 = .ok (.iconst 2, 1) := by decide +kernel
theorem dX12_turnsOff_58 : decode cX12_turnsOff 58 = .ok (.invokevirtual 69, 3) := by decide +kernel
theorem dX12_turnsOff_61 : decode cX12_turnsOff 61 = .ok (.iload_n 3, 1) := by decide +kernel
theorem dX12_turnsOff_62 : decode cX12_turnsOff 62 = .ok (.if_icmp .eq 8, 3) := by decide +kernel
theorem dX12_turnsOff_65 : decode cX12_turnsOff 65 = .ok (.aload_n 0, 1) := by decide +kernel
theorem dX12_turnsOff_66 : decode cX12_turnsOff 66 = .ok (.iload_n 1, 1) := by decide +kernel
theorem dX12_turnsOff_67 : decode cX12_turnsOff 67 = .ok (.invokevirtual 123, 3) := by decide +kernel
theorem dX12_turnsOff_70 : decode cX12_turnsOff 70 = .ok (.return_, 1) := by decide +kernel
theorem dX12_goesOn_0 : decode cX12_goesOn 0 = .ok (.aload_n 0, 1) := by decide +kernel
theorem dX12_goesOn_1 : decode cX12_goesOn 1 = .ok (.iload_n 1, 1) := by decide +kernel
theorem dX12_goesOn_2 : decode cX12_goesOn 2 = .ok (.invokevirtual 105, 3) := by decide +kernel
theorem dX12_goesOn_5 : decode cX12_goesOn 5 = .ok (.istore_n 2, 1) := by decide +kernel
theorem dX12_goesOn_6 : decode cX12_goesOn 6 = .ok (.iload_n 2, 1) := by decide +kernel
theorem dX12_goesOn_7 : decode cX12_goesOn 7 = .ok (.ifCond .le 109, 3) := by decide +kernel
theorem dX12_goesOn_10 : decode cX12_goesOn 10 = .ok (.aload_n 0, 1) := by decide +kernel
theorem dX12_goesOn_11 : decode cX12_goesOn 11 = .ok (.iload_n 1, 1) := by decide +kernel
theorem dX12_goesOn_12 : decode cX12_goesOn 12 = .ok (.iconst 5, 1) := by decide +kernel
theorem dX12_goesOn_13 : decode cX12_goesOn 13 = .ok (.invokevirtual 69, 3) := by decide +kernel
theorem dX12_goesOn_16 : decode cX12_goesOn 16 = .ok (.aload_n 0, 1) := by decide +kernel
theorem dX12_goesOn_17 : decode cX12_goesOn 17 = .ok (.iload_n 1, 1) := by decide +kernel
theorem dX12_goesOn_18 : decode cX12_goesOn 18 = .ok (.bipush 6, 2) := by decide +kernel
theorem dX12_goesOn_20 : decode cX12_goesOn 20 = .ok (.invokevirtual 69, 3) := by decide +kernel
theorem dX12_goesOn_23 : decode cX12_goesOn 23 = .ok (.iadd, 1) := by decide +kernel
theorem dX12_goesOn_24 : decode cX12_goesOn 24 = .ok (.ifCond .ne 92, 3) := by decide +kernel
theorem dX12_goesOn_27 : decode cX12_goesOn 27 = .ok (.aload_n 0, 1) := by decide +kernel
theorem dX12_goesOn_28 : decode cX12_goesOn 28 = .ok (.iload_n 1, 1) := by decide +kernel
theorem dX12_goesOn_29 : decode cX12_goesOn 29 = .ok (.iconst 1, 1) := by decide +kernel
theorem dX12_goesOn_30 : decode cX12_goesOn 30 = .ok (.aload_n 0, 1) := by decide +kernel
theorem dX12_goesOn_31 : decode cX12_goesOn 31 = .ok (.iload_n 1, 1) := by decide +kernel
theorem dX12_goesOn_32 : decode cX12_goesOn 32 = .ok (.iconst 1, 1) := by decide +kernel
theorem dX12_goesOn_33 : decode cX12_goesOn 33 = .ok (.invokevirtual 69, 3) := by decide +kernel
theorem dX12_goesOn_36 : decode cX12_goesOn 36 = .ok (.iconst 1, 1) := by decide +kernel
theorem dX12_goesOn_37 : decode cX12_goesOn 37 = .ok (.iadd, 1) := by decide +kernel
theorem dX12_goesOn_38 : decode cX12_goesOn 38 = .ok (.invokevirtual 88, 3) := by decide +kernel
theorem dX12_goesOn_41 : decode cX12_goesOn 41 = .ok (.aload_n 0, 1) := by decide +kernel
theorem dX12_goesOn_42 : decode cX12_goesOn 42 = .ok (.iload_n 1, 1) := by decide +kernel
theorem dX12_goesOn_43 : decode cX12_goesOn 43 = .ok (.iconst 1, 1) := by decide +kernel
theorem dX12_goesOn_44 : decode cX12_goesOn 44 = .ok (.invokevirtual 69, 3) := by decide +kernel
theorem dX12_goesOn_47 : decode cX12_goesOn 47 = .ok (.bipush 20, 2) := by decide +kernel
theorem dX12_goesOn_49 : decode cX12_goesOn 49 = .ok (.if_icmp .ne 14, 3) := by decide +kernel
theorem dX12_goesOn_52 : decode cX12_goesOn 52 = .ok (.aload_n 0, 1) := by decide +kernel
theorem dX12_goesOn_53 : decode cX12_goesOn 53 = .ok (.iload_n 1, 1) := by decide +kernel
theorem dX12_goesOn_54 : decode cX12_goesOn 54 = .ok (.bipush 6, 2) := by decide +kernel
theorem dX12_goesOn_56 : decode cX12_goesOn 56 = .ok (.iconst 1, 1) := by decide +kernel
theorem dX12_goesOn_57 : decode cX12_goesOn 57 = .ok (.invokevirtual 88, 3) := by decide +kernel
theorem dX12_goesOn_60 : decode cX12_goesOn 60 = .ok (.goto 50, 3) := by decide +kernel
theorem dX12_goesOn_63 : decode cX12_goesOn 63 = .ok (.aload_n 0, 1) := by decide +kernel
theorem dX12_goesOn_64 : decode cX12_goesOn 64 = .ok (.iload_n 1, 1) := by decide +kernel
theorem dX12_goesOn_65 : decode cX12_goesOn 65 = .ok (.invokevirtual 85, 3) := by decide +kernel
theorem dX12_goesOn_68 : decode cX12_goesOn 68 = .ok (.istore_n 3, 1) := by decide +kernel
theorem dX12_goesOn_69 : decode cX12_goesOn 69 = .ok (.aload_n 0, 1) := by decide +kernel
theorem dX12_goesOn_70 : decode cX12_goesOn 70 = .ok (.iload_n 1, 1) := by decide +kernel
theorem dX12_goesOn_71 : decode cX12_goesOn 71 = .ok (.iconst 4, 1) := by decide +kernel
theorem dX12_goesOn_72 : decode cX12_goesOn 72 = .ok (.iload_n 3, 1) := by decide +kernel
theorem dX12_goesOn_73 : decode cX12_goesOn 73 = .ok (.aload_n 0, 1) := by decide +kernel
theorem dX12_goesOn_74 : decode cX12_goesOn 74 = .ok (.iload_n 1, 1) := by decide +kernel
theorem dX12_goesOn_75 : decode cX12_goesOn 75 = .ok (.iconst 4, 1) := by decide +kernel
theorem dX12_goesOn_76 : decode cX12_goesOn 76 = .ok (.invokevirtual 69, 3) := by decide +kernel
theorem dX12_goesOn_79 : decode cX12_goesOn 79 = .ok (.if_icmp .ge 7, 3) := by decide +kernel
theorem dX12_goesOn_82 : decode cX12_goesOn 82 = .ok (.iload_n 3, 1) := by decide +kernel
theorem dX12_goesOn_83 : decode cX12_goesOn 83 = .ok (.goto 9, 3) := by decide +kernel
theorem dX12_goesOn_86 : decode cX12_goesOn 86 = .ok (.aload_n 0, 1) := by decide +kernel
theorem dX12_goesOn_87 : decode cX12_goesOn 87 = .ok (.iload_n 1, 1) := by decide +kernel
theorem dX12_goesOn_88 : decode cX12_goesOn 88 = .ok (.iconst 4, 1) := by decide +kernel
theorem dX12_goesOn_89 : decode cX12_goesOn 89 = .ok (.invokevirtual 69, 3) := by decide +kernel
theorem dX12_goesOn_92 : decode cX12_goesOn 92 = .ok (.invokevirtual 88, 3) := by decide +kernel
theorem dX12_goesOn_95 : decode cX12_goesOn 95 = .ok (.aload_n 0, 1) := by decide +kernel
theorem dX12_goesOn_96 : decode cX12_goesOn 96 = .ok (.iload_n 1, 1) := by decide +kernel
theorem dX12_goesOn_97 : decode cX12_goesOn 97 = .ok (.iconst 5, 1) := by decide +kernel
theorem dX12_goesOn_98 : decode cX12_goesOn 98 = .ok (.iload_n 3, 1) := by decide +kernel
theorem dX12_goesOn_99 : decode cX12_goesOn 99 = .ok (.ifCond .ne 7, 3) := by decide +kernel
theorem dX12_goesOn_102 : decode cX12_goesOn 102 = .ok (.iconst 1, 1) := by decide +kernel
theorem dX12_goesOn_103 : decode cX12_goesOn 103 = .ok (.goto 4, 3) := by decide +kernel
theorem dX12_goesOn_106 : decode cX12_goesOn 106 = .ok (.iconst 0, 1) := by decide +kernel
theorem dX12_goesOn_107 : decode cX12_goesOn 107 = .ok (.invokevirtual 88, 3) := by decide +kernel
theorem dX12_goesOn_110 : decode cX12_goesOn 110 = .ok (.iinc 2 (-1), 3) := by decide +kernel
theorem dX12_goesOn_113 : decode cX12_goesOn 113 = .ok (.goto (-107), 3) := by decide +kernel
theorem dX12_goesOn_116 : decode cX12_goesOn 116 = .ok (.return_, 1) := by decide +kernel
theorem dX12_sails_0 : decode cX12_sails 0 = .ok (.aload_n 0, 1) := by decide +kernel
theorem dX12_sails_1 : decode cX12_sails 1 = .ok (.iload_n 1, 1) := by decide +kernel
theorem dX12_sails_2 : decode cX12_sails 2 = .ok (.invokevirtual 102, 3) := by decide +kernel
theorem dX12_sails_5 : decode cX12_sails 5 = .ok (.ifCond .eq 22, 3) := by decide +kernel
theorem dX12_sails_8 : decode cX12_sails 8 = .ok (.aload_n 0, 1) := by decide +kernel
theorem dX12_sails_9 : decode cX12_sails 9 = .ok (.getfield 7, 3) := by decide +kernel
theorem dX12_sails_12 : decode cX12_sails 12 = .ok (.iconst 1, 1) := by decide +kernel
theorem dX12_sails_13 : decode cX12_sails 13 = .ok (.iaload, 1) := by decide +kernel
theorem dX12_sails_14 : decode cX12_sails 14 = .ok (.aload_n 0, 1) := by decide +kernel
theorem dX12_sails_15 : decode cX12_sails 15 = .ok (.iload_n 1, 1) := by decide +kernel
theorem dX12_sails_16 : decode cX12_sails 16 = .ok (.iconst 1, 1) := by decide +kernel
theorem dX12_sails_17 : decode cX12_sails 17 = .ok (.invokevirtual 69, 3) := by decide +kernel
theorem dX12_sails_20 : decode cX12_sails 20 = .ok (.if_icmp .lt 7, 3) := by decide +kernel
theorem dX12_sails_23 : decode cX12_sails 23 = .ok (.iconst 1, 1) := by decide +kernel
theorem dX12_sails_24 : decode cX12_sails 24 = .ok (.goto 4, 3) := by decide +kernel
theorem dX12_sails_27 : decode cX12_sails 27 = .ok (.iconst 0, 1) := by decide +kernel
theorem dX12_sails_28 : decode cX12_sails 28 = .ok (.istore_n 2, 1) := by decide +kernel
theorem dX12_sails_29 : decode cX12_sails 29 = .ok (.iload_n 2, 1) := by decide +kernel
theorem dX12_sails_30 : decode cX12_sails 30 = .ok (.ifCond .eq 17, 3) := by decide +kernel
theorem dX12_sails_33 : decode cX12_sails 33 = .ok (.aload_n 0, 1) := by decide +kernel
theorem dX12_sails_34 : decode cX12_sails 34 = .ok (.iload_n 1, 1) := by decide +kernel
theorem dX12_sails_35 : decode cX12_sails 35 = .ok (.invokevirtual 111, 3) := by decide +kernel
theorem dX12_sails_38 : decode cX12_sails 38 = .ok (.ifCond .eq 9, 3) := by decide +kernel
theorem dX12_sails_41 : decode cX12_sails 41 = .ok (.aload_n 0, 1) := by decide +kernel
theorem dX12_sails_42 : decode cX12_sails 42 = .ok (.iload_n 1, 1) := by decide +kernel
theorem dX12_sails_43 : decode cX12_sails 43 = .ok (.invokevirtual 123, 3) := by decide +kernel
theorem dX12_sails_46 : decode cX12_sails 46 = .ok (.return_, 1) := by decide +kernel
theorem dX12_sails_47 : decode cX12_sails 47 = .ok (.iload_n 2, 1) := by decide +kernel
theorem dX12_sails_48 : decode cX12_sails 48 = .ok (.ifCond .eq 8, 3) := by decide +kernel
theorem dX12_sails_51 : decode cX12_sails 51 = .ok (.aload_n 0, 1) := by decide +kernel
theorem dX12_sails_52 : decode cX12_sails 52 = .ok (.iload_n 1, 1) := by decide +kernel
theorem dX12_sails_53 : decode cX12_sails 53 = .ok (.invokevirtual 126, 3) := by decide +kernel
theorem dX12_sails_56 : decode cX12_sails 56 = .ok (.aload_n 0, 1) := by decide +kernel
theorem dX12_sails_57 : decode cX12_sails 57 = .ok (.iload_n 1, 1) := by decide +kernel
theorem dX12_sails_58 : decode cX12_sails 58 = .ok (.invokevirtual 129, 3) := by decide +kernel
theorem dX12_sails_61 : decode cX12_sails 61 = .ok (.return_, 1) := by decide +kernel
theorem dX12_oneHour_0 : decode cX12_oneHour 0 = .ok (.iconst 0, 1) := by decide +kernel
theorem dX12_oneHour_1 : decode cX12_oneHour 1 = .ok (.istore_n 1, 1) := by decide +kernel
theorem dX12_oneHour_2 : decode cX12_oneHour 2 = .ok (.iload_n 1, 1) := by decide +kernel
theorem dX12_oneHour_3 : decode cX12_oneHour 3 = .ok (.aload_n 0, 1) := by decide +kernel
theorem dX12_oneHour_4 : decode cX12_oneHour 4 = .ok (.getfield 7, 3) := by decide +kernel
theorem dX12_oneHour_7 : decode cX12_oneHour 7 = .ok (.iconst 5, 1) := by decide +kernel
theorem dX12_oneHour_8 : decode cX12_oneHour 8 = .ok (.iaload, 1) := by decide +kernel
theorem dX12_oneHour_9 : decode cX12_oneHour 9 = .ok (.if_icmp .ge 31, 3) := by decide +kernel
theorem dX12_oneHour_12 : decode cX12_oneHour 12 = .ok (.aload_n 0, 1) := by decide +kernel
theorem dX12_oneHour_13 : decode cX12_oneHour 13 = .ok (.iload_n 1, 1) := by decide +kernel
theorem dX12_oneHour_14 : decode cX12_oneHour 14 = .ok (.iconst 5, 1) := by decide +kernel
theorem dX12_oneHour_15 : decode cX12_oneHour 15 = .ok (.invokevirtual 69, 3) := by decide +kernel
theorem dX12_oneHour_18 : decode cX12_oneHour 18 = .ok (.aload_n 0, 1) := by decide +kernel
theorem dX12_oneHour_19 : decode cX12_oneHour 19 = .ok (.iload_n 1, 1) := by decide +kernel
theorem dX12_oneHour_20 : decode cX12_oneHour 20 = .ok (.bipush 6, 2) := by decide +kernel
theorem dX12_oneHour_22 : decode cX12_oneHour 22 = .ok (.invokevirtual 69, 3) := by decide +kernel
theorem dX12_oneHour_25 : decode cX12_oneHour 25 = .ok (.iadd, 1) := by decide +kernel
theorem dX12_oneHour_26 : decode cX12_oneHour 26 = .ok (.ifCond .ne 8, 3) := by decide +kernel
theorem dX12_oneHour_29 : decode cX12_oneHour 29 = .ok (.aload_n 0, 1) := by decide +kernel
theorem dX12_oneHour_30 : decode cX12_oneHour 30 = .ok (.iload_n 1, 1) := by decide +kernel
theorem dX12_oneHour_31 : decode cX12_oneHour 31 = .ok (.invokevirtual 132, 3) := by decide +kernel
theorem dX12_oneHour_34 : decode cX12_oneHour 34 = .ok (.iinc 1 1, 3) := by decide +kernel
theorem dX12_oneHour_37 : decode cX12_oneHour 37 = .ok (.goto (-35), 3) := by decide +kernel
theorem dX12_oneHour_40 : decode cX12_oneHour 40 = .ok (.aload_n 0, 1) := by decide +kernel
theorem dX12_oneHour_41 : decode cX12_oneHour 41 = .ok (.getfield 7, 3) := by decide +kernel
theorem dX12_oneHour_44 : decode cX12_oneHour 44 = .ok (.iconst 0, 1) := by decide +kernel
theorem dX12_oneHour_45 : decode cX12_oneHour 45 = .ok (.dup2, 1) := by decide +kernel
theorem dX12_oneHour_46 : decode cX12_oneHour 46 = .ok (.iaload, 1) := by decide +kernel
theorem dX12_oneHour_47 : decode cX12_oneHour 47 = .ok (.iconst 1, 1) := by decide +kernel
theorem dX12_oneHour_48 : decode cX12_oneHour 48 = .ok (.iadd, 1) := by decide +kernel
theorem dX12_oneHour_49 : decode cX12_oneHour 49 = .ok (.iastore, 1) := by decide +kernel
theorem dX12_oneHour_50 : decode cX12_oneHour 50 = .ok (.return_, 1) := by decide +kernel
theorem dX12_passes_0 : decode cX12_passes 0 = .ok (.iconst 0, 1) := by decide +kernel
theorem dX12_passes_1 : decode cX12_passes 1 = .ok (.istore_n 2, 1) := by decide +kernel
theorem dX12_passes_2 : decode cX12_passes 2 = .ok (.iload_n 2, 1) := by decide +kernel
theorem dX12_passes_3 : decode cX12_passes 3 = .ok (.iload_n 1, 1) := by decide +kernel
theorem dX12_passes_4 : decode cX12_passes 4 = .ok (.if_icmp .ge 13, 3) := by decide +kernel
theorem dX12_passes_7 : decode cX12_passes 7 = .ok (.aload_n 0, 1) := by decide +kernel
theorem dX12_passes_8 : decode cX12_passes 8 = .ok (.invokevirtual 135, 3) := by decide +kernel
theorem dX12_passes_11 : decode cX12_passes 11 = .ok (.iinc 2 1, 3) := by decide +kernel
theorem dX12_passes_14 : decode cX12_passes 14 = .ok (.goto (-12), 3) := by decide +kernel
theorem dX12_passes_17 : decode cX12_passes 17 = .ok (.return_, 1) := by decide +kernel
theorem dX12_hours_0 : decode cX12_hours 0 = .ok (.iload_n 1, 1) := by decide +kernel
theorem dX12_hours_1 : decode cX12_hours 1 = .ok (.iconst 1, 1) := by decide +kernel
theorem dX12_hours_2 : decode cX12_hours 2 = .ok (.bipush 100, 2) := by decide +kernel
theorem dX12_hours_4 : decode cX12_hours 4 = .ok (.invokestatic 45, 3) := by decide +kernel
theorem dX12_hours_7 : decode cX12_hours 7 = .ok (.ifCond .ne 10, 3) := by decide +kernel
theorem dX12_hours_10 : decode cX12_hours 10 = .ok (.aload_n 0, 1) := by decide +kernel
theorem dX12_hours_11 : decode cX12_hours 11 = .ok (.ldc 44, 2) := by decide +kernel
theorem dX12_hours_13 : decode cX12_hours 13 = .ok (.invokevirtual 53, 3) := by decide +kernel
theorem dX12_hours_16 : decode cX12_hours 16 = .ok (.ireturn, 1) := by decide +kernel
theorem dX12_hours_17 : decode cX12_hours 17 = .ok (.aload_n 0, 1) := by decide +kernel
theorem dX12_hours_18 : decode cX12_hours 18 = .ok (.getfield 7, 3) := by decide +kernel
theorem dX12_hours_21 : decode cX12_hours 21 = .ok (.iconst 0, 1) := by decide +kernel
theorem dX12_hours_22 : decode cX12_hours 22 = .ok (.iaload, 1) := by decide +kernel
theorem dX12_hours_23 : decode cX12_hours 23 = .ok (.iload_n 1, 1) := by decide +kernel
theorem dX12_hours_24 : decode cX12_hours 24 = .ok (.iadd, 1) := by decide +kernel
theorem dX12_hours_25 : decode cX12_hours 25 = .ok (.ldc 138, 2) := by decide +kernel
theorem dX12_hours_27 : decode cX12_hours 27 = .ok (.if_icmp .le 10, 3) := by decide +kernel
theorem dX12_hours_30 : decode cX12_hours 30 = .ok (.aload_n 0, 1) := by decide +kernel
theorem dX12_hours_31 : decode cX12_hours 31 = .ok (.ldc 139, 2) := by decide +kernel
theorem dX12_hours_33 : decode cX12_hours 33 = .ok (.invokevirtual 53, 3) := by decide +kernel
theorem dX12_hours_36 : decode cX12_hours 36 = .ok (.ireturn, 1) := by decide +kernel
theorem dX12_hours_37 : decode cX12_hours 37 = .ok (.aload_n 0, 1) := by decide +kernel
theorem dX12_hours_38 : decode cX12_hours 38 = .ok (.iload_n 1, 1) := by decide +kernel
theorem dX12_hours_39 : decode cX12_hours 39 = .ok (.invokevirtual 140, 3) := by decide +kernel
theorem dX12_hours_42 : decode cX12_hours 42 = .ok (.aload_n 0, 1) := by decide +kernel
theorem dX12_hours_43 : decode cX12_hours 43 = .ok (.bipush 6, 2) := by decide +kernel
theorem dX12_hours_45 : decode cX12_hours 45 = .ok (.invokevirtual 79, 3) := by decide +kernel
theorem dX12_hours_48 : decode cX12_hours 48 = .ok (.ireturn, 1) := by decide +kernel
theorem dX12_on_0 : decode cX12_on 0 = .ok (.aload_n 0, 1) := by decide +kernel
theorem dX12_on_1 : decode cX12_on 1 = .ok (.iload_n 1, 1) := by decide +kernel
theorem dX12_on_2 : decode cX12_on 2 = .ok (.invokevirtual 99, 3) := by decide +kernel
theorem dX12_on_5 : decode cX12_on 5 = .ok (.ifCond .eq 22, 3) := by decide +kernel
theorem dX12_on_8 : decode cX12_on 8 = .ok (.iload_n 2, 1) := by decide +kernel
theorem dX12_on_9 : decode cX12_on 9 = .ok (.iconst 0, 1) := by decide +kernel
theorem dX12_on_10 : decode cX12_on 10 = .ok (.bipush 100, 2) := by decide +kernel
theorem dX12_on_12 : decode cX12_on 12 = .ok (.invokestatic 45, 3) := by decide +kernel
theorem dX12_on_15 : decode cX12_on 15 = .ok (.ifCond .eq 12, 3) := by decide +kernel
theorem dX12_on_18 : decode cX12_on 18 = .ok (.iload_n 3, 1) := by decide +kernel
theorem dX12_on_19 : decode cX12_on 19 = .ok (.iconst 0, 1) := by decide +kernel
theorem dX12_on_20 : decode cX12_on 20 = .ok (.iconst 3, 1) := by decide +kernel
theorem dX12_on_21 : decode cX12_on 21 = .ok (.invokestatic 45, 3) := by decide +kernel
theorem dX12_on_24 : decode cX12_on 24 = .ok (.ifCond .ne 10, 3) := by decide +kernel
theorem dX12_on_27 : decode cX12_on 27 = .ok (.aload_n 0, 1) := by decide +kernel
theorem dX12_on_28 : decode cX12_on 28 = .ok (.ldc 44, 2) := by decide +kernel
theorem dX12_on_30 : decode cX12_on 30 = .ok (.invokevirtual 53, 3) := by decide +kernel
theorem dX12_on_33 : decode cX12_on 33 = .ok (.ireturn, 1) := by decide +kernel
theorem dX12_on_34 : decode cX12_on 34 = .ok (.aload_n 0, 1) := by decide +kernel
theorem dX12_on_35 : decode cX12_on 35 = .ok (.iconst 1, 1) := by decide +kernel
theorem dX12_on_36 : decode cX12_on 36 = .ok (.aload_n 0, 1) := by decide +kernel
theorem dX12_on_37 : decode cX12_on 37 = .ok (.getfield 16, 3) := by decide +kernel
theorem dX12_on_40 : decode cX12_on 40 = .ok (.invokevirtual 143, 3) := by decide +kernel
theorem dX12_on_43 : decode cX12_on 43 = .ok (.aload_n 0, 1) := by decide +kernel
theorem dX12_on_44 : decode cX12_on 44 = .ok (.iload_n 2, 1) := by decide +kernel
theorem dX12_on_45 : decode cX12_on 45 = .ok (.invokevirtual 140, 3) := by decide +kernel
theorem dX12_on_48 : decode cX12_on 48 = .ok (.aload_n 0, 1) := by decide +kernel
theorem dX12_on_49 : decode cX12_on 49 = .ok (.iload_n 1, 1) := by decide +kernel
theorem dX12_on_50 : decode cX12_on 50 = .ok (.iconst 1, 1) := by decide +kernel
theorem dX12_on_51 : decode cX12_on 51 = .ok (.iload_n 3, 1) := by decide +kernel
theorem dX12_on_52 : decode cX12_on 52 = .ok (.iadd, 1) := by decide +kernel
theorem dX12_on_53 : decode cX12_on 53 = .ok (.invokevirtual 69, 3) := by decide +kernel
theorem dX12_on_56 : decode cX12_on 56 = .ok (.istore 4, 2) := by decide +kernel
theorem dX12_on_58 : decode cX12_on 58 = .ok (.aload_n 0, 1) := by decide +kernel
theorem dX12_on_59 : decode cX12_on 59 = .ok (.iconst 0, 1) := by decide +kernel
theorem dX12_on_60 : decode cX12_on 60 = .ok (.aload_n 0, 1) := by decide +kernel
theorem dX12_on_61 : decode cX12_on 61 = .ok (.getfield 16, 3) := by decide +kernel
theorem dX12_on_64 : decode cX12_on 64 = .ok (.invokevirtual 143, 3) := by decide +kernel
theorem dX12_on_67 : decode cX12_on 67 = .ok (.iload 4, 2) := by decide +kernel
theorem dX12_on_69 : decode cX12_on 69 = .ok (.ireturn, 1) := by decide +kernel
theorem dX12_then_0 : decode cX12_then 0 = .ok (.iload_n 1, 1) := by decide +kernel
theorem dX12_then_1 : decode cX12_then 1 = .ok (.iconst 0, 1) := by decide +kernel
theorem dX12_then_2 : decode cX12_then 2 = .ok (.bipush 100, 2) := by decide +kernel
theorem dX12_then_4 : decode cX12_then 4 = .ok (.invokestatic 45, 3) := by decide +kernel
theorem dX12_then_7 : decode cX12_then 7 = .ok (.ifCond .eq 12, 3) := by decide +kernel
theorem dX12_then_10 : decode cX12_then 10 = .ok (.iload_n 2, 1) := by decide +kernel
theorem dX12_then_11 : decode cX12_then 11 = .ok (.iconst 0, 1) := by decide +kernel
theorem dX12_then_12 : decode cX12_then 12 = .ok (.iconst 1, 1) := by decide +kernel
theorem dX12_then_13 : decode cX12_then 13 = .ok (.invokestatic 45, 3) := by decide +kernel
theorem dX12_then_16 : decode cX12_then 16 = .ok (.ifCond .ne 10, 3) := by decide +kernel
theorem dX12_then_19 : decode cX12_then 19 = .ok (.aload_n 0, 1) := by decide +kernel
theorem dX12_then_20 : decode cX12_then 20 = .ok (.ldc 44, 2) := by decide +kernel
theorem dX12_then_22 : decode cX12_then 22 = .ok (.invokevirtual 53, 3) := by decide +kernel
theorem dX12_then_25 : decode cX12_then 25 = .ok (.ireturn, 1) := by decide +kernel
theorem dX12_then_26 : decode cX12_then 26 = .ok (.aload_n 0, 1) := by decide +kernel
theorem dX12_then_27 : decode cX12_then 27 = .ok (.iconst 1, 1) := by decide +kernel
theorem dX12_then_28 : decode cX12_then 28 = .ok (.aload_n 0, 1) := by decide +kernel
theorem dX12_then_29 : decode cX12_then 29 = .ok (.getfield 16, 3) := by decide +kernel
theorem dX12_then_32 : decode cX12_then 32 = .ok (.invokevirtual 143, 3) := by decide +kernel
theorem dX12_then_35 : decode cX12_then 35 = .ok (.aload_n 0, 1) := by decide +kernel
theorem dX12_then_36 : decode cX12_then 36 = .ok (.iload_n 1, 1) := by decide +kernel
theorem dX12_then_37 : decode cX12_then 37 = .ok (.invokevirtual 140, 3) := by decide +kernel
theorem dX12_then_40 : decode cX12_then 40 = .ok (.aload_n 0, 1) := by decide +kernel
theorem dX12_then_41 : decode cX12_then 41 = .ok (.iconst 5, 1) := by decide +kernel
theorem dX12_then_42 : decode cX12_then 42 = .ok (.iload_n 2, 1) := by decide +kernel
theorem dX12_then_43 : decode cX12_then 43 = .ok (.iadd, 1) := by decide +kernel
theorem dX12_then_44 : decode cX12_then 44 = .ok (.invokevirtual 79, 3) := by decide +kernel
theorem dX12_then_47 : decode cX12_then 47 = .ok (.istore_n 3, 1) := by decide +kernel
theorem dX12_then_48 : decode cX12_then 48 = .ok (.aload_n 0, 1) := by decide +kernel
theorem dX12_then_49 : decode cX12_then 49 = .ok (.iconst 0, 1) := by decide +kernel
theorem dX12_then_50 : decode cX12_then 50 = .ok (.aload_n 0, 1) := by decide +kernel
theorem dX12_then_51 : decode cX12_then 51 = .ok (.getfield 16, 3) := by decide +kernel
theorem dX12_then_54 : decode cX12_then 54 = .ok (.invokevirtual 143, 3) := by decide +kernel
theorem dX12_then_57 : decode cX12_then 57 = .ok (.iload_n 3, 1) := by decide +kernel
theorem dX12_then_58 : decode cX12_then 58 = .ok (.ireturn, 1) := by decide +kernel
theorem dX12_soonest_0 : decode cX12_soonest 0 = .ok (.iconst 0, 1) := by decide +kernel
theorem dX12_soonest_1 : decode cX12_soonest 1 = .ok (.istore_n 3, 1) := by decide +kernel
theorem dX12_soonest_2 : decode cX12_soonest 2 = .ok (.iload_n 3, 1) := by decide +kernel
theorem dX12_soonest_3 : decode cX12_soonest 3 = .ok (.bipush 100, 2) := by decide +kernel
theorem dX12_soonest_5 : decode cX12_soonest 5 = .ok (.if_icmp .gt 22, 3) := by decide +kernel
theorem dX12_soonest_8 : decode cX12_soonest 8 = .ok (.aload_n 0, 1) := by decide +kernel
theorem dX12_soonest_9 : decode cX12_soonest 9 = .ok (.iload_n 1, 1) := by decide +kernel
theorem dX12_soonest_10 : decode cX12_soonest 10 = .ok (.iload_n 2, 1) := by decide +kernel
theorem dX12_soonest_11 : decode cX12_soonest 11 = .ok (.invokevirtual 69, 3) := by decide +kernel
theorem dX12_soonest_14 : decode cX12_soonest 14 = .ok (.ifCond .ne 13, 3) := by decide +kernel
theorem dX12_soonest_17 : decode cX12_soonest 17 = .ok (.aload_n 0, 1) := by decide +kernel
theorem dX12_soonest_18 : decode cX12_soonest 18 = .ok (.invokevirtual 135, 3) := by decide +kernel
theorem dX12_soonest_21 : decode cX12_soonest 21 = .ok (.iinc 3 1, 3) := by decide +kernel
theorem dX12_soonest_24 : decode cX12_soonest 24 = .ok (.goto (-22), 3) := by decide +kernel
theorem dX12_soonest_27 : decode cX12_soonest 27 = .ok (.aload_n 0, 1) := by decide +kernel
theorem dX12_soonest_28 : decode cX12_soonest 28 = .ok (.iconst 0, 1) := by decide +kernel
theorem dX12_soonest_29 : decode cX12_soonest 29 = .ok (.aload_n 0, 1) := by decide +kernel
theorem dX12_soonest_30 : decode cX12_soonest 30 = .ok (.getfield 16, 3) := by decide +kernel
theorem dX12_soonest_33 : decode cX12_soonest 33 = .ok (.invokevirtual 143, 3) := by decide +kernel
theorem dX12_soonest_36 : decode cX12_soonest 36 = .ok (.iload_n 3, 1) := by decide +kernel
theorem dX12_soonest_37 : decode cX12_soonest 37 = .ok (.ireturn, 1) := by decide +kernel
theorem dX12_whenFirst_0 : decode cX12_whenFirst 0 = .ok (.aload_n 0, 1) := by decide +kernel
theorem dX12_whenFirst_1 : decode cX12_whenFirst 1 = .ok (.iconst 1, 1) := by decide +kernel
theorem dX12_whenFirst_2 : decode cX12_whenFirst 2 = .ok (.aload_n 0, 1) := by decide +kernel
theorem dX12_whenFirst_3 : decode cX12_whenFirst 3 = .ok (.getfield 16, 3) := by decide +kernel
theorem dX12_whenFirst_6 : decode cX12_whenFirst 6 = .ok (.invokevirtual 143, 3) := by decide +kernel
theorem dX12_whenFirst_9 : decode cX12_whenFirst 9 = .ok (.aload_n 0, 1) := by decide +kernel
theorem dX12_whenFirst_10 : decode cX12_whenFirst 10 = .ok (.iload_n 1, 1) := by decide +kernel
theorem dX12_whenFirst_11 : decode cX12_whenFirst 11 = .ok (.iload_n 2, 1) := by decide +kernel
theorem dX12_whenFirst_12 : decode cX12_whenFirst 12 = .ok (.invokevirtual 147, 3) := by decide +kernel
theorem dX12_whenFirst_15 : decode cX12_whenFirst 15 = .ok (.istore_n 3, 1) := by decide +kernel
theorem dX12_whenFirst_16 : decode cX12_whenFirst 16 = .ok (.iload_n 3, 1) := by decide +kernel
theorem dX12_whenFirst_17 : decode cX12_whenFirst 17 = .ok (.bipush 100, 2) := by decide +kernel
theorem dX12_whenFirst_19 : decode cX12_whenFirst 19 = .ok (.if_icmp .le 12, 3) := by decide +kernel
theorem dX12_whenFirst_22 : decode cX12_whenFirst 22 = .ok (.aload_n 0, 1) := by decide +kernel
theorem dX12_whenFirst_23 : decode cX12_whenFirst 23 = .ok (.ldc 150, 2) := by decide +kernel
theorem dX12_whenFirst_25 : decode cX12_whenFirst 25 = .ok (.invokevirtual 53, 3) := by decide +kernel
theorem dX12_whenFirst_28 : decode cX12_whenFirst 28 = .ok (.goto 4, 3) := by decide +kernel
theorem dX12_whenFirst_31 : decode cX12_whenFirst 31 = .ok (.iload_n 3, 1) := by decide +kernel
theorem dX12_whenFirst_32 : decode cX12_whenFirst 32 = .ok (.ireturn, 1) := by decide +kernel
theorem dX12_comes_0 : decode cX12_comes 0 = .ok (.aload_n 0, 1) := by decide +kernel
theorem dX12_comes_1 : decode cX12_comes 1 = .ok (.iload_n 1, 1) := by decide +kernel
theorem dX12_comes_2 : decode cX12_comes 2 = .ok (.invokevirtual 99, 3) := by decide +kernel
theorem dX12_comes_5 : decode cX12_comes 5 = .ok (.ifCond .eq 13, 3) := by decide +kernel
theorem dX12_comes_8 : decode cX12_comes 8 = .ok (.aload_n 0, 1) := by decide +kernel
theorem dX12_comes_9 : decode cX12_comes 9 = .ok (.iload_n 1, 1) := by decide +kernel
theorem dX12_comes_10 : decode cX12_comes 10 = .ok (.bipush 6, 2) := by decide +kernel
theorem dX12_comes_12 : decode cX12_comes 12 = .ok (.invokevirtual 151, 3) := by decide +kernel
theorem dX12_comes_15 : decode cX12_comes 15 = .ok (.goto 9, 3) := by decide +kernel
theorem dX12_comes_18 : decode cX12_comes 18 = .ok (.aload_n 0, 1) := by decide +kernel
theorem dX12_comes_19 : decode cX12_comes 19 = .ok (.ldc 44, 2) := by decide +kernel
theorem dX12_comes_21 : decode cX12_comes 21 = .ok (.invokevirtual 53, 3) := by decide +kernel
theorem dX12_comes_24 : decode cX12_comes 24 = .ok (.ireturn, 1) := by decide +kernel
theorem dX12_wrecks_0 : decode cX12_wrecks 0 = .ok (.aload_n 0, 1) := by decide +kernel
theorem dX12_wrecks_1 : decode cX12_wrecks 1 = .ok (.iload_n 1, 1) := by decide +kernel
theorem dX12_wrecks_2 : decode cX12_wrecks 2 = .ok (.invokevirtual 99, 3) := by decide +kernel
theorem dX12_wrecks_5 : decode cX12_wrecks 5 = .ok (.ifCond .eq 12, 3) := by decide +kernel
theorem dX12_wrecks_8 : decode cX12_wrecks 8 = .ok (.aload_n 0, 1) := by decide +kernel
theorem dX12_wrecks_9 : decode cX12_wrecks 9 = .ok (.iload_n 1, 1) := by decide +kernel
theorem dX12_wrecks_10 : decode cX12_wrecks 10 = .ok (.iconst 5, 1) := by decide +kernel
theorem dX12_wrecks_11 : decode cX12_wrecks 11 = .ok (.invokevirtual 151, 3) := by decide +kernel
theorem dX12_wrecks_14 : decode cX12_wrecks 14 = .ok (.goto 9, 3) := by decide +kernel
theorem dX12_wrecks_17 : decode cX12_wrecks 17 = .ok (.aload_n 0, 1) := by decide +kernel
theorem dX12_wrecks_18 : decode cX12_wrecks 18 = .ok (.ldc 44, 2) := by decide +kernel
theorem dX12_wrecks_20 : decode cX12_wrecks 20 = .ok (.invokevirtual 53, 3) := by decide +kernel
theorem dX12_wrecks_23 : decode cX12_wrecks 23 = .ok (.ireturn, 1) := by decide +kernel
theorem dX12_bestOf_0 : decode cX12_bestOf 0 = .ok (.aload_n 0, 1) := by decide +kernel
theorem dX12_bestOf_1 : decode cX12_bestOf 1 = .ok (.iload_n 1, 1) := by decide +kernel
theorem dX12_bestOf_2 : decode cX12_bestOf 2 = .ok (.invokevirtual 99, 3) := by decide +kernel
theorem dX12_bestOf_5 : decode cX12_bestOf 5 = .ok (.ifCond .ne 10, 3) := by decide +kernel
theorem dX12_bestOf_8 : decode cX12_bestOf 8 = .ok (.aload_n 0, 1) := by decide +kernel
theorem dX12_bestOf_9 : decode cX12_bestOf 9 = .ok (.ldc 44, 2) := by decide +kernel
theorem dX12_bestOf_11 : decode cX12_bestOf 11 = .ok (.invokevirtual 53, 3) := by decide +kernel
theorem dX12_bestOf_14 : decode cX12_bestOf 14 = .ok (.ireturn, 1) := by decide +kernel
theorem dX12_bestOf_15 : decode cX12_bestOf 15 = .ok (.aload_n 0, 1) := by decide +kernel
theorem dX12_bestOf_16 : decode cX12_bestOf 16 = .ok (.iload_n 1, 1) := by decide +kernel
theorem dX12_bestOf_17 : decode cX12_bestOf 17 = .ok (.iconst 5, 1) := by decide +kernel
theorem dX12_bestOf_18 : decode cX12_bestOf 18 = .ok (.invokevirtual 69, 3) := by decide +kernel
theorem dX12_bestOf_21 : decode cX12_bestOf 21 = .ok (.aload_n 0, 1) := by decide +kernel
theorem dX12_bestOf_22 : decode cX12_bestOf 22 = .ok (.iload_n 1, 1) := by decide +kernel
theorem dX12_bestOf_23 : decode cX12_bestOf 23 = .ok (.bipush 6, 2) := by decide +kernel
theorem dX12_bestOf_25 : decode cX12_bestOf 25 = .ok (.invokevirtual 69, 3) := by decide +kernel
theorem dX12_bestOf_28 : decode cX12_bestOf 28 = .ok (.iadd, 1) := by decide +kernel
theorem dX12_bestOf_29 : decode cX12_bestOf 29 = .ok (.ifCond .le 10, 3) := by decide +kernel
theorem dX12_bestOf_32 : decode cX12_bestOf 32 = .ok (.aload_n 0, 1) := by decide +kernel
theorem dX12_bestOf_33 : decode cX12_bestOf 33 = .ok (.ldc 139, 2) := by decide +kernel
theorem dX12_bestOf_35 : decode cX12_bestOf 35 = .ok (.invokevirtual 53, 3) := by decide +kernel
theorem dX12_bestOf_38 : decode cX12_bestOf 38 = .ok (.ireturn, 1) := by decide +kernel
theorem dX12_bestOf_39 : decode cX12_bestOf 39 = .ok (.aload_n 0, 1) := by decide +kernel
theorem dX12_bestOf_40 : decode cX12_bestOf 40 = .ok (.iconst 1, 1) := by decide +kernel
theorem dX12_bestOf_41 : decode cX12_bestOf 41 = .ok (.aload_n 0, 1) := by decide +kernel
theorem dX12_bestOf_42 : decode cX12_bestOf 42 = .ok (.getfield 16, 3) := by decide +kernel
theorem dX12_bestOf_45 : decode cX12_bestOf 45 = .ok (.invokevirtual 143, 3) := by decide +kernel
theorem dX12_bestOf_48 : decode cX12_bestOf 48 = .ok (.iconst (-1), 1) := by decide +kernel
theorem dX12_bestOf_49 : decode cX12_bestOf 49 = .ok (.istore 4, 2) := by decide +kernel
theorem dX12_bestOf_51 : decode cX12_bestOf 51 = .ok (.bipush 101, 2) := by decide +kernel
theorem dX12_bestOf_53 : decode cX12_bestOf 53 = .ok (.istore 5, 2) := by decide +kernel
theorem dX12_bestOf_55 : decode cX12_bestOf 55 = .ok (.iconst 0, 1) := by decide +kernel
theorem dX12_bestOf_56 : decode cX12_bestOf 56 = .ok (.istore 6, 2) := by decide +kernel
theorem dX12_bestOf_58 : decode cX12_bestOf 58 = .ok (.iload 6, 2) := by decide +kernel
theorem dX12_bestOf_60 : decode cX12_bestOf 60 = .ok (.iload_n 3, 1) := by decide +kernel
theorem dX12_bestOf_61 : decode cX12_bestOf 61 = .ok (.if_icmp .gt 58, 3) := by decide +kernel
theorem dX12_bestOf_64 : decode cX12_bestOf 64 = .ok (.aload_n 0, 1) := by decide +kernel
theorem dX12_bestOf_65 : decode cX12_bestOf 65 = .ok (.iload_n 1, 1) := by decide +kernel
theorem dX12_bestOf_66 : decode cX12_bestOf 66 = .ok (.iload_n 2, 1) := by decide +kernel
theorem dX12_bestOf_67 : decode cX12_bestOf 67 = .ok (.iload 6, 2) := by decide +kernel
theorem dX12_bestOf_69 : decode cX12_bestOf 69 = .ok (.invokevirtual 88, 3) := by decide +kernel
theorem dX12_bestOf_72 : decode cX12_bestOf 72 = .ok (.aload_n 0, 1) := by decide +kernel
theorem dX12_bestOf_73 : decode cX12_bestOf 73 = .ok (.iload_n 1, 1) := by decide +kernel
theorem dX12_bestOf_74 : decode cX12_bestOf 74 = .ok (.bipush 6, 2) := by decide +kernel
theorem dX12_bestOf_76 : decode cX12_bestOf 76 = .ok (.invokevirtual 147, 3) := by decide +kernel
theorem dX12_bestOf_79 : decode cX12_bestOf 79 = .ok (.istore 7, 2) := by decide +kernel
theorem dX12_bestOf_81 : decode cX12_bestOf 81 = .ok (.iload 7, 2) := by decide +kernel
theorem dX12_bestOf_83 : decode cX12_bestOf 83 = .ok (.iload 5, 2) := by decide +kernel
theorem dX12_bestOf_85 : decode cX12_bestOf 85 = .ok (.if_icmp .ge 8, 3) := by decide +kernel
theorem dX12_bestOf_88 : decode cX12_bestOf 88 = .ok (.iload 6, 2) := by decide +kernel
theorem dX12_bestOf_90 : decode cX12_bestOf 90 = .ok (.goto 5, 3) := by decide +kernel
theorem dX12_bestOf_93 : decode cX12_bestOf 93 = .ok (.iload 4, 2) := by decide +kernel
theorem dX12_bestOf_95 : decode cX12_bestOf 95 = .ok (.istore 4, 2) := by decide +kernel
theorem dX12_bestOf_97 : decode cX12_bestOf 97 = .ok (.iload 7, 2) := by decide +kernel
theorem dX12_bestOf_99 : decode cX12_bestOf 99 = .ok (.iload 5, 2) := by decide +kernel
theorem dX12_bestOf_101 : decode cX12_bestOf 101 = .ok (.if_icmp .ge 8, 3) := by decide +kernel
theorem dX12_bestOf_104 : decode cX12_bestOf 104 = .ok (.iload 7, 2) := by decide +kernel
theorem dX12_bestOf_106 : decode cX12_bestOf 106 = .ok (.goto 5, 3) := by decide +kernel
theorem dX12_bestOf_109 : decode cX12_bestOf 109 = .ok (.iload 5, 2) := by decide +kernel
theorem dX12_bestOf_111 : decode cX12_bestOf 111 = .ok (.istore 5, 2) := by decide +kernel
theorem dX12_bestOf_113 : decode cX12_bestOf 113 = .ok (.iinc 6 1, 3) := by decide +kernel
theorem dX12_bestOf_116 : decode cX12_bestOf 116 = .ok (.goto (-58), 3) := by decide +kernel
theorem dX12_bestOf_119 : decode cX12_bestOf 119 = .ok (.iload 4, 2) := by decide +kernel
theorem dX12_bestOf_121 : decode cX12_bestOf 121 = .ok (.ifCond .ge 12, 3) := by decide +kernel
theorem dX12_bestOf_124 : decode cX12_bestOf 124 = .ok (.aload_n 0, 1) := by decide +kernel
theorem dX12_bestOf_125 : decode cX12_bestOf 125 = .ok (.ldc 150, 2) := by decide +kernel
theorem dX12_bestOf_127 : decode cX12_bestOf 127 = .ok (.invokevirtual 53, 3) := by decide +kernel
theorem dX12_bestOf_130 : decode cX12_bestOf 130 = .ok (.goto 5, 3) := by decide +kernel
theorem dX12_bestOf_133 : decode cX12_bestOf 133 = .ok (.iload 4, 2) := by decide +kernel
theorem dX12_bestOf_135 : decode cX12_bestOf 135 = .ok (.ireturn, 1) := by decide +kernel
theorem dX12_row_0 : decode cX12_row 0 = .ok (.aload_n 0, 1) := by decide +kernel
theorem dX12_row_1 : decode cX12_row 1 = .ok (.iload_n 1, 1) := by decide +kernel
theorem dX12_row_2 : decode cX12_row 2 = .ok (.iconst 2, 1) := by decide +kernel
theorem dX12_row_3 : decode cX12_row 3 = .ok (.bipush 9, 2) := by decide +kernel
theorem dX12_row_5 : decode cX12_row 5 = .ok (.invokevirtual 154, 3) := by decide +kernel
theorem dX12_row_8 : decode cX12_row 8 = .ok (.ireturn, 1) := by decide +kernel
theorem dX12_kind_0 : decode cX12_kind 0 = .ok (.aload_n 0, 1) := by decide +kernel
theorem dX12_kind_1 : decode cX12_kind 1 = .ok (.iload_n 1, 1) := by decide +kernel
theorem dX12_kind_2 : decode cX12_kind 2 = .ok (.iconst 0, 1) := by decide +kernel
theorem dX12_kind_3 : decode cX12_kind 3 = .ok (.iconst 5, 1) := by decide +kernel
theorem dX12_kind_4 : decode cX12_kind 4 = .ok (.invokevirtual 154, 3) := by decide +kernel
theorem dX12_kind_7 : decode cX12_kind 7 = .ok (.ireturn, 1) := by decide +kernel
theorem dX12_shine_0 : decode cX12_shine 0 = .ok (.iload_n 1, 1) := by decide +kernel
theorem dX12_shine_1 : decode cX12_shine 1 = .ok (.iconst 1, 1) := by decide +kernel
theorem dX12_shine_2 : decode cX12_shine 2 = .ok (.bipush 60, 2) := by decide +kernel
theorem dX12_shine_4 : decode cX12_shine 4 = .ok (.invokestatic 45, 3) := by decide +kernel
theorem dX12_shine_7 : decode cX12_shine 7 = .ok (.ifCond .ne 10, 3) := by decide +kernel
theorem dX12_shine_10 : decode cX12_shine 10 = .ok (.aload_n 0, 1) := by decide +kernel
theorem dX12_shine_11 : decode cX12_shine 11 = .ok (.ldc 44, 2) := by decide +kernel
theorem dX12_shine_13 : decode cX12_shine 13 = .ok (.invokevirtual 53, 3) := by decide +kernel
theorem dX12_shine_16 : decode cX12_shine 16 = .ok (.ireturn, 1) := by decide +kernel
theorem dX12_shine_17 : decode cX12_shine 17 = .ok (.aload_n 0, 1) := by decide +kernel
theorem dX12_shine_18 : decode cX12_shine 18 = .ok (.iconst 1, 1) := by decide +kernel
theorem dX12_shine_19 : decode cX12_shine 19 = .ok (.aload_n 0, 1) := by decide +kernel
theorem dX12_shine_20 : decode cX12_shine 20 = .ok (.getfield 16, 3) := by decide +kernel
theorem dX12_shine_23 : decode cX12_shine 23 = .ok (.invokevirtual 143, 3) := by decide +kernel
theorem dX12_shine_26 : decode cX12_shine 26 = .ok (.iconst 0, 1) := by decide +kernel
theorem dX12_shine_27 : decode cX12_shine 27 = .ok (.istore_n 2, 1) := by decide +kernel
theorem dX12_shine_28 : decode cX12_shine 28 = .ok (.bipush 7, 2) := by decide +kernel
theorem dX12_shine_30 : decode cX12_shine 30 = .ok (.istore_n 3, 1) := by decide +kernel
theorem dX12_shine_31 : decode cX12_shine 31 = .ok (.iconst 0, 1) := by decide +kernel
theorem dX12_shine_32 : decode cX12_shine 32 = .ok (.istore 4, 2) := by decide +kernel
theorem dX12_shine_34 : decode cX12_shine 34 = .ok (.iload 4, 2) := by decide +kernel
theorem dX12_shine_36 : decode cX12_shine 36 = .ok (.bipush 10, 2) := by decide +kernel
theorem dX12_shine_38 : decode cX12_shine 38 = .ok (.if_icmp .ge 67, 3) := by decide +kernel
theorem dX12_shine_41 : decode cX12_shine 41 = .ok (.aload_n 0, 1) := by decide +kernel
theorem dX12_shine_42 : decode cX12_shine 42 = .ok (.getfield 7, 3) := by decide +kernel
theorem dX12_shine_45 : decode cX12_shine 45 = .ok (.iconst 4, 1) := by decide +kernel
theorem dX12_shine_46 : decode cX12_shine 46 = .ok (.iload 4, 2) := by decide +kernel
theorem dX12_shine_48 : decode cX12_shine 48 = .ok (.iastore, 1) := by decide +kernel
theorem dX12_shine_49 : decode cX12_shine 49 = .ok (.aload_n 0, 1) := by decide +kernel
theorem dX12_shine_50 : decode cX12_shine 50 = .ok (.iload_n 1, 1) := by decide +kernel
theorem dX12_shine_51 : decode cX12_shine 51 = .ok (.invokevirtual 140, 3) := by decide +kernel
theorem dX12_shine_54 : decode cX12_shine 54 = .ok (.aload_n 0, 1) := by decide +kernel
theorem dX12_shine_55 : decode cX12_shine 55 = .ok (.iconst 5, 1) := by decide +kernel
theorem dX12_shine_56 : decode cX12_shine 56 = .ok (.invokevirtual 79, 3) := by decide +kernel
theorem dX12_shine_59 : decode cX12_shine 59 = .ok (.invokestatic 157, 3) := by decide +kernel
theorem dX12_shine_62 : decode cX12_shine 62 = .ok (.istore 5, 2) := by decide +kernel
theorem dX12_shine_64 : decode cX12_shine 64 = .ok (.aload_n 0, 1) := by decide +kernel
theorem dX12_shine_65 : decode cX12_shine 65 = .ok (.iconst 0, 1) := by decide +kernel
theorem dX12_shine_66 : decode cX12_shine 66 = .ok (.aload_n 0, 1) := by decide +kernel
theorem dX12_shine_67 : decode cX12_shine 67 = .ok (.getfield 16, 3) := by decide +kernel
theorem dX12_shine_70 : decode cX12_shine 70 = .ok (.invokevirtual 143, 3) := by decide +kernel
theorem dX12_shine_73 : decode cX12_shine 73 = .ok (.iload 5, 2) := by decide +kernel
theorem dX12_shine_75 : decode cX12_shine 75 = .ok (.iload_n 3, 1) := by decide +kernel
theorem dX12_shine_76 : decode cX12_shine 76 = .ok (.if_icmp .ge 8, 3) := by decide +kernel
theorem dX12_shine_79 : decode cX12_shine 79 = .ok (.iload 4, 2) := by decide +kernel
theorem dX12_shine_81 : decode cX12_shine 81 = .ok (.goto 4, 3) := by decide +kernel
theorem dX12_shine_84 : decode cX12_shine 84 = .ok (.iload_n 2, 1) := by decide +kernel
theorem dX12_shine_85 : decode cX12_shine 85 = .ok (.istore_n 2, 1) := by decide +kernel
theorem dX12_shine_86 : decode cX12_shine 86 = .ok (.iload 5, 2) := by decide +kernel
theorem dX12_shine_88 : decode cX12_shine 88 = .ok (.iload_n 3, 1) := by decide +kernel
theorem dX12_shine_89 : decode cX12_shine 89 = .ok (.if_icmp .ge 8, 3) := by decide +kernel
theorem dX12_shine_92 : decode cX12_shine 92 = .ok (.iload 5, 2) := by decide +kernel
theorem dX12_shine_94 : decode cX12_shine 94 = .ok (.goto 4, 3) := by decide +kernel
theorem dX12_shine_97 : decode cX12_shine 97 = .ok (.iload_n 3, 1) := by decide +kernel
theorem dX12_shine_98 : decode cX12_shine 98 = .ok (.istore_n 3, 1) := by decide +kernel
theorem dX12_shine_99 : decode cX12_shine 99 = .ok (.iinc 4 1, 3) := by decide +kernel
theorem dX12_shine_102 : decode cX12_shine 102 = .ok (.goto (-68), 3) := by decide +kernel
theorem dX12_shine_105 : decode cX12_shine 105 = .ok (.iload_n 2, 1) := by decide +kernel
theorem dX12_shine_106 : decode cX12_shine 106 = .ok (.ireturn, 1) := by decide +kernel
theorem dX12_hour_0 : decode cX12_hour 0 = .ok (.iload_n 1, 1) := by decide +kernel
theorem dX12_hour_1 : decode cX12_hour 1 = .ok (.iconst 1, 1) := by decide +kernel
theorem dX12_hour_2 : decode cX12_hour 2 = .ok (.bipush 60, 2) := by decide +kernel
theorem dX12_hour_4 : decode cX12_hour 4 = .ok (.invokestatic 45, 3) := by decide +kernel
theorem dX12_hour_7 : decode cX12_hour 7 = .ok (.ifCond .ne 10, 3) := by decide +kernel
theorem dX12_hour_10 : decode cX12_hour 10 = .ok (.aload_n 0, 1) := by decide +kernel
theorem dX12_hour_11 : decode cX12_hour 11 = .ok (.ldc 44, 2) := by decide +kernel
theorem dX12_hour_13 : decode cX12_hour 13 = .ok (.invokevirtual 53, 3) := by decide +kernel
theorem dX12_hour_16 : decode cX12_hour 16 = .ok (.ireturn, 1) := by decide +kernel
theorem dX12_hour_17 : decode cX12_hour 17 = .ok (.aload_n 0, 1) := by decide +kernel
theorem dX12_hour_18 : decode cX12_hour 18 = .ok (.iconst 1, 1) := by decide +kernel
theorem dX12_hour_19 : decode cX12_hour 19 = .ok (.aload_n 0, 1) := by decide +kernel
theorem dX12_hour_20 : decode cX12_hour 20 = .ok (.getfield 16, 3) := by decide +kernel
theorem dX12_hour_23 : decode cX12_hour 23 = .ok (.invokevirtual 143, 3) := by decide +kernel
theorem dX12_hour_26 : decode cX12_hour 26 = .ok (.iconst (-1), 1) := by decide +kernel
theorem dX12_hour_27 : decode cX12_hour 27 = .ok (.istore_n 2, 1) := by decide +kernel
theorem dX12_hour_28 : decode cX12_hour 28 = .ok (.iconst 0, 1) := by decide +kernel
theorem dX12_hour_29 : decode cX12_hour 29 = .ok (.istore_n 3, 1) := by decide +kernel
theorem dX12_hour_30 : decode cX12_hour 30 = .ok (.iconst 0, 1) := by decide +kernel
theorem dX12_hour_31 : decode cX12_hour 31 = .ok (.istore 4, 2) := by decide +kernel
theorem dX12_hour_33 : decode cX12_hour 33 = .ok (.iload 4, 2) := by decide +kernel
theorem dX12_hour_35 : decode cX12_hour 35 = .ok (.bipush 12, 2) := by decide +kernel
theorem dX12_hour_37 : decode cX12_hour 37 = .ok (.if_icmp .ge 83, 3) := by decide +kernel
theorem dX12_hour_40 : decode cX12_hour 40 = .ok (.aload_n 0, 1) := by decide +kernel
theorem dX12_hour_41 : decode cX12_hour 41 = .ok (.getfield 7, 3) := by decide +kernel
theorem dX12_hour_44 : decode cX12_hour 44 = .ok (.iconst 3, 1) := by decide +kernel
theorem dX12_hour_45 : decode cX12_hour 45 = .ok (.dup2, 1) := by decide +kernel
theorem dX12_hour_46 : decode cX12_hour 46 = .ok (.iaload, 1) := by decide +kernel
theorem dX12_hour_47 : decode cX12_hour 47 = .ok (.iconst 1, 1) := by decide +kernel
theorem dX12_hour_48 : decode cX12_hour 48 = .ok (.iload 4, 2) := by decide +kernel
theorem dX12_hour_50 : decode cX12_hour 50 = .ok (.ishl, 1) := by decide +kernel
theorem dX12_hour_51 : decode cX12_hour 51 = .ok (.ixor, 1) := by decide +kernel
theorem dX12_hour_52 : decode cX12_hour 52 = .ok (.iastore, 1) := by decide +kernel
theorem dX12_hour_53 : decode cX12_hour 53 = .ok (.aload_n 0, 1) := by decide +kernel
theorem dX12_hour_54 : decode cX12_hour 54 = .ok (.iload_n 1, 1) := by decide +kernel
theorem dX12_hour_55 : decode cX12_hour 55 = .ok (.invokevirtual 140, 3) := by decide +kernel
theorem dX12_hour_58 : decode cX12_hour 58 = .ok (.aload_n 0, 1) := by decide +kernel
theorem dX12_hour_59 : decode cX12_hour 59 = .ok (.invokevirtual 160, 3) := by decide +kernel
theorem dX12_hour_62 : decode cX12_hour 62 = .ok (.istore 5, 2) := by decide +kernel
theorem dX12_hour_64 : decode cX12_hour 64 = .ok (.aload_n 0, 1) := by decide +kernel
theorem dX12_hour_65 : decode cX12_hour 65 = .ok (.iconst 0, 1) := by decide +kernel
theorem dX12_hour_66 : decode cX12_hour 66 = .ok (.aload_n 0, 1) := by decide +kernel
theorem dX12_hour_67 : decode cX12_hour 67 = .ok (.getfield 16, 3) := by decide +kernel
theorem dX12_hour_70 : decode cX12_hour 70 = .ok (.invokevirtual 143, 3) := by decide +kernel
theorem dX12_hour_73 : decode cX12_hour 73 = .ok (.iload_n 2, 1) := by decide +kernel
theorem dX12_hour_74 : decode cX12_hour 74 = .ok (.ifCond .lt 9, 3) := by decide +kernel
theorem dX12_hour_77 : decode cX12_hour 77 = .ok (.iload 5, 2) := by decide +kernel
theorem dX12_hour_79 : decode cX12_hour 79 = .ok (.iload_n 3, 1) := by decide +kernel
theorem dX12_hour_80 : decode cX12_hour 80 = .ok (.if_icmp .ge 7, 3) := by decide +kernel
theorem dX12_hour_83 : decode cX12_hour 83 = .ok (.iconst 1, 1) := by decide +kernel
theorem dX12_hour_84 : decode cX12_hour 84 = .ok (.goto 4, 3) := by decide +kernel
theorem dX12_hour_87 : decode cX12_hour 87 = .ok (.iconst 0, 1) := by decide +kernel
theorem dX12_hour_88 : decode cX12_hour 88 = .ok (.istore 6, 2) := by decide +kernel
theorem dX12_hour_90 : decode cX12_hour 90 = .ok (.iload 6, 2) := by decide +kernel
theorem dX12_hour_92 : decode cX12_hour 92 = .ok (.ifCond .eq 8, 3) := by decide +kernel
theorem dX12_hour_95 : decode cX12_hour 95 = .ok (.iload 4, 2) := by decide +kernel
theorem dX12_hour_97 : decode cX12_hour 97 = .ok (.goto 4, 3) := by decide +kernel
theorem dX12_hour_100 : decode cX12_hour 100 = .ok (.iload_n 2, 1) := by decide +kernel
theorem dX12_hour_101 : decode cX12_hour 101 = .ok (.istore_n 2, 1) := by decide +kernel
theorem dX12_hour_102 : decode cX12_hour 102 = .ok (.iload 6, 2) := by decide +kernel
theorem dX12_hour_104 : decode cX12_hour 104 = .ok (.ifCond .eq 8, 3) := by decide +kernel
theorem dX12_hour_107 : decode cX12_hour 107 = .ok (.iload 5, 2) := by decide +kernel
theorem dX12_hour_109 : decode cX12_hour 109 = .ok (.goto 4, 3) := by decide +kernel
theorem dX12_hour_112 : decode cX12_hour 112 = .ok (.iload_n 3, 1) := by decide +kernel
theorem dX12_hour_113 : decode cX12_hour 113 = .ok (.istore_n 3, 1) := by decide +kernel
theorem dX12_hour_114 : decode cX12_hour 114 = .ok (.iinc 4 1, 3) := by decide +kernel
theorem dX12_hour_117 : decode cX12_hour 117 = .ok (.goto (-84), 3) := by decide +kernel
theorem dX12_hour_120 : decode cX12_hour 120 = .ok (.iload_n 2, 1) := by decide +kernel
theorem dX12_hour_121 : decode cX12_hour 121 = .ok (.ireturn, 1) := by decide +kernel
theorem dX12_site_0 : decode cX12_site 0 = .ok (.iload_n 1, 1) := by decide +kernel
theorem dX12_site_1 : decode cX12_site 1 = .ok (.iconst 1, 1) := by decide +kernel
theorem dX12_site_2 : decode cX12_site 2 = .ok (.bipush 40, 2) := by decide +kernel
theorem dX12_site_4 : decode cX12_site 4 = .ok (.invokestatic 45, 3) := by decide +kernel
theorem dX12_site_7 : decode cX12_site 7 = .ok (.ifCond .ne 10, 3) := by decide +kernel
theorem dX12_site_10 : decode cX12_site 10 = .ok (.aload_n 0, 1) := by decide +kernel
theorem dX12_site_11 : decode cX12_site 11 = .ok (.ldc 44, 2) := by decide +kernel
theorem dX12_site_13 : decode cX12_site 13 = .ok (.invokevirtual 53, 3) := by decide +kernel
theorem dX12_site_16 : decode cX12_site 16 = .ok (.ireturn, 1) := by decide +kernel
theorem dX12_site_17 : decode cX12_site 17 = .ok (.aload_n 0, 1) := by decide +kernel
theorem dX12_site_18 : decode cX12_site 18 = .ok (.iconst 1, 1) := by decide +kernel
theorem dX12_site_19 : decode cX12_site 19 = .ok (.aload_n 0, 1) := by decide +kernel
theorem dX12_site_20 : decode cX12_site 20 = .ok (.getfield 16, 3) := by decide +kernel
theorem dX12_site_23 : decode cX12_site 23 = .ok (.invokevirtual 143, 3) := by decide +kernel
theorem dX12_site_26 : decode cX12_site 26 = .ok (.iconst (-1), 1) := by decide +kernel
theorem dX12_site_27 : decode cX12_site 27 = .ok (.istore_n 2, 1) := by decide +kernel
theorem dX12_site_28 : decode cX12_site 28 = .ok (.iconst 0, 1) := by decide +kernel
theorem dX12_site_29 : decode cX12_site 29 = .ok (.istore_n 3, 1) := by decide +kernel
theorem dX12_site_30 : decode cX12_site 30 = .ok (.iconst 0, 1) := by decide +kernel
theorem dX12_site_31 : decode cX12_site 31 = .ok (.istore 4, 2) := by decide +kernel
theorem dX12_site_33 : decode cX12_site 33 = .ok (.iload 4, 2) := by decide +kernel
theorem dX12_site_35 : decode cX12_site 35 = .ok (.sipush 200, 3) := by decide +kernel
theorem dX12_site_38 : decode cX12_site 38 = .ok (.if_icmp .ge 88, 3) := by decide +kernel
theorem dX12_site_41 : decode cX12_site 41 = .ok (.aload_n 0, 1) := by decide +kernel
theorem dX12_site_42 : decode cX12_site 42 = .ok (.iload 4, 2) := by decide +kernel
theorem dX12_site_44 : decode cX12_site 44 = .ok (.invokevirtual 61, 3) := by decide +kernel
theorem dX12_site_47 : decode cX12_site 47 = .ok (.aload_n 0, 1) := by decide +kernel
theorem dX12_site_48 : decode cX12_site 48 = .ok (.iload_n 1, 1) := by decide +kernel
theorem dX12_site_49 : decode cX12_site 49 = .ok (.invokevirtual 140, 3) := by decide +kernel
theorem dX12_site_52 : decode cX12_site 52 = .ok (.ldc 163, 2) := by decide +kernel
theorem dX12_site_54 : decode cX12_site 54 = .ok (.aload_n 0, 1) := by decide +kernel
theorem dX12_site_55 : decode cX12_site 55 = .ok (.iconst 5, 1) := by decide +kernel
theorem dX12_site_56 : decode cX12_site 56 = .ok (.invokevirtual 79, 3) := by decide +kernel
theorem dX12_site_59 : decode cX12_site 59 = .ok (.invokestatic 157, 3) := by decide +kernel
theorem dX12_site_62 : decode cX12_site 62 = .ok (.imul, 1) := by decide +kernel
theorem dX12_site_63 : decode cX12_site 63 = .ok (.aload_n 0, 1) := by decide +kernel
theorem dX12_site_64 : decode cX12_site 64 = .ok (.invokevirtual 160, 3) := by decide +kernel
theorem dX12_site_67 : decode cX12_site 67 = .ok (.iadd, 1) := by decide +kernel
theorem dX12_site_68 : decode cX12_site 68 = .ok (.istore 5, 2) := by decide +kernel
theorem dX12_site_70 : decode cX12_site 70 = .ok (.aload_n 0, 1) := by decide +kernel
theorem dX12_site_71 : decode cX12_site 71 = .ok (.iconst 0, 1) := by decide +kernel
theorem dX12_site_72 : decode cX12_site 72 = .ok (.aload_n 0, 1) := by decide +kernel
theorem dX12_site_73 : decode cX12_site 73 = .ok (.getfield 16, 3) := by decide +kernel
theorem dX12_site_76 : decode cX12_site 76 = .ok (.invokevirtual 143, 3) := by decide +kernel
theorem dX12_site_79 : decode cX12_site 79 = .ok (.iload_n 2, 1) := by decide +kernel
theorem dX12_site_80 : decode cX12_site 80 = .ok (.ifCond .lt 9, 3) := by decide +kernel
theorem dX12_site_83 : decode cX12_site 83 = .ok (.iload 5, 2) := by decide +kernel
theorem dX12_site_85 : decode cX12_site 85 = .ok (.iload_n 3, 1) := by decide +kernel
theorem dX12_site_86 : decode cX12_site 86 = .ok (.if_icmp .ge 7, 3) := by decide +kernel
theorem dX12_site_89 : decode cX12_site 89 = .ok (.iconst 1, 1) := by decide +kernel
theorem dX12_site_90 : decode cX12_site 90 = .ok (.goto 4, 3) := by decide +kernel
theorem dX12_site_93 : decode cX12_site 93 = .ok (.iconst 0, 1) := by decide +kernel
theorem dX12_site_94 : decode cX12_site 94 = .ok (.istore 6, 2) := by decide +kernel
theorem dX12_site_96 : decode cX12_site 96 = .ok (.iload 6, 2) := by decide +kernel
theorem dX12_site_98 : decode cX12_site 98 = .ok (.ifCond .eq 8, 3) := by decide +kernel
theorem dX12_site_101 : decode cX12_site 101 = .ok (.iload 4, 2) := by decide +kernel
theorem dX12_site_103 : decode cX12_site 103 = .ok (.goto 4, 3) := by decide +kernel
theorem dX12_site_106 : decode cX12_site 106 = .ok (.iload_n 2, 1) := by decide +kernel
theorem dX12_site_107 : decode cX12_site 107 = .ok (.istore_n 2, 1) := by decide +kernel
theorem dX12_site_108 : decode cX12_site 108 = .ok (.iload 6, 2) := by decide +kernel
theorem dX12_site_110 : decode cX12_site 110 = .ok (.ifCond .eq 8, 3) := by decide +kernel
theorem dX12_site_113 : decode cX12_site 113 = .ok (.iload 5, 2) := by decide +kernel
theorem dX12_site_115 : decode cX12_site 115 = .ok (.goto 4, 3) := by decide +kernel
theorem dX12_site_118 : decode cX12_site 118 = .ok (.iload_n 3, 1) := by decide +kernel
theorem dX12_site_119 : decode cX12_site 119 = .ok (.istore_n 3, 1) := by decide +kernel
theorem dX12_site_120 : decode cX12_site 120 = .ok (.iinc 4 1, 3) := by decide +kernel
theorem dX12_site_123 : decode cX12_site 123 = .ok (.goto (-90), 3) := by decide +kernel
theorem dX12_site_126 : decode cX12_site 126 = .ok (.iload_n 2, 1) := by decide +kernel
theorem dX12_site_127 : decode cX12_site 127 = .ok (.ireturn, 1) := by decide +kernel
theorem dX12_nearest_0 : decode cX12_nearest 0 = .ok (.iload_n 1, 1) := by decide +kernel
theorem dX12_nearest_1 : decode cX12_nearest 1 = .ok (.iconst 0, 1) := by decide +kernel
theorem dX12_nearest_2 : decode cX12_nearest 2 = .ok (.bipush 100, 2) := by decide +kernel
theorem dX12_nearest_4 : decode cX12_nearest 4 = .ok (.invokestatic 45, 3) := by decide +kernel
theorem dX12_nearest_7 : decode cX12_nearest 7 = .ok (.ifCond .ne 10, 3) := by decide +kernel
theorem dX12_nearest_10 : decode cX12_nearest 10 = .ok (.aload_n 0, 1) := by decide +kernel
theorem dX12_nearest_11 : decode cX12_nearest 11 = .ok (.ldc 44, 2) := by decide +kernel
theorem dX12_nearest_13 : decode cX12_nearest 13 = .ok (.invokevirtual 53, 3) := by decide +kernel
theorem dX12_nearest_16 : decode cX12_nearest 16 = .ok (.ireturn, 1) := by decide +kernel
theorem dX12_nearest_17 : decode cX12_nearest 17 = .ok (.aload_n 0, 1) := by decide +kernel
theorem dX12_nearest_18 : decode cX12_nearest 18 = .ok (.iconst 1, 1) := by decide +kernel
theorem dX12_nearest_19 : decode cX12_nearest 19 = .ok (.aload_n 0, 1) := by decide +kernel
theorem dX12_nearest_20 : decode cX12_nearest 20 = .ok (.getfield 16, 3) := by decide +kernel
theorem dX12_nearest_23 : decode cX12_nearest 23 = .ok (.invokevirtual 143, 3) := by decide +kernel
theorem dX12_nearest_26 : decode cX12_nearest 26 = .ok (.aload_n 0, 1) := by decide +kernel
theorem dX12_nearest_27 : decode cX12_nearest 27 = .ok (.iload_n 1, 1) := by decide +kernel
theorem dX12_nearest_28 : decode cX12_nearest 28 = .ok (.invokevirtual 140, 3) := by decide +kernel
theorem dX12_nearest_31 : decode cX12_nearest 31 = .ok (.iconst (-1), 1) := by decide +kernel
theorem dX12_nearest_32 : decode cX12_nearest 32 = .ok (.istore_n 2, 1) := by decide +kernel
theorem dX12_nearest_33 : decode cX12_nearest 33 = .ok (.iconst 0, 1) := by decide +kernel
theorem dX12_nearest_34 : decode cX12_nearest 34 = .ok (.istore_n 3, 1) := by decide +kernel
theorem dX12_nearest_35 : decode cX12_nearest 35 = .ok (.iload_n 3, 1) := by decide +kernel
theorem dX12_nearest_36 : decode cX12_nearest 36 = .ok (.aload_n 0, 1) := by decide +kernel
theorem dX12_nearest_37 : decode cX12_nearest 37 = .ok (.getfield 7, 3) := by decide +kernel
theorem dX12_nearest_40 : decode cX12_nearest 40 = .ok (.iconst 5, 1) := by decide +kernel
theorem dX12_nearest_41 : decode cX12_nearest 41 = .ok (.iaload, 1) := by decide +kernel
theorem dX12_nearest_42 : decode cX12_nearest 42 = .ok (.if_icmp .ge 34, 3) := by decide +kernel
theorem dX12_nearest_45 : decode cX12_nearest 45 = .ok (.iload_n 2, 1) := by decide +kernel
theorem dX12_nearest_46 : decode cX12_nearest 46 = .ok (.ifCond .lt 18, 3) := by decide +kernel
theorem dX12_nearest_49 : decode cX12_nearest 49 = .ok (.aload_n 0, 1) := by decide +kernel
theorem dX12_nearest_50 : decode cX12_nearest 50 = .ok (.iload_n 3, 1) := by decide +kernel
theorem dX12_nearest_51 : decode cX12_nearest 51 = .ok (.iconst 4, 1) := by decide +kernel
theorem dX12_nearest_52 : decode cX12_nearest 52 = .ok (.invokevirtual 69, 3) := by decide +kernel
theorem dX12_nearest_55 : decode cX12_nearest 55 = .ok (.aload_n 0, 1) := by decide +kernel
theorem dX12_nearest_56 : decode cX12_nearest 56 = .ok (.iload_n 2, 1) := by decide +kernel
theorem dX12_nearest_57 : decode cX12_nearest 57 = .ok (.iconst 4, 1) := by decide +kernel
theorem dX12_nearest_58 : decode cX12_nearest 58 = .ok (.invokevirtual 69, 3) := by decide +kernel
theorem dX12_nearest_61 : decode cX12_nearest 61 = .ok (.if_icmp .ge 7, 3) := by decide +kernel
theorem dX12_nearest_64 : decode cX12_nearest 64 = .ok (.iload_n 3, 1) := by decide +kernel
theorem dX12_nearest_65 : decode cX12_nearest 65 = .ok (.goto 4, 3) := by decide +kernel
theorem dX12_nearest_68 : decode cX12_nearest 68 = .ok (.iload_n 2, 1) := by decide +kernel
theorem dX12_nearest_69 : decode cX12_nearest 69 = .ok (.istore_n 2, 1) := by decide +kernel
theorem dX12_nearest_70 : decode cX12_nearest 70 = .ok (.iinc 3 1, 3) := by decide +kernel
theorem dX12_nearest_73 : decode cX12_nearest 73 = .ok (.goto (-38), 3) := by decide +kernel
theorem dX12_nearest_76 : decode cX12_nearest 76 = .ok (.aload_n 0, 1) := by decide +kernel
theorem dX12_nearest_77 : decode cX12_nearest 77 = .ok (.iconst 0, 1) := by decide +kernel
theorem dX12_nearest_78 : decode cX12_nearest 78 = .ok (.aload_n 0, 1) := by decide +kernel
theorem dX12_nearest_79 : decode cX12_nearest 79 = .ok (.getfield 16, 3) := by decide +kernel
theorem dX12_nearest_82 : decode cX12_nearest 82 = .ok (.invokevirtual 143, 3) := by decide +kernel
theorem dX12_nearest_85 : decode cX12_nearest 85 = .ok (.iload_n 2, 1) := by decide +kernel
theorem dX12_nearest_86 : decode cX12_nearest 86 = .ok (.ifCond .ge 12, 3) := by decide +kernel
theorem dX12_nearest_89 : decode cX12_nearest 89 = .ok (.aload_n 0, 1) := by decide +kernel
theorem dX12_nearest_90 : decode cX12_nearest 90 = .ok (.ldc 150, 2) := by decide +kernel
theorem dX12_nearest_92 : decode cX12_nearest 92 = .ok (.invokevirtual 53, 3) := by decide +kernel
theorem dX12_nearest_95 : decode cX12_nearest 95 = .ok (.goto 4, 3) := by decide +kernel
theorem dX12_nearest_98 : decode cX12_nearest 98 = .ok (.iload_n 2, 1) := by decide +kernel
theorem dX12_nearest_99 : decode cX12_nearest 99 = .ok (.ireturn, 1) := by decide +kernel
theorem dX12_feed_0 : decode cX12_feed 0 = .ok (.iload_n 2, 1) := by decide +kernel
theorem dX12_feed_1 : decode cX12_feed 1 = .ok (.iconst 1, 1) := by decide +kernel
theorem dX12_feed_2 : decode cX12_feed 2 = .ok (.iconst 4, 1) := by decide +kernel
theorem dX12_feed_3 : decode cX12_feed 3 = .ok (.invokestatic 45, 3) := by decide +kernel
theorem dX12_feed_6 : decode cX12_feed 6 = .ok (.ifCond .ne 10, 3) := by decide +kernel
theorem dX12_feed_9 : decode cX12_feed 9 = .ok (.aload_n 0, 1) := by decide +kernel
theorem dX12_feed_10 : decode cX12_feed 10 = .ok (.ldc 44, 2) := by decide +kernel
theorem dX12_feed_12 : decode cX12_feed 12 = .ok (.invokevirtual 53, 3) := by decide +kernel
theorem dX12_feed_15 : decode cX12_feed 15 = .ok (.ireturn, 1) := by decide +kernel
theorem dX12_feed_16 : decode cX12_feed 16 = .ok (.aload_n 0, 1) := by decide +kernel
theorem dX12_feed_17 : decode cX12_feed 17 = .ok (.getfield 164, 3) := by decide +kernel
theorem dX12_feed_20 : decode cX12_feed 20 = .ok (.iload_n 2, 1) := by decide +kernel
theorem dX12_feed_21 : decode cX12_feed 21 = .ok (.iadd, 1) := by decide +kernel
theorem dX12_feed_22 : decode cX12_feed 22 = .ok (.bipush 120, 2) := by decide +kernel
theorem dX12_feed_24 : decode cX12_feed 24 = .ok (.if_icmp .le 10, 3) := by decide +kernel
theorem dX12_feed_27 : decode cX12_feed 27 = .ok (.aload_n 0, 1) := by decide +kernel
theorem dX12_feed_28 : decode cX12_feed 28 = .ok (.ldc 95, 2) := by decide +kernel
theorem dX12_feed_30 : decode cX12_feed 30 = .ok (.invokevirtual 53, 3) := by decide +kernel
theorem dX12_feed_33 : decode cX12_feed 33 = .ok (.ireturn, 1) := by decide +kernel
theorem dX12_feed_34 : decode cX12_feed 34 = .ok (.iload_n 2, 1) := by decide +kernel
theorem dX12_feed_35 : decode cX12_feed 35 = .ok (.iconst 1, 1) := by decide +kernel
theorem dX12_feed_36 : decode cX12_feed 36 = .ok (.isub, 1) := by decide +kernel
theorem dX12_feed_37 : decode cX12_feed 37 = .ok (.istore_n 3, 1) := by decide +kernel
theorem dX12_feed_38 : decode cX12_feed 38 = .ok (.iload_n 3, 1) := by decide +kernel
theorem dX12_feed_39 : decode cX12_feed 39 = .ok (.ifCond .lt 38, 3) := by decide +kernel
theorem dX12_feed_42 : decode cX12_feed 42 = .ok (.aload_n 0, 1) := by decide +kernel
theorem dX12_feed_43 : decode cX12_feed 43 = .ok (.getfield 22, 3) := by decide +kernel
theorem dX12_feed_46 : decode cX12_feed 46 = .ok (.aload_n 0, 1) := by decide +kernel
theorem dX12_feed_47 : decode cX12_feed 47 = .ok (.getfield 164, 3) := by decide +kernel
theorem dX12_feed_50 : decode cX12_feed 50 = .ok (.iload_n 1, 1) := by decide +kernel
theorem dX12_feed_51 : decode cX12_feed 51 = .ok (.bipush 8, 2) := by decide +kernel
theorem dX12_feed_53 : decode cX12_feed 53 = .ok (.iload_n 3, 1) := by decide +kernel
theorem dX12_feed_54 : decode cX12_feed 54 = .ok (.imul, 1) := by decide +kernel
theorem dX12_feed_55 : decode cX12_feed 55 = .ok (.ishr, 1) := by decide +kernel
theorem dX12_feed_56 : decode cX12_feed 56 = .ok (.sipush 255, 3) := by decide +kernel
theorem dX12_feed_59 : decode cX12_feed 59 = .ok (.iand, 1) := by decide +kernel
theorem dX12_feed_60 : decode cX12_feed 60 = .ok (.iastore, 1) := by decide +kernel
theorem dX12_feed_61 : decode cX12_feed 61 = .ok (.aload_n 0, 1) := by decide +kernel
theorem dX12_feed_62 : decode cX12_feed 62 = .ok (.dup, 1) := by decide +kernel
theorem dX12_feed_63 : decode cX12_feed 63 = .ok (.getfield 164, 3) := by decide +kernel
theorem dX12_feed_66 : decode cX12_feed 66 = .ok (.iconst 1, 1) := by decide +kernel
theorem dX12_feed_67 : decode cX12_feed 67 = .ok (.iadd, 1) := by decide +kernel
theorem dX12_feed_68 : decode cX12_feed 68 = .ok (.putfield 164, 3) := by decide +kernel
theorem dX12_feed_71 : decode cX12_feed 71 = .ok (.iinc 3 (-1), 3) := by decide +kernel
theorem dX12_feed_74 : decode cX12_feed 74 = .ok (.goto (-36), 3) := by decide +kernel
theorem dX12_feed_77 : decode cX12_feed 77 = .ok (.aload_n 0, 1) := by decide +kernel
theorem dX12_feed_78 : decode cX12_feed 78 = .ok (.getfield 164, 3) := by decide +kernel
theorem dX12_feed_81 : decode cX12_feed 81 = .ok (.ireturn, 1) := by decide +kernel
theorem dX12_wipe_0 : decode cX12_wipe 0 = .ok (.aload_n 0, 1) := by decide +kernel
theorem dX12_wipe_1 : decode cX12_wipe 1 = .ok (.getfield 164, 3) := by decide +kernel
theorem dX12_wipe_4 : decode cX12_wipe 4 = .ok (.istore_n 1, 1) := by decide +kernel
theorem dX12_wipe_5 : decode cX12_wipe 5 = .ok (.aload_n 0, 1) := by decide +kernel
theorem dX12_wipe_6 : decode cX12_wipe 6 = .ok (.iconst 0, 1) := by decide +kernel
theorem dX12_wipe_7 : decode cX12_wipe 7 = .ok (.putfield 164, 3) := by decide +kernel
theorem dX12_wipe_10 : decode cX12_wipe 10 = .ok (.iload_n 1, 1) := by decide +kernel
theorem dX12_wipe_11 : decode cX12_wipe 11 = .ok (.ireturn, 1) := by decide +kernel
theorem dX12_byteAt_0 : decode cX12_byteAt 0 = .ok (.iload_n 1, 1) := by decide +kernel
theorem dX12_byteAt_1 : decode cX12_byteAt 1 = .ok (.aload_n 0, 1) := by decide +kernel
theorem dX12_byteAt_2 : decode cX12_byteAt 2 = .ok (.getfield 164, 3) := by decide +kernel
theorem dX12_byteAt_5 : decode cX12_byteAt 5 = .ok (.if_icmp .ge 12, 3) := by decide +kernel
theorem dX12_byteAt_8 : decode cX12_byteAt 8 = .ok (.aload_n 0, 1) := by decide +kernel
theorem dX12_byteAt_9 : decode cX12_byteAt 9 = .ok (.getfield 22, 3) := by decide +kernel
theorem dX12_byteAt_12 : decode cX12_byteAt 12 = .ok (.iload_n 1, 1) := by decide +kernel
theorem dX12_byteAt_13 : decode cX12_byteAt 13 = .ok (.iaload, 1) := by decide +kernel
theorem dX12_byteAt_14 : decode cX12_byteAt 14 = .ok (.goto 4, 3) := by decide +kernel
theorem dX12_byteAt_17 : decode cX12_byteAt 17 = .ok (.iconst (-1), 1) := by decide +kernel
theorem dX12_byteAt_18 : decode cX12_byteAt 18 = .ok (.ireturn, 1) := by decide +kernel
theorem dX12_isLetter_0 : decode cX12_isLetter 0 = .ok (.iload_n 0, 1) := by decide +kernel
theorem dX12_isLetter_1 : decode cX12_isLetter 1 = .ok (.bipush 97, 2) := by decide +kernel
theorem dX12_isLetter_3 : decode cX12_isLetter 3 = .ok (.bipush 122, 2) := by decide +kernel
theorem dX12_isLetter_5 : decode cX12_isLetter 5 = .ok (.invokestatic 45, 3) := by decide +kernel
theorem dX12_isLetter_8 : decode cX12_isLetter 8 = .ok (.ireturn, 1) := by decide +kernel
theorem dX12_isDigit_0 : decode cX12_isDigit 0 = .ok (.iload_n 0, 1) := by decide +kernel
theorem dX12_isDigit_1 : decode cX12_isDigit 1 = .ok (.bipush 48, 2) := by decide +kernel
theorem dX12_isDigit_3 : decode cX12_isDigit 3 = .ok (.bipush 57, 2) := by decide +kernel
theorem dX12_isDigit_5 : decode cX12_isDigit 5 = .ok (.invokestatic 45, 3) := by decide +kernel
theorem dX12_isDigit_8 : decode cX12_isDigit 8 = .ok (.ireturn, 1) := by decide +kernel
theorem dX12_advance_0 : decode cX12_advance 0 = .ok (.aload_n 0, 1) := by decide +kernel
theorem dX12_advance_1 : decode cX12_advance 1 = .ok (.aload_n 0, 1) := by decide +kernel
theorem dX12_advance_2 : decode cX12_advance 2 = .ok (.getfield 168, 3) := by decide +kernel
theorem dX12_advance_5 : decode cX12_advance 5 = .ok (.putfield 171, 3) := by decide +kernel
theorem dX12_advance_8 : decode cX12_advance 8 = .ok (.aload_n 0, 1) := by decide +kernel
theorem dX12_advance_9 : decode cX12_advance 9 = .ok (.aload_n 0, 1) := by decide +kernel
theorem dX12_advance_10 : decode cX12_advance 10 = .ok (.getfield 171, 3) := by decide +kernel
theorem dX12_advance_13 : decode cX12_advance 13 = .ok (.invokevirtual 174, 3) := by decide +kernel
theorem dX12_advance_16 : decode cX12_advance 16 = .ok (.bipush 32, 2) := by decide +kernel
theorem dX12_advance_18 : decode cX12_advance 18 = .ok (.if_icmp .ne 16, 3) := by decide +kernel
theorem dX12_advance_21 : decode cX12_advance 21 = .ok (.aload_n 0, 1) := by decide +kernel
theorem dX12_advance_22 : decode cX12_advance 22 = .ok (.dup, 1) := by decide +kernel
theorem dX12_advance_23 : decode cX12_advance 23 = .ok (.getfield 171, 3) := by decide +kernel
theorem dX12_advance_26 : decode cX12_advance 26 = .ok (.iconst 1, 1) := by decide +kernel
theorem dX12_advance_27 : decode cX12_advance 27 = .ok (.iadd, 1) := by decide +kernel
theorem dX12_advance_28 : decode cX12_advance 28 = .ok (.putfield 171, 3) := by decide +kernel
theorem dX12_advance_31 : decode cX12_advance 31 = .ok (.goto (-23), 3) := by decide +kernel
theorem dX12_advance_34 : decode cX12_advance 34 = .ok (.aload_n 0, 1) := by decide +kernel
theorem dX12_advance_35 : decode cX12_advance 35 = .ok (.aload_n 0, 1) := by decide +kernel
theorem dX12_advance_36 : decode cX12_advance 36 = .ok (.getfield 171, 3) := by decide +kernel
theorem dX12_advance_39 : decode cX12_advance 39 = .ok (.putfield 168, 3) := by decide +kernel
theorem dX12_advance_42 : decode cX12_advance 42 = .ok (.aload_n 0, 1) := by decide +kernel
theorem dX12_advance_43 : decode cX12_advance 43 = .ok (.aload_n 0, 1) := by decide +kernel
theorem dX12_advance_44 : decode cX12_advance 44 = .ok (.getfield 171, 3) := by decide +kernel
theorem dX12_advance_47 : decode cX12_advance 47 = .ok (.invokevirtual 174, 3) := by decide +kernel
theorem dX12_advance_50 : decode cX12_advance 50 = .ok (.istore_n 1, 1) := by decide +kernel
theorem dX12_advance_51 : decode cX12_advance 51 = .ok (.aload_n 0, 1) := by decide +kernel
theorem dX12_advance_52 : decode cX12_advance 52 = .ok (.iload_n 1, 1) := by decide +kernel
theorem dX12_advance_53 : decode cX12_advance 53 = .ok (.ifCond .ge 7, 3) := by decide +kernel
theorem dX12_advance_56 : decode cX12_advance 56 = .ok (.iconst 0, 1) := by decide +kernel
theorem dX12_advance_57 : decode cX12_advance 57 = .ok (.goto 26, 3) := by decide +kernel
theorem dX12_advance_60 : decode cX12_advance 60 = .ok (.iload_n 1, 1) := by decide +kernel
theorem dX12_advance_61 : decode cX12_advance 61 = .ok (.invokestatic 177, 3) := by decide +kernel
theorem dX12_advance_64 : decode cX12_advance 64 = .ok (.ifCond .eq 7, 3) := by decide +kernel
theorem dX12_advance_67 : decode cX12_advance 67 = .ok (.iconst 1, 1) := by decide +kernel
theorem dX12_advance_68 : decode cX12_advance 68 = .ok (.goto 15, 3) := by decide +kernel
theorem dX12_advance_71 : decode cX12_advance 71 = .ok (.iload_n 1, 1) := by decide +kernel
theorem dX12_advance_72 : decode cX12_advance 72 = .ok (.invokestatic 180, 3) := by decide +kernel
theorem dX12_advance_75 : decode cX12_advance 75 = .ok (.ifCond .eq 7, 3) := by decide +kernel
theorem dX12_advance_78 : decode cX12_advance 78 = .ok (.iconst 2, 1) := by decide +kernel
theorem dX12_advance_79 : decode cX12_advance 79 = .ok (.goto 4, 3) := by decide +kernel
theorem dX12_advance_82 : decode cX12_advance 82 = .ok (.iconst 3, 1) := by decide +kernel
theorem dX12_advance_83 : decode cX12_advance 83 = .ok (.putfield 183, 3) := by decide +kernel
theorem dX12_advance_86 : decode cX12_advance 86 = .ok (.aload_n 0, 1) := by decide +kernel
theorem dX12_advance_87 : decode cX12_advance 87 = .ok (.lconst 0, 1) := by decide +kernel
theorem dX12_advance_88 : decode cX12_advance 88 = .ok (.putfield 186, 3) := by decide +kernel
theorem dX12_advance_91 : decode cX12_advance 91 = .ok (.aload_n 0, 1) := by decide +kernel
theorem dX12_advance_92 : decode cX12_advance 92 = .ok (.aload_n 0, 1) := by decide +kernel
theorem dX12_advance_93 : decode cX12_advance 93 = .ok (.getfield 183, 3) := by decide +kernel
theorem dX12_advance_96 : decode cX12_advance 96 = .ok (.iconst 2, 1) := by decide +kernel
theorem dX12_advance_97 : decode cX12_advance 97 = .ok (.if_icmp .ne 7, 3) := by decide +kernel
theorem dX12_advance_100 : decode cX12_advance 100 = .ok (.iconst 0, 1) := by decide +kernel
theorem dX12_advance_101 : decode cX12_advance 101 = .ok (.goto 4, 3) := by decide +kernel
theorem dX12_advance_104 : decode cX12_advance 104 = .ok (.iload_n 1, 1) := by decide +kernel
theorem dX12_advance_105 : decode cX12_advance 105 = .ok (.putfield 190, 3) := by decide +kernel
theorem dX12_advance_108 : decode cX12_advance 108 = .ok (.aload_n 0, 1) := by decide +kernel
theorem dX12_advance_109 : decode cX12_advance 109 = .ok (.getfield 183, 3) := by decide +kernel
theorem dX12_advance_112 : decode cX12_advance 112 = .ok (.iconst 3, 1) := by decide +kernel
theorem dX12_advance_113 : decode cX12_advance 113 = .ok (.if_icmp .ne 13, 3) := by decide +kernel
theorem dX12_advance_116 : decode cX12_advance 116 = .ok (.aload_n 0, 1) := by decide +kernel
theorem dX12_advance_117 : decode cX12_advance 117 = .ok (.dup, 1) := by decide +kernel
theorem dX12_advance_118 : decode cX12_advance 118 = .ok (.getfield 168, 3) := by decide +kernel
theorem dX12_advance_121 : decode cX12_advance 121 = .ok (.iconst 1, 1) := by decide +kernel
theorem dX12_advance_122 : decode cX12_advance 122 = .ok (.iadd, 1) := by decide +kernel
theorem dX12_advance_123 : decode cX12_advance 123 = .ok (.putfield 168, 3) := by decide +kernel
theorem dX12_advance_126 : decode cX12_advance 126 = .ok (.aload_n 0, 1) := by decide +kernel
theorem dX12_advance_127 : decode cX12_advance 127 = .ok (.getfield 183, 3) := by decide +kernel
theorem dX12_advance_130 : decode cX12_advance 130 = .ok (.iconst 1, 1) := by decide +kernel
theorem dX12_advance_131 : decode cX12_advance 131 = .ok (.if_icmp .ne 76, 3) := by decide +kernel
theorem dX12_advance_134 : decode cX12_advance 134 = .ok (.aload_n 0, 1) := by decide +kernel
theorem dX12_advance_135 : decode cX12_advance 135 = .ok (.aload_n 0, 1) := by decide +kernel
theorem dX12_advance_136 : decode cX12_advance 136 = .ok (.getfield 168, 3) := by decide +kernel
theorem dX12_advance_139 : decode cX12_advance 139 = .ok (.invokevirtual 174, 3) := by decide +kernel
theorem dX12_advance_142 : decode cX12_advance 142 = .ok (.invokestatic 177, 3) := by decide +kernel
theorem dX12_advance_145 : decode cX12_advance 145 = .ok (.ifCond .eq 62, 3) := by decide +kernel
theorem dX12_advance_148 : decode cX12_advance 148 = .ok (.aload_n 0, 1) := by decide +kernel
theorem dX12_advance_149 : decode cX12_advance 149 = .ok (.aload_n 0, 1) := by decide +kernel
theorem dX12_advance_150 : decode cX12_advance 150 = .ok (.getfield 168, 3) := by decide +kernel
theorem dX12_advance_153 : decode cX12_advance 153 = .ok (.aload_n 0, 1) := by decide +kernel
theorem dX12_advance_154 : decode cX12_advance 154 = .ok (.getfield 171, 3) := by decide +kernel
theorem dX12_advance_157 : decode cX12_advance 157 = .ok (.isub, 1) := by decide +kernel
theorem dX12_advance_158 : decode cX12_advance 158 = .ok (.bipush 12, 2) := by decide +kernel
theorem dX12_advance_160 : decode cX12_advance 160 = .ok (.if_icmp .ge 28, 3) := by decide +kernel
theorem dX12_advance_163 : decode cX12_advance 163 = .ok (.ldc2_w 193, 3) := by decide +kernel
theorem dX12_advance_166 : decode cX12_advance 166 = .ok (.aload_n 0, 1) := by decide +kernel
theorem dX12_advance_167 : decode cX12_advance 167 = .ok (.getfield 186, 3) := by decide +kernel
theorem dX12_advance_170 : decode cX12_advance 170 = .ok (.lmul, 1) := by decide +kernel
theorem dX12_advance_171 : decode cX12_advance 171 = .ok (.aload_n 0, 1) := by decide +kernel
theorem dX12_advance_172 : decode cX12_advance 172 = .ok (.aload_n 0, 1) := by decide +kernel
theorem dX12_advance_173 : decode cX12_advance 173 = .ok (.getfield 168, 3) := by decide +kernel
theorem dX12_advance_176 : decode cX12_advance 176 = .ok (.invokevirtual 174, 3) := by decide +kernel
theorem dX12_advance_179 : decode cX12_advance 179 = .ok (.i2l, 1) := by decide +kernel
theorem dX12_advance_180 : decode cX12_advance 180 = .ok (.ladd, 1) := by decide +kernel
theorem dX12_advance_181 : decode cX12_advance 181 = .ok (.ldc2_w 195, 3) := by decide +kernel
theorem dX12_advance_184 : decode cX12_advance 184 = .ok (.lsub, 1) := by decide +kernel
theorem dX12_advance_185 : decode cX12_advance 185 = .ok (.goto 6, 3) := by decide +kernel
theorem dX12_advance_188 : decode cX12_advance 188 = .ok (.ldc2_w 197, 3) := by decide +kernel
theorem dX12_advance_191 : decode cX12_advance 191 = .ok (.putfield 186, 3) := by decide +kernel
theorem dX12_advance_194 : decode cX12_advance 194 = .ok (.aload_n 0, 1) := by decide +kernel
theorem dX12_advance_195 : decode cX12_advance 195 = .ok (.dup, 1) := by decide +kernel
theorem dX12_advance_196 : decode cX12_advance 196 = .ok (.getfield 168, 3) := by decide +kernel
theorem dX12_advance_199 : decode cX12_advance 199 = .ok (.iconst 1, 1) := by decide +kernel
theorem dX12_advance_200 : decode cX12_advance 200 = .ok (.iadd, 1) := by decide +kernel
theorem dX12_advance_201 : decode cX12_advance 201 = .ok (.putfield 168, 3) := by decide +kernel
theorem dX12_advance_204 : decode cX12_advance 204 = .ok (.goto (-78), 3) := by decide +kernel
theorem dX12_advance_207 : decode cX12_advance 207 = .ok (.aload_n 0, 1) := by decide +kernel
theorem dX12_advance_208 : decode cX12_advance 208 = .ok (.getfield 183, 3) := by decide +kernel
theorem dX12_advance_211 : decode cX12_advance 211 = .ok (.iconst 2, 1) := by decide +kernel
theorem dX12_advance_212 : decode cX12_advance 212 = .ok (.if_icmp .ne 69, 3) := by decide +kernel
theorem dX12_advance_215 : decode cX12_advance 215 = .ok (.aload_n 0, 1) := by decide +kernel
theorem dX12_advance_216 : decode cX12_advance 216 = .ok (.aload_n 0, 1) := by decide +kernel
theorem dX12_advance_217 : decode cX12_advance 217 = .ok (.getfield 168, 3) := by decide +kernel
theorem dX12_advance_220 : decode cX12_advance 220 = .ok (.invokevirtual 174, 3) := by decide +kernel
theorem dX12_advance_223 : decode cX12_advance 223 = .ok (.invokestatic 180, 3) := by decide +kernel
theorem dX12_advance_226 : decode cX12_advance 226 = .ok (.ifCond .eq 55, 3) := by decide +kernel
theorem dX12_advance_229 : decode cX12_advance 229 = .ok (.aload_n 0, 1) := by decide +kernel
theorem dX12_advance_230 : decode cX12_advance 230 = .ok (.aload_n 0, 1) := by decide +kernel
theorem dX12_advance_231 : decode cX12_advance 231 = .ok (.getfield 190, 3) := by decide +kernel
theorem dX12_advance_234 : decode cX12_advance 234 = .ok (.sipush 999, 3) := by decide +kernel
theorem dX12_advance_237 : decode cX12_advance 237 = .ok (.if_icmp .le 9, 3) := by decide +kernel
theorem dX12_advance_240 : decode cX12_advance 240 = .ok (.sipush 10000, 3) := by decide +kernel
theorem dX12_advance_243 : decode cX12_advance 243 = .ok (.goto 22, 3) := by decide +kernel
theorem dX12_advance_246 : decode cX12_advance 246 = .ok (.bipush 10, 2) := by decide +kernel
theorem dX12_advance_248 : decode cX12_advance 248 = .ok (.aload_n 0, 1) := by decide +kernel
theorem dX12_advance_249 : decode cX12_advance 249 = .ok (.getfield 190, 3) := by decide +kernel
theorem dX12_advance_252 : decode cX12_advance 252 = .ok (.imul, 1) := by decide +kernel
theorem dX12_advance_253 : decode cX12_advance 253 = .ok (.aload_n 0, 1) := by decide +kernel
theorem dX12_advance_254 : decode cX12_advance 254 = .ok (.aload_n 0, 1) := by decide +kernel
theorem dX12_advance_255 : decode cX12_advance 255 = .ok (.getfield 168, 3) := by decide +kernel
theorem dX12_advance_258 : decode cX12_advance 258 = .ok (.invokevirtual 174, 3) := by decide +kernel
theorem dX12_advance_261 : decode cX12_advance 261 = .ok (.iadd, 1) := by decide +kernel
theorem dX12_advance_262 : decode cX12_advance 262 = .ok (.bipush 48, 2) := by decide +kernel
theorem dX12_advance_264 : decode cX12_advance 264 = .ok (.isub, 1) := by decide +kernel
theorem dX12_advance_265 : decode cX12_advance 265 = .ok (.putfield 190, 3) := by decide +kernel
theorem dX12_advance_268 : decode cX12_advance 268 = .ok (.aload_n 0, 1) := by decide +kernel
theorem dX12_advance_269 : decode cX12_advance 269 = .ok (.dup, 1) := by decide +kernel
theorem dX12_advance_270 : decode cX12_advance 270 = .ok (.getfield 168, 3) := by decide +kernel
theorem dX12_advance_273 : decode cX12_advance 273 = .ok (.iconst 1, 1) := by decide +kernel
theorem dX12_advance_274 : decode cX12_advance 274 = .ok (.iadd, 1) := by decide +kernel
theorem dX12_advance_275 : decode cX12_advance 275 = .ok (.putfield 168, 3) := by decide +kernel
theorem dX12_advance_278 : decode cX12_advance 278 = .ok (.goto (-71), 3) := by decide +kernel
theorem dX12_advance_281 : decode cX12_advance 281 = .ok (.return_, 1) := by decide +kernel
theorem dX12_isWord_0 : decode cX12_isWord 0 = .ok (.aload_n 0, 1) := by decide +kernel
theorem dX12_isWord_1 : decode cX12_isWord 1 = .ok (.getfield 183, 3) := by decide +kernel
theorem dX12_isWord_4 : decode cX12_isWord 4 = .ok (.iconst 1, 1) := by decide +kernel
theorem dX12_isWord_5 : decode cX12_isWord 5 = .ok (.if_icmp .ne 16, 3) := by decide +kernel
theorem dX12_isWord_8 : decode cX12_isWord 8 = .ok (.aload_n 0, 1) := by decide +kernel
theorem dX12_isWord_9 : decode cX12_isWord 9 = .ok (.getfield 186, 3) := by decide +kernel
theorem dX12_isWord_12 : decode cX12_isWord 12 = .ok (.lload_n 1, 1) := by decide +kernel
theorem dX12_isWord_13 : decode cX12_isWord 13 = .ok (.lcmp, 1) := by decide +kernel
theorem dX12_isWord_14 : decode cX12_isWord 14 = .ok (.ifCond .ne 7, 3) := by decide +kernel
theorem dX12_isWord_17 : decode cX12_isWord 17 = .ok (.iconst 1, 1) := by decide +kernel
theorem dX12_isWord_18 : decode cX12_isWord 18 = .ok (.goto 4, 3) := by decide +kernel
theorem dX12_isWord_21 : decode cX12_isWord 21 = .ok (.iconst 0, 1) := by decide +kernel
theorem dX12_isWord_22 : decode cX12_isWord 22 = .ok (.ireturn, 1) := by decide +kernel
theorem dX12_kindHere_0 : decode cX12_kindHere 0 = .ok (.aload_n 0, 1) := by decide +kernel
theorem dX12_kindHere_1 : decode cX12_kindHere 1 = .ok (.ldc2_w 199, 3) := by decide +kernel
theorem dX12_kindHere_4 : decode cX12_kindHere 4 = .ok (.invokevirtual 201, 3) := by decide +kernel
theorem dX12_kindHere_7 : decode cX12_kindHere 7 = .ok (.ifCond .eq 7, 3) := by decide +kernel
theorem dX12_kindHere_10 : decode cX12_kindHere 10 = .ok (.iconst 0, 1) := by decide +kernel
theorem dX12_kindHere_11 : decode cX12_kindHere 11 = .ok (.goto 74, 3) := by decide +kernel
theorem dX12_kindHere_14 : decode cX12_kindHere 14 = .ok (.aload_n 0, 1) := by decide +kernel
theorem dX12_kindHere_15 : decode cX12_kindHere 15 = .ok (.ldc2_w 205, 3) := by decide +kernel
theorem dX12_kindHere_18 : decode cX12_kindHere 18 = .ok (.invokevirtual 201, 3) := by decide +kernel
theorem dX12_kindHere_21 : decode cX12_kindHere 21 = .ok (.ifCond .eq 7, 3) := by decide +kernel
theorem dX12_kindHere_24 : decode cX12_kindHere 24 = .ok (.iconst 1, 1) := by decide +kernel
theorem dX12_kindHere_25 : decode cX12_kindHere 25 = .ok (.goto 60, 3) := by decide +kernel
theorem dX12_kindHere_28 : decode cX12_kindHere 28 = .ok (.aload_n 0, 1) := by decide +kernel
theorem dX12_kindHere_29 : decode cX12_kindHere 29 = .ok (.ldc2_w 207, 3) := by decide +kernel
theorem dX12_kindHere_32 : decode cX12_kindHere 32 = .ok (.invokevirtual 201, 3) := by decide +kernel
theorem dX12_kindHere_35 : decode cX12_kindHere 35 = .ok (.ifCond .eq 7, 3) := by decide +kernel
theorem dX12_kindHere_38 : decode cX12_kindHere 38 = .ok (.iconst 2, 1) := by decide +kernel
theorem dX12_kindHere_39 : decode cX12_kindHere 39 = .ok (.goto 46, 3) := by decide +kernel
theorem dX12_kindHere_42 : decode cX12_kindHere 42 = .ok (.aload_n 0, 1) := by decide +kernel
theorem dX12_kindHere_43 : decode cX12_kindHere 43 = .ok (.ldc2_w 209, 3) := by decide +kernel
theorem dX12_kindHere_46 : decode cX12_kindHere 46 = .ok (.invokevirtual 201, 3) := by decide +kernel
theorem dX12_kindHere_49 : decode cX12_kindHere 49 = .ok (.ifCond .eq 7, 3) := by decide +kernel
theorem dX12_kindHere_52 : decode cX12_kindHere 52 = .ok (.iconst 3, 1) := by decide +kernel
theorem dX12_kindHere_53 : decode cX12_kindHere 53 = .ok (.goto 32, 3) := by decide +kernel
theorem dX12_kindHere_56 : decode cX12_kindHere 56 = .ok (.aload_n 0, 1) := by decide +kernel
theorem dX12_kindHere_57 : decode cX12_kindHere 57 = .ok (.ldc2_w 211, 3) := by decide +kernel
theorem dX12_kindHere_60 : decode cX12_kindHere 60 = .ok (.invokevirtual 201, 3) := by decide +kernel
theorem dX12_kindHere_63 : decode cX12_kindHere 63 = .ok (.ifCond .eq 7, 3) := by decide +kernel
theorem dX12_kindHere_66 : decode cX12_kindHere 66 = .ok (.iconst 4, 1) := by decide +kernel
theorem dX12_kindHere_67 : decode cX12_kindHere 67 = .ok (.goto 18, 3) := by decide +kernel
theorem dX12_kindHere_70 : decode cX12_kindHere 70 = .ok (.aload_n 0, 1) := by decide +kernel
theorem dX12_kindHere_71 : decode cX12_kindHere 71 = .ok (.ldc2_w 213, 3) := by decide +kernel
theorem dX12_kindHere_74 : decode cX12_kindHere 74 = .ok (.invokevirtual 201, 3) := by decide +kernel
theorem dX12_kindHere_77 : decode cX12_kindHere 77 = .ok (.ifCond .eq 7, 3) := by decide +kernel
theorem dX12_kindHere_80 : decode cX12_kindHere 80 = .ok (.iconst 5, 1) := by decide +kernel
theorem dX12_kindHere_81 : decode cX12_kindHere 81 = .ok (.goto 4, 3) := by decide +kernel
theorem dX12_kindHere_84 : decode cX12_kindHere 84 = .ok (.iconst (-1), 1) := by decide +kernel
theorem dX12_kindHere_85 : decode cX12_kindHere 85 = .ok (.ireturn, 1) := by decide +kernel
theorem dX12_wantNumber_0 : decode cX12_wantNumber 0 = .ok (.aload_n 0, 1) := by decide +kernel
theorem dX12_wantNumber_1 : decode cX12_wantNumber 1 = .ok (.getfield 190, 3) := by decide +kernel
theorem dX12_wantNumber_4 : decode cX12_wantNumber 4 = .ok (.istore_n 3, 1) := by decide +kernel
theorem dX12_wantNumber_5 : decode cX12_wantNumber 5 = .ok (.aload_n 0, 1) := by decide +kernel
theorem dX12_wantNumber_6 : decode cX12_wantNumber 6 = .ok (.aload_n 0, 1) := by decide +kernel
theorem dX12_wantNumber_7 : decode cX12_wantNumber 7 = .ok (.getfield 215, 3) := by decide +kernel
theorem dX12_wantNumber_10 : decode cX12_wantNumber 10 = .ok (.ifCond .eq 24, 3) := by decide +kernel
theorem dX12_wantNumber_13 : decode cX12_wantNumber 13 = .ok (.aload_n 0, 1) := by decide +kernel
theorem dX12_wantNumber_14 : decode cX12_wantNumber 14 = .ok (.getfield 183, 3) := by decide +kernel
theorem dX12_wantNumber_17 : decode cX12_wantNumber 17 = .ok (.iconst 2, 1) := by decide +kernel
theorem dX12_wantNumber_18 : decode cX12_wantNumber 18 = .ok (.if_icmp .ne 16, 3) := by decide +kernel
theorem dX12_wantNumber_21 : decode cX12_wantNumber 21 = .ok (.iload_n 3, 1) := by decide +kernel
theorem dX12_wantNumber_22 : decode cX12_wantNumber 22 = .ok (.iload_n 1, 1) := by decide +kernel
theorem dX12_wantNumber_23 : decode cX12_wantNumber 23 = .ok (.iload_n 2, 1) := by decide +kernel
theorem dX12_wantNumber_24 : decode cX12_wantNumber 24 = .ok (.invokestatic 45, 3) := by decide +kernel
theorem dX12_wantNumber_27 : decode cX12_wantNumber 27 = .ok (.ifCond .eq 7, 3) := by decide +kernel
theorem dX12_wantNumber_30 : decode cX12_wantNumber 30 = .ok (.iconst 1, 1) := by decide +kernel
theorem dX12_wantNumber_31 : decode cX12_wantNumber 31 = .ok (.goto 4, 3) := by decide +kernel
theorem dX12_wantNumber_34 : decode cX12_wantNumber 34 = .ok (.iconst 0, 1) := by decide +kernel
theorem dX12_wantNumber_35 : decode cX12_wantNumber 35 = .ok (.putfield 215, 3) := by decide +kernel
theorem dX12_wantNumber_38 : decode cX12_wantNumber 38 = .ok (.aload_n 0, 1) := by decide +kernel
theorem dX12_wantNumber_39 : decode cX12_wantNumber 39 = .ok (.getfield 215, 3) := by decide +kernel
theorem dX12_wantNumber_42 : decode cX12_wantNumber 42 = .ok (.ifCond .eq 7, 3) := by decide +kernel
theorem dX12_wantNumber_45 : decode cX12_wantNumber 45 = .ok (.aload_n 0, 1) := by decide +kernel
theorem dX12_wantNumber_46 : decode cX12_wantNumber 46 = .ok (.invokevirtual 219, 3) := by decide +kernel
theorem dX12_wantNumber_49 : decode cX12_wantNumber 49 = .ok (.iload_n 3, 1) := by decide +kernel
theorem dX12_wantNumber_50 : decode cX12_wantNumber 50 = .ok (.ireturn, 1) := by decide +kernel
theorem dX12_mayWant_0 : decode cX12_mayWant 0 = .ok (.aload_n 0, 1) := by decide +kernel
theorem dX12_mayWant_1 : decode cX12_mayWant 1 = .ok (.getfield 215, 3) := by decide +kernel
theorem dX12_mayWant_4 : decode cX12_mayWant 4 = .ok (.ifCond .eq 11, 3) := by decide +kernel
theorem dX12_mayWant_7 : decode cX12_mayWant 7 = .ok (.aload_n 0, 1) := by decide +kernel
theorem dX12_mayWant_8 : decode cX12_mayWant 8 = .ok (.lload_n 1, 1) := by decide +kernel
theorem dX12_mayWant_9 : decode cX12_mayWant 9 = .ok (.invokevirtual 201, 3) := by decide +kernel
theorem dX12_mayWant_12 : decode cX12_mayWant 12 = .ok (.ifCond .ne 6, 3) := by decide +kernel
theorem dX12_mayWant_15 : decode cX12_mayWant 15 = .ok (.iload 5, 2) := by decide +kernel
theorem dX12_mayWant_17 : decode cX12_mayWant 17 = .ok (.ireturn, 1) := by decide +kernel
theorem dX12_mayWant_18 : decode cX12_mayWant 18 = .ok (.aload_n 0, 1) := by decide +kernel
theorem dX12_mayWant_19 : decode cX12_mayWant 19 = .ok (.invokevirtual 219, 3) := by decide +kernel
theorem dX12_mayWant_22 : decode cX12_mayWant 22 = .ok (.aload_n 0, 1) := by decide +kernel
theorem dX12_mayWant_23 : decode cX12_mayWant 23 = .ok (.iload_n 3, 1) := by decide +kernel
theorem dX12_mayWant_24 : decode cX12_mayWant 24 = .ok (.iload 4, 2) := by decide +kernel
theorem dX12_mayWant_26 : decode cX12_mayWant 26 = .ok (.invokevirtual 222, 3) := by decide +kernel
theorem dX12_mayWant_29 : decode cX12_mayWant 29 = .ok (.ireturn, 1) := by decide +kernel
theorem dX12_wantOne_0 : decode cX12_wantOne 0 = .ok (.aload_n 0, 1) := by decide +kernel
theorem dX12_wantOne_1 : decode cX12_wantOne 1 = .ok (.aload_n 0, 1) := by decide +kernel
theorem dX12_wantOne_2 : decode cX12_wantOne 2 = .ok (.getfield 7, 3) := by decide +kernel
theorem dX12_wantOne_5 : decode cX12_wantOne 5 = .ok (.iconst 5, 1) := by decide +kernel
theorem dX12_wantOne_6 : decode cX12_wantOne 6 = .ok (.iaload, 1) := by decide +kernel
theorem dX12_wantOne_7 : decode cX12_wantOne 7 = .ok (.bipush 6, 2) := by decide +kernel
theorem dX12_wantOne_9 : decode cX12_wantOne 9 = .ok (.if_icmp .ge 7, 3) := by decide +kernel
theorem dX12_wantOne_12 : decode cX12_wantOne 12 = .ok (.iconst 1, 1) := by decide +kernel
theorem dX12_wantOne_13 : decode cX12_wantOne 13 = .ok (.goto 4, 3) := by decide +kernel
theorem dX12_wantOne_16 : decode cX12_wantOne 16 = .ok (.iconst 0, 1) := by decide +kernel
theorem dX12_wantOne_17 : decode cX12_wantOne 17 = .ok (.putfield 215, 3) := by decide +kernel
theorem dX12_wantOne_20 : decode cX12_wantOne 20 = .ok (.aload_n 0, 1) := by decide +kernel
theorem dX12_wantOne_21 : decode cX12_wantOne 21 = .ok (.getfield 215, 3) := by decide +kernel
theorem dX12_wantOne_24 : decode cX12_wantOne 24 = .ok (.ifCond .ne 4, 3) := by decide +kernel
theorem dX12_wantOne_27 : decode cX12_wantOne 27 = .ok (.return_, 1) := by decide +kernel
theorem dX12_wantOne_28 : decode cX12_wantOne 28 = .ok (.aload_n 0, 1) := by decide +kernel
theorem dX12_wantOne_29 : decode cX12_wantOne 29 = .ok (.invokevirtual 219, 3) := by decide +kernel
theorem dX12_wantOne_32 : decode cX12_wantOne 32 = .ok (.aload_n 0, 1) := by decide +kernel
theorem dX12_wantOne_33 : decode cX12_wantOne 33 = .ok (.iconst 0, 1) := by decide +kernel
theorem dX12_wantOne_34 : decode cX12_wantOne 34 = .ok (.bipush 9, 2) := by decide +kernel
theorem dX12_wantOne_36 : decode cX12_wantOne 36 = .ok (.invokevirtual 222, 3) := by decide +kernel
theorem dX12_wantOne_39 : decode cX12_wantOne 39 = .ok (.istore_n 2, 1) := by decide +kernel
theorem dX12_wantOne_40 : decode cX12_wantOne 40 = .ok (.aload_n 0, 1) := by decide +kernel
theorem dX12_wantOne_41 : decode cX12_wantOne 41 = .ok (.ldc2_w 225, 3) := by decide +kernel
theorem dX12_wantOne_44 : decode cX12_wantOne 44 = .ok (.iconst 0, 1) := by decide +kernel
theorem dX12_wantOne_45 : decode cX12_wantOne 45 = .ok (.bipush 19, 2) := by decide +kernel
theorem dX12_wantOne_47 : decode cX12_wantOne 47 = .ok (.iconst 0, 1) := by decide +kernel
theorem dX12_wantOne_48 : decode cX12_wantOne 48 = .ok (.invokevirtual 227, 3) := by decide +kernel
theorem dX12_wantOne_51 : decode cX12_wantOne 51 = .ok (.istore_n 3, 1) := by decide +kernel
theorem dX12_wantOne_52 : decode cX12_wantOne 52 = .ok (.aload_n 0, 1) := by decide +kernel
theorem dX12_wantOne_53 : decode cX12_wantOne 53 = .ok (.getfield 215, 3) := by decide +kernel
theorem dX12_wantOne_56 : decode cX12_wantOne 56 = .ok (.ifCond .eq 10, 3) := by decide +kernel
theorem dX12_wantOne_59 : decode cX12_wantOne 59 = .ok (.aload_n 0, 1) := by decide +kernel
theorem dX12_wantOne_60 : decode cX12_wantOne 60 = .ok (.iload_n 1, 1) := by decide +kernel
theorem dX12_wantOne_61 : decode cX12_wantOne 61 = .ok (.iload_n 3, 1) := by decide +kernel
theorem dX12_wantOne_62 : decode cX12_wantOne 62 = .ok (.iload_n 2, 1) := by decide +kernel
theorem dX12_wantOne_63 : decode cX12_wantOne 63 = .ok (.invokevirtual 96, 3) := by decide +kernel
theorem dX12_wantOne_66 : decode cX12_wantOne 66 = .ok (.return_, 1) := by decide +kernel
theorem dX12_wantTower_0 : decode cX12_wantTower 0 = .ok (.aload_n 0, 1) := by decide +kernel
theorem dX12_wantTower_1 : decode cX12_wantTower 1 = .ok (.invokevirtual 219, 3) := by decide +kernel
theorem dX12_wantTower_4 : decode cX12_wantTower 4 = .ok (.aload_n 0, 1) := by decide +kernel
theorem dX12_wantTower_5 : decode cX12_wantTower 5 = .ok (.iconst 0, 1) := by decide +kernel
theorem dX12_wantTower_6 : decode cX12_wantTower 6 = .ok (.bipush 19, 2) := by decide +kernel
theorem dX12_wantTower_8 : decode cX12_wantTower 8 = .ok (.invokevirtual 222, 3) := by decide +kernel
theorem dX12_wantTower_11 : decode cX12_wantTower 11 = .ok (.istore_n 1, 1) := by decide +kernel
theorem dX12_wantTower_12 : decode cX12_wantTower 12 = .ok (.aload_n 0, 1) := by decide +kernel
theorem dX12_wantTower_13 : decode cX12_wantTower 13 = .ok (.getfield 215, 3) := by decide +kernel
theorem dX12_wantTower_16 : decode cX12_wantTower 16 = .ok (.ifCond .eq 13, 3) := by decide +kernel
theorem dX12_wantTower_19 : decode cX12_wantTower 19 = .ok (.aload_n 0, 1) := by decide +kernel
theorem dX12_wantTower_20 : decode cX12_wantTower 20 = .ok (.iconst 0, 1) := by decide +kernel
theorem dX12_wantTower_21 : decode cX12_wantTower 21 = .ok (.bipush 9, 2) := by decide +kernel
theorem dX12_wantTower_23 : decode cX12_wantTower 23 = .ok (.invokevirtual 222, 3) := by decide +kernel
theorem dX12_wantTower_26 : decode cX12_wantTower 26 = .ok (.goto 4, 3) := by decide +kernel
theorem dX12_wantTower_29 : decode cX12_wantTower 29 = .ok (.iconst 0, 1) := by decide +kernel
theorem dX12_wantTower_30 : decode cX12_wantTower 30 = .ok (.istore_n 2, 1) := by decide +kernel
theorem dX12_wantTower_31 : decode cX12_wantTower 31 = .ok (.aload_n 0, 1) := by decide +kernel
theorem dX12_wantTower_32 : decode cX12_wantTower 32 = .ok (.getfield 215, 3) := by decide +kernel
theorem dX12_wantTower_35 : decode cX12_wantTower 35 = .ok (.ifCond .eq 13, 3) := by decide +kernel
theorem dX12_wantTower_38 : decode cX12_wantTower 38 = .ok (.aload_n 0, 1) := by decide +kernel
theorem dX12_wantTower_39 : decode cX12_wantTower 39 = .ok (.bipush 10, 2) := by decide +kernel
theorem dX12_wantTower_41 : decode cX12_wantTower 41 = .ok (.iload_n 1, 1) := by decide +kernel
theorem dX12_wantTower_42 : decode cX12_wantTower 42 = .ok (.imul, 1) := by decide +kernel
theorem dX12_wantTower_43 : decode cX12_wantTower 43 = .ok (.iload_n 2, 1) := by decide +kernel
theorem dX12_wantTower_44 : decode cX12_wantTower 44 = .ok (.iadd, 1) := by decide +kernel
theorem dX12_wantTower_45 : decode cX12_wantTower 45 = .ok (.invokevirtual 61, 3) := by decide +kernel
theorem dX12_wantTower_48 : decode cX12_wantTower 48 = .ok (.return_, 1) := by decide +kernel
theorem dX12_wantLamp_0 : decode cX12_wantLamp 0 = .ok (.aload_n 0, 1) := by decide +kernel
theorem dX12_wantLamp_1 : decode cX12_wantLamp 1 = .ok (.invokevirtual 219, 3) := by decide +kernel
theorem dX12_wantLamp_4 : decode cX12_wantLamp 4 = .ok (.aload_n 0, 1) := by decide +kernel
theorem dX12_wantLamp_5 : decode cX12_wantLamp 5 = .ok (.iconst 0, 1) := by decide +kernel
theorem dX12_wantLamp_6 : decode cX12_wantLamp 6 = .ok (.bipush 11, 2) := by decide +kernel
theorem dX12_wantLamp_8 : decode cX12_wantLamp 8 = .ok (.invokevirtual 222, 3) := by decide +kernel
theorem dX12_wantLamp_11 : decode cX12_wantLamp 11 = .ok (.istore_n 2, 1) := by decide +kernel
theorem dX12_wantLamp_12 : decode cX12_wantLamp 12 = .ok (.aload_n 0, 1) := by decide +kernel
theorem dX12_wantLamp_13 : decode cX12_wantLamp 13 = .ok (.getfield 215, 3) := by decide +kernel
theorem dX12_wantLamp_16 : decode cX12_wantLamp 16 = .ok (.ifCond .eq 25, 3) := by decide +kernel
theorem dX12_wantLamp_19 : decode cX12_wantLamp 19 = .ok (.aload_n 0, 1) := by decide +kernel
theorem dX12_wantLamp_20 : decode cX12_wantLamp 20 = .ok (.getfield 7, 3) := by decide +kernel
theorem dX12_wantLamp_23 : decode cX12_wantLamp 23 = .ok (.iconst 3, 1) := by decide +kernel
theorem dX12_wantLamp_24 : decode cX12_wantLamp 24 = .ok (.aload_n 0, 1) := by decide +kernel
theorem dX12_wantLamp_25 : decode cX12_wantLamp 25 = .ok (.getfield 7, 3) := by decide +kernel
theorem dX12_wantLamp_28 : decode cX12_wantLamp 28 = .ok (.iconst 3, 1) := by decide +kernel
theorem dX12_wantLamp_29 : decode cX12_wantLamp 29 = .ok (.iaload, 1) := by decide +kernel
theorem dX12_wantLamp_30 : decode cX12_wantLamp 30 = .ok (.iconst 1, 1) := by decide +kernel
theorem dX12_wantLamp_31 : decode cX12_wantLamp 31 = .ok (.iload_n 2, 1) := by decide +kernel
theorem dX12_wantLamp_32 : decode cX12_wantLamp 32 = .ok (.ishl, 1) := by decide +kernel
theorem dX12_wantLamp_33 : decode cX12_wantLamp 33 = .ok (.iconst (-1), 1) := by decide +kernel
theorem dX12_wantLamp_34 : decode cX12_wantLamp 34 = .ok (.ixor, 1) := by decide +kernel
theorem dX12_wantLamp_35 : decode cX12_wantLamp 35 = .ok (.iand, 1) := by decide +kernel
theorem dX12_wantLamp_36 : decode cX12_wantLamp 36 = .ok (.iload_n 1, 1) := by decide +kernel
theorem dX12_wantLamp_37 : decode cX12_wantLamp 37 = .ok (.iload_n 2, 1) := by decide +kernel
theorem dX12_wantLamp_38 : decode cX12_wantLamp 38 = .ok (.ishl, 1) := by decide +kernel
theorem dX12_wantLamp_39 : decode cX12_wantLamp 39 = .ok (.ior, 1) := by decide +kernel
theorem dX12_wantLamp_40 : decode cX12_wantLamp 40 = .ok (.iastore, 1) := by decide +kernel
theorem dX12_wantLamp_41 : decode cX12_wantLamp 41 = .ok (.return_, 1) := by decide +kernel
theorem dX12_wantItem_0 : decode cX12_wantItem 0 = .ok (.aload_n 0, 1) := by decide +kernel
theorem dX12_wantItem_1 : decode cX12_wantItem 1 = .ok (.invokevirtual 231, 3) := by decide +kernel
theorem dX12_wantItem_4 : decode cX12_wantItem 4 = .ok (.ifCond .lt 14, 3) := by decide +kernel
theorem dX12_wantItem_7 : decode cX12_wantItem 7 = .ok (.aload_n 0, 1) := by decide +kernel
theorem dX12_wantItem_8 : decode cX12_wantItem 8 = .ok (.aload_n 0, 1) := by decide +kernel
theorem dX12_wantItem_9 : decode cX12_wantItem 9 = .ok (.invokevirtual 231, 3) := by decide +kernel
theorem dX12_wantItem_12 : decode cX12_wantItem 12 = .ok (.invokevirtual 234, 3) := by decide +kernel
theorem dX12_wantItem_15 : decode cX12_wantItem 15 = .ok (.goto 109, 3) := by decide +kernel
theorem dX12_wantItem_18 : decode cX12_wantItem 18 = .ok (.aload_n 0, 1) := by decide +kernel
theorem dX12_wantItem_19 : decode cX12_wantItem 19 = .ok (.ldc2_w 237, 3) := by decide +kernel
theorem dX12_wantItem_22 : decode cX12_wantItem 22 = .ok (.invokevirtual 201, 3) := by decide +kernel
theorem dX12_wantItem_25 : decode cX12_wantItem 25 = .ok (.ifCond .eq 10, 3) := by decide +kernel
theorem dX12_wantItem_28 : decode cX12_wantItem 28 = .ok (.aload_n 0, 1) := by decide +kernel
theorem dX12_wantItem_29 : decode cX12_wantItem 29 = .ok (.invokevirtual 239, 3) := by decide +kernel
theorem dX12_wantItem_32 : decode cX12_wantItem 32 = .ok (.goto 92, 3) := by decide +kernel
theorem dX12_wantItem_35 : decode cX12_wantItem 35 = .ok (.aload_n 0, 1) := by decide +kernel
theorem dX12_wantItem_36 : decode cX12_wantItem 36 = .ok (.ldc2_w 242, 3) := by decide +kernel
theorem dX12_wantItem_39 : decode cX12_wantItem 39 = .ok (.invokevirtual 201, 3) := by decide +kernel
theorem dX12_wantItem_42 : decode cX12_wantItem 42 = .ok (.ifCond .eq 11, 3) := by decide +kernel
theorem dX12_wantItem_45 : decode cX12_wantItem 45 = .ok (.aload_n 0, 1) := by decide +kernel
theorem dX12_wantItem_46 : decode cX12_wantItem 46 = .ok (.iconst 1, 1) := by decide +kernel
theorem dX12_wantItem_47 : decode cX12_wantItem 47 = .ok (.invokevirtual 244, 3) := by decide +kernel
theorem dX12_wantItem_50 : decode cX12_wantItem 50 = .ok (.goto 74, 3) := by decide +kernel
theorem dX12_wantItem_53 : decode cX12_wantItem 53 = .ok (.aload_n 0, 1) := by decide +kernel
theorem dX12_wantItem_54 : decode cX12_wantItem 54 = .ok (.ldc2_w 247, 3) := by decide +kernel
theorem dX12_wantItem_57 : decode cX12_wantItem 57 = .ok (.invokevirtual 201, 3) := by decide +kernel
theorem dX12_wantItem_60 : decode cX12_wantItem 60 = .ok (.ifCond .eq 11, 3) := by decide +kernel
theorem dX12_wantItem_63 : decode cX12_wantItem 63 = .ok (.aload_n 0, 1) := by decide +kernel
theorem dX12_wantItem_64 : decode cX12_wantItem 64 = .ok (.iconst 0, 1) := by decide +kernel
theorem dX12_wantItem_65 : decode cX12_wantItem 65 = .ok (.invokevirtual 244, 3) := by decide +kernel
theorem dX12_wantItem_68 : decode cX12_wantItem 68 = .ok (.goto 56, 3) := by decide +kernel
theorem dX12_wantItem_71 : decode cX12_wantItem 71 = .ok (.aload_n 0, 1) := by decide +kernel
theorem dX12_wantItem_72 : decode cX12_wantItem 72 = .ok (.ldc2_w 249, 3) := by decide +kernel
theorem dX12_wantItem_75 : decode cX12_wantItem 75 = .ok (.invokevirtual 201, 3) := by decide +kernel
theorem dX12_wantItem_78 : decode cX12_wantItem 78 = .ok (.ifCond .eq 41, 3) := by decide +kernel
theorem dX12_wantItem_81 : decode cX12_wantItem 81 = .ok (.aload_n 0, 1) := by decide +kernel
theorem dX12_wantItem_82 : decode cX12_wantItem 82 = .ok (.invokevirtual 219, 3) := by decide +kernel
theorem dX12_wantItem_85 : decode cX12_wantItem 85 = .ok (.aload_n 0, 1) := by decide +kernel
theorem dX12_wantItem_86 : decode cX12_wantItem 86 = .ok (.iconst 0, 1) := by decide +kernel
theorem dX12_wantItem_87 : decode cX12_wantItem 87 = .ok (.bipush 9, 2) := by decide +kernel
theorem dX12_wantItem_89 : decode cX12_wantItem 89 = .ok (.invokevirtual 222, 3) := by decide +kernel
theorem dX12_wantItem_92 : decode cX12_wantItem 92 = .ok (.istore_n 1, 1) := by decide +kernel
theorem dX12_wantItem_93 : decode cX12_wantItem 93 = .ok (.aload_n 0, 1) := by decide +kernel
theorem dX12_wantItem_94 : decode cX12_wantItem 94 = .ok (.getfield 7, 3) := by decide +kernel
theorem dX12_wantItem_97 : decode cX12_wantItem 97 = .ok (.iconst 4, 1) := by decide +kernel
theorem dX12_wantItem_98 : decode cX12_wantItem 98 = .ok (.aload_n 0, 1) := by decide +kernel
theorem dX12_wantItem_99 : decode cX12_wantItem 99 = .ok (.getfield 215, 3) := by decide +kernel
theorem dX12_wantItem_102 : decode cX12_wantItem 102 = .ok (.ifCond .eq 7, 3) := by decide +kernel
theorem dX12_wantItem_105 : decode cX12_wantItem 105 = .ok (.iload_n 1, 1) := by decide +kernel
theorem dX12_wantItem_106 : decode cX12_wantItem 106 = .ok (.goto 9, 3) := by decide +kernel
theorem dX12_wantItem_109 : decode cX12_wantItem 109 = .ok (.aload_n 0, 1) := by decide +kernel
theorem dX12_wantItem_110 : decode cX12_wantItem 110 = .ok (.getfield 7, 3) := by decide +kernel
theorem dX12_wantItem_113 : decode cX12_wantItem 113 = .ok (.iconst 4, 1) := by decide +kernel
theorem dX12_wantItem_114 : decode cX12_wantItem 114 = .ok (.iaload, 1) := by decide +kernel
theorem dX12_wantItem_115 : decode cX12_wantItem 115 = .ok (.iastore, 1) := by decide +kernel
theorem dX12_wantItem_116 : decode cX12_wantItem 116 = .ok (.goto 8, 3) := by decide +kernel
theorem dX12_wantItem_119 : decode cX12_wantItem 119 = .ok (.aload_n 0, 1) := by decide +kernel
theorem dX12_wantItem_120 : decode cX12_wantItem 120 = .ok (.iconst 0, 1) := by decide +kernel
theorem dX12_wantItem_121 : decode cX12_wantItem 121 = .ok (.putfield 215, 3) := by decide +kernel
theorem dX12_wantItem_124 : decode cX12_wantItem 124 = .ok (.return_, 1) := by decide +kernel
theorem dX12_sea_0 : decode cX12_sea 0 = .ok (.aload_n 0, 1) := by decide +kernel
theorem dX12_sea_1 : decode cX12_sea 1 = .ok (.iconst 1, 1) := by decide +kernel
theorem dX12_sea_2 : decode cX12_sea 2 = .ok (.aload_n 0, 1) := by decide +kernel
theorem dX12_sea_3 : decode cX12_sea 3 = .ok (.getfield 41, 3) := by decide +kernel
theorem dX12_sea_6 : decode cX12_sea 6 = .ok (.invokevirtual 143, 3) := by decide +kernel
theorem dX12_sea_9 : decode cX12_sea 9 = .ok (.aload_n 0, 1) := by decide +kernel
theorem dX12_sea_10 : decode cX12_sea 10 = .ok (.iconst 0, 1) := by decide +kernel
theorem dX12_sea_11 : decode cX12_sea 11 = .ok (.putfield 168, 3) := by decide +kernel
theorem dX12_sea_14 : decode cX12_sea 14 = .ok (.aload_n 0, 1) := by decide +kernel
theorem dX12_sea_15 : decode cX12_sea 15 = .ok (.iconst 1, 1) := by decide +kernel
theorem dX12_sea_16 : decode cX12_sea 16 = .ok (.putfield 215, 3) := by decide +kernel
theorem dX12_sea_19 : decode cX12_sea 19 = .ok (.iconst 0, 1) := by decide +kernel
theorem dX12_sea_20 : decode cX12_sea 20 = .ok (.istore_n 1, 1) := by decide +kernel
theorem dX12_sea_21 : decode cX12_sea 21 = .ok (.iconst 1, 1) := by decide +kernel
theorem dX12_sea_22 : decode cX12_sea 22 = .ok (.istore_n 2, 1) := by decide +kernel
theorem dX12_sea_23 : decode cX12_sea 23 = .ok (.iload_n 2, 1) := by decide +kernel
theorem dX12_sea_24 : decode cX12_sea 24 = .ok (.ifCond .eq 47, 3) := by decide +kernel
theorem dX12_sea_27 : decode cX12_sea 27 = .ok (.aload_n 0, 1) := by decide +kernel
theorem dX12_sea_28 : decode cX12_sea 28 = .ok (.invokevirtual 219, 3) := by decide +kernel
theorem dX12_sea_31 : decode cX12_sea 31 = .ok (.aload_n 0, 1) := by decide +kernel
theorem dX12_sea_32 : decode cX12_sea 32 = .ok (.invokevirtual 251, 3) := by decide +kernel
theorem dX12_sea_35 : decode cX12_sea 35 = .ok (.iinc 1 1, 3) := by decide +kernel
theorem dX12_sea_38 : decode cX12_sea 38 = .ok (.aload_n 0, 1) := by decide +kernel
theorem dX12_sea_39 : decode cX12_sea 39 = .ok (.getfield 215, 3) := by decide +kernel
theorem dX12_sea_42 : decode cX12_sea 42 = .ok (.ifCond .eq 24, 3) := by decide +kernel
theorem dX12_sea_45 : decode cX12_sea 45 = .ok (.aload_n 0, 1) := by decide +kernel
theorem dX12_sea_46 : decode cX12_sea 46 = .ok (.getfield 183, 3) := by decide +kernel
theorem dX12_sea_49 : decode cX12_sea 49 = .ok (.iconst 3, 1) := by decide +kernel
theorem dX12_sea_50 : decode cX12_sea 50 = .ok (.if_icmp .ne 16, 3) := by decide +kernel
theorem dX12_sea_53 : decode cX12_sea 53 = .ok (.aload_n 0, 1) := by decide +kernel
theorem dX12_sea_54 : decode cX12_sea 54 = .ok (.getfield 190, 3) := by decide +kernel
theorem dX12_sea_57 : decode cX12_sea 57 = .ok (.bipush 59, 2) := by decide +kernel
theorem dX12_sea_59 : decode cX12_sea 59 = .ok (.if_icmp .ne 7, 3) := by decide +kernel
theorem dX12_sea_62 : decode cX12_sea 62 = .ok (.iconst 1, 1) := by decide +kernel
theorem dX12_sea_63 : decode cX12_sea 63 = .ok (.goto 4, 3) := by decide +kernel
theorem dX12_sea_66 : decode cX12_sea 66 = .ok (.iconst 0, 1) := by decide +kernel
theorem dX12_sea_67 : decode cX12_sea 67 = .ok (.istore_n 2, 1) := by decide +kernel
theorem dX12_sea_68 : decode cX12_sea 68 = .ok (.goto (-45), 3) := by decide +kernel
theorem dX12_sea_71 : decode cX12_sea 71 = .ok (.aload_n 0, 1) := by decide +kernel
theorem dX12_sea_72 : decode cX12_sea 72 = .ok (.aload_n 0, 1) := by decide +kernel
theorem dX12_sea_73 : decode cX12_sea 73 = .ok (.getfield 215, 3) := by decide +kernel
theorem dX12_sea_76 : decode cX12_sea 76 = .ok (.ifCond .eq 14, 3) := by decide +kernel
theorem dX12_sea_79 : decode cX12_sea 79 = .ok (.aload_n 0, 1) := by decide +kernel
theorem dX12_sea_80 : decode cX12_sea 80 = .ok (.getfield 183, 3) := by decide +kernel
theorem dX12_sea_83 : decode cX12_sea 83 = .ok (.ifCond .ne 7, 3) := by decide +kernel
theorem dX12_sea_86 : decode cX12_sea 86 = .ok (.iconst 1, 1) := by decide +kernel
theorem dX12_sea_87 : decode cX12_sea 87 = .ok (.goto 4, 3) := by decide +kernel
theorem dX12_sea_90 : decode cX12_sea 90 = .ok (.iconst 0, 1) := by decide +kernel
theorem dX12_sea_91 : decode cX12_sea 91 = .ok (.putfield 215, 3) := by decide +kernel
theorem dX12_sea_94 : decode cX12_sea 94 = .ok (.aload_n 0, 1) := by decide +kernel
theorem dX12_sea_95 : decode cX12_sea 95 = .ok (.iconst 0, 1) := by decide +kernel
theorem dX12_sea_96 : decode cX12_sea 96 = .ok (.putfield 164, 3) := by decide +kernel
theorem dX12_sea_99 : decode cX12_sea 99 = .ok (.aload_n 0, 1) := by decide +kernel
theorem dX12_sea_100 : decode cX12_sea 100 = .ok (.getfield 215, 3) := by decide +kernel
theorem dX12_sea_103 : decode cX12_sea 103 = .ok (.ifCond .ne 19, 3) := by decide +kernel
theorem dX12_sea_106 : decode cX12_sea 106 = .ok (.aload_n 0, 1) := by decide +kernel
theorem dX12_sea_107 : decode cX12_sea 107 = .ok (.iconst 0, 1) := by decide +kernel
theorem dX12_sea_108 : decode cX12_sea 108 = .ok (.aload_n 0, 1) := by decide +kernel
theorem dX12_sea_109 : decode cX12_sea 109 = .ok (.getfield 41, 3) := by decide +kernel
theorem dX12_sea_112 : decode cX12_sea 112 = .ok (.invokevirtual 143, 3) := by decide +kernel
theorem dX12_sea_115 : decode cX12_sea 115 = .ok (.iconst (-1), 1) := by decide +kernel
theorem dX12_sea_116 : decode cX12_sea 116 = .ok (.aload_n 0, 1) := by decide +kernel
theorem dX12_sea_117 : decode cX12_sea 117 = .ok (.getfield 171, 3) := by decide +kernel
theorem dX12_sea_120 : decode cX12_sea 120 = .ok (.isub, 1) := by decide +kernel
theorem dX12_sea_121 : decode cX12_sea 121 = .ok (.ireturn, 1) := by decide +kernel
theorem dX12_sea_122 : decode cX12_sea 122 = .ok (.iload_n 1, 1) := by decide +kernel
theorem dX12_sea_123 : decode cX12_sea 123 = .ok (.ireturn, 1) := by decide +kernel
theorem dX12_isSheet_0 : decode cX12_isSheet 0 = .ok (.iload_n 0, 1) := by decide +kernel
theorem dX12_isSheet_1 : decode cX12_isSheet 1 = .ok (.iconst 0, 1) := by decide +kernel
theorem dX12_isSheet_2 : decode cX12_isSheet 2 = .ok (.iconst 3, 1) := by decide +kernel
theorem dX12_isSheet_3 : decode cX12_isSheet 3 = .ok (.invokestatic 45, 3) := by decide +kernel
theorem dX12_isSheet_6 : decode cX12_isSheet 6 = .ok (.ireturn, 1) := by decide +kernel
theorem dX12_narrow_0 : decode cX12_narrow 0 = .ok (.iload_n 0, 1) := by decide +kernel
theorem dX12_narrow_1 : decode cX12_narrow 1 = .ok (.bipush 8, 2) := by decide +kernel
theorem dX12_narrow_3 : decode cX12_narrow 3 = .ok (.if_icmp .ne 13, 3) := by decide +kernel
theorem dX12_narrow_6 : decode cX12_narrow 6 = .ok (.lload_n 1, 1) := by decide +kernel
theorem dX12_narrow_7 : decode cX12_narrow 7 = .ok (.bipush 56, 2) := by decide +kernel
theorem dX12_narrow_9 : decode cX12_narrow 9 = .ok (.lshl, 1) := by decide +kernel
theorem dX12_narrow_10 : decode cX12_narrow 10 = .ok (.bipush 56, 2) := by decide +kernel
theorem dX12_narrow_12 : decode cX12_narrow 12 = .ok (.lshr, 1) := by decide +kernel
theorem dX12_narrow_13 : decode cX12_narrow 13 = .ok (.goto 20, 3) := by decide +kernel
theorem dX12_narrow_16 : decode cX12_narrow 16 = .ok (.iload_n 0, 1) := by decide +kernel
theorem dX12_narrow_17 : decode cX12_narrow 17 = .ok (.bipush 16, 2) := by decide +kernel
theorem dX12_narrow_19 : decode cX12_narrow 19 = .ok (.if_icmp .ne 13, 3) := by decide +kernel
theorem dX12_narrow_22 : decode cX12_narrow 22 = .ok (.lload_n 1, 1) := by decide +kernel
theorem dX12_narrow_23 : decode cX12_narrow 23 = .ok (.bipush 48, 2) := by decide +kernel
theorem dX12_narrow_25 : decode cX12_narrow 25 = .ok (.lshl, 1) := by decide +kernel
theorem dX12_narrow_26 : decode cX12_narrow 26 = .ok (.bipush 48, 2) := by decide +kernel
theorem dX12_narrow_28 : decode cX12_narrow 28 = .ok (.lshr, 1) := by decide +kernel
theorem dX12_narrow_29 : decode cX12_narrow 29 = .ok (.goto 4, 3) := by decide +kernel
theorem dX12_narrow_32 : decode cX12_narrow 32 = .ok (.lload_n 1, 1) := by decide +kernel
theorem dX12_narrow_33 : decode cX12_narrow 33 = .ok (.lreturn, 1) := by decide +kernel
theorem dX12_sheet_0 : decode cX12_sheet 0 = .ok (.iload_n 1, 1) := by decide +kernel
theorem dX12_sheet_1 : decode cX12_sheet 1 = .ok (.invokestatic 254, 3) := by decide +kernel
theorem dX12_sheet_4 : decode cX12_sheet 4 = .ok (.ifCond .eq 25, 3) := by decide +kernel
theorem dX12_sheet_7 : decode cX12_sheet 7 = .ok (.iload_n 2, 1) := by decide +kernel
theorem dX12_sheet_8 : decode cX12_sheet 8 = .ok (.ifCond .eq 28, 3) := by decide +kernel
theorem dX12_sheet_11 : decode cX12_sheet 11 = .ok (.iload_n 2, 1) := by decide +kernel
theorem dX12_sheet_12 : decode cX12_sheet 12 = .ok (.bipush 8, 2) := by decide +kernel
theorem dX12_sheet_14 : decode cX12_sheet 14 = .ok (.if_icmp .eq 22, 3) := by decide +kernel
theorem dX12_sheet_17 : decode cX12_sheet 17 = .ok (.iload_n 2, 1) := by decide +kernel
theorem dX12_sheet_18 : decode cX12_sheet 18 = .ok (.bipush 16, 2) := by decide +kernel
theorem dX12_sheet_20 : decode cX12_sheet 20 = .ok (.if_icmp .eq 16, 3) := by decide +kernel
theorem dX12_sheet_23 : decode cX12_sheet 23 = .ok (.iload_n 2, 1) := by decide +kernel
theorem dX12_sheet_24 : decode cX12_sheet 24 = .ok (.bipush 64, 2) := by decide +kernel
theorem dX12_sheet_26 : decode cX12_sheet 26 = .ok (.if_icmp .eq 10, 3) := by decide +kernel
theorem dX12_sheet_29 : decode cX12_sheet 29 = .ok (.aload_n 0, 1) := by decide +kernel
theorem dX12_sheet_30 : decode cX12_sheet 30 = .ok (.ldc 44, 2) := by decide +kernel
theorem dX12_sheet_32 : decode cX12_sheet 32 = .ok (.invokevirtual 53, 3) := by decide +kernel
theorem dX12_sheet_35 : decode cX12_sheet 35 = .ok (.ireturn, 1) := by decide +kernel
theorem dX12_sheet_36 : decode cX12_sheet 36 = .ok (.iload_n 3, 1) := by decide +kernel
theorem dX12_sheet_37 : decode cX12_sheet 37 = .ok (.ifCond .ge 11, 3) := by decide +kernel
theorem dX12_sheet_40 : decode cX12_sheet 40 = .ok (.aload_n 0, 1) := by decide +kernel
theorem dX12_sheet_41 : decode cX12_sheet 41 = .ok (.ldc_w 257, 3) := by decide +kernel
theorem dX12_sheet_44 : decode cX12_sheet 44 = .ok (.invokevirtual 53, 3) := by decide +kernel
theorem dX12_sheet_47 : decode cX12_sheet 47 = .ok (.ireturn, 1) := by decide +kernel
theorem dX12_sheet_48 : decode cX12_sheet 48 = .ok (.iload_n 3, 1) := by decide +kernel
theorem dX12_sheet_49 : decode cX12_sheet 49 = .ok (.bipush 40, 2) := by decide +kernel
theorem dX12_sheet_51 : decode cX12_sheet 51 = .ok (.if_icmp .le 10, 3) := by decide +kernel
theorem dX12_sheet_54 : decode cX12_sheet 54 = .ok (.aload_n 0, 1) := by decide +kernel
theorem dX12_sheet_55 : decode cX12_sheet 55 = .ok (.ldc 44, 2) := by decide +kernel
theorem dX12_sheet_57 : decode cX12_sheet 57 = .ok (.invokevirtual 53, 3) := by decide +kernel
theorem dX12_sheet_60 : decode cX12_sheet 60 = .ok (.ireturn, 1) := by decide +kernel
theorem dX12_sheet_61 : decode cX12_sheet 61 = .ok (.aload_n 0, 1) := by decide +kernel
theorem dX12_sheet_62 : decode cX12_sheet 62 = .ok (.getfield 25, 3) := by decide +kernel
theorem dX12_sheet_65 : decode cX12_sheet 65 = .ok (.iload_n 1, 1) := by decide +kernel
theorem dX12_sheet_66 : decode cX12_sheet 66 = .ok (.iload_n 2, 1) := by decide +kernel
theorem dX12_sheet_67 : decode cX12_sheet 67 = .ok (.iastore, 1) := by decide +kernel
theorem dX12_sheet_68 : decode cX12_sheet 68 = .ok (.aload_n 0, 1) := by decide +kernel
theorem dX12_sheet_69 : decode cX12_sheet 69 = .ok (.getfield 28, 3) := by decide +kernel
theorem dX12_sheet_72 : decode cX12_sheet 72 = .ok (.iload_n 1, 1) := by decide +kernel
theorem dX12_sheet_73 : decode cX12_sheet 73 = .ok (.iload_n 2, 1) := by decide +kernel
theorem dX12_sheet_74 : decode cX12_sheet 74 = .ok (.ifCond .ne 7, 3) := by decide +kernel
theorem dX12_sheet_77 : decode cX12_sheet 77 = .ok (.iconst 0, 1) := by decide +kernel
theorem dX12_sheet_78 : decode cX12_sheet 78 = .ok (.goto 4, 3) := by decide +kernel
theorem dX12_sheet_81 : decode cX12_sheet 81 = .ok (.iload_n 3, 1) := by decide +kernel
theorem dX12_sheet_82 : decode cX12_sheet 82 = .ok (.iastore, 1) := by decide +kernel
theorem dX12_sheet_83 : decode cX12_sheet 83 = .ok (.iconst 0, 1) := by decide +kernel
theorem dX12_sheet_84 : decode cX12_sheet 84 = .ok (.istore 4, 2) := by decide +kernel
theorem dX12_sheet_86 : decode cX12_sheet 86 = .ok (.iload 4, 2) := by decide +kernel
theorem dX12_sheet_88 : decode cX12_sheet 88 = .ok (.bipush 40, 2) := by decide +kernel
theorem dX12_sheet_90 : decode cX12_sheet 90 = .ok (.if_icmp .ge 22, 3) := by decide +kernel
theorem dX12_sheet_93 : decode cX12_sheet 93 = .ok (.aload_n 0, 1) := by decide +kernel
theorem dX12_sheet_94 : decode cX12_sheet 94 = .ok (.getfield 31, 3) := by decide +kernel
theorem dX12_sheet_97 : decode cX12_sheet 97 = .ok (.bipush 40, 2) := by decide +kernel
theorem dX12_sheet_99 : decode cX12_sheet 99 = .ok (.iload_n 1, 1) := by decide +kernel
theorem dX12_sheet_100 : decode cX12_sheet 100 = .ok (.imul, 1) := by decide +kernel
theorem dX12_sheet_101 : decode cX12_sheet 101 = .ok (.iload 4, 2) := by decide +kernel
theorem dX12_sheet_103 : decode cX12_sheet 103 = .ok (.iadd, 1) := by decide +kernel
theorem dX12_sheet_104 : decode cX12_sheet 104 = .ok (.lconst 0, 1) := by decide +kernel
theorem dX12_sheet_105 : decode cX12_sheet 105 = .ok (.lastore, 1) := by decide +kernel
theorem dX12_sheet_106 : decode cX12_sheet 106 = .ok (.iinc 4 1, 3) := by decide +kernel
theorem dX12_sheet_109 : decode cX12_sheet 109 = .ok (.goto (-23), 3) := by decide +kernel
theorem dX12_sheet_112 : decode cX12_sheet 112 = .ok (.aload_n 0, 1) := by decide +kernel
theorem dX12_sheet_113 : decode cX12_sheet 113 = .ok (.getfield 28, 3) := by decide +kernel
theorem dX12_sheet_116 : decode cX12_sheet 116 = .ok (.iload_n 1, 1) := by decide +kernel
theorem dX12_sheet_117 : decode cX12_sheet 117 = .ok (.iaload, 1) := by decide +kernel
theorem dX12_sheet_118 : decode cX12_sheet 118 = .ok (.ireturn, 1) := by decide +kernel
theorem dX12_write_0 : decode cX12_write 0 = .ok (.iload_n 1, 1) := by decide +kernel
theorem dX12_write_1 : decode cX12_write 1 = .ok (.invokestatic 254, 3) := by decide +kernel
theorem dX12_write_4 : decode cX12_write 4 = .ok (.ifCond .ne 11, 3) := by decide +kernel
theorem dX12_write_7 : decode cX12_write 7 = .ok (.aload_n 0, 1) := by decide +kernel
theorem dX12_write_8 : decode cX12_write 8 = .ok (.ldc 44, 2) := by decide +kernel
theorem dX12_write_10 : decode cX12_write 10 = .ok (.invokevirtual 53, 3) := by decide +kernel
theorem dX12_write_13 : decode cX12_write 13 = .ok (.i2l, 1) := by decide +kernel
theorem dX12_write_14 : decode cX12_write 14 = .ok (.lreturn, 1) := by decide +kernel
theorem dX12_write_15 : decode cX12_write 15 = .ok (.aload_n 0, 1) := by decide +kernel
theorem dX12_write_16 : decode cX12_write 16 = .ok (.getfield 25, 3) := by decide +kernel
theorem dX12_write_19 : decode cX12_write 19 = .ok (.iload_n 1, 1) := by decide +kernel
theorem dX12_write_20 : decode cX12_write 20 = .ok (.iaload, 1) := by decide +kernel
theorem dX12_write_21 : decode cX12_write 21 = .ok (.ifCond .ne 12, 3) := by decide +kernel
theorem dX12_write_24 : decode cX12_write 24 = .ok (.aload_n 0, 1) := by decide +kernel
theorem dX12_write_25 : decode cX12_write 25 = .ok (.ldc_w 258, 3) := by decide +kernel
theorem dX12_write_28 : decode cX12_write 28 = .ok (.invokevirtual 53, 3) := by decide +kernel
theorem dX12_write_31 : decode cX12_write 31 = .ok (.i2l, 1) := by decide +kernel
theorem dX12_write_32 : decode cX12_write 32 = .ok (.lreturn, 1) := by decide +kernel
theorem dX12_write_33 : decode cX12_write 33 = .ok (.iload_n 2, 1) := by decide +kernel
theorem dX12_write_34 : decode cX12_write 34 = .ok (.iconst 0, 1) := by decide +kernel
theorem dX12_write_35 : decode cX12_write 35 = .ok (.aload_n 0, 1) := by decide +kernel
theorem dX12_write_36 : decode cX12_write 36 = .ok (.getfield 28, 3) := by decide +kernel
theorem dX12_write_39 : decode cX12_write 39 = .ok (.iload_n 1, 1) := by decide +kernel
theorem dX12_write_40 : decode cX12_write 40 = .ok (.iaload, 1) := by decide +kernel
theorem dX12_write_41 : decode cX12_write 41 = .ok (.iconst 1, 1) := by decide +kernel
theorem dX12_write_42 : decode cX12_write 42 = .ok (.isub, 1) := by decide +kernel
theorem dX12_write_43 : decode cX12_write 43 = .ok (.invokestatic 45, 3) := by decide +kernel
theorem dX12_write_46 : decode cX12_write 46 = .ok (.ifCond .ne 11, 3) := by decide +kernel
theorem dX12_write_49 : decode cX12_write 49 = .ok (.aload_n 0, 1) := by decide +kernel
theorem dX12_write_50 : decode cX12_write 50 = .ok (.ldc 44, 2) := by decide +kernel
theorem dX12_write_52 : decode cX12_write 52 = .ok (.invokevirtual 53, 3) := by decide +kernel
theorem dX12_write_55 : decode cX12_write 55 = .ok (.i2l, 1) := by decide +kernel
theorem dX12_write_56 : decode cX12_write 56 = .ok (.lreturn, 1) := by decide +kernel
theorem dX12_write_57 : decode cX12_write 57 = .ok (.aload_n 0, 1) := by decide +kernel
theorem dX12_write_58 : decode cX12_write 58 = .ok (.getfield 31, 3) := by decide +kernel
theorem dX12_write_61 : decode cX12_write 61 = .ok (.bipush 40, 2) := by decide +kernel
theorem dX12_write_63 : decode cX12_write 63 = .ok (.iload_n 1, 1) := by decide +kernel
theorem dX12_write_64 : decode cX12_write 64 = .ok (.imul, 1) := by decide +kernel
theorem dX12_write_65 : decode cX12_write 65 = .ok (.iload_n 2, 1) := by decide +kernel
theorem dX12_write_66 : decode cX12_write 66 = .ok (.iadd, 1) := by decide +kernel
theorem dX12_write_67 : decode cX12_write 67 = .ok (.laload, 1) := by decide +kernel
theorem dX12_write_68 : decode cX12_write 68 = .ok (.lstore 5, 2) := by decide +kernel
theorem dX12_write_70 : decode cX12_write 70 = .ok (.aload_n 0, 1) := by decide +kernel
theorem dX12_write_71 : decode cX12_write 71 = .ok (.getfield 31, 3) := by decide +kernel
theorem dX12_write_74 : decode cX12_write 74 = .ok (.bipush 40, 2) := by decide +kernel
theorem dX12_write_76 : decode cX12_write 76 = .ok (.iload_n 1, 1) := by decide +kernel
theorem dX12_write_77 : decode cX12_write 77 = .ok (.imul, 1) := by decide +kernel
theorem dX12_write_78 : decode cX12_write 78 = .ok (.iload_n 2, 1) := by decide +kernel
theorem dX12_write_79 : decode cX12_write 79 = .ok (.iadd, 1) := by decide +kernel
theorem dX12_write_80 : decode cX12_write 80 = .ok (.aload_n 0, 1) := by decide +kernel
theorem dX12_write_81 : decode cX12_write 81 = .ok (.getfield 25, 3) := by decide +kernel
theorem dX12_write_84 : decode cX12_write 84 = .ok (.iload_n 1, 1) := by decide +kernel
theorem dX12_write_85 : decode cX12_write 85 = .ok (.iaload, 1) := by decide +kernel
theorem dX12_write_86 : decode cX12_write 86 = .ok (.lload_n 3, 1) := by decide +kernel
theorem dX12_write_87 : decode cX12_write 87 = .ok (.invokestatic 259, 3) := by decide +kernel
theorem dX12_write_90 : decode cX12_write 90 = .ok (.lastore, 1) := by decide +kernel
theorem dX12_write_91 : decode cX12_write 91 = .ok (.lload 5, 2) := by decide +kernel
theorem dX12_write_93 : decode cX12_write 93 = .ok (.lreturn, 1) := by decide +kernel
theorem dX12_isPart__0 : decode cX12_isPart_ 0 = .ok (.iload_n 2, 1) := by decide +kernel
theorem dX12_isPart__1 : decode cX12_isPart_ 1 = .ok (.ifCond .lt 33, 3) := by decide +kernel
theorem dX12_isPart__4 : decode cX12_isPart_ 4 = .ok (.iload_n 3, 1) := by decide +kernel
theorem dX12_isPart__5 : decode cX12_isPart_ 5 = .ok (.ifCond .lt 29, 3) := by decide +kernel
theorem dX12_isPart__8 : decode cX12_isPart_ 8 = .ok (.iload_n 3, 1) := by decide +kernel
theorem dX12_isPart__9 : decode cX12_isPart_ 9 = .ok (.aload_n 0, 1) := by decide +kernel
theorem dX12_isPart__10 : decode cX12_isPart_ 10 = .ok (.getfield 28, 3) := by decide +kernel
theorem dX12_isPart__13 : decode cX12_isPart_ 13 = .ok (.iload_n 1, 1) := by decide +kernel
theorem dX12_isPart__14 : decode cX12_isPart_ 14 = .ok (.iaload, 1) := by decide +kernel
theorem dX12_isPart__15 : decode cX12_isPart_ 15 = .ok (.if_icmp .gt 19, 3) := by decide +kernel
theorem dX12_isPart__18 : decode cX12_isPart_ 18 = .ok (.iload_n 2, 1) := by decide +kernel
theorem dX12_isPart__19 : decode cX12_isPart_ 19 = .ok (.aload_n 0, 1) := by decide +kernel
theorem dX12_isPart__20 : decode cX12_isPart_ 20 = .ok (.getfield 28, 3) := by decide +kernel
theorem dX12_isPart__23 : decode cX12_isPart_ 23 = .ok (.iload_n 1, 1) := by decide +kernel
theorem dX12_isPart__24 : decode cX12_isPart_ 24 = .ok (.iaload, 1) := by decide +kernel
theorem dX12_isPart__25 : decode cX12_isPart_ 25 = .ok (.iload_n 3, 1) := by decide +kernel
theorem dX12_isPart__26 : decode cX12_isPart_ 26 = .ok (.isub, 1) := by decide +kernel
theorem dX12_isPart__27 : decode cX12_isPart_ 27 = .ok (.if_icmp .gt 7, 3) := by decide +kernel
theorem dX12_isPart__30 : decode cX12_isPart_ 30 = .ok (.iconst 1, 1) := by decide +kernel
theorem dX12_isPart__31 : decode cX12_isPart_ 31 = .ok (.goto 4, 3) := by decide +kernel
theorem dX12_isPart__34 : decode cX12_isPart_ 34 = .ok (.iconst 0, 1) := by decide +kernel
theorem dX12_isPart__35 : decode cX12_isPart_ 35 = .ok (.ireturn, 1) := by decide +kernel
theorem dX12_copy_0 : decode cX12_copy 0 = .ok (.iload_n 1, 1) := by decide +kernel
theorem dX12_copy_1 : decode cX12_copy 1 = .ok (.invokestatic 254, 3) := by decide +kernel
theorem dX12_copy_4 : decode cX12_copy 4 = .ok (.ifCond .eq 10, 3) := by decide +kernel
theorem dX12_copy_7 : decode cX12_copy 7 = .ok (.iload_n 3, 1) := by decide +kernel
theorem dX12_copy_8 : decode cX12_copy 8 = .ok (.invokestatic 254, 3) := by decide +kernel
theorem dX12_copy_11 : decode cX12_copy 11 = .ok (.ifCond .ne 10, 3) := by decide +kernel
theorem dX12_copy_14 : decode cX12_copy 14 = .ok (.aload_n 0, 1) := by decide +kernel
theorem dX12_copy_15 : decode cX12_copy 15 = .ok (.ldc 44, 2) := by decide +kernel
theorem dX12_copy_17 : decode cX12_copy 17 = .ok (.invokevirtual 53, 3) := by decide +kernel
theorem dX12_copy_20 : decode cX12_copy 20 = .ok (.ireturn, 1) := by decide +kernel
theorem dX12_copy_21 : decode cX12_copy 21 = .ok (.aload_n 0, 1) := by decide +kernel
theorem dX12_copy_22 : decode cX12_copy 22 = .ok (.getfield 25, 3) := by decide +kernel
theorem dX12_copy_25 : decode cX12_copy 25 = .ok (.iload_n 1, 1) := by decide +kernel
theorem dX12_copy_26 : decode cX12_copy 26 = .ok (.iaload, 1) := by decide +kernel
theorem dX12_copy_27 : decode cX12_copy 27 = .ok (.ifCond .eq 12, 3) := by decide +kernel
theorem dX12_copy_30 : decode cX12_copy 30 = .ok (.aload_n 0, 1) := by decide +kernel
theorem dX12_copy_31 : decode cX12_copy 31 = .ok (.getfield 25, 3) := by decide +kernel
theorem dX12_copy_34 : decode cX12_copy 34 = .ok (.iload_n 3, 1) := by decide +kernel
theorem dX12_copy_35 : decode cX12_copy 35 = .ok (.iaload, 1) := by decide +kernel
theorem dX12_copy_36 : decode cX12_copy 36 = .ok (.ifCond .ne 11, 3) := by decide +kernel
theorem dX12_copy_39 : decode cX12_copy 39 = .ok (.aload_n 0, 1) := by decide +kernel
theorem dX12_copy_40 : decode cX12_copy 40 = .ok (.ldc_w 258, 3) := by decide +kernel
theorem dX12_copy_43 : decode cX12_copy 43 = .ok (.invokevirtual 53, 3) := by decide +kernel
theorem dX12_copy_46 : decode cX12_copy 46 = .ok (.ireturn, 1) := by decide +kernel
theorem dX12_copy_47 : decode cX12_copy 47 = .ok (.aload_n 0, 1) := by decide +kernel
theorem dX12_copy_48 : decode cX12_copy 48 = .ok (.getfield 25, 3) := by decide +kernel
theorem dX12_copy_51 : decode cX12_copy 51 = .ok (.iload_n 1, 1) := by decide +kernel
theorem dX12_copy_52 : decode cX12_copy 52 = .ok (.iaload, 1) := by decide +kernel
theorem dX12_copy_53 : decode cX12_copy 53 = .ok (.aload_n 0, 1) := by decide +kernel
theorem dX12_copy_54 : decode cX12_copy 54 = .ok (.getfield 25, 3) := by decide +kernel
theorem dX12_copy_57 : decode cX12_copy 57 = .ok (.iload_n 3, 1) := by decide +kernel
theorem dX12_copy_58 : decode cX12_copy 58 = .ok (.iaload, 1) := by decide +kernel
theorem dX12_copy_59 : decode cX12_copy 59 = .ok (.if_icmp .eq 10, 3) := by decide +kernel
theorem dX12_copy_62 : decode cX12_copy 62 = .ok (.aload_n 0, 1) := by decide +kernel
theorem dX12_copy_63 : decode cX12_copy 63 = .ok (.ldc 118, 2) := by decide +kernel
theorem dX12_copy_65 : decode cX12_copy 65 = .ok (.invokevirtual 53, 3) := by decide +kernel
theorem dX12_copy_68 : decode cX12_copy 68 = .ok (.ireturn, 1) := by decide +kernel
theorem dX12_copy_69 : decode cX12_copy 69 = .ok (.aload_n 0, 1) := by decide +kernel
theorem dX12_copy_70 : decode cX12_copy 70 = .ok (.iload_n 1, 1) := by decide +kernel
theorem dX12_copy_71 : decode cX12_copy 71 = .ok (.iload_n 2, 1) := by decide +kernel
theorem dX12_copy_72 : decode cX12_copy 72 = .ok (.iload 5, 2) := by decide +kernel
theorem dX12_copy_74 : decode cX12_copy 74 = .ok (.invokevirtual 263, 3) := by decide +kernel
theorem dX12_copy_77 : decode cX12_copy 77 = .ok (.ifCond .eq 15, 3) := by decide +kernel
theorem dX12_copy_80 : decode cX12_copy 80 = .ok (.aload_n 0, 1) := by decide +kernel
theorem dX12_copy_81 : decode cX12_copy 81 = .ok (.iload_n 3, 1) := by decide +kernel
theorem dX12_copy_82 : decode cX12_copy 82 = .ok (.iload 4, 2) := by decide +kernel
theorem dX12_copy_84 : decode cX12_copy 84 = .ok (.iload 5, 2) := by decide +kernel
theorem dX12_copy_86 : decode cX12_copy 86 = .ok (.invokevirtual 263, 3) := by decide +kernel
theorem dX12_copy_89 : decode cX12_copy 89 = .ok (.ifCond .ne 10, 3) := by decide +kernel
theorem dX12_copy_92 : decode cX12_copy 92 = .ok (.aload_n 0, 1) := by decide +kernel
theorem dX12_copy_93 : decode cX12_copy 93 = .ok (.ldc 44, 2) := by decide +kernel
theorem dX12_copy_95 : decode cX12_copy 95 = .ok (.invokevirtual 53, 3) := by decide +kernel
theorem dX12_copy_98 : decode cX12_copy 98 = .ok (.ireturn, 1) := by decide +kernel
theorem dX12_copy_99 : decode cX12_copy 99 = .ok (.iconst 0, 1) := by decide +kernel
theorem dX12_copy_100 : decode cX12_copy 100 = .ok (.istore 6, 2) := by decide +kernel
theorem dX12_copy_102 : decode cX12_copy 102 = .ok (.iload 6, 2) := by decide +kernel
theorem dX12_copy_104 : decode cX12_copy 104 = .ok (.iload 5, 2) := by decide +kernel
theorem dX12_copy_106 : decode cX12_copy 106 = .ok (.if_icmp .ge 30, 3) := by decide +kernel
theorem dX12_copy_109 : decode cX12_copy 109 = .ok (.aload_n 0, 1) := by decide +kernel
theorem dX12_copy_110 : decode cX12_copy 110 = .ok (.getfield 35, 3) := by decide +kernel
theorem dX12_copy_113 : decode cX12_copy 113 = .ok (.iload 6, 2) := by decide +kernel
theorem dX12_copy_115 : decode cX12_copy 115 = .ok (.aload_n 0, 1) := by decide +kernel
theorem dX12_copy_116 : decode cX12_copy 116 = .ok (.getfield 31, 3) := by decide +kernel
theorem dX12_copy_119 : decode cX12_copy 119 = .ok (.bipush 40, 2) := by decide +kernel
theorem dX12_copy_121 : decode cX12_copy 121 = .ok (.iload_n 1, 1) := by decide +kernel
theorem dX12_copy_122 : decode cX12_copy 122 = .ok (.imul, 1) := by decide +kernel
theorem dX12_copy_123 : decode cX12_copy 123 = .ok (.iload_n 2, 1) := by decide +kernel
theorem dX12_copy_124 : decode cX12_copy 124 = .ok (.iadd, 1) := by decide +kernel
theorem dX12_copy_125 : decode cX12_copy 125 = .ok (.iload 6, 2) := by decide +kernel
theorem dX12_copy_127 : decode cX12_copy 127 = .ok (.iadd, 1) := by decide +kernel
theorem dX12_copy_128 : decode cX12_copy 128 = .ok (.laload, 1) := by decide +kernel
theorem dX12_copy_129 : decode cX12_copy 129 = .ok (.lastore, 1) := by decide +kernel
theorem dX12_copy_130 : decode cX12_copy 130 = .ok (.iinc 6 1, 3) := by decide +kernel
theorem dX12_copy_133 : decode cX12_copy 133 = .ok (.goto (-31), 3) := by decide +kernel
theorem dX12_copy_136 : decode cX12_copy 136 = .ok (.iconst 0, 1) := by decide +kernel
theorem dX12_copy_137 : decode cX12_copy 137 = .ok (.istore 6, 2) := by decide +kernel
theorem dX12_copy_139 : decode cX12_copy 139 = .ok (.iload 6, 2) := by decide +kernel
theorem dX12_copy_141 : decode cX12_copy 141 = .ok (.iload 5, 2) := by decide +kernel
theorem dX12_copy_143 : decode cX12_copy 143 = .ok (.if_icmp .ge 31, 3) := by decide +kernel
theorem dX12_copy_146 : decode cX12_copy 146 = .ok (.aload_n 0, 1) := by decide +kernel
theorem dX12_copy_147 : decode cX12_copy 147 = .ok (.getfield 31, 3) := by decide +kernel
theorem dX12_copy_150 : decode cX12_copy 150 = .ok (.bipush 40, 2) := by decide +kernel
theorem dX12_copy_152 : decode cX12_copy 152 = .ok (.iload_n 3, 1) := by decide +kernel
theorem dX12_copy_153 : decode cX12_copy 153 = .ok (.imul, 1) := by decide +kernel
theorem dX12_copy_154 : decode cX12_copy 154 = .ok (.iload 4, 2) := by decide +kernel
theorem dX12_copy_156 : decode cX12_copy 156 = .ok (.iadd, 1) := by decide +kernel
theorem dX12_copy_157 : decode cX12_copy 157 = .ok (.iload 6, 2) := by decide +kernel
theorem dX12_copy_159 : decode cX12_copy 159 = .ok (.iadd, 1) := by decide +kernel
theorem dX12_copy_160 : decode cX12_copy 160 = .ok (.aload_n 0, 1) := by decide +kernel
theorem dX12_copy_161 : decode cX12_copy 161 = .ok (.getfield 35, 3) := by decide +kernel
theorem dX12_copy_164 : decode cX12_copy 164 = .ok (.iload 6, 2) := by decide +kernel
theorem dX12_copy_166 : decode cX12_copy 166 = .ok (.laload, 1) := by decide +kernel
theorem dX12_copy_167 : decode cX12_copy 167 = .ok (.lastore, 1) := by decide +kernel
theorem dX12_copy_168 : decode cX12_copy 168 = .ok (.iinc 6 1, 3) := by decide +kernel
theorem dX12_copy_171 : decode cX12_copy 171 = .ok (.goto (-32), 3) := by decide +kernel
theorem dX12_copy_174 : decode cX12_copy 174 = .ok (.iload 5, 2) := by decide +kernel
theorem dX12_copy_176 : decode cX12_copy 176 = .ok (.ireturn, 1) := by decide +kernel
theorem dX12_badSheet_0 : decode cX12_badSheet 0 = .ok (.iload_n 1, 1) := by decide +kernel
theorem dX12_badSheet_1 : decode cX12_badSheet 1 = .ok (.invokestatic 254, 3) := by decide +kernel
theorem dX12_badSheet_4 : decode cX12_badSheet 4 = .ok (.ifCond .ne 8, 3) := by decide +kernel
theorem dX12_badSheet_7 : decode cX12_badSheet 7 = .ok (.ldc 44, 2) := by decide +kernel
theorem dX12_badSheet_9 : decode cX12_badSheet 9 = .ok (.goto 19, 3) := by decide +kernel
theorem dX12_badSheet_12 : decode cX12_badSheet 12 = .ok (.aload_n 0, 1) := by decide +kernel
theorem dX12_badSheet_13 : decode cX12_badSheet 13 = .ok (.getfield 25, 3) := by decide +kernel
theorem dX12_badSheet_16 : decode cX12_badSheet 16 = .ok (.iload_n 1, 1) := by decide +kernel
theorem dX12_badSheet_17 : decode cX12_badSheet 17 = .ok (.iaload, 1) := by decide +kernel
theorem dX12_badSheet_18 : decode cX12_badSheet 18 = .ok (.ifCond .ne 9, 3) := by decide +kernel
theorem dX12_badSheet_21 : decode cX12_badSheet 21 = .ok (.ldc_w 258, 3) := by decide +kernel
theorem dX12_badSheet_24 : decode cX12_badSheet 24 = .ok (.goto 4, 3) := by decide +kernel
theorem dX12_badSheet_27 : decode cX12_badSheet 27 = .ok (.iconst 0, 1) := by decide +kernel
theorem dX12_badSheet_28 : decode cX12_badSheet 28 = .ok (.ireturn, 1) := by decide +kernel
theorem dX12_lays_0 : decode cX12_lays 0 = .ok (.aload_n 0, 1) := by decide +kernel
theorem dX12_lays_1 : decode cX12_lays 1 = .ok (.iload_n 1, 1) := by decide +kernel
theorem dX12_lays_2 : decode cX12_lays 2 = .ok (.invokevirtual 265, 3) := by decide +kernel
theorem dX12_lays_5 : decode cX12_lays 5 = .ok (.istore_n 2, 1) := by decide +kernel
theorem dX12_lays_6 : decode cX12_lays 6 = .ok (.iload_n 2, 1) := by decide +kernel
theorem dX12_lays_7 : decode cX12_lays 7 = .ok (.ifCond .eq 9, 3) := by decide +kernel
theorem dX12_lays_10 : decode cX12_lays 10 = .ok (.aload_n 0, 1) := by decide +kernel
theorem dX12_lays_11 : decode cX12_lays 11 = .ok (.iload_n 2, 1) := by decide +kernel
theorem dX12_lays_12 : decode cX12_lays 12 = .ok (.invokevirtual 53, 3) := by decide +kernel
theorem dX12_lays_15 : decode cX12_lays 15 = .ok (.ireturn, 1) := by decide +kernel
theorem dX12_lays_16 : decode cX12_lays 16 = .ok (.iconst 0, 1) := by decide +kernel
theorem dX12_lays_17 : decode cX12_lays 17 = .ok (.istore_n 3, 1) := by decide +kernel
theorem dX12_lays_18 : decode cX12_lays 18 = .ok (.iconst 0, 1) := by decide +kernel
theorem dX12_lays_19 : decode cX12_lays 19 = .ok (.istore 4, 2) := by decide +kernel
theorem dX12_lays_21 : decode cX12_lays 21 = .ok (.iload 4, 2) := by decide +kernel
theorem dX12_lays_23 : decode cX12_lays 23 = .ok (.aload_n 0, 1) := by decide +kernel
theorem dX12_lays_24 : decode cX12_lays 24 = .ok (.getfield 28, 3) := by decide +kernel
theorem dX12_lays_27 : decode cX12_lays 27 = .ok (.iload_n 1, 1) := by decide +kernel
theorem dX12_lays_28 : decode cX12_lays 28 = .ok (.iaload, 1) := by decide +kernel
theorem dX12_lays_29 : decode cX12_lays 29 = .ok (.if_icmp .ge 63, 3) := by decide +kernel
theorem dX12_lays_32 : decode cX12_lays 32 = .ok (.iload 4, 2) := by decide +kernel
theorem dX12_lays_34 : decode cX12_lays 34 = .ok (.aload_n 0, 1) := by decide +kernel
theorem dX12_lays_35 : decode cX12_lays 35 = .ok (.getfield 7, 3) := by decide +kernel
theorem dX12_lays_38 : decode cX12_lays 38 = .ok (.iconst 5, 1) := by decide +kernel
theorem dX12_lays_39 : decode cX12_lays 39 = .ok (.iaload, 1) := by decide +kernel
theorem dX12_lays_40 : decode cX12_lays 40 = .ok (.if_icmp .ge 52, 3) := by decide +kernel
theorem dX12_lays_43 : decode cX12_lays 43 = .ok (.aload_n 0, 1) := by decide +kernel
theorem dX12_lays_44 : decode cX12_lays 44 = .ok (.getfield 31, 3) := by decide +kernel
theorem dX12_lays_47 : decode cX12_lays 47 = .ok (.bipush 40, 2) := by decide +kernel
theorem dX12_lays_49 : decode cX12_lays 49 = .ok (.iload_n 1, 1) := by decide +kernel
theorem dX12_lays_50 : decode cX12_lays 50 = .ok (.imul, 1) := by decide +kernel
theorem dX12_lays_51 : decode cX12_lays 51 = .ok (.iload 4, 2) := by decide +kernel
theorem dX12_lays_53 : decode cX12_lays 53 = .ok (.iadd, 1) := by decide +kernel
theorem dX12_lays_54 : decode cX12_lays 54 = .ok (.laload, 1) := by decide +kernel
theorem dX12_lays_55 : decode cX12_lays 55 = .ok (.lstore 5, 2) := by decide +kernel
theorem dX12_lays_57 : decode cX12_lays 57 = .ok (.lload 5, 2) := by decide +kernel
theorem dX12_lays_59 : decode cX12_lays 59 = .ok (.lconst 0, 1) := by decide +kernel
theorem dX12_lays_60 : decode cX12_lays 60 = .ok (.lcmp, 1) := by decide +kernel
theorem dX12_lays_61 : decode cX12_lays 61 = .ok (.ifCond .lt 25, 3) := by decide +kernel
theorem dX12_lays_64 : decode cX12_lays 64 = .ok (.lload 5, 2) := by decide +kernel
theorem dX12_lays_66 : decode cX12_lays 66 = .ok (.ldc2_w 268, 3) := by decide +kernel
theorem dX12_lays_69 : decode cX12_lays 69 = .ok (.lcmp, 1) := by decide +kernel
theorem dX12_lays_70 : decode cX12_lays 70 = .ok (.ifCond .ge 16, 3) := by decide +kernel
theorem dX12_lays_73 : decode cX12_lays 73 = .ok (.aload_n 0, 1) := by decide +kernel
theorem dX12_lays_74 : decode cX12_lays 74 = .ok (.iload 4, 2) := by decide +kernel
theorem dX12_lays_76 : decode cX12_lays 76 = .ok (.iconst 2, 1) := by decide +kernel
theorem dX12_lays_77 : decode cX12_lays 77 = .ok (.lload 5, 2) := by decide +kernel
theorem dX12_lays_79 : decode cX12_lays 79 = .ok (.l2i, 1) := by decide +kernel
theorem dX12_lays_80 : decode cX12_lays 80 = .ok (.invokevirtual 88, 3) := by decide +kernel
theorem dX12_lays_83 : decode cX12_lays 83 = .ok (.iinc 3 1, 3) := by decide +kernel
theorem dX12_lays_86 : decode cX12_lays 86 = .ok (.iinc 4 1, 3) := by decide +kernel
theorem dX12_lays_89 : decode cX12_lays 89 = .ok (.goto (-68), 3) := by decide +kernel
theorem dX12_lays_92 : decode cX12_lays 92 = .ok (.iload_n 3, 1) := by decide +kernel
theorem dX12_lays_93 : decode cX12_lays 93 = .ok (.ireturn, 1) := by decide +kernel
theorem dX12_book_0 : decode cX12_book 0 = .ok (.aload_n 0, 1) := by decide +kernel
theorem dX12_book_1 : decode cX12_book 1 = .ok (.iload_n 1, 1) := by decide +kernel
theorem dX12_book_2 : decode cX12_book 2 = .ok (.invokevirtual 265, 3) := by decide +kernel
theorem dX12_book_5 : decode cX12_book 5 = .ok (.istore_n 3, 1) := by decide +kernel
theorem dX12_book_6 : decode cX12_book 6 = .ok (.iload_n 3, 1) := by decide +kernel
theorem dX12_book_7 : decode cX12_book 7 = .ok (.ifCond .eq 9, 3) := by decide +kernel
theorem dX12_book_10 : decode cX12_book 10 = .ok (.aload_n 0, 1) := by decide +kernel
theorem dX12_book_11 : decode cX12_book 11 = .ok (.iload_n 3, 1) := by decide +kernel
theorem dX12_book_12 : decode cX12_book 12 = .ok (.invokevirtual 53, 3) := by decide +kernel
theorem dX12_book_15 : decode cX12_book 15 = .ok (.ireturn, 1) := by decide +kernel
theorem dX12_book_16 : decode cX12_book 16 = .ok (.aload_n 0, 1) := by decide +kernel
theorem dX12_book_17 : decode cX12_book 17 = .ok (.iload_n 2, 1) := by decide +kernel
theorem dX12_book_18 : decode cX12_book 18 = .ok (.invokevirtual 99, 3) := by decide +kernel
theorem dX12_book_21 : decode cX12_book 21 = .ok (.ifCond .ne 10, 3) := by decide +kernel
theorem dX12_book_24 : decode cX12_book 24 = .ok (.aload_n 0, 1) := by decide +kernel
theorem dX12_book_25 : decode cX12_book 25 = .ok (.ldc 44, 2) := by decide +kernel
theorem dX12_book_27 : decode cX12_book 27 = .ok (.invokevirtual 53, 3) := by decide +kernel
theorem dX12_book_30 : decode cX12_book 30 = .ok (.ireturn, 1) := by decide +kernel
theorem dX12_book_31 : decode cX12_book 31 = .ok (.aload_n 0, 1) := by decide +kernel
theorem dX12_book_32 : decode cX12_book 32 = .ok (.iconst 1, 1) := by decide +kernel
theorem dX12_book_33 : decode cX12_book 33 = .ok (.aload_n 0, 1) := by decide +kernel
theorem dX12_book_34 : decode cX12_book 34 = .ok (.getfield 16, 3) := by decide +kernel
theorem dX12_book_37 : decode cX12_book 37 = .ok (.invokevirtual 143, 3) := by decide +kernel
theorem dX12_book_40 : decode cX12_book 40 = .ok (.iconst 0, 1) := by decide +kernel
theorem dX12_book_41 : decode cX12_book 41 = .ok (.istore 4, 2) := by decide +kernel
theorem dX12_book_43 : decode cX12_book 43 = .ok (.iload 4, 2) := by decide +kernel
theorem dX12_book_45 : decode cX12_book 45 = .ok (.aload_n 0, 1) := by decide +kernel
theorem dX12_book_46 : decode cX12_book 46 = .ok (.getfield 28, 3) := by decide +kernel
theorem dX12_book_49 : decode cX12_book 49 = .ok (.iload_n 1, 1) := by decide +kernel
theorem dX12_book_50 : decode cX12_book 50 = .ok (.iaload, 1) := by decide +kernel
theorem dX12_book_51 : decode cX12_book 51 = .ok (.if_icmp .ge 32, 3) := by decide +kernel
theorem dX12_book_54 : decode cX12_book 54 = .ok (.aload_n 0, 1) := by decide +kernel
theorem dX12_book_55 : decode cX12_book 55 = .ok (.getfield 31, 3) := by decide +kernel
theorem dX12_book_58 : decode cX12_book 58 = .ok (.bipush 40, 2) := by decide +kernel
theorem dX12_book_60 : decode cX12_book 60 = .ok (.iload_n 1, 1) := by decide +kernel
theorem dX12_book_61 : decode cX12_book 61 = .ok (.imul, 1) := by decide +kernel
theorem dX12_book_62 : decode cX12_book 62 = .ok (.iload 4, 2) := by decide +kernel
theorem dX12_book_64 : decode cX12_book 64 = .ok (.iadd, 1) := by decide +kernel
theorem dX12_book_65 : decode cX12_book 65 = .ok (.aload_n 0, 1) := by decide +kernel
theorem dX12_book_66 : decode cX12_book 66 = .ok (.iload_n 2, 1) := by decide +kernel
theorem dX12_book_67 : decode cX12_book 67 = .ok (.iconst 2, 1) := by decide +kernel
theorem dX12_book_68 : decode cX12_book 68 = .ok (.invokevirtual 69, 3) := by decide +kernel
theorem dX12_book_71 : decode cX12_book 71 = .ok (.i2l, 1) := by decide +kernel
theorem dX12_book_72 : decode cX12_book 72 = .ok (.lastore, 1) := by decide +kernel
theorem dX12_book_73 : decode cX12_book 73 = .ok (.aload_n 0, 1) := by decide +kernel
theorem dX12_book_74 : decode cX12_book 74 = .ok (.invokevirtual 135, 3) := by decide +kernel
theorem dX12_book_77 : decode cX12_book 77 = .ok (.iinc 4 1, 3) := by decide +kernel
theorem dX12_book_80 : decode cX12_book 80 = .ok (.goto (-37), 3) := by decide +kernel
theorem dX12_book_83 : decode cX12_book 83 = .ok (.aload_n 0, 1) := by decide +kernel
theorem dX12_book_84 : decode cX12_book 84 = .ok (.iconst 0, 1) := by decide +kernel
theorem dX12_book_85 : decode cX12_book 85 = .ok (.aload_n 0, 1) := by decide +kernel
theorem dX12_book_86 : decode cX12_book 86 = .ok (.getfield 16, 3) := by decide +kernel
theorem dX12_book_89 : decode cX12_book 89 = .ok (.invokevirtual 143, 3) := by decide +kernel
theorem dX12_book_92 : decode cX12_book 92 = .ok (.aload_n 0, 1) := by decide +kernel
theorem dX12_book_93 : decode cX12_book 93 = .ok (.getfield 28, 3) := by decide +kernel
theorem dX12_book_96 : decode cX12_book 96 = .ok (.iload_n 1, 1) := by decide +kernel
theorem dX12_book_97 : decode cX12_book 97 = .ok (.iaload, 1) := by decide +kernel
theorem dX12_book_98 : decode cX12_book 98 = .ok (.ireturn, 1) := by decide +kernel
theorem dX12_isSo_0 : decode cX12_isSo 0 = .ok (.iconst 1, 1) := by decide +kernel
theorem dX12_isSo_1 : decode cX12_isSo 1 = .ok (.istore_n 3, 1) := by decide +kernel
theorem dX12_isSo_2 : decode cX12_isSo 2 = .ok (.iconst 0, 1) := by decide +kernel
theorem dX12_isSo_3 : decode cX12_isSo 3 = .ok (.istore 4, 2) := by decide +kernel
theorem dX12_isSo_5 : decode cX12_isSo 5 = .ok (.iload 4, 2) := by decide +kernel
theorem dX12_isSo_7 : decode cX12_isSo 7 = .ok (.aload_n 0, 1) := by decide +kernel
theorem dX12_isSo_8 : decode cX12_isSo 8 = .ok (.getfield 28, 3) := by decide +kernel
theorem dX12_isSo_11 : decode cX12_isSo 11 = .ok (.iload_n 1, 1) := by decide +kernel
theorem dX12_isSo_12 : decode cX12_isSo 12 = .ok (.iaload, 1) := by decide +kernel
theorem dX12_isSo_13 : decode cX12_isSo 13 = .ok (.if_icmp .ge 46, 3) := by decide +kernel
theorem dX12_isSo_16 : decode cX12_isSo 16 = .ok (.iload_n 3, 1) := by decide +kernel
theorem dX12_isSo_17 : decode cX12_isSo 17 = .ok (.ifCond .eq 42, 3) := by decide +kernel
theorem dX12_isSo_20 : decode cX12_isSo 20 = .ok (.aload_n 0, 1) := by decide +kernel
theorem dX12_isSo_21 : decode cX12_isSo 21 = .ok (.getfield 31, 3) := by decide +kernel
theorem dX12_isSo_24 : decode cX12_isSo 24 = .ok (.bipush 40, 2) := by decide +kernel
theorem dX12_isSo_26 : decode cX12_isSo 26 = .ok (.iload_n 1, 1) := by decide +kernel
theorem dX12_isSo_27 : decode cX12_isSo 27 = .ok (.imul, 1) := by decide +kernel
theorem dX12_isSo_28 : decode cX12_isSo 28 = .ok (.iload 4, 2) := by decide +kernel
theorem dX12_isSo_30 : decode cX12_isSo 30 = .ok (.iadd, 1) := by decide +kernel
theorem dX12_isSo_31 : decode cX12_isSo 31 = .ok (.laload, 1) := by decide +kernel
theorem dX12_isSo_32 : decode cX12_isSo 32 = .ok (.aload_n 0, 1) := by decide +kernel
theorem dX12_isSo_33 : decode cX12_isSo 33 = .ok (.iload_n 2, 1) := by decide +kernel
theorem dX12_isSo_34 : decode cX12_isSo 34 = .ok (.iconst 2, 1) := by decide +kernel
theorem dX12_isSo_35 : decode cX12_isSo 35 = .ok (.invokevirtual 69, 3) := by decide +kernel
theorem dX12_isSo_38 : decode cX12_isSo 38 = .ok (.i2l, 1) := by decide +kernel
theorem dX12_isSo_39 : decode cX12_isSo 39 = .ok (.lcmp, 1) := by decide +kernel
theorem dX12_isSo_40 : decode cX12_isSo 40 = .ok (.ifCond .ne 7, 3) := by decide +kernel
theorem dX12_isSo_43 : decode cX12_isSo 43 = .ok (.iconst 1, 1) := by decide +kernel
theorem dX12_isSo_44 : decode cX12_isSo 44 = .ok (.goto 4, 3) := by decide +kernel
theorem dX12_isSo_47 : decode cX12_isSo 47 = .ok (.iconst 0, 1) := by decide +kernel
theorem dX12_isSo_48 : decode cX12_isSo 48 = .ok (.istore_n 3, 1) := by decide +kernel
theorem dX12_isSo_49 : decode cX12_isSo 49 = .ok (.aload_n 0, 1) := by decide +kernel
theorem dX12_isSo_50 : decode cX12_isSo 50 = .ok (.invokevirtual 135, 3) := by decide +kernel
theorem dX12_isSo_53 : decode cX12_isSo 53 = .ok (.iinc 4 1, 3) := by decide +kernel
theorem dX12_isSo_56 : decode cX12_isSo 56 = .ok (.goto (-51), 3) := by decide +kernel
theorem dX12_isSo_59 : decode cX12_isSo 59 = .ok (.iload_n 3, 1) := by decide +kernel
theorem dX12_isSo_60 : decode cX12_isSo 60 = .ok (.ireturn, 1) := by decide +kernel
theorem dX12_read_0 : decode cX12_read 0 = .ok (.aload_n 0, 1) := by decide +kernel
theorem dX12_read_1 : decode cX12_read 1 = .ok (.iload_n 1, 1) := by decide +kernel
theorem dX12_read_2 : decode cX12_read 2 = .ok (.invokevirtual 265, 3) := by decide +kernel
theorem dX12_read_5 : decode cX12_read 5 = .ok (.istore_n 3, 1) := by decide +kernel
theorem dX12_read_6 : decode cX12_read 6 = .ok (.iload_n 3, 1) := by decide +kernel
theorem dX12_read_7 : decode cX12_read 7 = .ok (.ifCond .eq 9, 3) := by decide +kernel
theorem dX12_read_10 : decode cX12_read 10 = .ok (.aload_n 0, 1) := by decide +kernel
theorem dX12_read_11 : decode cX12_read 11 = .ok (.iload_n 3, 1) := by decide +kernel
theorem dX12_read_12 : decode cX12_read 12 = .ok (.invokevirtual 53, 3) := by decide +kernel
theorem dX12_read_15 : decode cX12_read 15 = .ok (.ireturn, 1) := by decide +kernel
theorem dX12_read_16 : decode cX12_read 16 = .ok (.aload_n 0, 1) := by decide +kernel
theorem dX12_read_17 : decode cX12_read 17 = .ok (.iload_n 2, 1) := by decide +kernel
theorem dX12_read_18 : decode cX12_read 18 = .ok (.invokevirtual 99, 3) := by decide +kernel
theorem dX12_read_21 : decode cX12_read 21 = .ok (.ifCond .ne 10, 3) := by decide +kernel
theorem dX12_read_24 : decode cX12_read 24 = .ok (.aload_n 0, 1) := by decide +kernel
theorem dX12_read_25 : decode cX12_read 25 = .ok (.ldc 44, 2) := by decide +kernel
theorem dX12_read_27 : decode cX12_read 27 = .ok (.invokevirtual 53, 3) := by decide +kernel
theorem dX12_read_30 : decode cX12_read 30 = .ok (.ireturn, 1) := by decide +kernel
theorem dX12_read_31 : decode cX12_read 31 = .ok (.iconst 0, 1) := by decide +kernel
theorem dX12_read_32 : decode cX12_read 32 = .ok (.istore 4, 2) := by decide +kernel
theorem dX12_read_34 : decode cX12_read 34 = .ok (.aload_n 0, 1) := by decide +kernel
theorem dX12_read_35 : decode cX12_read 35 = .ok (.iconst 1, 1) := by decide +kernel
theorem dX12_read_36 : decode cX12_read 36 = .ok (.aload_n 0, 1) := by decide +kernel
theorem dX12_read_37 : decode cX12_read 37 = .ok (.getfield 19, 3) := by decide +kernel
theorem dX12_read_40 : decode cX12_read 40 = .ok (.invokevirtual 143, 3) := by decide +kernel
theorem dX12_read_43 : decode cX12_read 43 = .ok (.iconst 0, 1) := by decide +kernel
theorem dX12_read_44 : decode cX12_read 44 = .ok (.istore 5, 2) := by decide +kernel
theorem dX12_read_46 : decode cX12_read 46 = .ok (.iload 5, 2) := by decide +kernel
theorem dX12_read_48 : decode cX12_read 48 = .ok (.bipush 60, 2) := by decide +kernel
theorem dX12_read_50 : decode cX12_read 50 = .ok (.if_icmp .ge 59, 3) := by decide +kernel
theorem dX12_read_53 : decode cX12_read 53 = .ok (.aload_n 0, 1) := by decide +kernel
theorem dX12_read_54 : decode cX12_read 54 = .ok (.iload_n 2, 1) := by decide +kernel
theorem dX12_read_55 : decode cX12_read 55 = .ok (.iconst 0, 1) := by decide +kernel
theorem dX12_read_56 : decode cX12_read 56 = .ok (.iload 5, 2) := by decide +kernel
theorem dX12_read_58 : decode cX12_read 58 = .ok (.bipush 10, 2) := by decide +kernel
theorem dX12_read_60 : decode cX12_read 60 = .ok (.idiv, 1) := by decide +kernel
theorem dX12_read_61 : decode cX12_read 61 = .ok (.invokevirtual 88, 3) := by decide +kernel
theorem dX12_read_64 : decode cX12_read 64 = .ok (.aload_n 0, 1) := by decide +kernel
theorem dX12_read_65 : decode cX12_read 65 = .ok (.getfield 7, 3) := by decide +kernel
theorem dX12_read_68 : decode cX12_read 68 = .ok (.iconst 4, 1) := by decide +kernel
theorem dX12_read_69 : decode cX12_read 69 = .ok (.iload 5, 2) := by decide +kernel
theorem dX12_read_71 : decode cX12_read 71 = .ok (.bipush 10, 2) := by decide +kernel
theorem dX12_read_73 : decode cX12_read 73 = .ok (.irem, 1) := by decide +kernel
theorem dX12_read_74 : decode cX12_read 74 = .ok (.iastore, 1) := by decide +kernel
theorem dX12_read_75 : decode cX12_read 75 = .ok (.iload 4, 2) := by decide +kernel
theorem dX12_read_77 : decode cX12_read 77 = .ok (.aload_n 0, 1) := by decide +kernel
theorem dX12_read_78 : decode cX12_read 78 = .ok (.iload_n 1, 1) := by decide +kernel
theorem dX12_read_79 : decode cX12_read 79 = .ok (.iload_n 2, 1) := by decide +kernel
theorem dX12_read_80 : decode cX12_read 80 = .ok (.invokevirtual 270, 3) := by decide +kernel
theorem dX12_read_83 : decode cX12_read 83 = .ok (.ifCond .eq 7, 3) := by decide +kernel
theorem dX12_read_86 : decode cX12_read 86 = .ok (.iconst 1, 1) := by decide +kernel
theorem dX12_read_87 : decode cX12_read 87 = .ok (.goto 4, 3) := by decide +kernel
theorem dX12_read_90 : decode cX12_read 90 = .ok (.iconst 0, 1) := by decide +kernel
theorem dX12_read_91 : decode cX12_read 91 = .ok (.iadd, 1) := by decide +kernel
theorem dX12_read_92 : decode cX12_read 92 = .ok (.istore 4, 2) := by decide +kernel
theorem dX12_read_94 : decode cX12_read 94 = .ok (.aload_n 0, 1) := by decide +kernel
theorem dX12_read_95 : decode cX12_read 95 = .ok (.iconst 0, 1) := by decide +kernel
theorem dX12_read_96 : decode cX12_read 96 = .ok (.aload_n 0, 1) := by decide +kernel
theorem dX12_read_97 : decode cX12_read 97 = .ok (.getfield 19, 3) := by decide +kernel
theorem dX12_read_100 : decode cX12_read 100 = .ok (.invokevirtual 143, 3) := by decide +kernel
theorem dX12_read_103 : decode cX12_read 103 = .ok (.iinc 5 1, 3) := by decide +kernel
theorem dX12_read_106 : decode cX12_read 106 = .ok (.goto (-60), 3) := by decide +kernel
theorem dX12_read_109 : decode cX12_read 109 = .ok (.iload 4, 2) := by decide +kernel
theorem dX12_read_111 : decode cX12_read 111 = .ok (.ireturn, 1) := by decide +kernel
theorem dX12_moveAll_0 : decode cX12_moveAll 0 = .ok (.iconst 0, 1) := by decide +kernel
theorem dX12_moveAll_1 : decode cX12_moveAll 1 = .ok (.istore_n 3, 1) := by decide +kernel
theorem dX12_moveAll_2 : decode cX12_moveAll 2 = .ok (.iload_n 3, 1) := by decide +kernel
theorem dX12_moveAll_3 : decode cX12_moveAll 3 = .ok (.bipush 48, 2) := by decide +kernel
theorem dX12_moveAll_5 : decode cX12_moveAll 5 = .ok (.if_icmp .ge 34, 3) := by decide +kernel
theorem dX12_moveAll_8 : decode cX12_moveAll 8 = .ok (.iload_n 1, 1) := by decide +kernel
theorem dX12_moveAll_9 : decode cX12_moveAll 9 = .ok (.ifCond .eq 15, 3) := by decide +kernel
theorem dX12_moveAll_12 : decode cX12_moveAll 12 = .ok (.aload_n 2, 1) := by decide +kernel
theorem dX12_moveAll_13 : decode cX12_moveAll 13 = .ok (.iload_n 3, 1) := by decide +kernel
theorem dX12_moveAll_14 : decode cX12_moveAll 14 = .ok (.aload_n 0, 1) := by decide +kernel
theorem dX12_moveAll_15 : decode cX12_moveAll 15 = .ok (.getfield 7, 3) := by decide +kernel
theorem dX12_moveAll_18 : decode cX12_moveAll 18 = .ok (.iload_n 3, 1) := by decide +kernel
theorem dX12_moveAll_19 : decode cX12_moveAll 19 = .ok (.iaload, 1) := by decide +kernel
theorem dX12_moveAll_20 : decode cX12_moveAll 20 = .ok (.iastore, 1) := by decide +kernel
theorem dX12_moveAll_21 : decode cX12_moveAll 21 = .ok (.goto 12, 3) := by decide +kernel
theorem dX12_moveAll_24 : decode cX12_moveAll 24 = .ok (.aload_n 0, 1) := by decide +kernel
theorem dX12_moveAll_25 : decode cX12_moveAll 25 = .ok (.getfield 7, 3) := by decide +kernel
theorem dX12_moveAll_28 : decode cX12_moveAll 28 = .ok (.iload_n 3, 1) := by decide +kernel
theorem dX12_moveAll_29 : decode cX12_moveAll 29 = .ok (.aload_n 2, 1) := by decide +kernel
theorem dX12_moveAll_30 : decode cX12_moveAll 30 = .ok (.iload_n 3, 1) := by decide +kernel
theorem dX12_moveAll_31 : decode cX12_moveAll 31 = .ok (.iaload, 1) := by decide +kernel
theorem dX12_moveAll_32 : decode cX12_moveAll 32 = .ok (.iastore, 1) := by decide +kernel
theorem dX12_moveAll_33 : decode cX12_moveAll 33 = .ok (.iinc 3 1, 3) := by decide +kernel
theorem dX12_moveAll_36 : decode cX12_moveAll 36 = .ok (.goto (-34), 3) := by decide +kernel
theorem dX12_moveAll_39 : decode cX12_moveAll 39 = .ok (.return_, 1) := by decide +kernel
theorem dX12_image_0 : decode cX12_image 0 = .ok (.aload_n 0, 1) := by decide +kernel
theorem dX12_image_1 : decode cX12_image 1 = .ok (.iconst 1, 1) := by decide +kernel
theorem dX12_image_2 : decode cX12_image 2 = .ok (.aload_n 0, 1) := by decide +kernel
theorem dX12_image_3 : decode cX12_image 3 = .ok (.getfield 38, 3) := by decide +kernel
theorem dX12_image_6 : decode cX12_image 6 = .ok (.invokevirtual 143, 3) := by decide +kernel
theorem dX12_image_9 : decode cX12_image 9 = .ok (.aload_n 0, 1) := by decide +kernel
theorem dX12_image_10 : decode cX12_image 10 = .ok (.iconst 1, 1) := by decide +kernel
theorem dX12_image_11 : decode cX12_image 11 = .ok (.putfield 273, 3) := by decide +kernel
theorem dX12_image_14 : decode cX12_image 14 = .ok (.iconst 1, 1) := by decide +kernel
theorem dX12_image_15 : decode cX12_image 15 = .ok (.ireturn, 1) := by decide +kernel
theorem dX12_undo_0 : decode cX12_undo 0 = .ok (.aload_n 0, 1) := by decide +kernel
theorem dX12_undo_1 : decode cX12_undo 1 = .ok (.getfield 273, 3) := by decide +kernel
theorem dX12_undo_4 : decode cX12_undo 4 = .ok (.ifCond .ne 10, 3) := by decide +kernel
theorem dX12_undo_7 : decode cX12_undo 7 = .ok (.aload_n 0, 1) := by decide +kernel
theorem dX12_undo_8 : decode cX12_undo 8 = .ok (.ldc 150, 2) := by decide +kernel
theorem dX12_undo_10 : decode cX12_undo 10 = .ok (.invokevirtual 53, 3) := by decide +kernel
theorem dX12_undo_13 : decode cX12_undo 13 = .ok (.ireturn, 1) := by decide +kernel
theorem dX12_undo_14 : decode cX12_undo 14 = .ok (.aload_n 0, 1) := by decide +kernel
theorem dX12_undo_15 : decode cX12_undo 15 = .ok (.iconst 0, 1) := by decide +kernel
theorem dX12_undo_16 : decode cX12_undo 16 = .ok (.aload_n 0, 1) := by decide +kernel
theorem dX12_undo_17 : decode cX12_undo 17 = .ok (.getfield 38, 3) := by decide +kernel
theorem dX12_undo_20 : decode cX12_undo 20 = .ok (.invokevirtual 143, 3) := by decide +kernel
theorem dX12_undo_23 : decode cX12_undo 23 = .ok (.aload_n 0, 1) := by decide +kernel
theorem dX12_undo_24 : decode cX12_undo 24 = .ok (.getfield 7, 3) := by decide +kernel
theorem dX12_undo_27 : decode cX12_undo 27 = .ok (.iconst 5, 1) := by decide +kernel
theorem dX12_undo_28 : decode cX12_undo 28 = .ok (.iaload, 1) := by decide +kernel
theorem dX12_undo_29 : decode cX12_undo 29 = .ok (.ireturn, 1) := by decide +kernel
theorem dX12_tear_0 : decode cX12_tear 0 = .ok (.aload_n 0, 1) := by decide +kernel
theorem dX12_tear_1 : decode cX12_tear 1 = .ok (.getfield 273, 3) := by decide +kernel
theorem dX12_tear_4 : decode cX12_tear 4 = .ok (.ifCond .eq 7, 3) := by decide +kernel
theorem dX12_tear_7 : decode cX12_tear 7 = .ok (.iconst 1, 1) := by decide +kernel
theorem dX12_tear_8 : decode cX12_tear 8 = .ok (.goto 4, 3) := by decide +kernel
theorem dX12_tear_11 : decode cX12_tear 11 = .ok (.iconst 0, 1) := by decide +kernel
theorem dX12_tear_12 : decode cX12_tear 12 = .ok (.istore_n 1, 1) := by decide +kernel
theorem dX12_tear_13 : decode cX12_tear 13 = .ok (.aload_n 0, 1) := by decide +kernel
theorem dX12_tear_14 : decode cX12_tear 14 = .ok (.iconst 0, 1) := by decide +kernel
theorem dX12_tear_15 : decode cX12_tear 15 = .ok (.putfield 273, 3) := by decide +kernel
theorem dX12_tear_18 : decode cX12_tear 18 = .ok (.iload_n 1, 1) := by decide +kernel
theorem dX12_tear_19 : decode cX12_tear 19 = .ok (.ireturn, 1) := by decide +kernel
theorem dX12_count_0 : decode cX12_count 0 = .ok (.iload_n 1, 1) := by decide +kernel
theorem dX12_count_1 : decode cX12_count 1 = .ok (.tableswitch 58 0 3 #[31, 38, 43, 53], 31) := by decide +kernel
theorem dX12_count_32 : decode cX12_count 32 = .ok (.aload_n 0, 1) := by decide +kernel
theorem dX12_count_33 : decode cX12_count 33 = .ok (.getfield 7, 3) := by decide +kernel
theorem dX12_count_36 : decode cX12_count 36 = .ok (.iconst 5, 1) := by decide +kernel
theorem dX12_count_37 : decode cX12_count 37 = .ok (.iaload, 1) := by decide +kernel
theorem dX12_count_38 : decode cX12_count 38 = .ok (.ireturn, 1) := by decide +kernel
theorem dX12_count_39 : decode cX12_count 39 = .ok (.aload_n 0, 1) := by decide +kernel
theorem dX12_count_40 : decode cX12_count 40 = .ok (.getfield 164, 3) := by decide +kernel
theorem dX12_count_43 : decode cX12_count 43 = .ok (.ireturn, 1) := by decide +kernel
theorem dX12_count_44 : decode cX12_count 44 = .ok (.aload_n 0, 1) := by decide +kernel
theorem dX12_count_45 : decode cX12_count 45 = .ok (.getfield 7, 3) := by decide +kernel
theorem dX12_count_48 : decode cX12_count 48 = .ok (.iconst 3, 1) := by decide +kernel
theorem dX12_count_49 : decode cX12_count 49 = .ok (.iaload, 1) := by decide +kernel
theorem dX12_count_50 : decode cX12_count 50 = .ok (.invokestatic 157, 3) := by decide +kernel
theorem dX12_count_53 : decode cX12_count 53 = .ok (.ireturn, 1) := by decide +kernel
theorem dX12_count_54 : decode cX12_count 54 = .ok (.aload_n 0, 1) := by decide +kernel
theorem dX12_count_55 : decode cX12_count 55 = .ok (.invokevirtual 160, 3) := by decide +kernel
theorem dX12_count_58 : decode cX12_count 58 = .ok (.ireturn, 1) := by decide +kernel
theorem dX12_count_59 : decode cX12_count 59 = .ok (.aload_n 0, 1) := by decide +kernel
theorem dX12_count_60 : decode cX12_count 60 = .ok (.ldc 44, 2) := by decide +kernel
theorem dX12_count_62 : decode cX12_count 62 = .ok (.invokevirtual 53, 3) := by decide +kernel
theorem dX12_count_65 : decode cX12_count 65 = .ok (.ireturn, 1) := by decide +kernel
theorem dX12_status_0 : decode cX12_status 0 = .ok (.iload_n 1, 1) := by decide +kernel
theorem dX12_status_1 : decode cX12_status 1 = .ok (.iconst (-1), 1) := by decide +kernel
theorem dX12_status_2 : decode cX12_status 2 = .ok (.bipush 6, 2) := by decide +kernel
theorem dX12_status_4 : decode cX12_status 4 = .ok (.invokestatic 45, 3) := by decide +kernel
theorem dX12_status_7 : decode cX12_status 7 = .ok (.ifCond .ne 10, 3) := by decide +kernel
theorem dX12_status_10 : decode cX12_status 10 = .ok (.aload_n 0, 1) := by decide +kernel
theorem dX12_status_11 : decode cX12_status 11 = .ok (.ldc 44, 2) := by decide +kernel
theorem dX12_status_13 : decode cX12_status 13 = .ok (.invokevirtual 53, 3) := by decide +kernel
theorem dX12_status_16 : decode cX12_status 16 = .ok (.ireturn, 1) := by decide +kernel
theorem dX12_status_17 : decode cX12_status 17 = .ok (.iconst 0, 1) := by decide +kernel
theorem dX12_status_18 : decode cX12_status 18 = .ok (.istore_n 2, 1) := by decide +kernel
theorem dX12_status_19 : decode cX12_status 19 = .ok (.iconst 0, 1) := by decide +kernel
theorem dX12_status_20 : decode cX12_status 20 = .ok (.istore_n 3, 1) := by decide +kernel
theorem dX12_status_21 : decode cX12_status 21 = .ok (.iload_n 3, 1) := by decide +kernel
theorem dX12_status_22 : decode cX12_status 22 = .ok (.bipush 7, 2) := by decide +kernel
theorem dX12_status_24 : decode cX12_status 24 = .ok (.if_icmp .ge 18, 3) := by decide +kernel
theorem dX12_status_27 : decode cX12_status 27 = .ok (.iload_n 2, 1) := by decide +kernel
theorem dX12_status_28 : decode cX12_status 28 = .ok (.aload_n 0, 1) := by decide +kernel
theorem dX12_status_29 : decode cX12_status 29 = .ok (.getfield 13, 3) := by decide +kernel
theorem dX12_status_32 : decode cX12_status 32 = .ok (.iload_n 3, 1) := by decide +kernel
theorem dX12_status_33 : decode cX12_status 33 = .ok (.iaload, 1) := by decide +kernel
theorem dX12_status_34 : decode cX12_status 34 = .ok (.iadd, 1) := by decide +kernel
theorem dX12_status_35 : decode cX12_status 35 = .ok (.istore_n 2, 1) := by decide +kernel
theorem dX12_status_36 : decode cX12_status 36 = .ok (.iinc 3 1, 3) := by decide +kernel
theorem dX12_status_39 : decode cX12_status 39 = .ok (.goto (-18), 3) := by decide +kernel
theorem dX12_status_42 : decode cX12_status 42 = .ok (.iload_n 1, 1) := by decide +kernel
theorem dX12_status_43 : decode cX12_status 43 = .ok (.ifCond .ge 7, 3) := by decide +kernel
theorem dX12_status_46 : decode cX12_status 46 = .ok (.iload_n 2, 1) := by decide +kernel
theorem dX12_status_47 : decode cX12_status 47 = .ok (.goto 17, 3) := by decide +kernel
theorem dX12_status_50 : decode cX12_status 50 = .ok (.aload_n 0, 1) := by decide +kernel
theorem dX12_status_51 : decode cX12_status 51 = .ok (.getfield 13, 3) := by decide +kernel
theorem dX12_status_54 : decode cX12_status 54 = .ok (.iload_n 1, 1) := by decide +kernel
theorem dX12_status_55 : decode cX12_status 55 = .ok (.ifCond .ge 7, 3) := by decide +kernel
theorem dX12_status_58 : decode cX12_status 58 = .ok (.iconst 0, 1) := by decide +kernel
theorem dX12_status_59 : decode cX12_status 59 = .ok (.goto 4, 3) := by decide +kernel
theorem dX12_status_62 : decode cX12_status 62 = .ok (.iload_n 1, 1) := by decide +kernel
theorem dX12_status_63 : decode cX12_status 63 = .ok (.iaload, 1) := by decide +kernel
theorem dX12_status_64 : decode cX12_status 64 = .ok (.ireturn, 1) := by decide +kernel
end
section
theorem dL_law_0 : decode cL_law 0 = .ok (.new 7, 3) := by decide +kernel
theorem dL_law_3 : decode cL_law 3 = .ok (.dup, 1) := by decide +kernel
theorem dL_law_4 : decode cL_law 4 = .ok (.invokespecial 9, 3) := by decide +kernel
theorem dL_law_7 : decode cL_law 7 = .ok (.astore_n 1, 1) := by decide +kernel
theorem dL_law_8 : decode cL_law 8 = .ok (.new 10, 3) := by decide +kernel
theorem dL_law_11 : decode cL_law 11 = .ok (.dup, 1) := by decide +kernel
theorem dL_law_12 : decode cL_law 12 = .ok (.invokespecial 12, 3) := by decide +kernel
theorem dL_law_15 : decode cL_law 15 = .ok (.astore_n 2, 1) := by decide +kernel
theorem dL_law_16 : decode cL_law 16 = .ok (.iconst 0, 1) := by decide +kernel
theorem dL_law_17 : decode cL_law 17 = .ok (.istore_n 3, 1) := by decide +kernel
theorem dL_law_18 : decode cL_law 18 = .ok (.iload_n 3, 1) := by decide +kernel
theorem dL_law_19 : decode cL_law 19 = .ok (.aload_n 0, 1) := by decide +kernel
theorem dL_law_20 : decode cL_law 20 = .ok (.arraylength, 1) := by decide +kernel
theorem dL_law_21 : decode cL_law 21 = .ok (.bipush 6, 2) := by decide +kernel
theorem dL_law_23 : decode cL_law 23 = .ok (.isub, 1) := by decide +kernel
theorem dL_law_24 : decode cL_law 24 = .ok (.if_icmp .gt 1139, 3) := by decide +kernel
theorem dL_law_27 : decode cL_law 27 = .ok (.aload_n 0, 1) := by decide +kernel
theorem dL_law_28 : decode cL_law 28 = .ok (.iload_n 3, 1) := by decide +kernel
theorem dL_law_29 : decode cL_law 29 = .ok (.iaload, 1) := by decide +kernel
theorem dL_law_30 : decode cL_law 30 = .ok (.bipush 63, 2) := by decide +kernel
theorem dL_law_32 : decode cL_law 32 = .ok (.iand, 1) := by decide +kernel
theorem dL_law_33 : decode cL_law 33 = .ok (.tableswitch 1124 0 33 #[151, 184, 207, 230, 253, 286, 319, 362, 395, 428, 451, 494, 527, 550, 573, 596, 619, 642, 665, 688, 711, 744, 757, 770, 813, 887, 950, 973, 1006, 1039, 1052, 1065, 1078, 1101], 151) := by decide +kernel
theorem dL_law_184 : decode cL_law 184 = .ok (.aload_n 1, 1) := by decide +kernel
theorem dL_law_185 : decode cL_law 185 = .ok (.aload_n 0, 1) := by decide +kernel
theorem dL_law_186 : decode cL_law 186 = .ok (.iload_n 3, 1) := by decide +kernel
theorem dL_law_187 : decode cL_law 187 = .ok (.iconst 1, 1) := by decide +kernel
theorem dL_law_188 : decode cL_law 188 = .ok (.iadd, 1) := by decide +kernel
theorem dL_law_189 : decode cL_law 189 = .ok (.iaload, 1) := by decide +kernel
theorem dL_law_190 : decode cL_law 190 = .ok (.aload_n 0, 1) := by decide +kernel
theorem dL_law_191 : decode cL_law 191 = .ok (.iload_n 3, 1) := by decide +kernel
theorem dL_law_192 : decode cL_law 192 = .ok (.iconst 2, 1) := by decide +kernel
theorem dL_law_193 : decode cL_law 193 = .ok (.iadd, 1) := by decide +kernel
theorem dL_law_194 : decode cL_law 194 = .ok (.iaload, 1) := by decide +kernel
theorem dL_law_195 : decode cL_law 195 = .ok (.invokevirtual 13, 3) := by decide +kernel
theorem dL_law_198 : decode cL_law 198 = .ok (.aload_n 2, 1) := by decide +kernel
theorem dL_law_199 : decode cL_law 199 = .ok (.aload_n 0, 1) := by decide +kernel
theorem dL_law_200 : decode cL_law 200 = .ok (.iload_n 3, 1) := by decide +kernel
theorem dL_law_201 : decode cL_law 201 = .ok (.iconst 1, 1) := by decide +kernel
theorem dL_law_202 : decode cL_law 202 = .ok (.iadd, 1) := by decide +kernel
theorem dL_law_203 : decode cL_law 203 = .ok (.iaload, 1) := by decide +kernel
theorem dL_law_204 : decode cL_law 204 = .ok (.aload_n 0, 1) := by decide +kernel
theorem dL_law_205 : decode cL_law 205 = .ok (.iload_n 3, 1) := by decide +kernel
theorem dL_law_206 : decode cL_law 206 = .ok (.iconst 2, 1) := by decide +kernel
theorem dL_law_207 : decode cL_law 207 = .ok (.iadd, 1) := by decide +kernel
theorem dL_law_208 : decode cL_law 208 = .ok (.iaload, 1) := by decide +kernel
theorem dL_law_209 : decode cL_law 209 = .ok (.invokevirtual 17, 3) := by decide +kernel
theorem dL_law_212 : decode cL_law 212 = .ok (.if_icmp .eq 945, 3) := by decide +kernel
theorem dL_law_215 : decode cL_law 215 = .ok (.iconst 0, 1) := by decide +kernel
theorem dL_law_216 : decode cL_law 216 = .ok (.ireturn, 1) := by decide +kernel
theorem dL_law_217 : decode cL_law 217 = .ok (.aload_n 1, 1) := by decide +kernel
theorem dL_law_218 : decode cL_law 218 = .ok (.aload_n 0, 1) := by decide +kernel
theorem dL_law_219 : decode cL_law 219 = .ok (.iload_n 3, 1) := by decide +kernel
theorem dL_law_220 : decode cL_law 220 = .ok (.iconst 1, 1) := by decide +kernel
theorem dL_law_221 : decode cL_law 221 = .ok (.iadd, 1) := by decide +kernel
theorem dL_law_222 : decode cL_law 222 = .ok (.iaload, 1) := by decide +kernel
theorem dL_law_223 : decode cL_law 223 = .ok (.invokevirtual 18, 3) := by decide +kernel
theorem dL_law_226 : decode cL_law 226 = .ok (.aload_n 2, 1) := by decide +kernel
theorem dL_law_227 : decode cL_law 227 = .ok (.aload_n 0, 1) := by decide +kernel
theorem dL_law_228 : decode cL_law 228 = .ok (.iload_n 3, 1) := by decide +kernel
theorem dL_law_229 : decode cL_law 229 = .ok (.iconst 1, 1) := by decide +kernel
theorem dL_law_230 : decode cL_law 230 = .ok (.iadd, 1) := by decide +kernel
theorem dL_law_231 : decode cL_law 231 = .ok (.iaload, 1) := by decide +kernel
theorem dL_law_232 : decode cL_law 232 = .ok (.invokevirtual 22, 3) := by decide +kernel
theorem dL_law_235 : decode cL_law 235 = .ok (.if_icmp .eq 922, 3) := by decide +kernel
theorem dL_law_238 : decode cL_law 238 = .ok (.iconst 0, 1) := by decide +kernel
theorem dL_law_239 : decode cL_law 239 = .ok (.ireturn, 1) := by decide +kernel
theorem dL_law_240 : decode cL_law 240 = .ok (.aload_n 1, 1) := by decide +kernel
theorem dL_law_241 : decode cL_law 241 = .ok (.aload_n 0, 1) := by decide +kernel
theorem dL_law_242 : decode cL_law 242 = .ok (.iload_n 3, 1) := by decide +kernel
theorem dL_law_243 : decode cL_law 243 = .ok (.iconst 1, 1) := by decide +kernel
theorem dL_law_244 : decode cL_law 244 = .ok (.iadd, 1) := by decide +kernel
theorem dL_law_245 : decode cL_law 245 = .ok (.iaload, 1) := by decide +kernel
theorem dL_law_246 : decode cL_law 246 = .ok (.invokevirtual 23, 3) := by decide +kernel
theorem dL_law_249 : decode cL_law 249 = .ok (.aload_n 2, 1) := by decide +kernel
theorem dL_law_250 : decode cL_law 250 = .ok (.aload_n 0, 1) := by decide +kernel
theorem dL_law_251 : decode cL_law 251 = .ok (.iload_n 3, 1) := by decide +kernel
theorem dL_law_252 : decode cL_law 252 = .ok (.iconst 1, 1) := by decide +kernel
theorem dL_law_253 : decode cL_law 253 = .ok (.iadd, 1) := by decide +kernel
theorem dL_law_254 : decode cL_law 254 = .ok (.iaload, 1) := by decide +kernel
theorem dL_law_255 : decode cL_law 255 = .ok (.invokevirtual 26, 3) := by decide +kernel
theorem dL_law_258 : decode cL_law 258 = .ok (.if_icmp .eq 899, 3) := by decide +kernel
theorem dL_law_261 : decode cL_law 261 = .ok (.iconst 0, 1) := by decide +kernel
theorem dL_law_262 : decode cL_law 262 = .ok (.ireturn, 1) := by decide +kernel
theorem dL_law_263 : decode cL_law 263 = .ok (.aload_n 1, 1) := by decide +kernel
theorem dL_law_264 : decode cL_law 264 = .ok (.aload_n 0, 1) := by decide +kernel
theorem dL_law_265 : decode cL_law 265 = .ok (.iload_n 3, 1) := by decide +kernel
theorem dL_law_266 : decode cL_law 266 = .ok (.iconst 1, 1) := by decide +kernel
theorem dL_law_267 : decode cL_law 267 = .ok (.iadd, 1) := by decide +kernel
theorem dL_law_268 : decode cL_law 268 = .ok (.iaload, 1) := by decide +kernel
theorem dL_law_269 : decode cL_law 269 = .ok (.invokevirtual 27, 3) := by decide +kernel
theorem dL_law_272 : decode cL_law 272 = .ok (.aload_n 2, 1) := by decide +kernel
theorem dL_law_273 : decode cL_law 273 = .ok (.aload_n 0, 1) := by decide +kernel
theorem dL_law_274 : decode cL_law 274 = .ok (.iload_n 3, 1) := by decide +kernel
theorem dL_law_275 : decode cL_law 275 = .ok (.iconst 1, 1) := by decide +kernel
theorem dL_law_276 : decode cL_law 276 = .ok (.iadd, 1) := by decide +kernel
theorem dL_law_277 : decode cL_law 277 = .ok (.iaload, 1) := by decide +kernel
theorem dL_law_278 : decode cL_law 278 = .ok (.invokevirtual 30, 3) := by decide +kernel
theorem dL_law_281 : decode cL_law 281 = .ok (.if_icmp .eq 876, 3) := by decide +kernel
theorem dL_law_284 : decode cL_law 284 = .ok (.iconst 0, 1) := by decide +kernel
theorem dL_law_285 : decode cL_law 285 = .ok (.ireturn, 1) := by decide +kernel
theorem dL_law_286 : decode cL_law 286 = .ok (.aload_n 1, 1) := by decide +kernel
theorem dL_law_287 : decode cL_law 287 = .ok (.aload_n 0, 1) := by decide +kernel
theorem dL_law_288 : decode cL_law 288 = .ok (.iload_n 3, 1) := by decide +kernel
theorem dL_law_289 : decode cL_law 289 = .ok (.iconst 1, 1) := by decide +kernel
theorem dL_law_290 : decode cL_law 290 = .ok (.iadd, 1) := by decide +kernel
theorem dL_law_291 : decode cL_law 291 = .ok (.iaload, 1) := by decide +kernel
theorem dL_law_292 : decode cL_law 292 = .ok (.aload_n 0, 1) := by decide +kernel
theorem dL_law_293 : decode cL_law 293 = .ok (.iload_n 3, 1) := by decide +kernel
theorem dL_law_294 : decode cL_law 294 = .ok (.iconst 2, 1) := by decide +kernel
theorem dL_law_295 : decode cL_law 295 = .ok (.iadd, 1) := by decide +kernel
theorem dL_law_296 : decode cL_law 296 = .ok (.iaload, 1) := by decide +kernel
theorem dL_law_297 : decode cL_law 297 = .ok (.invokevirtual 31, 3) := by decide +kernel
theorem dL_law_300 : decode cL_law 300 = .ok (.aload_n 2, 1) := by decide +kernel
theorem dL_law_301 : decode cL_law 301 = .ok (.aload_n 0, 1) := by decide +kernel
theorem dL_law_302 : decode cL_law 302 = .ok (.iload_n 3, 1) := by decide +kernel
theorem dL_law_303 : decode cL_law 303 = .ok (.iconst 1, 1) := by decide +kernel
theorem dL_law_304 : decode cL_law 304 = .ok (.iadd, 1) := by decide +kernel
theorem dL_law_305 : decode cL_law 305 = .ok (.iaload, 1) := by decide +kernel
theorem dL_law_306 : decode cL_law 306 = .ok (.aload_n 0, 1) := by decide +kernel
theorem dL_law_307 : decode cL_law 307 = .ok (.iload_n 3, 1) := by decide +kernel
theorem dL_law_308 : decode cL_law 308 = .ok (.iconst 2, 1) := by decide +kernel
theorem dL_law_309 : decode cL_law 309 = .ok (.iadd, 1) := by decide +kernel
theorem dL_law_310 : decode cL_law 310 = .ok (.iaload, 1) := by decide +kernel
theorem dL_law_311 : decode cL_law 311 = .ok (.invokevirtual 34, 3) := by decide +kernel
theorem dL_law_314 : decode cL_law 314 = .ok (.if_icmp .eq 843, 3) := by decide +kernel
theorem dL_law_317 : decode cL_law 317 = .ok (.iconst 0, 1) := by decide +kernel
theorem dL_law_318 : decode cL_law 318 = .ok (.ireturn, 1) := by decide +kernel
theorem dL_law_319 : decode cL_law 319 = .ok (.aload_n 1, 1) := by decide +kernel
theorem dL_law_320 : decode cL_law 320 = .ok (.aload_n 0, 1) := by decide +kernel
theorem dL_law_321 : decode cL_law 321 = .ok (.iload_n 3, 1) := by decide +kernel
theorem dL_law_322 : decode cL_law 322 = .ok (.iconst 1, 1) := by decide +kernel
theorem dL_law_323 : decode cL_law 323 = .ok (.iadd, 1) := by decide +kernel
theorem dL_law_324 : decode cL_law 324 = .ok (.iaload, 1) := by decide +kernel
theorem dL_law_325 : decode cL_law 325 = .ok (.aload_n 0, 1) := by decide +kernel
theorem dL_law_326 : decode cL_law 326 = .ok (.iload_n 3, 1) := by decide +kernel
theorem dL_law_327 : decode cL_law 327 = .ok (.iconst 2, 1) := by decide +kernel
theorem dL_law_328 : decode cL_law 328 = .ok (.iadd, 1) := by decide +kernel
theorem dL_law_329 : decode cL_law 329 = .ok (.iaload, 1) := by decide +kernel
theorem dL_law_330 : decode cL_law 330 = .ok (.invokevirtual 35, 3) := by decide +kernel
theorem dL_law_333 : decode cL_law 333 = .ok (.aload_n 2, 1) := by decide +kernel
theorem dL_law_334 : decode cL_law 334 = .ok (.aload_n 0, 1) := by decide +kernel
theorem dL_law_335 : decode cL_law 335 = .ok (.iload_n 3, 1) := by decide +kernel
theorem dL_law_336 : decode cL_law 336 = .ok (.iconst 1, 1) := by decide +kernel
theorem dL_law_337 : decode cL_law 337 = .ok (.iadd, 1) := by decide +kernel
theorem dL_law_338 : decode cL_law 338 = .ok (.iaload, 1) := by decide +kernel
theorem dL_law_339 : decode cL_law 339 = .ok (.aload_n 0, 1) := by decide +kernel
theorem dL_law_340 : decode cL_law 340 = .ok (.iload_n 3, 1) := by decide +kernel
theorem dL_law_341 : decode cL_law 341 = .ok (.iconst 2, 1) := by decide +kernel
theorem dL_law_342 : decode cL_law 342 = .ok (.iadd, 1) := by decide +kernel
theorem dL_law_343 : decode cL_law 343 = .ok (.iaload, 1) := by decide +kernel
theorem dL_law_344 : decode cL_law 344 = .ok (.invokevirtual 38, 3) := by decide +kernel
theorem dL_law_347 : decode cL_law 347 = .ok (.if_icmp .eq 810, 3) := by decide +kernel
theorem dL_law_350 : decode cL_law 350 = .ok (.iconst 0, 1) := by decide +kernel
theorem dL_law_351 : decode cL_law 351 = .ok (.ireturn, 1) := by decide +kernel
theorem dL_law_352 : decode cL_law 352 = .ok (.aload_n 1, 1) := by decide +kernel
theorem dL_law_353 : decode cL_law 353 = .ok (.aload_n 0, 1) := by decide +kernel
theorem dL_law_354 : decode cL_law 354 = .ok (.iload_n 3, 1) := by decide +kernel
theorem dL_law_355 : decode cL_law 355 = .ok (.iconst 1, 1) := by decide +kernel
theorem dL_law_356 : decode cL_law 356 = .ok (.iadd, 1) := by decide +kernel
theorem dL_law_357 : decode cL_law 357 = .ok (.iaload, 1) := by decide +kernel
theorem dL_law_358 : decode cL_law 358 = .ok (.aload_n 0, 1) := by decide +kernel
theorem dL_law_359 : decode cL_law 359 = .ok (.iload_n 3, 1) := by decide +kernel
theorem dL_law_360 : decode cL_law 360 = .ok (.iconst 2, 1) := by decide +kernel
theorem dL_law_361 : decode cL_law 361 = .ok (.iadd, 1) := by decide +kernel
theorem dL_law_362 : decode cL_law 362 = .ok (.iaload, 1) := by decide +kernel
theorem dL_law_363 : decode cL_law 363 = .ok (.aload_n 0, 1) := by decide +kernel
theorem dL_law_364 : decode cL_law 364 = .ok (.iload_n 3, 1) := by decide +kernel
theorem dL_law_365 : decode cL_law 365 = .ok (.iconst 3, 1) := by decide +kernel
theorem dL_law_366 : decode cL_law 366 = .ok (.iadd, 1) := by decide +kernel
theorem dL_law_367 : decode cL_law 367 = .ok (.iaload, 1) := by decide +kernel
theorem dL_law_368 : decode cL_law 368 = .ok (.invokevirtual 39, 3) := by decide +kernel
theorem dL_law_371 : decode cL_law 371 = .ok (.aload_n 2, 1) := by decide +kernel
theorem dL_law_372 : decode cL_law 372 = .ok (.aload_n 0, 1) := by decide +kernel
theorem dL_law_373 : decode cL_law 373 = .ok (.iload_n 3, 1) := by decide +kernel
theorem dL_law_374 : decode cL_law 374 = .ok (.iconst 1, 1) := by decide +kernel
theorem dL_law_375 : decode cL_law 375 = .ok (.iadd, 1) := by decide +kernel
theorem dL_law_376 : decode cL_law 376 = .ok (.iaload, 1) := by decide +kernel
theorem dL_law_377 : decode cL_law 377 = .ok (.aload_n 0, 1) := by decide +kernel
theorem dL_law_378 : decode cL_law 378 = .ok (.iload_n 3, 1) := by decide +kernel
theorem dL_law_379 : decode cL_law 379 = .ok (.iconst 2, 1) := by decide +kernel
theorem dL_law_380 : decode cL_law 380 = .ok (.iadd, 1) := by decide +kernel
theorem dL_law_381 : decode cL_law 381 = .ok (.iaload, 1) := by decide +kernel
theorem dL_law_382 : decode cL_law 382 = .ok (.aload_n 0, 1) := by decide +kernel
theorem dL_law_383 : decode cL_law 383 = .ok (.iload_n 3, 1) := by decide +kernel
theorem dL_law_384 : decode cL_law 384 = .ok (.iconst 3, 1) := by decide +kernel
theorem dL_law_385 : decode cL_law 385 = .ok (.iadd, 1) := by decide +kernel
theorem dL_law_386 : decode cL_law 386 = .ok (.iaload, 1) := by decide +kernel
theorem dL_law_387 : decode cL_law 387 = .ok (.invokevirtual 43, 3) := by decide +kernel
theorem dL_law_390 : decode cL_law 390 = .ok (.if_icmp .eq 767, 3) := by decide +kernel
theorem dL_law_393 : decode cL_law 393 = .ok (.iconst 0, 1) := by decide +kernel
theorem dL_law_394 : decode cL_law 394 = .ok (.ireturn, 1) := by decide +kernel
theorem dL_law_395 : decode cL_law 395 = .ok (.aload_n 1, 1) := by decide +kernel
theorem dL_law_396 : decode cL_law 396 = .ok (.aload_n 0, 1) := by decide +kernel
theorem dL_law_397 : decode cL_law 397 = .ok (.iload_n 3, 1) := by decide +kernel
theorem dL_law_398 : decode cL_law 398 = .ok (.iconst 1, 1) := by decide +kernel
theorem dL_law_399 : decode cL_law 399 = .ok (.iadd, 1) := by decide +kernel
theorem dL_law_400 : decode cL_law 400 = .ok (.iaload, 1) := by decide +kernel
theorem dL_law_401 : decode cL_law 401 = .ok (.aload_n 0, 1) := by decide +kernel
theorem dL_law_402 : decode cL_law 402 = .ok (.iload_n 3, 1) := by decide +kernel
theorem dL_law_403 : decode cL_law 403 = .ok (.iconst 2, 1) := by decide +kernel
theorem dL_law_404 : decode cL_law 404 = .ok (.iadd, 1) := by decide +kernel
theorem dL_law_405 : decode cL_law 405 = .ok (.iaload, 1) := by decide +kernel
theorem dL_law_406 : decode cL_law 406 = .ok (.invokevirtual 44, 3) := by decide +kernel
theorem dL_law_409 : decode cL_law 409 = .ok (.aload_n 2, 1) := by decide +kernel
theorem dL_law_410 : decode cL_law 410 = .ok (.aload_n 0, 1) := by decide +kernel
theorem dL_law_411 : decode cL_law 411 = .ok (.iload_n 3, 1) := by decide +kernel
theorem dL_law_412 : decode cL_law 412 = .ok (.iconst 1, 1) := by decide +kernel
theorem dL_law_413 : decode cL_law 413 = .ok (.iadd, 1) := by decide +kernel
theorem dL_law_414 : decode cL_law 414 = .ok (.iaload, 1) := by decide +kernel
theorem dL_law_415 : decode cL_law 415 = .ok (.aload_n 0, 1) := by decide +kernel
theorem dL_law_416 : decode cL_law 416 = .ok (.iload_n 3, 1) := by decide +kernel
theorem dL_law_417 : decode cL_law 417 = .ok (.iconst 2, 1) := by decide +kernel
theorem dL_law_418 : decode cL_law 418 = .ok (.iadd, 1) := by decide +kernel
theorem dL_law_419 : decode cL_law 419 = .ok (.iaload, 1) := by decide +kernel
theorem dL_law_420 : decode cL_law 420 = .ok (.invokevirtual 47, 3) := by decide +kernel
theorem dL_law_423 : decode cL_law 423 = .ok (.if_icmp .eq 734, 3) := by decide +kernel
theorem dL_law_426 : decode cL_law 426 = .ok (.iconst 0, 1) := by decide +kernel
theorem dL_law_427 : decode cL_law 427 = .ok (.ireturn, 1) := by decide +kernel
theorem dL_law_428 : decode cL_law 428 = .ok (.aload_n 1, 1) := by decide +kernel
theorem dL_law_429 : decode cL_law 429 = .ok (.aload_n 0, 1) := by decide +kernel
theorem dL_law_430 : decode cL_law 430 = .ok (.iload_n 3, 1) := by decide +kernel
theorem dL_law_431 : decode cL_law 431 = .ok (.iconst 1, 1) := by decide +kernel
theorem dL_law_432 : decode cL_law 432 = .ok (.iadd, 1) := by decide +kernel
theorem dL_law_433 : decode cL_law 433 = .ok (.iaload, 1) := by decide +kernel
theorem dL_law_434 : decode cL_law 434 = .ok (.aload_n 0, 1) := by decide +kernel
theorem dL_law_435 : decode cL_law 435 = .ok (.iload_n 3, 1) := by decide +kernel
theorem dL_law_436 : decode cL_law 436 = .ok (.iconst 2, 1) := by decide +kernel
theorem dL_law_437 : decode cL_law 437 = .ok (.iadd, 1) := by decide +kernel
theorem dL_law_438 : decode cL_law 438 = .ok (.iaload, 1) := by decide +kernel
theorem dL_law_439 : decode cL_law 439 = .ok (.invokevirtual 48, 3) := by decide +kernel
theorem dL_law_442 : decode cL_law 442 = .ok (.aload_n 2, 1) := by decide +kernel
theorem dL_law_443 : decode cL_law 443 = .ok (.aload_n 0, 1) := by decide +kernel
theorem dL_law_444 : decode cL_law 444 = .ok (.iload_n 3, 1) := by decide +kernel
theorem dL_law_445 : decode cL_law 445 = .ok (.iconst 1, 1) := by decide +kernel
theorem dL_law_446 : decode cL_law 446 = .ok (.iadd, 1) := by decide +kernel
theorem dL_law_447 : decode cL_law 447 = .ok (.iaload, 1) := by decide +kernel
theorem dL_law_448 : decode cL_law 448 = .ok (.aload_n 0, 1) := by decide +kernel
theorem dL_law_449 : decode cL_law 449 = .ok (.iload_n 3, 1) := by decide +kernel
theorem dL_law_450 : decode cL_law 450 = .ok (.iconst 2, 1) := by decide +kernel
theorem dL_law_451 : decode cL_law 451 = .ok (.iadd, 1) := by decide +kernel
theorem dL_law_452 : decode cL_law 452 = .ok (.iaload, 1) := by decide +kernel
theorem dL_law_453 : decode cL_law 453 = .ok (.invokevirtual 51, 3) := by decide +kernel
theorem dL_law_456 : decode cL_law 456 = .ok (.if_icmp .eq 701, 3) := by decide +kernel
theorem dL_law_459 : decode cL_law 459 = .ok (.iconst 0, 1) := by decide +kernel
theorem dL_law_460 : decode cL_law 460 = .ok (.ireturn, 1) := by decide +kernel
theorem dL_law_461 : decode cL_law 461 = .ok (.aload_n 1, 1) := by decide +kernel
theorem dL_law_462 : decode cL_law 462 = .ok (.aload_n 0, 1) := by decide +kernel
theorem dL_law_463 : decode cL_law 463 = .ok (.iload_n 3, 1) := by decide +kernel
theorem dL_law_464 : decode cL_law 464 = .ok (.iconst 1, 1) := by decide +kernel
theorem dL_law_465 : decode cL_law 465 = .ok (.iadd, 1) := by decide +kernel
theorem dL_law_466 : decode cL_law 466 = .ok (.iaload, 1) := by decide +kernel
theorem dL_law_467 : decode cL_law 467 = .ok (.invokevirtual 52, 3) := by decide +kernel
theorem dL_law_470 : decode cL_law 470 = .ok (.aload_n 2, 1) := by decide +kernel
theorem dL_law_471 : decode cL_law 471 = .ok (.aload_n 0, 1) := by decide +kernel
theorem dL_law_472 : decode cL_law 472 = .ok (.iload_n 3, 1) := by decide +kernel
theorem dL_law_473 : decode cL_law 473 = .ok (.iconst 1, 1) := by decide +kernel
theorem dL_law_474 : decode cL_law 474 = .ok (.iadd, 1) := by decide +kernel
theorem dL_law_475 : decode cL_law 475 = .ok (.iaload, 1) := by decide +kernel
theorem dL_law_476 : decode cL_law 476 = .ok (.invokevirtual 55, 3) := by decide +kernel
theorem dL_law_479 : decode cL_law 479 = .ok (.if_icmp .eq 678, 3) := by decide +kernel
theorem dL_law_482 : decode cL_law 482 = .ok (.iconst 0, 1) := by decide +kernel
theorem dL_law_483 : decode cL_law 483 = .ok (.ireturn, 1) := by decide +kernel
theorem dL_law_484 : decode cL_law 484 = .ok (.aload_n 1, 1) := by decide +kernel
theorem dL_law_485 : decode cL_law 485 = .ok (.aload_n 0, 1) := by decide +kernel
theorem dL_law_486 : decode cL_law 486 = .ok (.iload_n 3, 1) := by decide +kernel
theorem dL_law_487 : decode cL_law 487 = .ok (.iconst 1, 1) := by decide +kernel
theorem dL_law_488 : decode cL_law 488 = .ok (.iadd, 1) := by decide +kernel
theorem dL_law_489 : decode cL_law 489 = .ok (.iaload, 1) := by decide +kernel
theorem dL_law_490 : decode cL_law 490 = .ok (.aload_n 0, 1) := by decide +kernel
theorem dL_law_491 : decode cL_law 491 = .ok (.iload_n 3, 1) := by decide +kernel
theorem dL_law_492 : decode cL_law 492 = .ok (.iconst 2, 1) := by decide +kernel
theorem dL_law_493 : decode cL_law 493 = .ok (.iadd, 1) := by decide +kernel
theorem dL_law_494 : decode cL_law 494 = .ok (.iaload, 1) := by decide +kernel
theorem dL_law_495 : decode cL_law 495 = .ok (.aload_n 0, 1) := by decide +kernel
theorem dL_law_496 : decode cL_law 496 = .ok (.iload_n 3, 1) := by decide +kernel
theorem dL_law_497 : decode cL_law 497 = .ok (.iconst 3, 1) := by decide +kernel
theorem dL_law_498 : decode cL_law 498 = .ok (.iadd, 1) := by decide +kernel
theorem dL_law_499 : decode cL_law 499 = .ok (.iaload, 1) := by decide +kernel
theorem dL_law_500 : decode cL_law 500 = .ok (.invokevirtual 56, 3) := by decide +kernel
theorem dL_law_503 : decode cL_law 503 = .ok (.aload_n 2, 1) := by decide +kernel
theorem dL_law_504 : decode cL_law 504 = .ok (.aload_n 0, 1) := by decide +kernel
theorem dL_law_505 : decode cL_law 505 = .ok (.iload_n 3, 1) := by decide +kernel
theorem dL_law_506 : decode cL_law 506 = .ok (.iconst 1, 1) := by decide +kernel
theorem dL_law_507 : decode cL_law 507 = .ok (.iadd, 1) := by decide +kernel
theorem dL_law_508 : decode cL_law 508 = .ok (.iaload, 1) := by decide +kernel
theorem dL_law_509 : decode cL_law 509 = .ok (.aload_n 0, 1) := by decide +kernel
theorem dL_law_510 : decode cL_law 510 = .ok (.iload_n 3, 1) := by decide +kernel
theorem dL_law_511 : decode cL_law 511 = .ok (.iconst 2, 1) := by decide +kernel
theorem dL_law_512 : decode cL_law 512 = .ok (.iadd, 1) := by decide +kernel
theorem dL_law_513 : decode cL_law 513 = .ok (.iaload, 1) := by decide +kernel
theorem dL_law_514 : decode cL_law 514 = .ok (.aload_n 0, 1) := by decide +kernel
theorem dL_law_515 : decode cL_law 515 = .ok (.iload_n 3, 1) := by decide +kernel
theorem dL_law_516 : decode cL_law 516 = .ok (.iconst 3, 1) := by decide +kernel
theorem dL_law_517 : decode cL_law 517 = .ok (.iadd, 1) := by decide +kernel
theorem dL_law_518 : decode cL_law 518 = .ok (.iaload, 1) := by decide +kernel
theorem dL_law_519 : decode cL_law 519 = .ok (.invokevirtual 59, 3) := by decide +kernel
theorem dL_law_522 : decode cL_law 522 = .ok (.if_icmp .eq 635, 3) := by decide +kernel
theorem dL_law_525 : decode cL_law 525 = .ok (.iconst 0, 1) := by decide +kernel
theorem dL_law_526 : decode cL_law 526 = .ok (.ireturn, 1) := by decide +kernel
theorem dL_law_527 : decode cL_law 527 = .ok (.aload_n 1, 1) := by decide +kernel
theorem dL_law_528 : decode cL_law 528 = .ok (.aload_n 0, 1) := by decide +kernel
theorem dL_law_529 : decode cL_law 529 = .ok (.iload_n 3, 1) := by decide +kernel
theorem dL_law_530 : decode cL_law 530 = .ok (.iconst 1, 1) := by decide +kernel
theorem dL_law_531 : decode cL_law 531 = .ok (.iadd, 1) := by decide +kernel
theorem dL_law_532 : decode cL_law 532 = .ok (.iaload, 1) := by decide +kernel
theorem dL_law_533 : decode cL_law 533 = .ok (.aload_n 0, 1) := by decide +kernel
theorem dL_law_534 : decode cL_law 534 = .ok (.iload_n 3, 1) := by decide +kernel
theorem dL_law_535 : decode cL_law 535 = .ok (.iconst 2, 1) := by decide +kernel
theorem dL_law_536 : decode cL_law 536 = .ok (.iadd, 1) := by decide +kernel
theorem dL_law_537 : decode cL_law 537 = .ok (.iaload, 1) := by decide +kernel
theorem dL_law_538 : decode cL_law 538 = .ok (.invokevirtual 60, 3) := by decide +kernel
theorem dL_law_541 : decode cL_law 541 = .ok (.aload_n 2, 1) := by decide +kernel
theorem dL_law_542 : decode cL_law 542 = .ok (.aload_n 0, 1) := by decide +kernel
theorem dL_law_543 : decode cL_law 543 = .ok (.iload_n 3, 1) := by decide +kernel
theorem dL_law_544 : decode cL_law 544 = .ok (.iconst 1, 1) := by decide +kernel
theorem dL_law_545 : decode cL_law 545 = .ok (.iadd, 1) := by decide +kernel
theorem dL_law_546 : decode cL_law 546 = .ok (.iaload, 1) := by decide +kernel
theorem dL_law_547 : decode cL_law 547 = .ok (.aload_n 0, 1) := by decide +kernel
theorem dL_law_548 : decode cL_law 548 = .ok (.iload_n 3, 1) := by decide +kernel
theorem dL_law_549 : decode cL_law 549 = .ok (.iconst 2, 1) := by decide +kernel
theorem dL_law_550 : decode cL_law 550 = .ok (.iadd, 1) := by decide +kernel
theorem dL_law_551 : decode cL_law 551 = .ok (.iaload, 1) := by decide +kernel
theorem dL_law_552 : decode cL_law 552 = .ok (.invokevirtual 63, 3) := by decide +kernel
theorem dL_law_555 : decode cL_law 555 = .ok (.if_icmp .eq 602, 3) := by decide +kernel
theorem dL_law_558 : decode cL_law 558 = .ok (.iconst 0, 1) := by decide +kernel
theorem dL_law_559 : decode cL_law 559 = .ok (.ireturn, 1) := by decide +kernel
theorem dL_law_560 : decode cL_law 560 = .ok (.aload_n 1, 1) := by decide +kernel
theorem dL_law_561 : decode cL_law 561 = .ok (.aload_n 0, 1) := by decide +kernel
theorem dL_law_562 : decode cL_law 562 = .ok (.iload_n 3, 1) := by decide +kernel
theorem dL_law_563 : decode cL_law 563 = .ok (.iconst 1, 1) := by decide +kernel
theorem dL_law_564 : decode cL_law 564 = .ok (.iadd, 1) := by decide +kernel
theorem dL_law_565 : decode cL_law 565 = .ok (.iaload, 1) := by decide +kernel
theorem dL_law_566 : decode cL_law 566 = .ok (.invokevirtual 64, 3) := by decide +kernel
theorem dL_law_569 : decode cL_law 569 = .ok (.aload_n 2, 1) := by decide +kernel
theorem dL_law_570 : decode cL_law 570 = .ok (.aload_n 0, 1) := by decide +kernel
theorem dL_law_571 : decode cL_law 571 = .ok (.iload_n 3, 1) := by decide +kernel
theorem dL_law_572 : decode cL_law 572 = .ok (.iconst 1, 1) := by decide +kernel
theorem dL_law_573 : decode cL_law 573 = .ok (.iadd, 1) := by decide +kernel
theorem dL_law_574 : decode cL_law 574 = .ok (.iaload, 1) := by decide +kernel
theorem dL_law_575 : decode cL_law 575 = .ok (.invokevirtual 67, 3) := by decide +kernel
theorem dL_law_578 : decode cL_law 578 = .ok (.if_icmp .eq 579, 3) := by decide +kernel
theorem dL_law_581 : decode cL_law 581 = .ok (.iconst 0, 1) := by decide +kernel
theorem dL_law_582 : decode cL_law 582 = .ok (.ireturn, 1) := by decide +kernel
theorem dL_law_583 : decode cL_law 583 = .ok (.aload_n 1, 1) := by decide +kernel
theorem dL_law_584 : decode cL_law 584 = .ok (.aload_n 0, 1) := by decide +kernel
theorem dL_law_585 : decode cL_law 585 = .ok (.iload_n 3, 1) := by decide +kernel
theorem dL_law_586 : decode cL_law 586 = .ok (.iconst 1, 1) := by decide +kernel
theorem dL_law_587 : decode cL_law 587 = .ok (.iadd, 1) := by decide +kernel
theorem dL_law_588 : decode cL_law 588 = .ok (.iaload, 1) := by decide +kernel
theorem dL_law_589 : decode cL_law 589 = .ok (.invokevirtual 68, 3) := by decide +kernel
theorem dL_law_592 : decode cL_law 592 = .ok (.aload_n 2, 1) := by decide +kernel
theorem dL_law_593 : decode cL_law 593 = .ok (.aload_n 0, 1) := by decide +kernel
theorem dL_law_594 : decode cL_law 594 = .ok (.iload_n 3, 1) := by decide +kernel
theorem dL_law_595 : decode cL_law 595 = .ok (.iconst 1, 1) := by decide +kernel
theorem dL_law_596 : decode cL_law 596 = .ok (.iadd, 1) := by decide +kernel
theorem dL_law_597 : decode cL_law 597 = .ok (.iaload, 1) := by decide +kernel
theorem dL_law_598 : decode cL_law 598 = .ok (.invokevirtual 71, 3) := by decide +kernel
theorem dL_law_601 : decode cL_law 601 = .ok (.if_icmp .eq 556, 3) := by decide +kernel
theorem dL_law_604 : decode cL_law 604 = .ok (.iconst 0, 1) := by decide +kernel
theorem dL_law_605 : decode cL_law 605 = .ok (.ireturn, 1) := by decide +kernel
theorem dL_law_606 : decode cL_law 606 = .ok (.aload_n 1, 1) := by decide +kernel
theorem dL_law_607 : decode cL_law 607 = .ok (.aload_n 0, 1) := by decide +kernel
theorem dL_law_608 : decode cL_law 608 = .ok (.iload_n 3, 1) := by decide +kernel
theorem dL_law_609 : decode cL_law 609 = .ok (.iconst 1, 1) := by decide +kernel
theorem dL_law_610 : decode cL_law 610 = .ok (.iadd, 1) := by decide +kernel
theorem dL_law_611 : decode cL_law 611 = .ok (.iaload, 1) := by decide +kernel
theorem dL_law_612 : decode cL_law 612 = .ok (.invokevirtual 72, 3) := by decide +kernel
theorem dL_law_615 : decode cL_law 615 = .ok (.aload_n 2, 1) := by decide +kernel
theorem dL_law_616 : decode cL_law 616 = .ok (.aload_n 0, 1) := by decide +kernel
theorem dL_law_617 : decode cL_law 617 = .ok (.iload_n 3, 1) := by decide +kernel
theorem dL_law_618 : decode cL_law 618 = .ok (.iconst 1, 1) := by decide +kernel
theorem dL_law_619 : decode cL_law 619 = .ok (.iadd, 1) := by decide +kernel
theorem dL_law_620 : decode cL_law 620 = .ok (.iaload, 1) := by decide +kernel
theorem dL_law_621 : decode cL_law 621 = .ok (.invokevirtual 75, 3) := by decide +kernel
theorem dL_law_624 : decode cL_law 624 = .ok (.if_icmp .eq 533, 3) := by decide +kernel
theorem dL_law_627 : decode cL_law 627 = .ok (.iconst 0, 1) := by decide +kernel
theorem dL_law_628 : decode cL_law 628 = .ok (.ireturn, 1) := by decide +kernel
theorem dL_law_629 : decode cL_law 629 = .ok (.aload_n 1, 1) := by decide +kernel
theorem dL_law_630 : decode cL_law 630 = .ok (.aload_n 0, 1) := by decide +kernel
theorem dL_law_631 : decode cL_law 631 = .ok (.iload_n 3, 1) := by decide +kernel
theorem dL_law_632 : decode cL_law 632 = .ok (.iconst 1, 1) := by decide +kernel
theorem dL_law_633 : decode cL_law 633 = .ok (.iadd, 1) := by decide +kernel
theorem dL_law_634 : decode cL_law 634 = .ok (.iaload, 1) := by decide +kernel
theorem dL_law_635 : decode cL_law 635 = .ok (.invokevirtual 76, 3) := by decide +kernel
theorem dL_law_638 : decode cL_law 638 = .ok (.aload_n 2, 1) := by decide +kernel
theorem dL_law_639 : decode cL_law 639 = .ok (.aload_n 0, 1) := by decide +kernel
theorem dL_law_640 : decode cL_law 640 = .ok (.iload_n 3, 1) := by decide +kernel
theorem dL_law_641 : decode cL_law 641 = .ok (.iconst 1, 1) := by decide +kernel
theorem dL_law_642 : decode cL_law 642 = .ok (.iadd, 1) := by decide +kernel
theorem dL_law_643 : decode cL_law 643 = .ok (.iaload, 1) := by decide +kernel
theorem dL_law_644 : decode cL_law 644 = .ok (.invokevirtual 79, 3) := by decide +kernel
theorem dL_law_647 : decode cL_law 647 = .ok (.if_icmp .eq 510, 3) := by decide +kernel
theorem dL_law_650 : decode cL_law 650 = .ok (.iconst 0, 1) := by decide +kernel
theorem dL_law_651 : decode cL_law 651 = .ok (.ireturn, 1) := by decide +kernel
theorem dL_law_652 : decode cL_law 652 = .ok (.aload_n 1, 1) := by decide +kernel
theorem dL_law_653 : decode cL_law 653 = .ok (.aload_n 0, 1) := by decide +kernel
theorem dL_law_654 : decode cL_law 654 = .ok (.iload_n 3, 1) := by decide +kernel
theorem dL_law_655 : decode cL_law 655 = .ok (.iconst 1, 1) := by decide +kernel
theorem dL_law_656 : decode cL_law 656 = .ok (.iadd, 1) := by decide +kernel
theorem dL_law_657 : decode cL_law 657 = .ok (.iaload, 1) := by decide +kernel
theorem dL_law_658 : decode cL_law 658 = .ok (.invokevirtual 80, 3) := by decide +kernel
theorem dL_law_661 : decode cL_law 661 = .ok (.aload_n 2, 1) := by decide +kernel
theorem dL_law_662 : decode cL_law 662 = .ok (.aload_n 0, 1) := by decide +kernel
theorem dL_law_663 : decode cL_law 663 = .ok (.iload_n 3, 1) := by decide +kernel
theorem dL_law_664 : decode cL_law 664 = .ok (.iconst 1, 1) := by decide +kernel
theorem dL_law_665 : decode cL_law 665 = .ok (.iadd, 1) := by decide +kernel
theorem dL_law_666 : decode cL_law 666 = .ok (.iaload, 1) := by decide +kernel
theorem dL_law_667 : decode cL_law 667 = .ok (.invokevirtual 83, 3) := by decide +kernel
theorem dL_law_670 : decode cL_law 670 = .ok (.if_icmp .eq 487, 3) := by decide +kernel
theorem dL_law_673 : decode cL_law 673 = .ok (.iconst 0, 1) := by decide +kernel
theorem dL_law_674 : decode cL_law 674 = .ok (.ireturn, 1) := by decide +kernel
theorem dL_law_675 : decode cL_law 675 = .ok (.aload_n 1, 1) := by decide +kernel
theorem dL_law_676 : decode cL_law 676 = .ok (.aload_n 0, 1) := by decide +kernel
theorem dL_law_677 : decode cL_law 677 = .ok (.iload_n 3, 1) := by decide +kernel
theorem dL_law_678 : decode cL_law 678 = .ok (.iconst 1, 1) := by decide +kernel
theorem dL_law_679 : decode cL_law 679 = .ok (.iadd, 1) := by decide +kernel
theorem dL_law_680 : decode cL_law 680 = .ok (.iaload, 1) := by decide +kernel
theorem dL_law_681 : decode cL_law 681 = .ok (.invokevirtual 84, 3) := by decide +kernel
theorem dL_law_684 : decode cL_law 684 = .ok (.aload_n 2, 1) := by decide +kernel
theorem dL_law_685 : decode cL_law 685 = .ok (.aload_n 0, 1) := by decide +kernel
theorem dL_law_686 : decode cL_law 686 = .ok (.iload_n 3, 1) := by decide +kernel
theorem dL_law_687 : decode cL_law 687 = .ok (.iconst 1, 1) := by decide +kernel
theorem dL_law_688 : decode cL_law 688 = .ok (.iadd, 1) := by decide +kernel
theorem dL_law_689 : decode cL_law 689 = .ok (.iaload, 1) := by decide +kernel
theorem dL_law_690 : decode cL_law 690 = .ok (.invokevirtual 87, 3) := by decide +kernel
theorem dL_law_693 : decode cL_law 693 = .ok (.if_icmp .eq 464, 3) := by decide +kernel
theorem dL_law_696 : decode cL_law 696 = .ok (.iconst 0, 1) := by decide +kernel
theorem dL_law_697 : decode cL_law 697 = .ok (.ireturn, 1) := by decide +kernel
theorem dL_law_698 : decode cL_law 698 = .ok (.aload_n 1, 1) := by decide +kernel
theorem dL_law_699 : decode cL_law 699 = .ok (.aload_n 0, 1) := by decide +kernel
theorem dL_law_700 : decode cL_law 700 = .ok (.iload_n 3, 1) := by decide +kernel
theorem dL_law_701 : decode cL_law 701 = .ok (.iconst 1, 1) := by decide +kernel
theorem dL_law_702 : decode cL_law 702 = .ok (.iadd, 1) := by decide +kernel
theorem dL_law_703 : decode cL_law 703 = .ok (.iaload, 1) := by decide +kernel
theorem dL_law_704 : decode cL_law 704 = .ok (.invokevirtual 88, 3) := by decide +kernel
theorem dL_law_707 : decode cL_law 707 = .ok (.aload_n 2, 1) := by decide +kernel
theorem dL_law_708 : decode cL_law 708 = .ok (.aload_n 0, 1) := by decide +kernel
theorem dL_law_709 : decode cL_law 709 = .ok (.iload_n 3, 1) := by decide +kernel
theorem dL_law_710 : decode cL_law 710 = .ok (.iconst 1, 1) := by decide +kernel
theorem dL_law_711 : decode cL_law 711 = .ok (.iadd, 1) := by decide +kernel
theorem dL_law_712 : decode cL_law 712 = .ok (.iaload, 1) := by decide +kernel
theorem dL_law_713 : decode cL_law 713 = .ok (.invokevirtual 91, 3) := by decide +kernel
theorem dL_law_716 : decode cL_law 716 = .ok (.if_icmp .eq 441, 3) := by decide +kernel
theorem dL_law_719 : decode cL_law 719 = .ok (.iconst 0, 1) := by decide +kernel
theorem dL_law_720 : decode cL_law 720 = .ok (.ireturn, 1) := by decide +kernel
theorem dL_law_721 : decode cL_law 721 = .ok (.aload_n 1, 1) := by decide +kernel
theorem dL_law_722 : decode cL_law 722 = .ok (.aload_n 0, 1) := by decide +kernel
theorem dL_law_723 : decode cL_law 723 = .ok (.iload_n 3, 1) := by decide +kernel
theorem dL_law_724 : decode cL_law 724 = .ok (.iconst 1, 1) := by decide +kernel
theorem dL_law_725 : decode cL_law 725 = .ok (.iadd, 1) := by decide +kernel
theorem dL_law_726 : decode cL_law 726 = .ok (.iaload, 1) := by decide +kernel
theorem dL_law_727 : decode cL_law 727 = .ok (.invokevirtual 92, 3) := by decide +kernel
theorem dL_law_730 : decode cL_law 730 = .ok (.aload_n 2, 1) := by decide +kernel
theorem dL_law_731 : decode cL_law 731 = .ok (.aload_n 0, 1) := by decide +kernel
theorem dL_law_732 : decode cL_law 732 = .ok (.iload_n 3, 1) := by decide +kernel
theorem dL_law_733 : decode cL_law 733 = .ok (.iconst 1, 1) := by decide +kernel
theorem dL_law_734 : decode cL_law 734 = .ok (.iadd, 1) := by decide +kernel
theorem dL_law_735 : decode cL_law 735 = .ok (.iaload, 1) := by decide +kernel
theorem dL_law_736 : decode cL_law 736 = .ok (.invokevirtual 95, 3) := by decide +kernel
theorem dL_law_739 : decode cL_law 739 = .ok (.if_icmp .eq 418, 3) := by decide +kernel
theorem dL_law_742 : decode cL_law 742 = .ok (.iconst 0, 1) := by decide +kernel
theorem dL_law_743 : decode cL_law 743 = .ok (.ireturn, 1) := by decide +kernel
theorem dL_law_744 : decode cL_law 744 = .ok (.aload_n 1, 1) := by decide +kernel
theorem dL_law_745 : decode cL_law 745 = .ok (.aload_n 0, 1) := by decide +kernel
theorem dL_law_746 : decode cL_law 746 = .ok (.iload_n 3, 1) := by decide +kernel
theorem dL_law_747 : decode cL_law 747 = .ok (.iconst 1, 1) := by decide +kernel
theorem dL_law_748 : decode cL_law 748 = .ok (.iadd, 1) := by decide +kernel
theorem dL_law_749 : decode cL_law 749 = .ok (.iaload, 1) := by decide +kernel
theorem dL_law_750 : decode cL_law 750 = .ok (.aload_n 0, 1) := by decide +kernel
theorem dL_law_751 : decode cL_law 751 = .ok (.iload_n 3, 1) := by decide +kernel
theorem dL_law_752 : decode cL_law 752 = .ok (.iconst 2, 1) := by decide +kernel
theorem dL_law_753 : decode cL_law 753 = .ok (.iadd, 1) := by decide +kernel
theorem dL_law_754 : decode cL_law 754 = .ok (.iaload, 1) := by decide +kernel
theorem dL_law_755 : decode cL_law 755 = .ok (.invokevirtual 96, 3) := by decide +kernel
theorem dL_law_758 : decode cL_law 758 = .ok (.aload_n 2, 1) := by decide +kernel
theorem dL_law_759 : decode cL_law 759 = .ok (.aload_n 0, 1) := by decide +kernel
theorem dL_law_760 : decode cL_law 760 = .ok (.iload_n 3, 1) := by decide +kernel
theorem dL_law_761 : decode cL_law 761 = .ok (.iconst 1, 1) := by decide +kernel
theorem dL_law_762 : decode cL_law 762 = .ok (.iadd, 1) := by decide +kernel
theorem dL_law_763 : decode cL_law 763 = .ok (.iaload, 1) := by decide +kernel
theorem dL_law_764 : decode cL_law 764 = .ok (.aload_n 0, 1) := by decide +kernel
theorem dL_law_765 : decode cL_law 765 = .ok (.iload_n 3, 1) := by decide +kernel
theorem dL_law_766 : decode cL_law 766 = .ok (.iconst 2, 1) := by decide +kernel
theorem dL_law_767 : decode cL_law 767 = .ok (.iadd, 1) := by decide +kernel
theorem dL_law_768 : decode cL_law 768 = .ok (.iaload, 1) := by decide +kernel
theorem dL_law_769 : decode cL_law 769 = .ok (.invokevirtual 99, 3) := by decide +kernel
theorem dL_law_772 : decode cL_law 772 = .ok (.if_icmp .eq 385, 3) := by decide +kernel
theorem dL_law_775 : decode cL_law 775 = .ok (.iconst 0, 1) := by decide +kernel
theorem dL_law_776 : decode cL_law 776 = .ok (.ireturn, 1) := by decide +kernel
theorem dL_law_777 : decode cL_law 777 = .ok (.aload_n 1, 1) := by decide +kernel
theorem dL_law_778 : decode cL_law 778 = .ok (.invokevirtual 100, 3) := by decide +kernel
theorem dL_law_781 : decode cL_law 781 = .ok (.aload_n 2, 1) := by decide +kernel
theorem dL_law_782 : decode cL_law 782 = .ok (.invokevirtual 104, 3) := by decide +kernel
theorem dL_law_785 : decode cL_law 785 = .ok (.if_icmp .eq 372, 3) := by decide +kernel
theorem dL_law_788 : decode cL_law 788 = .ok (.iconst 0, 1) := by decide +kernel
theorem dL_law_789 : decode cL_law 789 = .ok (.ireturn, 1) := by decide +kernel
theorem dL_law_790 : decode cL_law 790 = .ok (.aload_n 1, 1) := by decide +kernel
theorem dL_law_791 : decode cL_law 791 = .ok (.invokevirtual 105, 3) := by decide +kernel
theorem dL_law_794 : decode cL_law 794 = .ok (.aload_n 2, 1) := by decide +kernel
theorem dL_law_795 : decode cL_law 795 = .ok (.invokevirtual 108, 3) := by decide +kernel
theorem dL_law_798 : decode cL_law 798 = .ok (.if_icmp .eq 359, 3) := by decide +kernel
theorem dL_law_801 : decode cL_law 801 = .ok (.iconst 0, 1) := by decide +kernel
theorem dL_law_802 : decode cL_law 802 = .ok (.ireturn, 1) := by decide +kernel
theorem dL_law_803 : decode cL_law 803 = .ok (.aload_n 1, 1) := by decide +kernel
theorem dL_law_804 : decode cL_law 804 = .ok (.aload_n 0, 1) := by decide +kernel
theorem dL_law_805 : decode cL_law 805 = .ok (.iload_n 3, 1) := by decide +kernel
theorem dL_law_806 : decode cL_law 806 = .ok (.iconst 1, 1) := by decide +kernel
theorem dL_law_807 : decode cL_law 807 = .ok (.iadd, 1) := by decide +kernel
theorem dL_law_808 : decode cL_law 808 = .ok (.iaload, 1) := by decide +kernel
theorem dL_law_809 : decode cL_law 809 = .ok (.aload_n 0, 1) := by decide +kernel
theorem dL_law_810 : decode cL_law 810 = .ok (.iload_n 3, 1) := by decide +kernel
theorem dL_law_811 : decode cL_law 811 = .ok (.iconst 2, 1) := by decide +kernel
theorem dL_law_812 : decode cL_law 812 = .ok (.iadd, 1) := by decide +kernel
theorem dL_law_813 : decode cL_law 813 = .ok (.iaload, 1) := by decide +kernel
theorem dL_law_814 : decode cL_law 814 = .ok (.aload_n 0, 1) := by decide +kernel
theorem dL_law_815 : decode cL_law 815 = .ok (.iload_n 3, 1) := by decide +kernel
theorem dL_law_816 : decode cL_law 816 = .ok (.iconst 3, 1) := by decide +kernel
theorem dL_law_817 : decode cL_law 817 = .ok (.iadd, 1) := by decide +kernel
theorem dL_law_818 : decode cL_law 818 = .ok (.iaload, 1) := by decide +kernel
theorem dL_law_819 : decode cL_law 819 = .ok (.invokevirtual 109, 3) := by decide +kernel
theorem dL_law_822 : decode cL_law 822 = .ok (.aload_n 2, 1) := by decide +kernel
theorem dL_law_823 : decode cL_law 823 = .ok (.aload_n 0, 1) := by decide +kernel
theorem dL_law_824 : decode cL_law 824 = .ok (.iload_n 3, 1) := by decide +kernel
theorem dL_law_825 : decode cL_law 825 = .ok (.iconst 1, 1) := by decide +kernel
theorem dL_law_826 : decode cL_law 826 = .ok (.iadd, 1) := by decide +kernel
theorem dL_law_827 : decode cL_law 827 = .ok (.iaload, 1) := by decide +kernel
theorem dL_law_828 : decode cL_law 828 = .ok (.aload_n 0, 1) := by decide +kernel
theorem dL_law_829 : decode cL_law 829 = .ok (.iload_n 3, 1) := by decide +kernel
theorem dL_law_830 : decode cL_law 830 = .ok (.iconst 2, 1) := by decide +kernel
theorem dL_law_831 : decode cL_law 831 = .ok (.iadd, 1) := by decide +kernel
theorem dL_law_832 : decode cL_law 832 = .ok (.iaload, 1) := by decide +kernel
theorem dL_law_833 : decode cL_law 833 = .ok (.aload_n 0, 1) := by decide +kernel
theorem dL_law_834 : decode cL_law 834 = .ok (.iload_n 3, 1) := by decide +kernel
theorem dL_law_835 : decode cL_law 835 = .ok (.iconst 3, 1) := by decide +kernel
theorem dL_law_836 : decode cL_law 836 = .ok (.iadd, 1) := by decide +kernel
theorem dL_law_837 : decode cL_law 837 = .ok (.iaload, 1) := by decide +kernel
theorem dL_law_838 : decode cL_law 838 = .ok (.invokevirtual 112, 3) := by decide +kernel
theorem dL_law_841 : decode cL_law 841 = .ok (.if_icmp .eq 316, 3) := by decide +kernel
theorem dL_law_844 : decode cL_law 844 = .ok (.iconst 0, 1) := by decide +kernel
theorem dL_law_845 : decode cL_law 845 = .ok (.ireturn, 1) := by decide +kernel
theorem dL_law_846 : decode cL_law 846 = .ok (.aload_n 1, 1) := by decide +kernel
theorem dL_law_847 : decode cL_law 847 = .ok (.aload_n 0, 1) := by decide +kernel
theorem dL_law_848 : decode cL_law 848 = .ok (.iload_n 3, 1) := by decide +kernel
theorem dL_law_849 : decode cL_law 849 = .ok (.iconst 1, 1) := by decide +kernel
theorem dL_law_850 : decode cL_law 850 = .ok (.iadd, 1) := by decide +kernel
theorem dL_law_851 : decode cL_law 851 = .ok (.iaload, 1) := by decide +kernel
theorem dL_law_852 : decode cL_law 852 = .ok (.aload_n 0, 1) := by decide +kernel
theorem dL_law_853 : decode cL_law 853 = .ok (.iload_n 3, 1) := by decide +kernel
theorem dL_law_854 : decode cL_law 854 = .ok (.iconst 2, 1) := by decide +kernel
theorem dL_law_855 : decode cL_law 855 = .ok (.iadd, 1) := by decide +kernel
theorem dL_law_856 : decode cL_law 856 = .ok (.iaload, 1) := by decide +kernel
theorem dL_law_857 : decode cL_law 857 = .ok (.aload_n 0, 1) := by decide +kernel
theorem dL_law_858 : decode cL_law 858 = .ok (.iload_n 3, 1) := by decide +kernel
theorem dL_law_859 : decode cL_law 859 = .ok (.iconst 3, 1) := by decide +kernel
theorem dL_law_860 : decode cL_law 860 = .ok (.iadd, 1) := by decide +kernel
theorem dL_law_861 : decode cL_law 861 = .ok (.iaload, 1) := by decide +kernel
theorem dL_law_862 : decode cL_law 862 = .ok (.i2l, 1) := by decide +kernel
theorem dL_law_863 : decode cL_law 863 = .ok (.bipush 32, 2) := by decide +kernel
theorem dL_law_865 : decode cL_law 865 = .ok (.lshl, 1) := by decide +kernel
theorem dL_law_866 : decode cL_law 866 = .ok (.aload_n 0, 1) := by decide +kernel
theorem dL_law_867 : decode cL_law 867 = .ok (.iload_n 3, 1) := by decide +kernel
theorem dL_law_868 : decode cL_law 868 = .ok (.iconst 4, 1) := by decide +kernel
theorem dL_law_869 : decode cL_law 869 = .ok (.iadd, 1) := by decide +kernel
theorem dL_law_870 : decode cL_law 870 = .ok (.iaload, 1) := by decide +kernel
theorem dL_law_871 : decode cL_law 871 = .ok (.i2l, 1) := by decide +kernel
theorem dL_law_872 : decode cL_law 872 = .ok (.ldc2_w 113, 3) := by decide +kernel
theorem dL_law_875 : decode cL_law 875 = .ok (.land, 1) := by decide +kernel
theorem dL_law_876 : decode cL_law 876 = .ok (.lor, 1) := by decide +kernel
theorem dL_law_877 : decode cL_law 877 = .ok (.invokevirtual 115, 3) := by decide +kernel
theorem dL_law_880 : decode cL_law 880 = .ok (.aload_n 2, 1) := by decide +kernel
theorem dL_law_881 : decode cL_law 881 = .ok (.aload_n 0, 1) := by decide +kernel
theorem dL_law_882 : decode cL_law 882 = .ok (.iload_n 3, 1) := by decide +kernel
theorem dL_law_883 : decode cL_law 883 = .ok (.iconst 1, 1) := by decide +kernel
theorem dL_law_884 : decode cL_law 884 = .ok (.iadd, 1) := by decide +kernel
theorem dL_law_885 : decode cL_law 885 = .ok (.iaload, 1) := by decide +kernel
theorem dL_law_886 : decode cL_law 886 = .ok (.aload_n 0, 1) := by decide +kernel
theorem dL_law_887 : decode cL_law 887 = .ok (.iload_n 3, 1) := by decide +kernel
theorem dL_law_888 : decode cL_law 888 = .ok (.iconst 2, 1) := by decide +kernel
theorem dL_law_889 : decode cL_law 889 = .ok (.iadd, 1) := by decide +kernel
theorem dL_law_890 : decode cL_law 890 = .ok (.iaload, 1) := by decide +kernel
theorem dL_law_891 : decode cL_law 891 = .ok (.aload_n 0, 1) := by decide +kernel
theorem dL_law_892 : decode cL_law 892 = .ok (.iload_n 3, 1) := by decide +kernel
theorem dL_law_893 : decode cL_law 893 = .ok (.iconst 3, 1) := by decide +kernel
theorem dL_law_894 : decode cL_law 894 = .ok (.iadd, 1) := by decide +kernel
theorem dL_law_895 : decode cL_law 895 = .ok (.iaload, 1) := by decide +kernel
theorem dL_law_896 : decode cL_law 896 = .ok (.i2l, 1) := by decide +kernel
theorem dL_law_897 : decode cL_law 897 = .ok (.bipush 32, 2) := by decide +kernel
theorem dL_law_899 : decode cL_law 899 = .ok (.lshl, 1) := by decide +kernel
theorem dL_law_900 : decode cL_law 900 = .ok (.aload_n 0, 1) := by decide +kernel
theorem dL_law_901 : decode cL_law 901 = .ok (.iload_n 3, 1) := by decide +kernel
theorem dL_law_902 : decode cL_law 902 = .ok (.iconst 4, 1) := by decide +kernel
theorem dL_law_903 : decode cL_law 903 = .ok (.iadd, 1) := by decide +kernel
theorem dL_law_904 : decode cL_law 904 = .ok (.iaload, 1) := by decide +kernel
theorem dL_law_905 : decode cL_law 905 = .ok (.i2l, 1) := by decide +kernel
theorem dL_law_906 : decode cL_law 906 = .ok (.ldc2_w 113, 3) := by decide +kernel
theorem dL_law_909 : decode cL_law 909 = .ok (.land, 1) := by decide +kernel
theorem dL_law_910 : decode cL_law 910 = .ok (.lor, 1) := by decide +kernel
theorem dL_law_911 : decode cL_law 911 = .ok (.invokevirtual 119, 3) := by decide +kernel
theorem dL_law_914 : decode cL_law 914 = .ok (.lcmp, 1) := by decide +kernel
theorem dL_law_915 : decode cL_law 915 = .ok (.ifCond .eq 242, 3) := by decide +kernel
theorem dL_law_918 : decode cL_law 918 = .ok (.iconst 0, 1) := by decide +kernel
theorem dL_law_919 : decode cL_law 919 = .ok (.ireturn, 1) := by decide +kernel
theorem dL_law_920 : decode cL_law 920 = .ok (.aload_n 1, 1) := by decide +kernel
theorem dL_law_921 : decode cL_law 921 = .ok (.aload_n 0, 1) := by decide +kernel
theorem dL_law_922 : decode cL_law 922 = .ok (.iload_n 3, 1) := by decide +kernel
theorem dL_law_923 : decode cL_law 923 = .ok (.iconst 1, 1) := by decide +kernel
theorem dL_law_924 : decode cL_law 924 = .ok (.iadd, 1) := by decide +kernel
theorem dL_law_925 : decode cL_law 925 = .ok (.iaload, 1) := by decide +kernel
theorem dL_law_926 : decode cL_law 926 = .ok (.aload_n 0, 1) := by decide +kernel
theorem dL_law_927 : decode cL_law 927 = .ok (.iload_n 3, 1) := by decide +kernel
theorem dL_law_928 : decode cL_law 928 = .ok (.iconst 2, 1) := by decide +kernel
theorem dL_law_929 : decode cL_law 929 = .ok (.iadd, 1) := by decide +kernel
theorem dL_law_930 : decode cL_law 930 = .ok (.iaload, 1) := by decide +kernel
theorem dL_law_931 : decode cL_law 931 = .ok (.aload_n 0, 1) := by decide +kernel
theorem dL_law_932 : decode cL_law 932 = .ok (.iload_n 3, 1) := by decide +kernel
theorem dL_law_933 : decode cL_law 933 = .ok (.iconst 3, 1) := by decide +kernel
theorem dL_law_934 : decode cL_law 934 = .ok (.iadd, 1) := by decide +kernel
theorem dL_law_935 : decode cL_law 935 = .ok (.iaload, 1) := by decide +kernel
theorem dL_law_936 : decode cL_law 936 = .ok (.aload_n 0, 1) := by decide +kernel
theorem dL_law_937 : decode cL_law 937 = .ok (.iload_n 3, 1) := by decide +kernel
theorem dL_law_938 : decode cL_law 938 = .ok (.iconst 4, 1) := by decide +kernel
theorem dL_law_939 : decode cL_law 939 = .ok (.iadd, 1) := by decide +kernel
theorem dL_law_940 : decode cL_law 940 = .ok (.iaload, 1) := by decide +kernel
theorem dL_law_941 : decode cL_law 941 = .ok (.aload_n 0, 1) := by decide +kernel
theorem dL_law_942 : decode cL_law 942 = .ok (.iload_n 3, 1) := by decide +kernel
theorem dL_law_943 : decode cL_law 943 = .ok (.iconst 5, 1) := by decide +kernel
theorem dL_law_944 : decode cL_law 944 = .ok (.iadd, 1) := by decide +kernel
theorem dL_law_945 : decode cL_law 945 = .ok (.iaload, 1) := by decide +kernel
theorem dL_law_946 : decode cL_law 946 = .ok (.invokevirtual 120, 3) := by decide +kernel
theorem dL_law_949 : decode cL_law 949 = .ok (.aload_n 2, 1) := by decide +kernel
theorem dL_law_950 : decode cL_law 950 = .ok (.aload_n 0, 1) := by decide +kernel
theorem dL_law_951 : decode cL_law 951 = .ok (.iload_n 3, 1) := by decide +kernel
theorem dL_law_952 : decode cL_law 952 = .ok (.iconst 1, 1) := by decide +kernel
theorem dL_law_953 : decode cL_law 953 = .ok (.iadd, 1) := by decide +kernel
theorem dL_law_954 : decode cL_law 954 = .ok (.iaload, 1) := by decide +kernel
theorem dL_law_955 : decode cL_law 955 = .ok (.aload_n 0, 1) := by decide +kernel
theorem dL_law_956 : decode cL_law 956 = .ok (.iload_n 3, 1) := by decide +kernel
theorem dL_law_957 : decode cL_law 957 = .ok (.iconst 2, 1) := by decide +kernel
theorem dL_law_958 : decode cL_law 958 = .ok (.iadd, 1) := by decide +kernel
theorem dL_law_959 : decode cL_law 959 = .ok (.iaload, 1) := by decide +kernel
theorem dL_law_960 : decode cL_law 960 = .ok (.aload_n 0, 1) := by decide +kernel
theorem dL_law_961 : decode cL_law 961 = .ok (.iload_n 3, 1) := by decide +kernel
theorem dL_law_962 : decode cL_law 962 = .ok (.iconst 3, 1) := by decide +kernel
theorem dL_law_963 : decode cL_law 963 = .ok (.iadd, 1) := by decide +kernel
theorem dL_law_964 : decode cL_law 964 = .ok (.iaload, 1) := by decide +kernel
theorem dL_law_965 : decode cL_law 965 = .ok (.aload_n 0, 1) := by decide +kernel
theorem dL_law_966 : decode cL_law 966 = .ok (.iload_n 3, 1) := by decide +kernel
theorem dL_law_967 : decode cL_law 967 = .ok (.iconst 4, 1) := by decide +kernel
theorem dL_law_968 : decode cL_law 968 = .ok (.iadd, 1) := by decide +kernel
theorem dL_law_969 : decode cL_law 969 = .ok (.iaload, 1) := by decide +kernel
theorem dL_law_970 : decode cL_law 970 = .ok (.aload_n 0, 1) := by decide +kernel
theorem dL_law_971 : decode cL_law 971 = .ok (.iload_n 3, 1) := by decide +kernel
theorem dL_law_972 : decode cL_law 972 = .ok (.iconst 5, 1) := by decide +kernel
theorem dL_law_973 : decode cL_law 973 = .ok (.iadd, 1) := by decide +kernel
theorem dL_law_974 : decode cL_law 974 = .ok (.iaload, 1) := by decide +kernel
theorem dL_law_975 : decode cL_law 975 = .ok (.invokevirtual 124, 3) := by decide +kernel
theorem dL_law_978 : decode cL_law 978 = .ok (.if_icmp .eq 179, 3) := by decide +kernel
theorem dL_law_981 : decode cL_law 981 = .ok (.iconst 0, 1) := by decide +kernel
theorem dL_law_982 : decode cL_law 982 = .ok (.ireturn, 1) := by decide +kernel
theorem dL_law_983 : decode cL_law 983 = .ok (.aload_n 1, 1) := by decide +kernel
theorem dL_law_984 : decode cL_law 984 = .ok (.aload_n 0, 1) := by decide +kernel
theorem dL_law_985 : decode cL_law 985 = .ok (.iload_n 3, 1) := by decide +kernel
theorem dL_law_986 : decode cL_law 986 = .ok (.iconst 1, 1) := by decide +kernel
theorem dL_law_987 : decode cL_law 987 = .ok (.iadd, 1) := by decide +kernel
theorem dL_law_988 : decode cL_law 988 = .ok (.iaload, 1) := by decide +kernel
theorem dL_law_989 : decode cL_law 989 = .ok (.invokevirtual 125, 3) := by decide +kernel
theorem dL_law_992 : decode cL_law 992 = .ok (.aload_n 2, 1) := by decide +kernel
theorem dL_law_993 : decode cL_law 993 = .ok (.aload_n 0, 1) := by decide +kernel
theorem dL_law_994 : decode cL_law 994 = .ok (.iload_n 3, 1) := by decide +kernel
theorem dL_law_995 : decode cL_law 995 = .ok (.iconst 1, 1) := by decide +kernel
theorem dL_law_996 : decode cL_law 996 = .ok (.iadd, 1) := by decide +kernel
theorem dL_law_997 : decode cL_law 997 = .ok (.iaload, 1) := by decide +kernel
theorem dL_law_998 : decode cL_law 998 = .ok (.invokevirtual 128, 3) := by decide +kernel
theorem dL_law_1001 : decode cL_law 1001 = .ok (.if_icmp .eq 156, 3) := by decide +kernel
theorem dL_law_1004 : decode cL_law 1004 = .ok (.iconst 0, 1) := by decide +kernel
theorem dL_law_1005 : decode cL_law 1005 = .ok (.ireturn, 1) := by decide +kernel
theorem dL_law_1006 : decode cL_law 1006 = .ok (.aload_n 1, 1) := by decide +kernel
theorem dL_law_1007 : decode cL_law 1007 = .ok (.aload_n 0, 1) := by decide +kernel
theorem dL_law_1008 : decode cL_law 1008 = .ok (.iload_n 3, 1) := by decide +kernel
theorem dL_law_1009 : decode cL_law 1009 = .ok (.iconst 1, 1) := by decide +kernel
theorem dL_law_1010 : decode cL_law 1010 = .ok (.iadd, 1) := by decide +kernel
theorem dL_law_1011 : decode cL_law 1011 = .ok (.iaload, 1) := by decide +kernel
theorem dL_law_1012 : decode cL_law 1012 = .ok (.aload_n 0, 1) := by decide +kernel
theorem dL_law_1013 : decode cL_law 1013 = .ok (.iload_n 3, 1) := by decide +kernel
theorem dL_law_1014 : decode cL_law 1014 = .ok (.iconst 2, 1) := by decide +kernel
theorem dL_law_1015 : decode cL_law 1015 = .ok (.iadd, 1) := by decide +kernel
theorem dL_law_1016 : decode cL_law 1016 = .ok (.iaload, 1) := by decide +kernel
theorem dL_law_1017 : decode cL_law 1017 = .ok (.invokevirtual 129, 3) := by decide +kernel
theorem dL_law_1020 : decode cL_law 1020 = .ok (.aload_n 2, 1) := by decide +kernel
theorem dL_law_1021 : decode cL_law 1021 = .ok (.aload_n 0, 1) := by decide +kernel
theorem dL_law_1022 : decode cL_law 1022 = .ok (.iload_n 3, 1) := by decide +kernel
theorem dL_law_1023 : decode cL_law 1023 = .ok (.iconst 1, 1) := by decide +kernel
theorem dL_law_1024 : decode cL_law 1024 = .ok (.iadd, 1) := by decide +kernel
theorem dL_law_1025 : decode cL_law 1025 = .ok (.iaload, 1) := by decide +kernel
theorem dL_law_1026 : decode cL_law 1026 = .ok (.aload_n 0, 1) := by decide +kernel
theorem dL_law_1027 : decode cL_law 1027 = .ok (.iload_n 3, 1) := by decide +kernel
theorem dL_law_1028 : decode cL_law 1028 = .ok (.iconst 2, 1) := by decide +kernel
theorem dL_law_1029 : decode cL_law 1029 = .ok (.iadd, 1) := by decide +kernel
theorem dL_law_1030 : decode cL_law 1030 = .ok (.iaload, 1) := by decide +kernel
theorem dL_law_1031 : decode cL_law 1031 = .ok (.invokevirtual 132, 3) := by decide +kernel
theorem dL_law_1034 : decode cL_law 1034 = .ok (.if_icmp .eq 123, 3) := by decide +kernel
theorem dL_law_1037 : decode cL_law 1037 = .ok (.iconst 0, 1) := by decide +kernel
theorem dL_law_1038 : decode cL_law 1038 = .ok (.ireturn, 1) := by decide +kernel
theorem dL_law_1039 : decode cL_law 1039 = .ok (.aload_n 1, 1) := by decide +kernel
theorem dL_law_1040 : decode cL_law 1040 = .ok (.aload_n 0, 1) := by decide +kernel
theorem dL_law_1041 : decode cL_law 1041 = .ok (.iload_n 3, 1) := by decide +kernel
theorem dL_law_1042 : decode cL_law 1042 = .ok (.iconst 1, 1) := by decide +kernel
theorem dL_law_1043 : decode cL_law 1043 = .ok (.iadd, 1) := by decide +kernel
theorem dL_law_1044 : decode cL_law 1044 = .ok (.iaload, 1) := by decide +kernel
theorem dL_law_1045 : decode cL_law 1045 = .ok (.aload_n 0, 1) := by decide +kernel
theorem dL_law_1046 : decode cL_law 1046 = .ok (.iload_n 3, 1) := by decide +kernel
theorem dL_law_1047 : decode cL_law 1047 = .ok (.iconst 2, 1) := by decide +kernel
theorem dL_law_1048 : decode cL_law 1048 = .ok (.iadd, 1) := by decide +kernel
theorem dL_law_1049 : decode cL_law 1049 = .ok (.iaload, 1) := by decide +kernel
theorem dL_law_1050 : decode cL_law 1050 = .ok (.invokevirtual 133, 3) := by decide +kernel
theorem dL_law_1053 : decode cL_law 1053 = .ok (.aload_n 2, 1) := by decide +kernel
theorem dL_law_1054 : decode cL_law 1054 = .ok (.aload_n 0, 1) := by decide +kernel
theorem dL_law_1055 : decode cL_law 1055 = .ok (.iload_n 3, 1) := by decide +kernel
theorem dL_law_1056 : decode cL_law 1056 = .ok (.iconst 1, 1) := by decide +kernel
theorem dL_law_1057 : decode cL_law 1057 = .ok (.iadd, 1) := by decide +kernel
theorem dL_law_1058 : decode cL_law 1058 = .ok (.iaload, 1) := by decide +kernel
theorem dL_law_1059 : decode cL_law 1059 = .ok (.aload_n 0, 1) := by decide +kernel
theorem dL_law_1060 : decode cL_law 1060 = .ok (.iload_n 3, 1) := by decide +kernel
theorem dL_law_1061 : decode cL_law 1061 = .ok (.iconst 2, 1) := by decide +kernel
theorem dL_law_1062 : decode cL_law 1062 = .ok (.iadd, 1) := by decide +kernel
theorem dL_law_1063 : decode cL_law 1063 = .ok (.iaload, 1) := by decide +kernel
theorem dL_law_1064 : decode cL_law 1064 = .ok (.invokevirtual 136, 3) := by decide +kernel
theorem dL_law_1067 : decode cL_law 1067 = .ok (.if_icmp .eq 90, 3) := by decide +kernel
theorem dL_law_1070 : decode cL_law 1070 = .ok (.iconst 0, 1) := by decide +kernel
theorem dL_law_1071 : decode cL_law 1071 = .ok (.ireturn, 1) := by decide +kernel
theorem dL_law_1072 : decode cL_law 1072 = .ok (.aload_n 1, 1) := by decide +kernel
theorem dL_law_1073 : decode cL_law 1073 = .ok (.invokevirtual 137, 3) := by decide +kernel
theorem dL_law_1076 : decode cL_law 1076 = .ok (.aload_n 2, 1) := by decide +kernel
theorem dL_law_1077 : decode cL_law 1077 = .ok (.invokevirtual 140, 3) := by decide +kernel
theorem dL_law_1080 : decode cL_law 1080 = .ok (.if_icmp .eq 77, 3) := by decide +kernel
theorem dL_law_1083 : decode cL_law 1083 = .ok (.iconst 0, 1) := by decide +kernel
theorem dL_law_1084 : decode cL_law 1084 = .ok (.ireturn, 1) := by decide +kernel
theorem dL_law_1085 : decode cL_law 1085 = .ok (.aload_n 1, 1) := by decide +kernel
theorem dL_law_1086 : decode cL_law 1086 = .ok (.invokevirtual 141, 3) := by decide +kernel
theorem dL_law_1089 : decode cL_law 1089 = .ok (.aload_n 2, 1) := by decide +kernel
theorem dL_law_1090 : decode cL_law 1090 = .ok (.invokevirtual 144, 3) := by decide +kernel
theorem dL_law_1093 : decode cL_law 1093 = .ok (.if_icmp .eq 64, 3) := by decide +kernel
theorem dL_law_1096 : decode cL_law 1096 = .ok (.iconst 0, 1) := by decide +kernel
theorem dL_law_1097 : decode cL_law 1097 = .ok (.ireturn, 1) := by decide +kernel
theorem dL_law_1098 : decode cL_law 1098 = .ok (.aload_n 1, 1) := by decide +kernel
theorem dL_law_1099 : decode cL_law 1099 = .ok (.invokevirtual 145, 3) := by decide +kernel
theorem dL_law_1102 : decode cL_law 1102 = .ok (.aload_n 2, 1) := by decide +kernel
theorem dL_law_1103 : decode cL_law 1103 = .ok (.invokevirtual 148, 3) := by decide +kernel
theorem dL_law_1106 : decode cL_law 1106 = .ok (.if_icmp .eq 51, 3) := by decide +kernel
theorem dL_law_1109 : decode cL_law 1109 = .ok (.iconst 0, 1) := by decide +kernel
theorem dL_law_1110 : decode cL_law 1110 = .ok (.ireturn, 1) := by decide +kernel
theorem dL_law_1111 : decode cL_law 1111 = .ok (.aload_n 1, 1) := by decide +kernel
theorem dL_law_1112 : decode cL_law 1112 = .ok (.aload_n 0, 1) := by decide +kernel
theorem dL_law_1113 : decode cL_law 1113 = .ok (.iload_n 3, 1) := by decide +kernel
theorem dL_law_1114 : decode cL_law 1114 = .ok (.iconst 1, 1) := by decide +kernel
theorem dL_law_1115 : decode cL_law 1115 = .ok (.iadd, 1) := by decide +kernel
theorem dL_law_1116 : decode cL_law 1116 = .ok (.iaload, 1) := by decide +kernel
theorem dL_law_1117 : decode cL_law 1117 = .ok (.invokevirtual 149, 3) := by decide +kernel
theorem dL_law_1120 : decode cL_law 1120 = .ok (.aload_n 2, 1) := by decide +kernel
theorem dL_law_1121 : decode cL_law 1121 = .ok (.aload_n 0, 1) := by decide +kernel
theorem dL_law_1122 : decode cL_law 1122 = .ok (.iload_n 3, 1) := by decide +kernel
theorem dL_law_1123 : decode cL_law 1123 = .ok (.iconst 1, 1) := by decide +kernel
theorem dL_law_1124 : decode cL_law 1124 = .ok (.iadd, 1) := by decide +kernel
theorem dL_law_1125 : decode cL_law 1125 = .ok (.iaload, 1) := by decide +kernel
theorem dL_law_1126 : decode cL_law 1126 = .ok (.invokevirtual 152, 3) := by decide +kernel
theorem dL_law_1129 : decode cL_law 1129 = .ok (.if_icmp .eq 28, 3) := by decide +kernel
theorem dL_law_1132 : decode cL_law 1132 = .ok (.iconst 0, 1) := by decide +kernel
theorem dL_law_1133 : decode cL_law 1133 = .ok (.ireturn, 1) := by decide +kernel
theorem dL_law_1134 : decode cL_law 1134 = .ok (.aload_n 1, 1) := by decide +kernel
theorem dL_law_1135 : decode cL_law 1135 = .ok (.aload_n 0, 1) := by decide +kernel
theorem dL_law_1136 : decode cL_law 1136 = .ok (.iload_n 3, 1) := by decide +kernel
theorem dL_law_1137 : decode cL_law 1137 = .ok (.iconst 1, 1) := by decide +kernel
theorem dL_law_1138 : decode cL_law 1138 = .ok (.iadd, 1) := by decide +kernel
theorem dL_law_1139 : decode cL_law 1139 = .ok (.iaload, 1) := by decide +kernel
theorem dL_law_1140 : decode cL_law 1140 = .ok (.invokevirtual 153, 3) := by decide +kernel
theorem dL_law_1143 : decode cL_law 1143 = .ok (.aload_n 2, 1) := by decide +kernel
theorem dL_law_1144 : decode cL_law 1144 = .ok (.aload_n 0, 1) := by decide +kernel
theorem dL_law_1145 : decode cL_law 1145 = .ok (.iload_n 3, 1) := by decide +kernel
theorem dL_law_1146 : decode cL_law 1146 = .ok (.iconst 1, 1) := by decide +kernel
theorem dL_law_1147 : decode cL_law 1147 = .ok (.iadd, 1) := by decide +kernel
theorem dL_law_1148 : decode cL_law 1148 = .ok (.iaload, 1) := by decide +kernel
theorem dL_law_1149 : decode cL_law 1149 = .ok (.invokevirtual 156, 3) := by decide +kernel
theorem dL_law_1152 : decode cL_law 1152 = .ok (.if_icmp .eq 5, 3) := by decide +kernel
theorem dL_law_1155 : decode cL_law 1155 = .ok (.iconst 0, 1) := by decide +kernel
theorem dL_law_1156 : decode cL_law 1156 = .ok (.ireturn, 1) := by decide +kernel
theorem dL_law_1157 : decode cL_law 1157 = .ok (.iinc 3 6, 3) := by decide +kernel
theorem dL_law_1160 : decode cL_law 1160 = .ok (.goto (-1142), 3) := by decide +kernel
theorem dL_law_1163 : decode cL_law 1163 = .ok (.iconst 1, 1) := by decide +kernel
theorem dL_law_1164 : decode cL_law 1164 = .ok (.ireturn, 1) := by decide +kernel
end
section
/-! ===== the abstract memory, the judgement G, contracts over a whole world ===== -/
abbrev Mem : Type := (Nat → Nat → Int32) × (Nat → Nat → Int64)
def sI (M : Mem) (r i : Nat) (v : Int32) : Mem := (fun r' => if r' = r then upd (M.1 r) i v else M.1 r', M.2)
def sJ (M : Mem) (r i : Nat) (v : Int64) : Mem := (M.1, fun r' => if r' = r then vp_updL (M.2 r) i v else M.2 r')
/-- the surroundings: class numbers and slots; array classes; addresses of the class's cells, of the model's; of the texts, of their bytes -/
abbrev Ev : Type := va_G × (Nat → ClassId) × (Nat → Nat) × (Nat → Nat) × (Nat → Nat) × (Nat → Nat)
abbrev eD (E : Ev) : va_G := E.1
abbrev eA (E : Ev) : Nat → ClassId := E.2.1
abbrev ec (E : Ev) : Nat → Nat := E.2.2.1
abbrev em (E : Ev) : Nat → Nat := E.2.2.2.1
abbrev eK (E : Ev) : Nat → Nat := E.2.2.2.2.1
abbrev eV (E : Ev) : Nat → Nat := E.2.2.2.2.2
def tysE (E : Ev) : List (ClassId × FieldType) := [(eA E 0, .int), (eA E 1, .long), (eA E 2, .byte), (eA E 3, .object "TowerWarns$Vessel"), (eA E 4, .object "TowerWarns$Ship"), (eA E 5, .object "TowerWarns$Sheet")]
/-- the texts of the class: 0 to 5 the kinds' names, 6 at, 7 tower, 8 burns, 9 dark, 10 reach -/
def sLen : List Nat := [4, 7, 4, 7, 4, 3, 2, 5, 5, 4, 5]
def sByt : List (List Int32) := [[115, 104, 105, 112], [115, 116, 101, 97, 109, 101, 114], [98, 111, 97, 116], [100, 114, 105, 102, 116, 101, 114], [109, 97, 105, 108], [103, 105, 103], [97, 116], [116, 111, 119, 101, 114], [98, 117, 114, 110, 115], [100, 97, 114, 107], [114, 101, 97, 99, 104]]
def sRefs : List (String × Nat × String × Nat) := [("TowerWarns$Ship", 7, "ship", 0), ("TowerWarns$Steamer", 7, "steamer", 1), ("TowerWarns$Boat", 7, "boat", 2), ("TowerWarns$Drifter", 7, "drifter", 3), ("TowerWarns$Mail", 7, "mail", 4), ("TowerWarns$Gig", 7, "gig", 5), ("TowerWarns$SeaText", 81, "at", 6), ("TowerWarns$SeaText", 50, "tower", 7), ("TowerWarns$SeaText", 55, "burns", 8), ("TowerWarns$SeaText", 61, "dark", 9), ("TowerWarns$SeaText", 63, "reach", 10)]
/-- what the start gives beside the words -/
def Zx (E : Ev) (A : Nat → Prop) (U : State) (H : Heap) : Prop :=
  va_Nw (.methodLinkNest "TowerWarns$Sea" 102 ⟨"TowerWarns", "asNumber", "(Z)I"⟩ "TowerWarns") U ∧ va_Nw (.methodLinkNest "TowerWarns$Vessel" 35 ⟨"TowerWarns", "asNumber", "(Z)I"⟩ "TowerWarns") U ∧ vk_S 11 sLen sByt (eK E) (eV E) A U H ∧ va_Z "java/lang/String" "COMPACT_STRINGS" "Z" (.int 1) A U H ∧ ∀ q ∈ sRefs, vk_R q.1 q.2.1 q.2.2.1 (eK E q.2.2.2) U
theorem Zx.warm {E : Ev} {A : Nat → Prop} {s U : State} {H : Heap} (hW : s.WarmedH U.vm) (h : Zx E A s H) : Zx E A U H := ⟨va_Nw.warmM hW h.1, va_Nw.warmM hW h.2.1, h.2.2.1.moved hW.alike, h.2.2.2.1.moved hW.alike, fun q hq => (h.2.2.2.2 q hq).warm hW⟩
theorem Zx.same {E : Ev} {A : Nat → Prop} {s U : State} {H : Heap} (hv : U.vm = s.vm) (h : Zx E A s H) : Zx E A U H := ⟨va_Nw.same rfl hv.symm h.1, va_Nw.same rfl hv.symm h.2.1, h.2.2.1.moved (by rw [hv]; exact Vm.Alike.refl _), h.2.2.2.1.moved (by rw [hv]; exact Vm.Alike.refl _), fun q hq => (h.2.2.2.2 q hq).same hv⟩
theorem Zx.kept {E : Ev} {A : Nat → Prop} {s : State} {H H1 : Heap} (h : Zx E A s H) (hq : ∀ a : Nat, a < H.size → ¬ A a → H1[a]? = H[a]?) : Zx E A s H1 := ⟨h.1, h.2.1, h.2.2.1.kept hq, h.2.2.2.1.kept hq, h.2.2.2.2⟩
theorem Zx.narrow {E : Ev} {A B : Nat → Prop} {s : State} {H : Heap} (h : Zx E A s H) (hAB : ∀ q, B q → A q) : Zx E B s H := ⟨h.1, h.2.1, h.2.2.1.narrow hAB, h.2.2.2.1.narrow hAB, h.2.2.2.2⟩
/-- one bundle: p l e R s m args below meth c nL E A Q -/
abbrev Cx : Type := Program × Launch × Env × Room × State × MethodId × Array Value × List Frame × Method × Code × Nat × Ev × (Nat → Prop) × (State → Prop)
abbrev xp (X : Cx) : Program := X.1
abbrev xl (X : Cx) : Launch := X.2.1
abbrev xe (X : Cx) : Env := X.2.2.1
abbrev xR (X : Cx) : Room := X.2.2.2.1
abbrev xs (X : Cx) : State := X.2.2.2.2.1
abbrev xm (X : Cx) : MethodId := X.2.2.2.2.2.1
abbrev xa (X : Cx) : Array Value := X.2.2.2.2.2.2.1
abbrev xb (X : Cx) : List Frame := X.2.2.2.2.2.2.2.1
abbrev xM (X : Cx) : Method := X.2.2.2.2.2.2.2.2.1
abbrev xc (X : Cx) : Code := X.2.2.2.2.2.2.2.2.2.1
abbrev xn (X : Cx) : Nat := X.2.2.2.2.2.2.2.2.2.2.1
abbrev xE (X : Cx) : Ev := X.2.2.2.2.2.2.2.2.2.2.2.1
abbrev xA (X : Cx) : Nat → Prop := X.2.2.2.2.2.2.2.2.2.2.2.2.1
abbrev xQ (X : Cx) : State → Prop := X.2.2.2.2.2.2.2.2.2.2.2.2.2
/-- the machine at pc, with these locals and this stack, over any heap that holds the world ws -/
def G (X : Cx) (ws : va_W) (pc : Nat) (lv : List (Nat × Value)) (st : List Value) : Prop :=
  ∀ (H : Heap) (locs : List Loc) (ls : Array Slot), va_P (eD (xE X)) vwCl ws H → va_D (xA X) ws → va_S (xA X) (xs X).heap H locs → lv_has ls (xn X) lv → W (xp X) (xl X) (xe X) (xR X) (xs X) (xm X) (xa X) (xb X) (xM X) (xc X) H locs 0 0 (xQ X) (F0 (xm X) pc ls st)
def Rm (f n : Nat) : Room := { frames := f, cells := 0, slots := 0, locals := n }
def Fx (X : Cx) (cc : ByteArray) (own : String) (f n : Nat) : Prop :=
  (xp X).tables.exec = Jvm.exec ∧ (xc X).code = cc ∧ (xc X).maxLocals = xn X ∧ (xs X).vm.findClass own = some (xm X).cls ∧ (∀ w ∈ gw, w.before (xa X) (xs X) = true) ∧ va_K (eD (xE X)) vwCl (tysE (xE X)) (xs X) ∧ (∀ q, (xs X).heap.size ≤ q → xA X q) ∧ (xM X).locks = false ∧ Zx (xE X) (xA X) (xs X) (xs X).heap ∧ xR X = Rm f n
/-- a method's start and end over a world given by a memory -/
def Pr (E : Ev) (ws : va_W) (sz : Nat) : State → Prop := fun U => U.heap.size = sz ∧ va_P (eD E) vwCl ws U.heap ∧ va_K (eD E) vwCl (tysE E) U ∧ va_D (fun _ => True) ws ∧ Zx E (va_A ws sz) U U.heap
def Po (E : Ev) (Wf : Mem → va_W) (A : Nat → Prop) : Mem → State → Prop := fun u t => va_P (eD E) vwCl (Wf u) t.heap ∧ va_D A (Wf u)
/-- contracts: 'from memory M the call with these arguments answers r, and the memory is M2' -/
def CtI (l : Launch) (E : Ev) (Wf : Mem → va_W) (y : MethodName) (bytes : ByteArray) (maxL : Nat) (ret : FieldType) (f n : Nat) (av : List Value) (M : Mem) (r : Int32) (M2 : Mem) : Prop :=
  ∀ sz : Nat, Met l y (.code y bytes maxL (some ret) :: gw) (Rm f n) (va_Pc av (Pr E (Wf M) sz)) (va_Qi (fun (r' : Int32) (u : Mem) => r' = r ∧ u = M2) (Po E Wf (va_A (Wf M) sz)) (va_A (Wf M) sz)) 0 0 (va_A (Wf M) sz)
def CtL (l : Launch) (E : Ev) (Wf : Mem → va_W) (y : MethodName) (bytes : ByteArray) (maxL : Nat) (f n : Nat) (av : List Value) (M : Mem) (r : Int64) (M2 : Mem) : Prop :=
  ∀ sz : Nat, Met l y (.code y bytes maxL (some .long) :: gw) (Rm f n) (va_Pc av (Pr E (Wf M) sz)) (va_Ql (fun (r' : Int64) (u : Mem) => r' = r ∧ u = M2) (Po E Wf (va_A (Wf M) sz)) (va_A (Wf M) sz)) 0 0 (va_A (Wf M) sz)
def CtV (l : Launch) (E : Ev) (Wf : Mem → va_W) (y : MethodName) (bytes : ByteArray) (maxL : Nat) (f n : Nat) (av : List Value) (M M2 : Mem) : Prop :=
  ∀ sz : Nat, Met l y (.code y bytes maxL none :: gw) (Rm f n) (va_Pc av (Pr E (Wf M) sz)) (va_Qv (fun (u : Mem) => u = M2) (Po E Wf (va_A (Wf M) sz)) (va_A (Wf M) sz)) 0 0 (va_A (Wf M) sz)
theorem g_iconst {X : Cx} {cc : ByteArray} {own : String} {f n : Nat} {ws : va_W} {pc : Nat} {lv : List (Nat × Value)} {st : List Value} {z : Int} {v : Int32} (F : Fx X cc own f n) (d : decode cc pc = .ok (.iconst z, 1)) (hv : Int32.ofInt z = v) (k : G X ws (pc + 1) lv (.int v :: st)) : G X ws pc lv (st) :=
  fun H locs ls hP hD hS hl => lv_iconst F.1 F.2.1 d hv (k H locs ls hP hD hS hl)
theorem g_bipush {X : Cx} {cc : ByteArray} {own : String} {f n : Nat} {ws : va_W} {pc : Nat} {lv : List (Nat × Value)} {st : List Value} {z : Int} {v : Int32} (F : Fx X cc own f n) (d : decode cc pc = .ok (.bipush z, 2)) (hv : (Int8.ofInt z).toInt32 = v) (k : G X ws (pc + 2) lv (.int v :: st)) : G X ws pc lv (st) :=
  fun H locs ls hP hD hS hl => lv_bipush F.1 F.2.1 d hv (k H locs ls hP hD hS hl)
theorem g_sipush {X : Cx} {cc : ByteArray} {own : String} {f n : Nat} {ws : va_W} {pc : Nat} {lv : List (Nat × Value)} {st : List Value} {z : Int} {v : Int32} (F : Fx X cc own f n) (d : decode cc pc = .ok (.sipush z, 3)) (hv : (Int16.ofInt z).toInt32 = v) (k : G X ws (pc + 3) lv (.int v :: st)) : G X ws pc lv (st) :=
  fun H locs ls hP hD hS hl => lv_sipush F.1 F.2.1 d hv (k H locs ls hP hD hS hl)
theorem g_lconst {X : Cx} {cc : ByteArray} {own : String} {f n : Nat} {ws : va_W} {pc : Nat} {lv : List (Nat × Value)} {st : List Value} {z : Fin 2} {v : Int64} (F : Fx X cc own f n) (d : decode cc pc = .ok (.lconst z, 1)) (hv : Int64.ofNat (z : Nat) = v) (k : G X ws (pc + 1) lv (.long v :: st)) : G X ws pc lv (st) :=
  fun H locs ls hP hD hS hl => lv_lconst F.1 F.2.1 d hv (k H locs ls hP hD hS hl)
theorem g_iload_n {X : Cx} {cc : ByteArray} {own : String} {f n : Nat} {ws : va_W} {pc : Nat} {lv : List (Nat × Value)} {st : List Value} {z : Fin 4} {i : Nat} {x : Int32} (F : Fx X cc own f n) (d : decode cc pc = .ok (.iload_n z, 1)) (hi : (z : Nat) = i) (q : Nat) (hq : lv[q]? = some (i, .int x)) (k : G X ws (pc + 1) lv (.int x :: st)) : G X ws pc lv (st) :=
  fun H locs ls hP hD hS hl => lv_iload_n F.1 F.2.1 d hi (lv_at hl q hq) (k H locs ls hP hD hS hl)
theorem g_iload {X : Cx} {cc : ByteArray} {own : String} {f n : Nat} {ws : va_W} {pc : Nat} {lv : List (Nat × Value)} {st : List Value} {i : Nat} {x : Int32} (F : Fx X cc own f n) (d : decode cc pc = .ok (.iload i, 2)) (q : Nat) (hq : lv[q]? = some (i, .int x)) (k : G X ws (pc + 2) lv (.int x :: st)) : G X ws pc lv (st) :=
  fun H locs ls hP hD hS hl => lv_iload F.1 F.2.1 d (lv_at hl q hq) (k H locs ls hP hD hS hl)
theorem g_lload_n {X : Cx} {cc : ByteArray} {own : String} {f n : Nat} {ws : va_W} {pc : Nat} {lv : List (Nat × Value)} {st : List Value} {z : Fin 4} {i : Nat} {x : Int64} (F : Fx X cc own f n) (d : decode cc pc = .ok (.lload_n z, 1)) (hi : (z : Nat) = i) (q : Nat) (hq : lv[q]? = some (i, .long x)) (k : G X ws (pc + 1) lv (.long x :: st)) : G X ws pc lv (st) :=
  fun H locs ls hP hD hS hl => lv_lload_n F.1 F.2.1 d hi (lv_at hl q hq) (k H locs ls hP hD hS hl)
theorem g_lload {X : Cx} {cc : ByteArray} {own : String} {f n : Nat} {ws : va_W} {pc : Nat} {lv : List (Nat × Value)} {st : List Value} {i : Nat} {x : Int64} (F : Fx X cc own f n) (d : decode cc pc = .ok (.lload i, 2)) (q : Nat) (hq : lv[q]? = some (i, .long x)) (k : G X ws (pc + 2) lv (.long x :: st)) : G X ws pc lv (st) :=
  fun H locs ls hP hD hS hl => lv_lload F.1 F.2.1 d (lv_at hl q hq) (k H locs ls hP hD hS hl)
theorem g_aload_n {X : Cx} {cc : ByteArray} {own : String} {f n : Nat} {ws : va_W} {pc : Nat} {lv : List (Nat × Value)} {st : List Value} {z : Fin 4} {i : Nat} {x : Nat} (F : Fx X cc own f n) (d : decode cc pc = .ok (.aload_n z, 1)) (hi : (z : Nat) = i) (q : Nat) (hq : lv[q]? = some (i, .ref x)) (k : G X ws (pc + 1) lv (.ref x :: st)) : G X ws pc lv (st) :=
  fun H locs ls hP hD hS hl => lv_aload_n F.1 F.2.1 d hi (lv_at hl q hq) (k H locs ls hP hD hS hl)
theorem g_aload {X : Cx} {cc : ByteArray} {own : String} {f n : Nat} {ws : va_W} {pc : Nat} {lv : List (Nat × Value)} {st : List Value} {i : Nat} {x : Nat} (F : Fx X cc own f n) (d : decode cc pc = .ok (.aload i, 2)) (q : Nat) (hq : lv[q]? = some (i, .ref x)) (k : G X ws (pc + 2) lv (.ref x :: st)) : G X ws pc lv (st) :=
  fun H locs ls hP hD hS hl => lv_aload F.1 F.2.1 d (lv_at hl q hq) (k H locs ls hP hD hS hl)
theorem g_istore_n {X : Cx} {cc : ByteArray} {own : String} {f n : Nat} {ws : va_W} {pc : Nat} {lv : List (Nat × Value)} {st : List Value} {lv2 : List (Nat × Value)} {z : Fin 4} {i : Nat} {x : Int32} (F : Fx X cc own f n) (d : decode cc pc = .ok (.istore_n z, 1)) (hi : (z : Nat) = i) (hn : i < xn X) (ks : List Nat) (hk : lv_pick ((i, .int x) :: lv.filter (fun q => !(q.1 == i) && !(q.1 + 1 == i && q.2.category == 2))) ks = lv2) (k : G X ws (pc + 1) lv2 st) : G X ws pc lv (.int x :: st) :=
  fun H locs ls hP hD hS hl => lv_istore_n F.1 F.2.1 d hi hl hn rfl (fun ls2 hl2 => k H locs ls2 hP hD hS (lv_sub hl2 ks hk))
theorem g_istore {X : Cx} {cc : ByteArray} {own : String} {f n : Nat} {ws : va_W} {pc : Nat} {lv : List (Nat × Value)} {st : List Value} {lv2 : List (Nat × Value)} {i : Nat} {x : Int32} (F : Fx X cc own f n) (d : decode cc pc = .ok (.istore i, 2)) (hn : i < xn X) (ks : List Nat) (hk : lv_pick ((i, .int x) :: lv.filter (fun q => !(q.1 == i) && !(q.1 + 1 == i && q.2.category == 2))) ks = lv2) (k : G X ws (pc + 2) lv2 st) : G X ws pc lv (.int x :: st) :=
  fun H locs ls hP hD hS hl => lv_istore F.1 F.2.1 d hl hn rfl (fun ls2 hl2 => k H locs ls2 hP hD hS (lv_sub hl2 ks hk))
theorem g_lstore_n {X : Cx} {cc : ByteArray} {own : String} {f n : Nat} {ws : va_W} {pc : Nat} {lv : List (Nat × Value)} {st : List Value} {lv2 : List (Nat × Value)} {z : Fin 4} {i : Nat} {x : Int64} (F : Fx X cc own f n) (d : decode cc pc = .ok (.lstore_n z, 1)) (hi : (z : Nat) = i) (hn : i + 1 < xn X) (ks : List Nat) (hk : lv_pick ((i, .long x) :: lv.filter (fun q => !(q.1 == i) && (!(q.1 == i + 1) && !(q.1 + 1 == i && q.2.category == 2)))) ks = lv2) (k : G X ws (pc + 1) lv2 st) : G X ws pc lv (.long x :: st) :=
  fun H locs ls hP hD hS hl => lv_lstore_n F.1 F.2.1 d hi hl hn rfl (fun ls2 hl2 => k H locs ls2 hP hD hS (lv_sub hl2 ks hk))
theorem g_lstore {X : Cx} {cc : ByteArray} {own : String} {f n : Nat} {ws : va_W} {pc : Nat} {lv : List (Nat × Value)} {st : List Value} {lv2 : List (Nat × Value)} {i : Nat} {x : Int64} (F : Fx X cc own f n) (d : decode cc pc = .ok (.lstore i, 2)) (hn : i + 1 < xn X) (ks : List Nat) (hk : lv_pick ((i, .long x) :: lv.filter (fun q => !(q.1 == i) && (!(q.1 == i + 1) && !(q.1 + 1 == i && q.2.category == 2)))) ks = lv2) (k : G X ws (pc + 2) lv2 st) : G X ws pc lv (.long x :: st) :=
  fun H locs ls hP hD hS hl => lv_lstore F.1 F.2.1 d hl hn rfl (fun ls2 hl2 => k H locs ls2 hP hD hS (lv_sub hl2 ks hk))
theorem g_astore_n {X : Cx} {cc : ByteArray} {own : String} {f n : Nat} {ws : va_W} {pc : Nat} {lv : List (Nat × Value)} {st : List Value} {lv2 : List (Nat × Value)} {z : Fin 4} {i : Nat} {x : Nat} (F : Fx X cc own f n) (d : decode cc pc = .ok (.astore_n z, 1)) (hi : (z : Nat) = i) (hn : i < xn X) (ks : List Nat) (hk : lv_pick ((i, .ref x) :: lv.filter (fun q => !(q.1 == i) && !(q.1 + 1 == i && q.2.category == 2))) ks = lv2) (k : G X ws (pc + 1) lv2 st) : G X ws pc lv (.ref x :: st) :=
  fun H locs ls hP hD hS hl => lv_astore_n F.1 F.2.1 d hi hl hn rfl (fun ls2 hl2 => k H locs ls2 hP hD hS (lv_sub hl2 ks hk))
theorem g_astore {X : Cx} {cc : ByteArray} {own : String} {f n : Nat} {ws : va_W} {pc : Nat} {lv : List (Nat × Value)} {st : List Value} {lv2 : List (Nat × Value)} {i : Nat} {x : Nat} (F : Fx X cc own f n) (d : decode cc pc = .ok (.astore i, 2)) (hn : i < xn X) (ks : List Nat) (hk : lv_pick ((i, .ref x) :: lv.filter (fun q => !(q.1 == i) && !(q.1 + 1 == i && q.2.category == 2))) ks = lv2) (k : G X ws (pc + 2) lv2 st) : G X ws pc lv (.ref x :: st) :=
  fun H locs ls hP hD hS hl => lv_astore F.1 F.2.1 d hl hn rfl (fun ls2 hl2 => k H locs ls2 hP hD hS (lv_sub hl2 ks hk))
theorem g_iinc {X : Cx} {cc : ByteArray} {own : String} {f n : Nat} {ws : va_W} {pc : Nat} {lv : List (Nat × Value)} {st : List Value} {lv2 : List (Nat × Value)} {i : Nat} {z : Int} {x v : Int32} (F : Fx X cc own f n) (d : decode cc pc = .ok (.iinc i z, 3)) (q : Nat) (hq : lv[q]? = some (i, .int x)) (hv : x + Int32.ofInt z = v) (hn : i < xn X) (ks : List Nat) (hk : lv_pick ((i, .int v) :: lv.filter (fun q => !(q.1 == i) && !(q.1 + 1 == i && q.2.category == 2))) ks = lv2) (k : G X ws (pc + 3) lv2 st) : G X ws pc lv st :=
  fun H locs ls hP hD hS hl => lv_iinc F.1 F.2.1 d hl hq hv hn rfl (fun ls2 hl2 => k H locs ls2 hP hD hS (lv_sub hl2 ks hk))
theorem g_iadd {X : Cx} {cc : ByteArray} {own : String} {f n : Nat} {ws : va_W} {pc : Nat} {lv : List (Nat × Value)} {st : List Value} {x y : Int32} (F : Fx X cc own f n) (d : decode cc pc = .ok (.iadd, 1)) (k : G X ws (pc + 1) lv (.int (x + y) :: st)) : G X ws pc lv (.int y :: .int x :: st) :=
  fun H locs ls hP hD hS hl => lv_iadd F.1 F.2.1 d (k H locs ls hP hD hS hl)
theorem g_isub {X : Cx} {cc : ByteArray} {own : String} {f n : Nat} {ws : va_W} {pc : Nat} {lv : List (Nat × Value)} {st : List Value} {x y : Int32} (F : Fx X cc own f n) (d : decode cc pc = .ok (.isub, 1)) (k : G X ws (pc + 1) lv (.int (x - y) :: st)) : G X ws pc lv (.int y :: .int x :: st) :=
  fun H locs ls hP hD hS hl => lv_isub F.1 F.2.1 d (k H locs ls hP hD hS hl)
theorem g_imul {X : Cx} {cc : ByteArray} {own : String} {f n : Nat} {ws : va_W} {pc : Nat} {lv : List (Nat × Value)} {st : List Value} {x y : Int32} (F : Fx X cc own f n) (d : decode cc pc = .ok (.imul, 1)) (k : G X ws (pc + 1) lv (.int (x * y) :: st)) : G X ws pc lv (.int y :: .int x :: st) :=
  fun H locs ls hP hD hS hl => lv_imul F.1 F.2.1 d (k H locs ls hP hD hS hl)
theorem g_iand {X : Cx} {cc : ByteArray} {own : String} {f n : Nat} {ws : va_W} {pc : Nat} {lv : List (Nat × Value)} {st : List Value} {x y : Int32} (F : Fx X cc own f n) (d : decode cc pc = .ok (.iand, 1)) (k : G X ws (pc + 1) lv (.int (x &&& y) :: st)) : G X ws pc lv (.int y :: .int x :: st) :=
  fun H locs ls hP hD hS hl => lv_iand F.1 F.2.1 d (k H locs ls hP hD hS hl)
theorem g_ior {X : Cx} {cc : ByteArray} {own : String} {f n : Nat} {ws : va_W} {pc : Nat} {lv : List (Nat × Value)} {st : List Value} {x y : Int32} (F : Fx X cc own f n) (d : decode cc pc = .ok (.ior, 1)) (k : G X ws (pc + 1) lv (.int (x ||| y) :: st)) : G X ws pc lv (.int y :: .int x :: st) :=
  fun H locs ls hP hD hS hl => lv_ior F.1 F.2.1 d (k H locs ls hP hD hS hl)
theorem g_ixor {X : Cx} {cc : ByteArray} {own : String} {f n : Nat} {ws : va_W} {pc : Nat} {lv : List (Nat × Value)} {st : List Value} {x y : Int32} (F : Fx X cc own f n) (d : decode cc pc = .ok (.ixor, 1)) (k : G X ws (pc + 1) lv (.int (x ^^^ y) :: st)) : G X ws pc lv (.int y :: .int x :: st) :=
  fun H locs ls hP hD hS hl => lv_ixor F.1 F.2.1 d (k H locs ls hP hD hS hl)
theorem g_ishl {X : Cx} {cc : ByteArray} {own : String} {f n : Nat} {ws : va_W} {pc : Nat} {lv : List (Nat × Value)} {st : List Value} {x y : Int32} (F : Fx X cc own f n) (d : decode cc pc = .ok (.ishl, 1)) (k : G X ws (pc + 1) lv (.int (x <<< (y &&& 31)) :: st)) : G X ws pc lv (.int y :: .int x :: st) :=
  fun H locs ls hP hD hS hl => lv_ishl F.1 F.2.1 d (k H locs ls hP hD hS hl)
theorem g_ishr {X : Cx} {cc : ByteArray} {own : String} {f n : Nat} {ws : va_W} {pc : Nat} {lv : List (Nat × Value)} {st : List Value} {x y : Int32} (F : Fx X cc own f n) (d : decode cc pc = .ok (.ishr, 1)) (k : G X ws (pc + 1) lv (.int (x >>> (y &&& 31)) :: st)) : G X ws pc lv (.int y :: .int x :: st) :=
  fun H locs ls hP hD hS hl => lv_ishr F.1 F.2.1 d (k H locs ls hP hD hS hl)
theorem g_idiv {X : Cx} {cc : ByteArray} {own : String} {f n : Nat} {ws : va_W} {pc : Nat} {lv : List (Nat × Value)} {st : List Value} {x y : Int32} (F : Fx X cc own f n) (d : decode cc pc = .ok (.idiv, 1)) (hy : ¬ y = 0) (k : G X ws (pc + 1) lv (.int (x / y) :: st)) : G X ws pc lv (.int y :: .int x :: st) :=
  fun H locs ls hP hD hS hl => lv_idiv F.1 F.2.1 d hy (k H locs ls hP hD hS hl)
theorem g_irem {X : Cx} {cc : ByteArray} {own : String} {f n : Nat} {ws : va_W} {pc : Nat} {lv : List (Nat × Value)} {st : List Value} {x y : Int32} (F : Fx X cc own f n) (d : decode cc pc = .ok (.irem, 1)) (hy : ¬ y = 0) (k : G X ws (pc + 1) lv (.int (x - x / y * y) :: st)) : G X ws pc lv (.int y :: .int x :: st) :=
  fun H locs ls hP hD hS hl => lv_irem F.1 F.2.1 d hy (k H locs ls hP hD hS hl)
theorem g_ladd {X : Cx} {cc : ByteArray} {own : String} {f n : Nat} {ws : va_W} {pc : Nat} {lv : List (Nat × Value)} {st : List Value} {x y : Int64} (F : Fx X cc own f n) (d : decode cc pc = .ok (.ladd, 1)) (k : G X ws (pc + 1) lv (.long (x + y) :: st)) : G X ws pc lv (.long y :: .long x :: st) :=
  fun H locs ls hP hD hS hl => lv_ladd F.1 F.2.1 d (k H locs ls hP hD hS hl)
theorem g_lsub {X : Cx} {cc : ByteArray} {own : String} {f n : Nat} {ws : va_W} {pc : Nat} {lv : List (Nat × Value)} {st : List Value} {x y : Int64} (F : Fx X cc own f n) (d : decode cc pc = .ok (.lsub, 1)) (k : G X ws (pc + 1) lv (.long (x - y) :: st)) : G X ws pc lv (.long y :: .long x :: st) :=
  fun H locs ls hP hD hS hl => lv_lsub F.1 F.2.1 d (k H locs ls hP hD hS hl)
theorem g_lmul {X : Cx} {cc : ByteArray} {own : String} {f n : Nat} {ws : va_W} {pc : Nat} {lv : List (Nat × Value)} {st : List Value} {x y : Int64} (F : Fx X cc own f n) (d : decode cc pc = .ok (.lmul, 1)) (k : G X ws (pc + 1) lv (.long (x * y) :: st)) : G X ws pc lv (.long y :: .long x :: st) :=
  fun H locs ls hP hD hS hl => lv_lmul F.1 F.2.1 d (k H locs ls hP hD hS hl)
theorem g_land {X : Cx} {cc : ByteArray} {own : String} {f n : Nat} {ws : va_W} {pc : Nat} {lv : List (Nat × Value)} {st : List Value} {x y : Int64} (F : Fx X cc own f n) (d : decode cc pc = .ok (.land, 1)) (k : G X ws (pc + 1) lv (.long (x &&& y) :: st)) : G X ws pc lv (.long y :: .long x :: st) :=
  fun H locs ls hP hD hS hl => lv_land F.1 F.2.1 d (k H locs ls hP hD hS hl)
theorem g_lor {X : Cx} {cc : ByteArray} {own : String} {f n : Nat} {ws : va_W} {pc : Nat} {lv : List (Nat × Value)} {st : List Value} {x y : Int64} (F : Fx X cc own f n) (d : decode cc pc = .ok (.lor, 1)) (k : G X ws (pc + 1) lv (.long (x ||| y) :: st)) : G X ws pc lv (.long y :: .long x :: st) :=
  fun H locs ls hP hD hS hl => lv_lor F.1 F.2.1 d (k H locs ls hP hD hS hl)
theorem g_lshl {X : Cx} {cc : ByteArray} {own : String} {f n : Nat} {ws : va_W} {pc : Nat} {lv : List (Nat × Value)} {st : List Value} {x : Int64} {y : Int32} (F : Fx X cc own f n) (d : decode cc pc = .ok (.lshl, 1)) (k : G X ws (pc + 1) lv (.long (x <<< (y.toInt64 &&& 63)) :: st)) : G X ws pc lv (.int y :: .long x :: st) :=
  fun H locs ls hP hD hS hl => lv_lshl F.1 F.2.1 d rfl (k H locs ls hP hD hS hl)
theorem g_lshr {X : Cx} {cc : ByteArray} {own : String} {f n : Nat} {ws : va_W} {pc : Nat} {lv : List (Nat × Value)} {st : List Value} {x : Int64} {y : Int32} (F : Fx X cc own f n) (d : decode cc pc = .ok (.lshr, 1)) (k : G X ws (pc + 1) lv (.long (x >>> (y.toInt64 &&& 63)) :: st)) : G X ws pc lv (.int y :: .long x :: st) :=
  fun H locs ls hP hD hS hl => lv_lshr F.1 F.2.1 d rfl (k H locs ls hP hD hS hl)
theorem g_iushr {X : Cx} {cc : ByteArray} {own : String} {f n : Nat} {ws : va_W} {pc : Nat} {lv : List (Nat × Value)} {st : List Value} {x y : Int32} (F : Fx X cc own f n) (d : decode cc pc = .ok (.iushr, 1)) (k : G X ws (pc + 1) lv (.int ((x.toUInt32 >>> (y.toUInt32 &&& Int32.toUInt32 31)).toInt32) :: st)) : G X ws pc lv (.int y :: .int x :: st) :=
  fun H locs ls hP hD hS hl => lv_iushr F.1 F.2.1 d rfl (k H locs ls hP hD hS hl)
theorem g_i2l {X : Cx} {cc : ByteArray} {own : String} {f n : Nat} {ws : va_W} {pc : Nat} {lv : List (Nat × Value)} {st : List Value} {x : Int32} (F : Fx X cc own f n) (d : decode cc pc = .ok (.i2l, 1)) (k : G X ws (pc + 1) lv (.long x.toInt64 :: st)) : G X ws pc lv (.int x :: st) :=
  fun H locs ls hP hD hS hl => lv_i2l F.1 F.2.1 d rfl (k H locs ls hP hD hS hl)
theorem g_l2i {X : Cx} {cc : ByteArray} {own : String} {f n : Nat} {ws : va_W} {pc : Nat} {lv : List (Nat × Value)} {st : List Value} {x : Int64} (F : Fx X cc own f n) (d : decode cc pc = .ok (.l2i, 1)) (k : G X ws (pc + 1) lv (.int x.toInt32 :: st)) : G X ws pc lv (.long x :: st) :=
  fun H locs ls hP hD hS hl => lv_l2i F.1 F.2.1 d rfl (k H locs ls hP hD hS hl)
theorem g_i2b {X : Cx} {cc : ByteArray} {own : String} {f n : Nat} {ws : va_W} {pc : Nat} {lv : List (Nat × Value)} {st : List Value} {x : Int32} (F : Fx X cc own f n) (d : decode cc pc = .ok (.i2b, 1)) (k : G X ws (pc + 1) lv (.int x.toInt8.toInt32 :: st)) : G X ws pc lv (.int x :: st) :=
  fun H locs ls hP hD hS hl => lv_i2b F.1 F.2.1 d rfl (k H locs ls hP hD hS hl)
theorem g_i2s {X : Cx} {cc : ByteArray} {own : String} {f n : Nat} {ws : va_W} {pc : Nat} {lv : List (Nat × Value)} {st : List Value} {x : Int32} (F : Fx X cc own f n) (d : decode cc pc = .ok (.i2s, 1)) (k : G X ws (pc + 1) lv (.int x.toInt16.toInt32 :: st)) : G X ws pc lv (.int x :: st) :=
  fun H locs ls hP hD hS hl => lv_i2s F.1 F.2.1 d rfl (k H locs ls hP hD hS hl)
theorem g_lcmp {X : Cx} {cc : ByteArray} {own : String} {f n : Nat} {ws : va_W} {pc : Nat} {lv : List (Nat × Value)} {st : List Value} {x y : Int64} (F : Fx X cc own f n) (d : decode cc pc = .ok (.lcmp, 1)) (k : G X ws (pc + 1) lv (.int (lg_cmp x y) :: st)) : G X ws pc lv (.long y :: .long x :: st) :=
  fun H locs ls hP hD hS hl => W.lcmp F.1 F.2.1 d (k H locs ls hP hD hS hl)
theorem g_dup {X : Cx} {cc : ByteArray} {own : String} {f n : Nat} {ws : va_W} {pc : Nat} {lv : List (Nat × Value)} {st : List Value} {v : Value} (F : Fx X cc own f n) (d : decode cc pc = .ok (.dup, 1)) (hv : v.category = 1) (k : G X ws (pc + 1) lv (v :: v :: st)) : G X ws pc lv (v :: st) :=
  fun H locs ls hP hD hS hl => lv_dup F.1 F.2.1 d hv (k H locs ls hP hD hS hl)
theorem g_pop {X : Cx} {cc : ByteArray} {own : String} {f n : Nat} {ws : va_W} {pc : Nat} {lv : List (Nat × Value)} {st : List Value} {v : Value} (F : Fx X cc own f n) (d : decode cc pc = .ok (.pop, 1)) (hv : v.category = 1) (k : G X ws (pc + 1) lv (st)) : G X ws pc lv (v :: st) :=
  fun H locs ls hP hD hS hl => lv_pop F.1 F.2.1 d hv (k H locs ls hP hD hS hl)
theorem g_dup2 {X : Cx} {cc : ByteArray} {own : String} {f n : Nat} {ws : va_W} {pc : Nat} {lv : List (Nat × Value)} {st : List Value} {v w : Value} (F : Fx X cc own f n) (d : decode cc pc = .ok (.dup2, 1)) (hv : v.category = 1) (hw : w.category = 1) (k : G X ws (pc + 1) lv (v :: w :: v :: w :: st)) : G X ws pc lv (v :: w :: st) :=
  fun H locs ls hP hD hS hl => lv_dup2_11 F.1 F.2.1 d hv hw (k H locs ls hP hD hS hl)
theorem g_goto {X : Cx} {cc : ByteArray} {own : String} {f n : Nat} {ws : va_W} {pc : Nat} {lv : List (Nat × Value)} {st : List Value} {off : Int} {tgt : Nat} (F : Fx X cc own f n) (d : decode cc pc = .ok (.goto off, 3)) (ht : (pc : Int) + off = (tgt : Int)) (k : G X ws tgt lv st) : G X ws pc lv st :=
  fun H locs ls hP hD hS hl => lv_goto F.1 F.2.1 d ht (k H locs ls hP hD hS hl)
theorem g_if_eq {X : Cx} {cc : ByteArray} {own : String} {f n : Nat} {ws : va_W} {pc : Nat} {lv : List (Nat × Value)} {st : List Value} {x : Int32} {off : Int} {tgt : Nat} (F : Fx X cc own f n) (d : decode cc pc = .ok (.ifCond .eq off, 3)) (ht : (pc : Int) + off = (tgt : Int)) (kt : x = 0 → G X ws tgt lv st) (kf : ¬ (x = 0) → G X ws (pc + 3) lv st) : G X ws pc lv (.int x :: st) :=
  fun H locs ls hP hD hS hl => lv_if_eq F.1 F.2.1 d ht (fun c => kt c H locs ls hP hD hS hl) (fun c => kf c H locs ls hP hD hS hl)
theorem g_icmp_eq {X : Cx} {cc : ByteArray} {own : String} {f n : Nat} {ws : va_W} {pc : Nat} {lv : List (Nat × Value)} {st : List Value} {x y : Int32} {off : Int} {tgt : Nat} (F : Fx X cc own f n) (d : decode cc pc = .ok (.if_icmp .eq off, 3)) (ht : (pc : Int) + off = (tgt : Int)) (kt : x = y → G X ws tgt lv st) (kf : ¬ (x = y) → G X ws (pc + 3) lv st) : G X ws pc lv (.int y :: .int x :: st) :=
  fun H locs ls hP hD hS hl => lv_icmp_eq F.1 F.2.1 d ht (fun c => kt c H locs ls hP hD hS hl) (fun c => kf c H locs ls hP hD hS hl)
theorem g_if_ne {X : Cx} {cc : ByteArray} {own : String} {f n : Nat} {ws : va_W} {pc : Nat} {lv : List (Nat × Value)} {st : List Value} {x : Int32} {off : Int} {tgt : Nat} (F : Fx X cc own f n) (d : decode cc pc = .ok (.ifCond .ne off, 3)) (ht : (pc : Int) + off = (tgt : Int)) (kt : ¬ x = 0 → G X ws tgt lv st) (kf : ¬ (¬ x = 0) → G X ws (pc + 3) lv st) : G X ws pc lv (.int x :: st) :=
  fun H locs ls hP hD hS hl => lv_if_ne F.1 F.2.1 d ht (fun c => kt c H locs ls hP hD hS hl) (fun c => kf c H locs ls hP hD hS hl)
theorem g_icmp_ne {X : Cx} {cc : ByteArray} {own : String} {f n : Nat} {ws : va_W} {pc : Nat} {lv : List (Nat × Value)} {st : List Value} {x y : Int32} {off : Int} {tgt : Nat} (F : Fx X cc own f n) (d : decode cc pc = .ok (.if_icmp .ne off, 3)) (ht : (pc : Int) + off = (tgt : Int)) (kt : ¬ x = y → G X ws tgt lv st) (kf : ¬ (¬ x = y) → G X ws (pc + 3) lv st) : G X ws pc lv (.int y :: .int x :: st) :=
  fun H locs ls hP hD hS hl => lv_icmp_ne F.1 F.2.1 d ht (fun c => kt c H locs ls hP hD hS hl) (fun c => kf c H locs ls hP hD hS hl)
theorem g_if_lt {X : Cx} {cc : ByteArray} {own : String} {f n : Nat} {ws : va_W} {pc : Nat} {lv : List (Nat × Value)} {st : List Value} {x : Int32} {off : Int} {tgt : Nat} (F : Fx X cc own f n) (d : decode cc pc = .ok (.ifCond .lt off, 3)) (ht : (pc : Int) + off = (tgt : Int)) (kt : x < 0 → G X ws tgt lv st) (kf : ¬ (x < 0) → G X ws (pc + 3) lv st) : G X ws pc lv (.int x :: st) :=
  fun H locs ls hP hD hS hl => lv_if_lt F.1 F.2.1 d ht (fun c => kt c H locs ls hP hD hS hl) (fun c => kf c H locs ls hP hD hS hl)
theorem g_icmp_lt {X : Cx} {cc : ByteArray} {own : String} {f n : Nat} {ws : va_W} {pc : Nat} {lv : List (Nat × Value)} {st : List Value} {x y : Int32} {off : Int} {tgt : Nat} (F : Fx X cc own f n) (d : decode cc pc = .ok (.if_icmp .lt off, 3)) (ht : (pc : Int) + off = (tgt : Int)) (kt : x < y → G X ws tgt lv st) (kf : ¬ (x < y) → G X ws (pc + 3) lv st) : G X ws pc lv (.int y :: .int x :: st) :=
  fun H locs ls hP hD hS hl => lv_icmp_lt F.1 F.2.1 d ht (fun c => kt c H locs ls hP hD hS hl) (fun c => kf c H locs ls hP hD hS hl)
theorem g_if_ge {X : Cx} {cc : ByteArray} {own : String} {f n : Nat} {ws : va_W} {pc : Nat} {lv : List (Nat × Value)} {st : List Value} {x : Int32} {off : Int} {tgt : Nat} (F : Fx X cc own f n) (d : decode cc pc = .ok (.ifCond .ge off, 3)) (ht : (pc : Int) + off = (tgt : Int)) (kt : 0 ≤ x → G X ws tgt lv st) (kf : ¬ (0 ≤ x) → G X ws (pc + 3) lv st) : G X ws pc lv (.int x :: st) :=
  fun H locs ls hP hD hS hl => lv_if_ge F.1 F.2.1 d ht (fun c => kt c H locs ls hP hD hS hl) (fun c => kf c H locs ls hP hD hS hl)
theorem g_icmp_ge {X : Cx} {cc : ByteArray} {own : String} {f n : Nat} {ws : va_W} {pc : Nat} {lv : List (Nat × Value)} {st : List Value} {x y : Int32} {off : Int} {tgt : Nat} (F : Fx X cc own f n) (d : decode cc pc = .ok (.if_icmp .ge off, 3)) (ht : (pc : Int) + off = (tgt : Int)) (kt : y ≤ x → G X ws tgt lv st) (kf : ¬ (y ≤ x) → G X ws (pc + 3) lv st) : G X ws pc lv (.int y :: .int x :: st) :=
  fun H locs ls hP hD hS hl => lv_icmp_ge F.1 F.2.1 d ht (fun c => kt c H locs ls hP hD hS hl) (fun c => kf c H locs ls hP hD hS hl)
theorem g_if_gt {X : Cx} {cc : ByteArray} {own : String} {f n : Nat} {ws : va_W} {pc : Nat} {lv : List (Nat × Value)} {st : List Value} {x : Int32} {off : Int} {tgt : Nat} (F : Fx X cc own f n) (d : decode cc pc = .ok (.ifCond .gt off, 3)) (ht : (pc : Int) + off = (tgt : Int)) (kt : 0 < x → G X ws tgt lv st) (kf : ¬ (0 < x) → G X ws (pc + 3) lv st) : G X ws pc lv (.int x :: st) :=
  fun H locs ls hP hD hS hl => lv_if_gt F.1 F.2.1 d ht (fun c => kt c H locs ls hP hD hS hl) (fun c => kf c H locs ls hP hD hS hl)
theorem g_icmp_gt {X : Cx} {cc : ByteArray} {own : String} {f n : Nat} {ws : va_W} {pc : Nat} {lv : List (Nat × Value)} {st : List Value} {x y : Int32} {off : Int} {tgt : Nat} (F : Fx X cc own f n) (d : decode cc pc = .ok (.if_icmp .gt off, 3)) (ht : (pc : Int) + off = (tgt : Int)) (kt : y < x → G X ws tgt lv st) (kf : ¬ (y < x) → G X ws (pc + 3) lv st) : G X ws pc lv (.int y :: .int x :: st) :=
  fun H locs ls hP hD hS hl => lv_icmp_gt F.1 F.2.1 d ht (fun c => kt c H locs ls hP hD hS hl) (fun c => kf c H locs ls hP hD hS hl)
theorem g_if_le {X : Cx} {cc : ByteArray} {own : String} {f n : Nat} {ws : va_W} {pc : Nat} {lv : List (Nat × Value)} {st : List Value} {x : Int32} {off : Int} {tgt : Nat} (F : Fx X cc own f n) (d : decode cc pc = .ok (.ifCond .le off, 3)) (ht : (pc : Int) + off = (tgt : Int)) (kt : x ≤ 0 → G X ws tgt lv st) (kf : ¬ (x ≤ 0) → G X ws (pc + 3) lv st) : G X ws pc lv (.int x :: st) :=
  fun H locs ls hP hD hS hl => lv_if_le F.1 F.2.1 d ht (fun c => kt c H locs ls hP hD hS hl) (fun c => kf c H locs ls hP hD hS hl)
theorem g_icmp_le {X : Cx} {cc : ByteArray} {own : String} {f n : Nat} {ws : va_W} {pc : Nat} {lv : List (Nat × Value)} {st : List Value} {x y : Int32} {off : Int} {tgt : Nat} (F : Fx X cc own f n) (d : decode cc pc = .ok (.if_icmp .le off, 3)) (ht : (pc : Int) + off = (tgt : Int)) (kt : x ≤ y → G X ws tgt lv st) (kf : ¬ (x ≤ y) → G X ws (pc + 3) lv st) : G X ws pc lv (.int y :: .int x :: st) :=
  fun H locs ls hP hD hS hl => lv_icmp_le F.1 F.2.1 d ht (fun c => kt c H locs ls hP hD hS hl) (fun c => kf c H locs ls hP hD hS hl)
theorem g_tswOut {X : Cx} {cc : ByteArray} {own : String} {f n : Nat} {ws : va_W} {pc : Nat} {lv : List (Nat × Value)} {st : List Value} {dflt lo hi : Int} {offs : Array Int} {len : Nat} {x : Int32} {tgt : Nat} (F : Fx X cc own f n) (d : decode cc pc = .ok (.tableswitch dflt lo hi offs, len)) (h : x.toInt < lo ∨ hi < x.toInt) (ht : (pc : Int) + dflt = (tgt : Int)) (k : G X ws tgt lv st) : G X ws pc lv (.int x :: st) :=
  fun H locs ls hP hD hS hl => lv_tableOut F.1 F.2.1 d h ht (k H locs ls hP hD hS hl)
theorem g_tswIn {X : Cx} {cc : ByteArray} {own : String} {f n : Nat} {ws : va_W} {pc : Nat} {lv : List (Nat × Value)} {st : List Value} {dflt lo hi : Int} {offs : Array Int} {len : Nat} {x : Int32} {off : Int} {tgt : Nat} (F : Fx X cc own f n) (d : decode cc pc = .ok (.tableswitch dflt lo hi offs, len)) {v : Int} (hv : x.toInt = v) (h1 : ¬ v < lo) (h2 : ¬ hi < v) (ho : offs[(v - lo).toNat]? = some off) (ht : (pc : Int) + off = (tgt : Int)) (k : G X ws tgt lv st) : G X ws pc lv (.int x :: st) :=
  fun H locs ls hP hD hS hl => lv_tableIn F.1 F.2.1 d (by rw [hv]; exact h1) (by rw [hv]; exact h2) (by rw [hv]; exact ho) ht (k H locs ls hP hD hS hl)
theorem g_ldc {X : Cx} {cc : ByteArray} {own : String} {f n : Nat} {ws : va_W} {pc : Nat} {lv : List (Nat × Value)} {st : List Value} {idx : Nat} {v : Int32} (F : Fx X cc own f n) (hw : Cond.constant own idx v ∈ gw) (d : decode cc pc = .ok (.ldc idx, 2)) (k : G X ws (pc + 2) lv (.int v :: st)) : G X ws pc lv st :=
  fun H locs ls hP hD hS hl => lv_ldc F.1 F.2.1 F.2.2.2.1 (F.2.2.2.2.1 _ hw) d (k H locs ls hP hD hS hl)
theorem g_ldcw {X : Cx} {cc : ByteArray} {own : String} {f n : Nat} {ws : va_W} {pc : Nat} {lv : List (Nat × Value)} {st : List Value} {idx : Nat} {v : Int32} (F : Fx X cc own f n) (hw : Cond.constant own idx v ∈ gw) (d : decode cc pc = .ok (.ldc_w idx, 3)) (k : G X ws (pc + 3) lv (.int v :: st)) : G X ws pc lv st :=
  fun H locs ls hP hD hS hl => lv_ldcw F.1 F.2.1 F.2.2.2.1 (F.2.2.2.2.1 _ hw) d (k H locs ls hP hD hS hl)
theorem g_ldc2 {X : Cx} {cc : ByteArray} {own : String} {f n : Nat} {ws : va_W} {pc : Nat} {lv : List (Nat × Value)} {st : List Value} {idx : Nat} {v : Int64} (F : Fx X cc own f n) (hw : Cond.constantLong own idx v ∈ gw) (d : decode cc pc = .ok (.ldc2_w idx, 3)) (k : G X ws (pc + 3) lv (.long v :: st)) : G X ws pc lv st :=
  fun H locs ls hP hD hS hl => lv_ldc2 F.1 F.2.1 F.2.2.2.1 (F.2.2.2.2.1 _ hw) d (k H locs ls hP hD hS hl)
def FLd (own : String) (idx ci : Nat) (C : String) (T : u_T) (N k : Nat) : Prop := vwCl[ci]? = some (C, T, N) ∧ (∀ w ∈ u_ws C T N, w ∈ gw) ∧ k < N ∧ Cond.fieldLink own idx (T k).1 (T k).2.1 (T k).2.2.1 ∈ gw
def PFd (own : String) (idx ci : Nat) (C : String) (T : u_T) (N k : Nat) (ty : FieldType) : Prop := FLd own idx ci C T N k ∧ (T k).2.2.2 = false ∧ parseFieldDescriptor (T k).2.2.1 = some ty ∧ (∃ ty0 : Nat → FieldType, ∀ k, k < N → parseFieldDescriptor (T k).2.2.1 = some (ty0 k)) ∧ ∀ a, a < N → ∀ b, b < N → a ≠ b → (T a).2.1 ≠ (T b).2.1
theorem g_get {X : Cx} {cc : ByteArray} {own : String} {f n : Nat} {ws : va_W} {pc : Nat} {lv : List (Nat × Value)} {st : List Value} {idx ci : Nat} {C : String} {T : u_T} {N k : Nat} {a : Nat} {fs : List Value} {v : Value} (F : Fx X cc own f n) (hf : FLd own idx ci C T N k) (q0 : Nat) (he : ws[q0]? = some (a, .inr (ci, fs))) (hv : fs[k]? = some v) (d : decode cc pc = .ok (.getfield idx, 3)) (kk : G X ws (pc + 3) lv (v :: st)) : G X ws pc lv (.ref a :: st) :=
  fun H locs ls hP hD hS hl => va_get F.1 F.2.1 F.2.2.2.2.1 hf.2.1 F.2.2.2.1 F.2.2.2.2.2.1 hP q0 he hf.1 k hf.2.2.1 (F.2.2.2.2.1 _ hf.2.2.2) (fun _ h => h) hv d (kk H locs ls hP hD hS hl)
theorem g_put {X : Cx} {cc : ByteArray} {own : String} {f n : Nat} {ws : va_W} {pc : Nat} {lv : List (Nat × Value)} {st : List Value} {ws2 : va_W} {idx ci : Nat} {C : String} {T : u_T} {N k : Nat} {ty : FieldType} {a : Nat} {fs : List Value} {v : Value} (F : Fx X cc own f n) (hf : PFd own idx ci C T N k ty) (q0 : Nat) (he : ws[q0]? = some (a, .inr (ci, fs))) (hn : narrow ty v = v) (hfit : fits ty v = true) (hl9 : k < fs.length) (hw : ws.set q0 (a, .inr (ci, fs.set k v)) = ws2) (d : decode cc pc = .ok (.putfield idx, 3)) (kk : G X ws2 (pc + 3) lv st) : G X ws pc lv (v :: .ref a :: st) :=
  fun H locs ls hP hD hS hl => by
    obtain ⟨⟨h1, h2, h3, h4⟩, h5, h6, ⟨ty0, h7⟩, h8⟩ := hf
    exact va_put F.1 F.2.1 F.2.2.2.2.1 h2 ty0 h7 h8 F.2.2.2.1 F.2.2.2.2.2.1 hP hD hS q0 he h1 k h3 (F.2.2.2.2.1 _ h4) (fun _ h => h) h5 h6 hn hfit hl9 d (fun H1 locs1 hP1 hD1 hS1 => kk H1 locs1 ls (by rw [← hw]; exact hP1) (by rw [← hw]; exact hD1) hS1 hl)
theorem g_iald {X : Cx} {cc : ByteArray} {own : String} {f n : Nat} {ws : va_W} {pc : Nat} {lv : List (Nat × Value)} {st : List Value} {a : Nat} {cA : ClassId} {N j : Nat} {fn : Nat → Int32} {i : Int32} (F : Fx X cc own f n) (q0 t0 : Nat) (ha : ws[q0]? = some (a, .inl (cA, N, .inl fn))) (ht : (tysE (xE X))[t0]? = some (cA, .int)) (hin : vp_in i N) (hj : i.toNatClampNeg = j) (d : decode cc pc = .ok (.iaload, 1)) (k : G X ws (pc + 1) lv (.int (fn j) :: st)) : G X ws pc lv (.int i :: .ref a :: st) :=
  fun H locs ls hP hD hS hl => va_iald F.1 F.2.1 F.2.2.2.2.2.1 hP q0 t0 ha ht hin d (by rw [hj]; exact k H locs ls hP hD hS hl)
theorem g_bald {X : Cx} {cc : ByteArray} {own : String} {f n : Nat} {ws : va_W} {pc : Nat} {lv : List (Nat × Value)} {st : List Value} {a : Nat} {cA : ClassId} {N j : Nat} {fn : Nat → Int32} {i : Int32} (F : Fx X cc own f n) (q0 t0 : Nat) (ha : ws[q0]? = some (a, .inl (cA, N, .inl fn))) (ht : (tysE (xE X))[t0]? = some (cA, .byte)) (hin : vp_in i N) (hj : i.toNatClampNeg = j) (d : decode cc pc = .ok (.baload, 1)) (k : G X ws (pc + 1) lv (.int (fn j) :: st)) : G X ws pc lv (.int i :: .ref a :: st) :=
  fun H locs ls hP hD hS hl => va_bald F.1 F.2.1 F.2.2.2.2.2.1 hP q0 t0 ha ht hin d (by rw [hj]; exact k H locs ls hP hD hS hl)
theorem g_lald {X : Cx} {cc : ByteArray} {own : String} {f n : Nat} {ws : va_W} {pc : Nat} {lv : List (Nat × Value)} {st : List Value} {a : Nat} {cA : ClassId} {N j : Nat} {fn : Nat → Int64} {i : Int32} (F : Fx X cc own f n) (q0 t0 : Nat) (ha : ws[q0]? = some (a, .inl (cA, N, .inr (.inl fn)))) (ht : (tysE (xE X))[t0]? = some (cA, .long)) (hin : vp_in i N) (hj : i.toNatClampNeg = j) (d : decode cc pc = .ok (.laload, 1)) (k : G X ws (pc + 1) lv (.long (fn j) :: st)) : G X ws pc lv (.int i :: .ref a :: st) :=
  fun H locs ls hP hD hS hl => va_lald F.1 F.2.1 F.2.2.2.2.2.1 hP q0 t0 ha ht hin d (by rw [hj]; exact k H locs ls hP hD hS hl)
theorem g_iast {X : Cx} {cc : ByteArray} {own : String} {f n : Nat} {ws : va_W} {pc : Nat} {lv : List (Nat × Value)} {st : List Value} {ws2 : va_W} {a : Nat} {cA : ClassId} {N j : Nat} {fn : Nat → Int32} {i x : Int32} (F : Fx X cc own f n) (q0 t0 : Nat) (ha : ws[q0]? = some (a, .inl (cA, N, .inl fn))) (ht : (tysE (xE X))[t0]? = some (cA, .int)) (hin : vp_in i N) (hj : i.toNatClampNeg = j) (hw : ws.set q0 (a, .inl (cA, N, .inl (upd fn j x))) = ws2) (d : decode cc pc = .ok (.iastore, 1)) (k : G X ws2 (pc + 1) lv st) : G X ws pc lv (.int x :: .int i :: .ref a :: st) :=
  fun H locs ls hP hD hS hl => va_iast F.1 F.2.1 F.2.2.2.2.2.1 hP hD hS q0 t0 ha ht hin d (fun H1 locs1 hP1 hD1 hS1 => k H1 locs1 ls (by rw [← hw, ← hj]; exact hP1) (by rw [← hw, ← hj]; exact hD1) hS1 hl)
theorem g_bast {X : Cx} {cc : ByteArray} {own : String} {f n : Nat} {ws : va_W} {pc : Nat} {lv : List (Nat × Value)} {st : List Value} {ws2 : va_W} {a : Nat} {cA : ClassId} {N j : Nat} {fn : Nat → Int32} {i x : Int32} (F : Fx X cc own f n) (q0 t0 : Nat) (ha : ws[q0]? = some (a, .inl (cA, N, .inl fn))) (ht : (tysE (xE X))[t0]? = some (cA, .byte)) (hin : vp_in i N) (hj : i.toNatClampNeg = j) (hw : ws.set q0 (a, .inl (cA, N, .inl (upd fn j (vp_nar .byte x)))) = ws2) (d : decode cc pc = .ok (.bastore, 1)) (k : G X ws2 (pc + 1) lv st) : G X ws pc lv (.int x :: .int i :: .ref a :: st) :=
  fun H locs ls hP hD hS hl => va_bast F.1 F.2.1 F.2.2.2.2.2.1 hP hD hS q0 t0 ha ht hin d (fun H1 locs1 hP1 hD1 hS1 => k H1 locs1 ls (by rw [← hw, ← hj]; exact hP1) (by rw [← hw, ← hj]; exact hD1) hS1 hl)
theorem g_last {X : Cx} {cc : ByteArray} {own : String} {f n : Nat} {ws : va_W} {pc : Nat} {lv : List (Nat × Value)} {st : List Value} {ws2 : va_W} {a : Nat} {cA : ClassId} {N j : Nat} {fn : Nat → Int64} {i : Int32} {x : Int64} (F : Fx X cc own f n) (q0 t0 : Nat) (ha : ws[q0]? = some (a, .inl (cA, N, .inr (.inl fn)))) (ht : (tysE (xE X))[t0]? = some (cA, .long)) (hin : vp_in i N) (hj : i.toNatClampNeg = j) (hw : ws.set q0 (a, .inl (cA, N, .inr (.inl (vp_updL fn j x)))) = ws2) (d : decode cc pc = .ok (.lastore, 1)) (k : G X ws2 (pc + 1) lv st) : G X ws pc lv (.long x :: .int i :: .ref a :: st) :=
  fun H locs ls hP hD hS hl => va_last F.1 F.2.1 F.2.2.2.2.2.1 hP hD hS q0 t0 ha ht hin d (fun H1 locs1 hP1 hD1 hS1 => k H1 locs1 ls (by rw [← hw, ← hj]; exact hP1) (by rw [← hw, ← hj]; exact hD1) hS1 hl)
theorem g_alen {X : Cx} {cc : ByteArray} {own : String} {f n : Nat} {ws : va_W} {pc : Nat} {lv : List (Nat × Value)} {st : List Value} {a : Nat} {cA : ClassId} {x : vp_A} {ty : FieldType} {v : Int32} (F : Fx X cc own f n) (q0 t0 : Nat) (ha : ws[q0]? = some (a, .inl (cA, x))) (ht : (tysE (xE X))[t0]? = some (cA, ty)) (hv : Int32.ofNat x.1 = v) (d : decode cc pc = .ok (.arraylength, 1)) (k : G X ws (pc + 1) lv (.int v :: st)) : G X ws pc lv (.ref a :: st) :=
  fun H locs ls hP hD hS hl => va_alen F.1 F.2.1 F.2.2.2.2.2.1 hP q0 t0 ha ht hv d (k H locs ls hP hD hS hl)
theorem g_sub {X : Cx} {ws : va_W} {pc : Nat} {lv lv2 : List (Nat × Value)} {st : List Value} (ks : List Nat) (hk : lv_pick lv ks = lv2) (k : G X ws pc lv2 st) : G X ws pc lv st :=
  fun H locs ls hP hD hS hl => k H locs ls hP hD hS (lv_sub hl ks hk)
/-! ===== ends ===== -/
def RI (X : Cx) (Wf : Ev → Mem → va_W) (ret : FieldType) (r : Int32) (M2 : Mem) : Prop := (xM X).sig.returnType = some ret ∧ xQ X = MQ (xb X) (va_Qi (fun (r' : Int32) (u : Mem) => r' = r ∧ u = M2) (Po (xE X) (Wf (xE X)) (xA X)) (xA X)) (xa X) (xs X) 0 0 (xA X)
def RJ (X : Cx) (Wf : Ev → Mem → va_W) (r : Int64) (M2 : Mem) : Prop := (xM X).sig.returnType = some .long ∧ xQ X = MQ (xb X) (va_Ql (fun (r' : Int64) (u : Mem) => r' = r ∧ u = M2) (Po (xE X) (Wf (xE X)) (xA X)) (xA X)) (xa X) (xs X) 0 0 (xA X)
def RV (X : Cx) (Wf : Ev → Mem → va_W) (M2 : Mem) : Prop := (xM X).sig.returnType = none ∧ xQ X = MQ (xb X) (va_Qv (fun (u : Mem) => u = M2) (Po (xE X) (Wf (xE X)) (xA X)) (xA X)) (xa X) (xs X) 0 0 (xA X)
theorem g_iret {X : Cx} {cc : ByteArray} {own : String} {f n pc : Nat} {lv : List (Nat × Value)} {Wf : Ev → Mem → va_W} {ret : FieldType} {r : Int32} {M2 : Mem} (F : Fx X cc own f n) (Rt : RI X Wf ret r M2) (hn : narrow ret (.int r) = .int r) (d : decode cc pc = .ok (.ireturn, 1)) : G X (Wf (xE X) M2) pc lv [.int r] := by
  intro H locs ls hP hD hS hl
  rw [Rt.2]
  exact W.zret F.1 F.2.1 Rt.1 hn (fun t ht hW => ⟨⟨r, M2, rfl, ⟨rfl, rfl⟩, by rw [ht]; exact hP, hD⟩, hS.F ht⟩) hS.2.2 d F.2.2.2.2.2.2.2.1
theorem g_lret {X : Cx} {cc : ByteArray} {own : String} {f n pc : Nat} {lv : List (Nat × Value)} {Wf : Ev → Mem → va_W} {r : Int64} {M2 : Mem} (F : Fx X cc own f n) (Rt : RJ X Wf r M2) (d : decode cc pc = .ok (.lreturn, 1)) : G X (Wf (xE X) M2) pc lv [.long r] := by
  intro H locs ls hP hD hS hl
  rw [Rt.2]
  exact W.lret F.1 F.2.1 Rt.1 (fun t ht hW => ⟨⟨r, M2, rfl, ⟨rfl, rfl⟩, by rw [ht]; exact hP, hD⟩, hS.F ht⟩) hS.2.2 d F.2.2.2.2.2.2.2.1
theorem g_vret {X : Cx} {cc : ByteArray} {own : String} {f n pc : Nat} {lv : List (Nat × Value)} {Wf : Ev → Mem → va_W} {M2 : Mem} (F : Fx X cc own f n) (Rt : RV X Wf M2) (d : decode cc pc = .ok (.return_, 1)) : G X (Wf (xE X) M2) pc lv [] := by
  intro H locs ls hP hD hS hl
  rw [Rt.2]
  exact W.vret F.1 F.2.1 Rt.1 (fun t ht hW => ⟨⟨M2, rfl, rfl, by rw [ht]; exact hP, hD⟩, hS.F ht⟩) hS.2.2 d F.2.2.2.2.2.2.2.1
/-! ===== a contract out of its walk ===== -/
theorem hts_gw {y : MethodName} {bytes : ByteArray} {maxL : Nat} {ret : Option FieldType} {args : Array Value} {s : State} (h : ∀ w ∈ (Cond.code y bytes maxL ret :: gw), w.before args s = true) : ∀ w ∈ gw, w.before args s = true := fun w hw => h w (List.mem_cons_of_mem _ hw)
set_option maxHeartbeats 4000000 in
theorem ctI_of {Wf : Ev → Mem → va_W} {y : MethodName} {bytes : ByteArray} {maxL : Nat} {ret : FieldType} {f n : Nat} {av : Ev → List Value} {lv : Ev → List (Nat × Value)} {M : Mem} {r : Int32} {M2 : Mem} (hy : plainName y.cls = true) (hlv : ∀ E, lv_args 0 (av E) = lv E) (hlen : ∀ E, (lg_sl (av E)).length ≤ maxL)
    (body : ∀ X : Cx, Fx X bytes y.cls f n → xn X = maxL → RI X Wf ret r M2 → G X (Wf (xE X) M) 0 (lv (xE X)) []) (l : Launch) (E : Ev) : CtI l E (Wf E) y bytes maxL ret f n (av E) M r M2 := by
  intro sz
  refine Met.ofW (cc := bytes) (maxL := maxL) (ret := some ret) hy rfl ?_
  intro p e s m args below meth c s₁ B hml hv
  obtain ⟨rfl, hsz, hP, hK, hD0, hZ⟩ := hv
  subst hsz
  have hD := hD0.self (sz := s.heap.size)
  have hl := lv_entry (av E) (n := maxL) (hlen E)
  rw [hlv E] at hl
  rw [lg_entry_eq]
  exact body (p, l, e, _, s, m, _, below, meth, c, maxL, E, va_A (Wf E M) s.heap.size, _) ⟨B.exec, B.bytes, hml, findClass_of_methodNamed B.named, hts_gw (atoms_spec (ws := Cond.code y bytes maxL (some ret) :: gw) B.pre), hK, fun q h => Or.inr h, B.notSynchronized, hZ, rfl⟩ rfl ⟨B.returns, rfl⟩ s.heap [] _ hP hD va_S.rf hl
set_option maxHeartbeats 4000000 in
theorem ctL_of {Wf : Ev → Mem → va_W} {y : MethodName} {bytes : ByteArray} {maxL : Nat} {f n : Nat} {av : Ev → List Value} {lv : Ev → List (Nat × Value)} {M : Mem} {r : Int64} {M2 : Mem} (hy : plainName y.cls = true) (hlv : ∀ E, lv_args 0 (av E) = lv E) (hlen : ∀ E, (lg_sl (av E)).length ≤ maxL)
    (body : ∀ X : Cx, Fx X bytes y.cls f n → xn X = maxL → RJ X Wf r M2 → G X (Wf (xE X) M) 0 (lv (xE X)) []) (l : Launch) (E : Ev) : CtL l E (Wf E) y bytes maxL f n (av E) M r M2 := by
  intro sz
  refine Met.ofW (cc := bytes) (maxL := maxL) (ret := some .long) hy rfl ?_
  intro p e s m args below meth c s₁ B hml hv
  obtain ⟨rfl, hsz, hP, hK, hD0, hZ⟩ := hv
  subst hsz
  have hD := hD0.self (sz := s.heap.size)
  have hl := lv_entry (av E) (n := maxL) (hlen E)
  rw [hlv E] at hl
  rw [lg_entry_eq]
  exact body (p, l, e, _, s, m, _, below, meth, c, maxL, E, va_A (Wf E M) s.heap.size, _) ⟨B.exec, B.bytes, hml, findClass_of_methodNamed B.named, hts_gw (atoms_spec (ws := Cond.code y bytes maxL (some .long) :: gw) B.pre), hK, fun q h => Or.inr h, B.notSynchronized, hZ, rfl⟩ rfl ⟨B.returns, rfl⟩ s.heap [] _ hP hD va_S.rf hl
set_option maxHeartbeats 4000000 in
theorem ctV_of {Wf : Ev → Mem → va_W} {y : MethodName} {bytes : ByteArray} {maxL : Nat} {f n : Nat} {av : Ev → List Value} {lv : Ev → List (Nat × Value)} {M M2 : Mem} (hy : plainName y.cls = true) (hlv : ∀ E, lv_args 0 (av E) = lv E) (hlen : ∀ E, (lg_sl (av E)).length ≤ maxL)
    (body : ∀ X : Cx, Fx X bytes y.cls f n → xn X = maxL → RV X Wf M2 → G X (Wf (xE X) M) 0 (lv (xE X)) []) (l : Launch) (E : Ev) : CtV l E (Wf E) y bytes maxL f n (av E) M M2 := by
  intro sz
  refine Met.ofW (cc := bytes) (maxL := maxL) (ret := none) hy rfl ?_
  intro p e s m args below meth c s₁ B hml hv
  obtain ⟨rfl, hsz, hP, hK, hD0, hZ⟩ := hv
  subst hsz
  have hD := hD0.self (sz := s.heap.size)
  have hl := lv_entry (av E) (n := maxL) (hlen E)
  rw [hlv E] at hl
  rw [lg_entry_eq]
  exact body (p, l, e, _, s, m, _, below, meth, c, maxL, E, va_A (Wf E M) s.heap.size, _) ⟨B.exec, B.bytes, hml, findClass_of_methodNamed B.named, hts_gw (atoms_spec (ws := Cond.code y bytes maxL none :: gw) B.pre), hK, fun q h => Or.inr h, B.notSynchronized, hZ, rfl⟩ rfl ⟨B.returns, rfl⟩ s.heap [] _ hP hD va_S.rf hl
/-! ===== calls ===== -/
theorem gi_cons {y : MethodName} {bytes : ByteArray} {maxL : Nat} {ret : Option FieldType} (h : Cond.code y bytes maxL ret ∈ gw) : GoodIn gw (.code y bytes maxL ret :: gw) := fun w hw => (List.mem_cons.mp hw).elim (fun e => by rw [e]; exact gw_good _ h) (fun h => gw_good w h)
theorem gi_app {a b : List Cond} (h : ∀ w ∈ a, w ∈ gw) (hb : GoodIn gw b) : GoodIn gw (a ++ b) := fun w hw => (List.mem_append.mp hw).elim (fun h1 => gw_good w (h w h1)) (hb w)
def KV (y : MethodName) (bytes : ByteArray) (maxL : Nat) (ret : Option FieldType) (np : Nat) : Prop := Cond.instanceMethod y ∈ gw ∧ Cond.selects y.cls y y ∈ gw ∧ Cond.initialized y.cls ∈ gw ∧ Cond.code y bytes maxL ret ∈ gw ∧ y.cls ≠ "java/lang/invoke/MethodHandle" ∧ y.cls ≠ "java/lang/invoke/VarHandle" ∧ (parseMethodDescriptor y.desc).map (fun d => d.parameters.length) = some np
def KS (y : MethodName) (bytes : ByteArray) (maxL : Nat) (ret : Option FieldType) (np : Nat) : Prop := Cond.static y ∈ gw ∧ Cond.initialized y.cls ∈ gw ∧ Cond.code y bytes maxL ret ∈ gw ∧ y.cls ≠ "java/lang/invoke/MethodHandle" ∧ y.cls ≠ "java/lang/invoke/VarHandle" ∧ (parseMethodDescriptor y.desc).map (fun d => d.parameters.length) = some np
theorem gi_V {own : String} {idx : Nat} {y : MethodName} {bytes : ByteArray} {maxL np : Nat} {ret : Option FieldType} (hk : KV y bytes maxL ret np) (hl : Cond.methodLink own idx y ∈ gw) : GoodIn gw (wsV own idx y.cls y (.code y bytes maxL ret :: gw)) := by
  refine gi_app (fun w hw => ?_) (gi_cons hk.2.2.2.1)
  simp only [List.mem_cons, List.not_mem_nil, or_false] at hw
  rcases hw with rfl | rfl | rfl | rfl
  · exact hl
  · exact hk.1
  · exact hk.2.1
  · exact hk.2.2.1
theorem hFc_of {X : Cx} {ws : va_W} {H : Heap} {locs : List Loc} (hA : ∀ q, (xs X).heap.size ≤ q → xA X q) (hD : va_D (xA X) ws) (hS : va_S (xA X) (xs X).heap H locs) : ∀ q, va_A ws H.size q → xA X q := fun q h => h.elim (fun ⟨k, e, hk⟩ => hD.2 k (q, e) hk) (fun h => hA q (Nat.le_trans hS.1 h))
theorem blind {av : List Value} {E : Ev} {ws : va_W} {sz : Nat} : FrameBlind (va_Pc av (Pr E ws sz)) := fun a U g mk q => by
  obtain ⟨h1, hsz, hP, hK, hD, hZ⟩ := q
  exact ⟨h1, hsz, hP, va_K.moved (u := U) (U := U.calling g mk a) (Vm.Alike.refl U.vm) hK, hD, Zx.same (s := U) rfl hZ⟩
theorem pre_of {X : Cx} {cc : ByteArray} {own : String} {f n : Nat} (F : Fx X cc own f n) {ws : va_W} {H : Heap} {locs : List Loc} {av : List Value} (hP : va_P (eD (xE X)) vwCl ws H) (hD : va_D (xA X) ws) (hS : va_S (xA X) (xs X).heap H locs) : ∀ U : State, U.heap = H → (xs X).WarmedH U.vm → va_Pc av (Pr (xE X) ws H.size) av.toArray U := fun U hU hW =>
  ⟨rfl, by rw [hU], by rw [hU]; exact hP, va_K.moved hW.alike F.2.2.2.2.2.1, hD.weaken (fun _ _ _ _ => trivial), by rw [hU]; exact ((F.2.2.2.2.2.2.2.2.1.kept hS.2.1).narrow (hFc_of F.2.2.2.2.2.2.1 hD hS)).warm hW⟩
section CR
variable {X : Cx} {cc : ByteArray} {own : String} {f n : Nat} {pc : Nat} {lv : List (Nat × Value)} {Wf : Ev → Mem → va_W} {y : MethodName} {bytes : ByteArray} {maxL f2 n2 np idx : Nat} {ret : FieldType} {M M2 : Mem} {st As rest : List Value} {b : Nat}
theorem rm_le (hR : xR X = Rm f n) (h : f2 + 1 ≤ f ∧ 8 + (maxL + 11) + n2 ≤ n) : (Rm f2 n2).frames + 1 ≤ (xR X).frames ∧ 8 + (maxL + 11) + (Rm f2 n2).locals ≤ (xR X).locals := by
  rw [hR]; exact h
theorem rm_cs (hR : xR X = Rm f n) : 0 + 0 ≤ (xR X).cells ∧ 0 + 0 ≤ (xR X).slots := by
  rw [hR]; exact ⟨Nat.le_refl _, Nat.le_refl _⟩
set_option maxHeartbeats 4000000 in
theorem g_vI {r : Int32} (F : Fx X cc own f n) (hC : CtI (xl X) (xE X) (Wf (xE X)) y bytes maxL ret f2 n2 (.ref b :: As) M r M2) (hk : KV y bytes maxL (some ret) np) (hl : Cond.methodLink own idx y ∈ gw) {ci : Nat} {C : vw_C} (q0 : Nat) {fs : List Value} (hc : vwCl[ci]? = some C) (he : (Wf (xE X) M)[q0]? = some (b, .inr (ci, fs))) (hcl : C.1 = y.cls)
    (hn : As.length = np) (hst : st = As.reverse ++ .ref b :: rest) (hrm : f2 + 1 ≤ f ∧ 8 + (maxL + 11) + n2 ≤ n) (hro : (rest.map fun v => v.category).sum ≤ 8) (d : decode cc pc = .ok (.invokevirtual idx, 3)) (k : G X (Wf (xE X) M2) (pc + 3) lv (.int r :: rest)) : G X (Wf (xE X) M) pc lv st := by
  intro H locs ls hP hD hS hl9
  subst hst
  have hFc := hFc_of F.2.2.2.2.2.2.1 hD hS
  have hrec := va_recv F.2.2.2.2.2.1 hP hc he
  rw [hcl] at hrec
  refine va_calli (va_runV (As := As) (rest := rest) ⟨F.1, F.2.1, F.2.2.1, F.2.2.2.1, F.2.2.2.2.1⟩ (hC H.size) (cwV np F.2.2.2.2.1 (gi_V hk hl) rfl rfl rfl ⟨rfl, hk.2.2.2.2⟩ (rm_le F.2.2.2.2.2.2.2.2.2 hrm)) ⟨blind, hrec, pre_of F hP hD hS⟩ rfl hn hl9.1 rfl (lv_room hro) d (rm_cs F.2.2.2.2.2.2.2.2.2)) hS (fun q _ h => hFc q h) hFc (fun r' u t H1 locs1 ht hvm hw hB hz1 hk1 hS1 => ?_)
  obtain ⟨rfl, rfl⟩ := hw
  exact k H1 locs1 ls (by rw [← ht]; exact hB.1) (hB.2.weaken (fun _ q _ h => hFc q.1 h)) hS1 hl9
set_option maxHeartbeats 4000000 in
theorem g_vL {r : Int64} (F : Fx X cc own f n) (hC : CtL (xl X) (xE X) (Wf (xE X)) y bytes maxL f2 n2 (.ref b :: As) M r M2) (hk : KV y bytes maxL (some .long) np) (hl : Cond.methodLink own idx y ∈ gw) {ci : Nat} {C : vw_C} (q0 : Nat) {fs : List Value} (hc : vwCl[ci]? = some C) (he : (Wf (xE X) M)[q0]? = some (b, .inr (ci, fs))) (hcl : C.1 = y.cls)
    (hn : As.length = np) (hst : st = As.reverse ++ .ref b :: rest) (hrm : f2 + 1 ≤ f ∧ 8 + (maxL + 11) + n2 ≤ n) (hro : (rest.map fun v => v.category).sum ≤ 8) (d : decode cc pc = .ok (.invokevirtual idx, 3)) (k : G X (Wf (xE X) M2) (pc + 3) lv (.long r :: rest)) : G X (Wf (xE X) M) pc lv st := by
  intro H locs ls hP hD hS hl9
  subst hst
  have hFc := hFc_of F.2.2.2.2.2.2.1 hD hS
  have hrec := va_recv F.2.2.2.2.2.1 hP hc he
  rw [hcl] at hrec
  refine va_calll (va_runV (As := As) (rest := rest) ⟨F.1, F.2.1, F.2.2.1, F.2.2.2.1, F.2.2.2.2.1⟩ (hC H.size) (cwV np F.2.2.2.2.1 (gi_V hk hl) rfl rfl rfl ⟨rfl, hk.2.2.2.2⟩ (rm_le F.2.2.2.2.2.2.2.2.2 hrm)) ⟨blind, hrec, pre_of F hP hD hS⟩ rfl hn hl9.1 rfl (lv_room hro) d (rm_cs F.2.2.2.2.2.2.2.2.2)) hS (fun q _ h => hFc q h) hFc (fun r' u t H1 locs1 ht hvm hw hB hz1 hk1 hS1 => ?_)
  obtain ⟨rfl, rfl⟩ := hw
  exact k H1 locs1 ls (by rw [← ht]; exact hB.1) (hB.2.weaken (fun _ q _ h => hFc q.1 h)) hS1 hl9
set_option maxHeartbeats 4000000 in
theorem g_vV (F : Fx X cc own f n) (hC : CtV (xl X) (xE X) (Wf (xE X)) y bytes maxL f2 n2 (.ref b :: As) M M2) (hk : KV y bytes maxL none np) (hl : Cond.methodLink own idx y ∈ gw) {ci : Nat} {C : vw_C} (q0 : Nat) {fs : List Value} (hc : vwCl[ci]? = some C) (he : (Wf (xE X) M)[q0]? = some (b, .inr (ci, fs))) (hcl : C.1 = y.cls)
    (hn : As.length = np) (hst : st = As.reverse ++ .ref b :: rest) (hrm : f2 + 1 ≤ f ∧ 8 + (maxL + 11) + n2 ≤ n) (hro : (rest.map fun v => v.category).sum ≤ 8) (d : decode cc pc = .ok (.invokevirtual idx, 3)) (k : G X (Wf (xE X) M2) (pc + 3) lv rest) : G X (Wf (xE X) M) pc lv st := by
  intro H locs ls hP hD hS hl9
  subst hst
  have hFc := hFc_of F.2.2.2.2.2.2.1 hD hS
  have hrec := va_recv F.2.2.2.2.2.1 hP hc he
  rw [hcl] at hrec
  refine va_callv (va_runV (As := As) (rest := rest) ⟨F.1, F.2.1, F.2.2.1, F.2.2.2.1, F.2.2.2.2.1⟩ (hC H.size) (cwV np F.2.2.2.2.1 (gi_V hk hl) rfl rfl rfl ⟨rfl, hk.2.2.2.2⟩ (rm_le F.2.2.2.2.2.2.2.2.2 hrm)) ⟨blind, hrec, pre_of F hP hD hS⟩ rfl hn hl9.1 rfl (lv_room hro) d (rm_cs F.2.2.2.2.2.2.2.2.2)) hS (fun q _ h => hFc q h) hFc (fun u t H1 locs1 ht hvm hw hB hz1 hk1 hS1 => ?_)
  obtain rfl := hw
  exact k H1 locs1 ls (by rw [← ht]; exact hB.1) (hB.2.weaken (fun _ q _ h => hFc q.1 h)) hS1 hl9
theorem cb_S (F : Fx X cc own f n) {rt : Option FieldType} (hk : KS y bytes maxL rt np) (hl : Cond.methodLink own idx y ∈ gw) (hrm : f2 + 1 ≤ f ∧ 8 + (maxL + 11) + n2 ≤ n) : CallB (xR X) (xs X) (xa X) own idx y bytes maxL rt (.code y bytes maxL rt :: gw) (Rm f2 n2) 0 0 np ∧ (Cond.static y).before (xa X) (xs X) = true :=
  ⟨callB_of np F.2.2.2.2.1 (gi_cons hk.2.2.1) rfl rfl rfl (F.2.2.2.2.1 _ hk.2.1) (F.2.2.2.2.1 _ hl) hk.2.2.2 (rm_le F.2.2.2.2.2.2.2.2.2 hrm), F.2.2.2.2.1 _ hk.1⟩
set_option maxHeartbeats 4000000 in
theorem g_sI {r : Int32} (F : Fx X cc own f n) (hC : CtI (xl X) (xE X) (Wf (xE X)) y bytes maxL ret f2 n2 As M r M2) (hk : KS y bytes maxL (some ret) np) (hl : Cond.methodLink own idx y ∈ gw)
    (hn : As.length = np) (hst : st = As.reverse ++ rest) (hrm : f2 + 1 ≤ f ∧ 8 + (maxL + 11) + n2 ≤ n) (hro : (rest.map fun v => v.category).sum ≤ 8) (d : decode cc pc = .ok (.invokestatic idx, 3)) (k : G X (Wf (xE X) M2) (pc + 3) lv (.int r :: rest)) : G X (Wf (xE X) M) pc lv st := by
  intro H locs ls hP hD hS hl9
  subst hst
  have hFc := hFc_of F.2.2.2.2.2.2.1 hD hS
  refine va_calli (va_runS (As := As) (rest := rest) ⟨F.1, F.2.1, F.2.2.1, F.2.2.2.1, F.2.2.2.2.1⟩ (hC H.size) (cb_S F hk hl hrm) ⟨blind, pre_of F hP hD hS⟩ rfl hn hl9.1 rfl (lv_room hro) d (rm_cs F.2.2.2.2.2.2.2.2.2)) hS (fun q _ h => hFc q h) hFc (fun r' u t H1 locs1 ht hvm hw hB hz1 hk1 hS1 => ?_)
  obtain ⟨rfl, rfl⟩ := hw
  exact k H1 locs1 ls (by rw [← ht]; exact hB.1) (hB.2.weaken (fun _ q _ h => hFc q.1 h)) hS1 hl9
set_option maxHeartbeats 4000000 in
theorem g_sL {r : Int64} (F : Fx X cc own f n) (hC : CtL (xl X) (xE X) (Wf (xE X)) y bytes maxL f2 n2 As M r M2) (hk : KS y bytes maxL (some .long) np) (hl : Cond.methodLink own idx y ∈ gw)
    (hn : As.length = np) (hst : st = As.reverse ++ rest) (hrm : f2 + 1 ≤ f ∧ 8 + (maxL + 11) + n2 ≤ n) (hro : (rest.map fun v => v.category).sum ≤ 8) (d : decode cc pc = .ok (.invokestatic idx, 3)) (k : G X (Wf (xE X) M2) (pc + 3) lv (.long r :: rest)) : G X (Wf (xE X) M) pc lv st := by
  intro H locs ls hP hD hS hl9
  subst hst
  have hFc := hFc_of F.2.2.2.2.2.2.1 hD hS
  refine va_calll (va_runS (As := As) (rest := rest) ⟨F.1, F.2.1, F.2.2.1, F.2.2.2.1, F.2.2.2.2.1⟩ (hC H.size) (cb_S F hk hl hrm) ⟨blind, pre_of F hP hD hS⟩ rfl hn hl9.1 rfl (lv_room hro) d (rm_cs F.2.2.2.2.2.2.2.2.2)) hS (fun q _ h => hFc q h) hFc (fun r' u t H1 locs1 ht hvm hw hB hz1 hk1 hS1 => ?_)
  obtain ⟨rfl, rfl⟩ := hw
  exact k H1 locs1 ls (by rw [← ht]; exact hB.1) (hB.2.weaken (fun _ q _ h => hFc q.1 h)) hS1 hl9
end CR
/-! ===== taking a partial answer apart ===== -/
theorem ite_t {c : Prop} [Decidable c] {α : Type} {a b x : α} (hc : c) (h : (if c then a else b) = x) : a = x := by rw [if_pos hc] at h; exact h
theorem ite_f {c : Prop} [Decidable c] {α : Type} {a b x : α} (hc : ¬ c) (h : (if c then a else b) = x) : b = x := by rw [if_neg hc] at h; exact h
theorem ck_some {c : Prop} [Decidable c] {α : Type} {a : Option α} {x : α} (h : (if c then a else none) = some x) : c ∧ a = some x := by
  by_cases hc : c
  · rw [if_pos hc] at h; exact ⟨hc, h⟩
  · rw [if_neg hc] at h; cases h
theorem bd_some {α β : Type} {a : Option α} {K : α → Option β} {x : β} (h : a.bind K = some x) : ∃ y, a = some y ∧ K y = some x := by
  cases a with
  | none => cases h
  | some y => exact ⟨y, rfl, h⟩
end
