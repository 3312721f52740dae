/-! ===== the 34 cases ===== -/
theorem lk11_tower : KV yX11_tower cX11_tower 4 (some .int) 2 := ⟨gw_of 308 (by decide +kernel) (by decide +kernel), gw_of 309 (by decide +kernel) (by decide +kernel), gw_of 62 (by decide +kernel) (by decide +kernel), gw_of 310 (by decide +kernel) (by decide +kernel), by decide, by decide, by decide +kernel⟩
theorem lm11_tower : Cond.methodLink RL 13 yX11_tower ∈ gw := gw_of 307 (by decide +kernel) (by decide +kernel)
theorem lk12_tower : KV yX12_tower cX12_tower 4 (some .int) 2 := ⟨gw_of 986 (by decide +kernel) (by decide +kernel), gw_of 987 (by decide +kernel) (by decide +kernel), gw_of 74 (by decide +kernel) (by decide +kernel), gw_of 988 (by decide +kernel) (by decide +kernel), by decide, by decide, by decide +kernel⟩
theorem lm12_tower : Cond.methodLink RL 17 yX12_tower ∈ gw := gw_of 985 (by decide +kernel) (by decide +kernel)
theorem lk11_lamp : KV yX11_lamp cX11_lamp 3 (some .int) 1 := ⟨gw_of 324 (by decide +kernel) (by decide +kernel), gw_of 325 (by decide +kernel) (by decide +kernel), gw_of 62 (by decide +kernel) (by decide +kernel), gw_of 326 (by decide +kernel) (by decide +kernel), by decide, by decide, by decide +kernel⟩
theorem lm11_lamp : Cond.methodLink RL 18 yX11_lamp ∈ gw := gw_of 323 (by decide +kernel) (by decide +kernel)
theorem lk12_lamp : KV yX12_lamp cX12_lamp 2 (some .int) 1 := ⟨gw_of 1009 (by decide +kernel) (by decide +kernel), gw_of 1010 (by decide +kernel) (by decide +kernel), gw_of 74 (by decide +kernel) (by decide +kernel), gw_of 1011 (by decide +kernel) (by decide +kernel), by decide, by decide, by decide +kernel⟩
theorem lm12_lamp : Cond.methodLink RL 22 yX12_lamp ∈ gw := gw_of 1008 (by decide +kernel) (by decide +kernel)
theorem lk11_reach : KV yX11_reach cX11_reach 3 (some .int) 1 := ⟨gw_of 328 (by decide +kernel) (by decide +kernel), gw_of 329 (by decide +kernel) (by decide +kernel), gw_of 62 (by decide +kernel) (by decide +kernel), gw_of 330 (by decide +kernel) (by decide +kernel), by decide, by decide, by decide +kernel⟩
theorem lm11_reach : Cond.methodLink RL 23 yX11_reach ∈ gw := gw_of 327 (by decide +kernel) (by decide +kernel)
theorem lk12_reach : KV yX12_reach cX12_reach 2 (some .int) 1 := ⟨gw_of 1017 (by decide +kernel) (by decide +kernel), gw_of 1018 (by decide +kernel) (by decide +kernel), gw_of 74 (by decide +kernel) (by decide +kernel), gw_of 1019 (by decide +kernel) (by decide +kernel), by decide, by decide, by decide +kernel⟩
theorem lm12_reach : Cond.methodLink RL 26 yX12_reach ∈ gw := gw_of 1016 (by decide +kernel) (by decide +kernel)
theorem lk11_now : KV yX11_now cX11_now 2 (some .int) 1 := ⟨gw_of 332 (by decide +kernel) (by decide +kernel), gw_of 333 (by decide +kernel) (by decide +kernel), gw_of 62 (by decide +kernel) (by decide +kernel), gw_of 334 (by decide +kernel) (by decide +kernel), by decide, by decide, by decide +kernel⟩
theorem lm11_now : Cond.methodLink RL 27 yX11_now ∈ gw := gw_of 331 (by decide +kernel) (by decide +kernel)
theorem lk12_now : KV yX12_now cX12_now 2 (some .int) 1 := ⟨gw_of 1021 (by decide +kernel) (by decide +kernel), gw_of 1022 (by decide +kernel) (by decide +kernel), gw_of 74 (by decide +kernel) (by decide +kernel), gw_of 1023 (by decide +kernel) (by decide +kernel), by decide, by decide, by decide +kernel⟩
theorem lm12_now : Cond.methodLink RL 30 yX12_now ∈ gw := gw_of 1020 (by decide +kernel) (by decide +kernel)
theorem lk11_ship : KV yX11_ship cX11_ship 3 (some .int) 2 := ⟨gw_of 368 (by decide +kernel) (by decide +kernel), gw_of 369 (by decide +kernel) (by decide +kernel), gw_of 62 (by decide +kernel) (by decide +kernel), gw_of 370 (by decide +kernel) (by decide +kernel), by decide, by decide, by decide +kernel⟩
theorem lm11_ship : Cond.methodLink RL 31 yX11_ship ∈ gw := gw_of 367 (by decide +kernel) (by decide +kernel)
theorem lk12_ship : KV yX12_ship cX12_ship 3 (some .int) 2 := ⟨gw_of 1041 (by decide +kernel) (by decide +kernel), gw_of 1042 (by decide +kernel) (by decide +kernel), gw_of 74 (by decide +kernel) (by decide +kernel), gw_of 1043 (by decide +kernel) (by decide +kernel), by decide, by decide, by decide +kernel⟩
theorem lm12_ship : Cond.methodLink RL 34 yX12_ship ∈ gw := gw_of 1040 (by decide +kernel) (by decide +kernel)
theorem lk11_of : KV yX11_of cX11_of 4 (some .int) 2 := ⟨gw_of 389 (by decide +kernel) (by decide +kernel), gw_of 390 (by decide +kernel) (by decide +kernel), gw_of 62 (by decide +kernel) (by decide +kernel), gw_of 391 (by decide +kernel) (by decide +kernel), by decide, by decide, by decide +kernel⟩
theorem lm11_of : Cond.methodLink RL 35 yX11_of ∈ gw := gw_of 388 (by decide +kernel) (by decide +kernel)
theorem lk12_of : KV yX12_of cX12_of 3 (some .int) 2 := ⟨gw_of 1057 (by decide +kernel) (by decide +kernel), gw_of 1058 (by decide +kernel) (by decide +kernel), gw_of 74 (by decide +kernel) (by decide +kernel), gw_of 1059 (by decide +kernel) (by decide +kernel), by decide, by decide, by decide +kernel⟩
theorem lm12_of : Cond.methodLink RL 38 yX12_of ∈ gw := gw_of 1056 (by decide +kernel) (by decide +kernel)
theorem lk11_set : KV yX11_set cX11_set 6 (some .int) 3 := ⟨gw_of 523 (by decide +kernel) (by decide +kernel), gw_of 524 (by decide +kernel) (by decide +kernel), gw_of 62 (by decide +kernel) (by decide +kernel), gw_of 525 (by decide +kernel) (by decide +kernel), by decide, by decide, by decide +kernel⟩
theorem lm11_set : Cond.methodLink RL 39 yX11_set ∈ gw := gw_of 522 (by decide +kernel) (by decide +kernel)
theorem lk12_set : KV yX12_set cX12_set 4 (some .int) 3 := ⟨gw_of 1088 (by decide +kernel) (by decide +kernel), gw_of 1089 (by decide +kernel) (by decide +kernel), gw_of 74 (by decide +kernel) (by decide +kernel), gw_of 1090 (by decide +kernel) (by decide +kernel), by decide, by decide, by decide +kernel⟩
theorem lm12_set : Cond.methodLink RL 43 yX12_set ∈ gw := gw_of 1087 (by decide +kernel) (by decide +kernel)
theorem lk11_turn : KV yX11_turn cX11_turn 5 (some .int) 2 := ⟨gw_of 534 (by decide +kernel) (by decide +kernel), gw_of 535 (by decide +kernel) (by decide +kernel), gw_of 62 (by decide +kernel) (by decide +kernel), gw_of 536 (by decide +kernel) (by decide +kernel), by decide, by decide, by decide +kernel⟩
theorem lm11_turn : Cond.methodLink RL 44 yX11_turn ∈ gw := gw_of 533 (by decide +kernel) (by decide +kernel)
theorem lk12_turn : KV yX12_turn cX12_turn 3 (some .int) 2 := ⟨gw_of 1095 (by decide +kernel) (by decide +kernel), gw_of 1096 (by decide +kernel) (by decide +kernel), gw_of 74 (by decide +kernel) (by decide +kernel), gw_of 1097 (by decide +kernel) (by decide +kernel), by decide, by decide, by decide +kernel⟩
theorem lm12_turn : Cond.methodLink RL 47 yX12_turn ∈ gw := gw_of 1094 (by decide +kernel) (by decide +kernel)
theorem lk11_as : KV yX11_as cX11_as 4 (some .int) 2 := ⟨gw_of 539 (by decide +kernel) (by decide +kernel), gw_of 540 (by decide +kernel) (by decide +kernel), gw_of 62 (by decide +kernel) (by decide +kernel), gw_of 541 (by decide +kernel) (by decide +kernel), by decide, by decide, by decide +kernel⟩
theorem lm11_as : Cond.methodLink RL 48 yX11_as ∈ gw := gw_of 538 (by decide +kernel) (by decide +kernel)
theorem lk12_as : KV yX12_as cX12_as 5 (some .int) 2 := ⟨gw_of 1099 (by decide +kernel) (by decide +kernel), gw_of 1100 (by decide +kernel) (by decide +kernel), gw_of 74 (by decide +kernel) (by decide +kernel), gw_of 1101 (by decide +kernel) (by decide +kernel), by decide, by decide, by decide +kernel⟩
theorem lm12_as : Cond.methodLink RL 51 yX12_as ∈ gw := gw_of 1098 (by decide +kernel) (by decide +kernel)
theorem lk11_hours : KV yX11_hours cX11_hours 2 (some .int) 1 := ⟨gw_of 569 (by decide +kernel) (by decide +kernel), gw_of 570 (by decide +kernel) (by decide +kernel), gw_of 62 (by decide +kernel) (by decide +kernel), gw_of 571 (by decide +kernel) (by decide +kernel), by decide, by decide, by decide +kernel⟩
theorem lm11_hours : Cond.methodLink RL 52 yX11_hours ∈ gw := gw_of 568 (by decide +kernel) (by decide +kernel)
theorem lk12_hours : KV yX12_hours cX12_hours 2 (some .int) 1 := ⟨gw_of 1104 (by decide +kernel) (by decide +kernel), gw_of 1105 (by decide +kernel) (by decide +kernel), gw_of 74 (by decide +kernel) (by decide +kernel), gw_of 1106 (by decide +kernel) (by decide +kernel), by decide, by decide, by decide +kernel⟩
theorem lm12_hours : Cond.methodLink RL 55 yX12_hours ∈ gw := gw_of 1103 (by decide +kernel) (by decide +kernel)
theorem lk11_on : KV yX11_on cX11_on 4 (some .int) 3 := ⟨gw_of 603 (by decide +kernel) (by decide +kernel), gw_of 604 (by decide +kernel) (by decide +kernel), gw_of 62 (by decide +kernel) (by decide +kernel), gw_of 605 (by decide +kernel) (by decide +kernel), by decide, by decide, by decide +kernel⟩
theorem lm11_on : Cond.methodLink RL 56 yX11_on ∈ gw := gw_of 602 (by decide +kernel) (by decide +kernel)
theorem lk12_on : KV yX12_on cX12_on 5 (some .int) 3 := ⟨gw_of 1137 (by decide +kernel) (by decide +kernel), gw_of 1138 (by decide +kernel) (by decide +kernel), gw_of 74 (by decide +kernel) (by decide +kernel), gw_of 1139 (by decide +kernel) (by decide +kernel), by decide, by decide, by decide +kernel⟩
theorem lm12_on : Cond.methodLink RL 59 yX12_on ∈ gw := gw_of 1136 (by decide +kernel) (by decide +kernel)
theorem lk11_then : KV yX11_then cX11_then 3 (some .int) 2 := ⟨gw_of 623 (by decide +kernel) (by decide +kernel), gw_of 624 (by decide +kernel) (by decide +kernel), gw_of 62 (by decide +kernel) (by decide +kernel), gw_of 625 (by decide +kernel) (by decide +kernel), by decide, by decide, by decide +kernel⟩
theorem lm11_then : Cond.methodLink RL 60 yX11_then ∈ gw := gw_of 622 (by decide +kernel) (by decide +kernel)
theorem lk12_then : KV yX12_then cX12_then 4 (some .int) 2 := ⟨gw_of 1145 (by decide +kernel) (by decide +kernel), gw_of 1146 (by decide +kernel) (by decide +kernel), gw_of 74 (by decide +kernel) (by decide +kernel), gw_of 1147 (by decide +kernel) (by decide +kernel), by decide, by decide, by decide +kernel⟩
theorem lm12_then : Cond.methodLink RL 63 yX12_then ∈ gw := gw_of 1144 (by decide +kernel) (by decide +kernel)
theorem lk11_comes : KV yX11_comes cX11_comes 3 (some .int) 1 := ⟨gw_of 631 (by decide +kernel) (by decide +kernel), gw_of 632 (by decide +kernel) (by decide +kernel), gw_of 62 (by decide +kernel) (by decide +kernel), gw_of 633 (by decide +kernel) (by decide +kernel), by decide, by decide, by decide +kernel⟩
theorem lm11_comes : Cond.methodLink RL 64 yX11_comes ∈ gw := gw_of 630 (by decide +kernel) (by decide +kernel)
theorem lk12_comes : KV yX12_comes cX12_comes 2 (some .int) 1 := ⟨gw_of 1149 (by decide +kernel) (by decide +kernel), gw_of 1150 (by decide +kernel) (by decide +kernel), gw_of 74 (by decide +kernel) (by decide +kernel), gw_of 1151 (by decide +kernel) (by decide +kernel), by decide, by decide, by decide +kernel⟩
theorem lm12_comes : Cond.methodLink RL 67 yX12_comes ∈ gw := gw_of 1148 (by decide +kernel) (by decide +kernel)
theorem lk11_wrecks : KV yX11_wrecks cX11_wrecks 3 (some .int) 1 := ⟨gw_of 645 (by decide +kernel) (by decide +kernel), gw_of 646 (by decide +kernel) (by decide +kernel), gw_of 62 (by decide +kernel) (by decide +kernel), gw_of 647 (by decide +kernel) (by decide +kernel), by decide, by decide, by decide +kernel⟩
theorem lm11_wrecks : Cond.methodLink RL 68 yX11_wrecks ∈ gw := gw_of 644 (by decide +kernel) (by decide +kernel)
theorem lk12_wrecks : KV yX12_wrecks cX12_wrecks 2 (some .int) 1 := ⟨gw_of 1162 (by decide +kernel) (by decide +kernel), gw_of 1163 (by decide +kernel) (by decide +kernel), gw_of 74 (by decide +kernel) (by decide +kernel), gw_of 1164 (by decide +kernel) (by decide +kernel), by decide, by decide, by decide +kernel⟩
theorem lm12_wrecks : Cond.methodLink RL 71 yX12_wrecks ∈ gw := gw_of 1161 (by decide +kernel) (by decide +kernel)
theorem lk11_row : KV yX11_row cX11_row 7 (some .int) 1 := ⟨gw_of 649 (by decide +kernel) (by decide +kernel), gw_of 650 (by decide +kernel) (by decide +kernel), gw_of 62 (by decide +kernel) (by decide +kernel), gw_of 651 (by decide +kernel) (by decide +kernel), by decide, by decide, by decide +kernel⟩
theorem lm11_row : Cond.methodLink RL 72 yX11_row ∈ gw := gw_of 648 (by decide +kernel) (by decide +kernel)
theorem lk12_row : KV yX12_row cX12_row 2 (some .int) 1 := ⟨gw_of 1166 (by decide +kernel) (by decide +kernel), gw_of 1167 (by decide +kernel) (by decide +kernel), gw_of 74 (by decide +kernel) (by decide +kernel), gw_of 1168 (by decide +kernel) (by decide +kernel), by decide, by decide, by decide +kernel⟩
theorem lm12_row : Cond.methodLink RL 75 yX12_row ∈ gw := gw_of 1165 (by decide +kernel) (by decide +kernel)
theorem lk11_kind : KV yX11_kind cX11_kind 7 (some .int) 1 := ⟨gw_of 657 (by decide +kernel) (by decide +kernel), gw_of 658 (by decide +kernel) (by decide +kernel), gw_of 62 (by decide +kernel) (by decide +kernel), gw_of 659 (by decide +kernel) (by decide +kernel), by decide, by decide, by decide +kernel⟩
theorem lm11_kind : Cond.methodLink RL 76 yX11_kind ∈ gw := gw_of 656 (by decide +kernel) (by decide +kernel)
theorem lk12_kind : KV yX12_kind cX12_kind 2 (some .int) 1 := ⟨gw_of 1174 (by decide +kernel) (by decide +kernel), gw_of 1175 (by decide +kernel) (by decide +kernel), gw_of 74 (by decide +kernel) (by decide +kernel), gw_of 1176 (by decide +kernel) (by decide +kernel), by decide, by decide, by decide +kernel⟩
theorem lm12_kind : Cond.methodLink RL 79 yX12_kind ∈ gw := gw_of 1173 (by decide +kernel) (by decide +kernel)
theorem lk11_shine : KV yX11_shine cX11_shine 6 (some .int) 1 := ⟨gw_of 661 (by decide +kernel) (by decide +kernel), gw_of 662 (by decide +kernel) (by decide +kernel), gw_of 62 (by decide +kernel) (by decide +kernel), gw_of 663 (by decide +kernel) (by decide +kernel), by decide, by decide, by decide +kernel⟩
theorem lm11_shine : Cond.methodLink RL 80 yX11_shine ∈ gw := gw_of 660 (by decide +kernel) (by decide +kernel)
theorem lk12_shine : KV yX12_shine cX12_shine 6 (some .int) 1 := ⟨gw_of 1178 (by decide +kernel) (by decide +kernel), gw_of 1179 (by decide +kernel) (by decide +kernel), gw_of 74 (by decide +kernel) (by decide +kernel), gw_of 1180 (by decide +kernel) (by decide +kernel), by decide, by decide, by decide +kernel⟩
theorem lm12_shine : Cond.methodLink RL 83 yX12_shine ∈ gw := gw_of 1177 (by decide +kernel) (by decide +kernel)
theorem lk11_hour : KV yX11_hour cX11_hour 6 (some .int) 1 := ⟨gw_of 671 (by decide +kernel) (by decide +kernel), gw_of 672 (by decide +kernel) (by decide +kernel), gw_of 62 (by decide +kernel) (by decide +kernel), gw_of 673 (by decide +kernel) (by decide +kernel), by decide, by decide, by decide +kernel⟩
theorem lm11_hour : Cond.methodLink RL 84 yX11_hour ∈ gw := gw_of 670 (by decide +kernel) (by decide +kernel)
theorem lk12_hour : KV yX12_hour cX12_hour 7 (some .int) 1 := ⟨gw_of 1185 (by decide +kernel) (by decide +kernel), gw_of 1186 (by decide +kernel) (by decide +kernel), gw_of 74 (by decide +kernel) (by decide +kernel), gw_of 1187 (by decide +kernel) (by decide +kernel), by decide, by decide, by decide +kernel⟩
theorem lm12_hour : Cond.methodLink RL 87 yX12_hour ∈ gw := gw_of 1184 (by decide +kernel) (by decide +kernel)
theorem lk11_site : KV yX11_site cX11_site 8 (some .int) 1 := ⟨gw_of 680 (by decide +kernel) (by decide +kernel), gw_of 681 (by decide +kernel) (by decide +kernel), gw_of 62 (by decide +kernel) (by decide +kernel), gw_of 682 (by decide +kernel) (by decide +kernel), by decide, by decide, by decide +kernel⟩
theorem lm11_site : Cond.methodLink RL 88 yX11_site ∈ gw := gw_of 679 (by decide +kernel) (by decide +kernel)
theorem lk12_site : KV yX12_site cX12_site 7 (some .int) 1 := ⟨gw_of 1193 (by decide +kernel) (by decide +kernel), gw_of 1194 (by decide +kernel) (by decide +kernel), gw_of 74 (by decide +kernel) (by decide +kernel), gw_of 1195 (by decide +kernel) (by decide +kernel), by decide, by decide, by decide +kernel⟩
theorem lm12_site : Cond.methodLink RL 91 yX12_site ∈ gw := gw_of 1192 (by decide +kernel) (by decide +kernel)
theorem lk11_nearest : KV yX11_nearest cX11_nearest 2 (some .int) 1 := ⟨gw_of 684 (by decide +kernel) (by decide +kernel), gw_of 685 (by decide +kernel) (by decide +kernel), gw_of 62 (by decide +kernel) (by decide +kernel), gw_of 686 (by decide +kernel) (by decide +kernel), by decide, by decide, by decide +kernel⟩
theorem lm11_nearest : Cond.methodLink RL 92 yX11_nearest ∈ gw := gw_of 683 (by decide +kernel) (by decide +kernel)
theorem lk12_nearest : KV yX12_nearest cX12_nearest 4 (some .int) 1 := ⟨gw_of 1198 (by decide +kernel) (by decide +kernel), gw_of 1199 (by decide +kernel) (by decide +kernel), gw_of 74 (by decide +kernel) (by decide +kernel), gw_of 1200 (by decide +kernel) (by decide +kernel), by decide, by decide, by decide +kernel⟩
theorem lm12_nearest : Cond.methodLink RL 95 yX12_nearest ∈ gw := gw_of 1197 (by decide +kernel) (by decide +kernel)
theorem lk11_feed : KV yX11_feed cX11_feed 4 (some .int) 2 := ⟨gw_of 692 (by decide +kernel) (by decide +kernel), gw_of 693 (by decide +kernel) (by decide +kernel), gw_of 62 (by decide +kernel) (by decide +kernel), gw_of 694 (by decide +kernel) (by decide +kernel), by decide, by decide, by decide +kernel⟩
theorem lm11_feed : Cond.methodLink RL 96 yX11_feed ∈ gw := gw_of 691 (by decide +kernel) (by decide +kernel)
theorem lk12_feed : KV yX12_feed cX12_feed 4 (some .int) 2 := ⟨gw_of 1202 (by decide +kernel) (by decide +kernel), gw_of 1203 (by decide +kernel) (by decide +kernel), gw_of 74 (by decide +kernel) (by decide +kernel), gw_of 1204 (by decide +kernel) (by decide +kernel), by decide, by decide, by decide +kernel⟩
theorem lm12_feed : Cond.methodLink RL 99 yX12_feed ∈ gw := gw_of 1201 (by decide +kernel) (by decide +kernel)
theorem lk11_wipe : KV yX11_wipe cX11_wipe 1 (some .int) 0 := ⟨gw_of 700 (by decide +kernel) (by decide +kernel), gw_of 701 (by decide +kernel) (by decide +kernel), gw_of 62 (by decide +kernel) (by decide +kernel), gw_of 702 (by decide +kernel) (by decide +kernel), by decide, by decide, by decide +kernel⟩
theorem lm11_wipe : Cond.methodLink RL 100 yX11_wipe ∈ gw := gw_of 699 (by decide +kernel) (by decide +kernel)
theorem lk12_wipe : KV yX12_wipe cX12_wipe 2 (some .int) 0 := ⟨gw_of 1206 (by decide +kernel) (by decide +kernel), gw_of 1207 (by decide +kernel) (by decide +kernel), gw_of 74 (by decide +kernel) (by decide +kernel), gw_of 1208 (by decide +kernel) (by decide +kernel), by decide, by decide, by decide +kernel⟩
theorem lm12_wipe : Cond.methodLink RL 104 yX12_wipe ∈ gw := gw_of 1205 (by decide +kernel) (by decide +kernel)
theorem lk11_sea : KV yX11_sea cX11_sea 2 (some .int) 0 := ⟨gw_of 708 (by decide +kernel) (by decide +kernel), gw_of 709 (by decide +kernel) (by decide +kernel), gw_of 62 (by decide +kernel) (by decide +kernel), gw_of 710 (by decide +kernel) (by decide +kernel), by decide, by decide, by decide +kernel⟩
theorem lm11_sea : Cond.methodLink RL 105 yX11_sea ∈ gw := gw_of 707 (by decide +kernel) (by decide +kernel)
theorem lk12_sea : KV yX12_sea cX12_sea 3 (some .int) 0 := ⟨gw_of 1210 (by decide +kernel) (by decide +kernel), gw_of 1211 (by decide +kernel) (by decide +kernel), gw_of 74 (by decide +kernel) (by decide +kernel), gw_of 1212 (by decide +kernel) (by decide +kernel), by decide, by decide, by decide +kernel⟩
theorem lm12_sea : Cond.methodLink RL 108 yX12_sea ∈ gw := gw_of 1209 (by decide +kernel) (by decide +kernel)
theorem lk11_sheet : KV yX11_sheet cX11_sheet 4 (some .int) 3 := ⟨gw_of 837 (by decide +kernel) (by decide +kernel), gw_of 838 (by decide +kernel) (by decide +kernel), gw_of 62 (by decide +kernel) (by decide +kernel), gw_of 839 (by decide +kernel) (by decide +kernel), by decide, by decide, by decide +kernel⟩
theorem lm11_sheet : Cond.methodLink RL 109 yX11_sheet ∈ gw := gw_of 836 (by decide +kernel) (by decide +kernel)
theorem lk12_sheet : KV yX12_sheet cX12_sheet 5 (some .int) 3 := ⟨gw_of 1274 (by decide +kernel) (by decide +kernel), gw_of 1275 (by decide +kernel) (by decide +kernel), gw_of 74 (by decide +kernel) (by decide +kernel), gw_of 1276 (by decide +kernel) (by decide +kernel), by decide, by decide, by decide +kernel⟩
theorem lm12_sheet : Cond.methodLink RL 112 yX12_sheet ∈ gw := gw_of 1273 (by decide +kernel) (by decide +kernel)
theorem lk11_write : KV yX11_write cX11_write 9 (some .long) 3 := ⟨gw_of 849 (by decide +kernel) (by decide +kernel), gw_of 850 (by decide +kernel) (by decide +kernel), gw_of 62 (by decide +kernel) (by decide +kernel), gw_of 851 (by decide +kernel) (by decide +kernel), by decide, by decide, by decide +kernel⟩
theorem lm11_write : Cond.methodLink RL 115 yX11_write ∈ gw := gw_of 848 (by decide +kernel) (by decide +kernel)
theorem lk12_write : KV yX12_write cX12_write 7 (some .long) 3 := ⟨gw_of 1282 (by decide +kernel) (by decide +kernel), gw_of 1283 (by decide +kernel) (by decide +kernel), gw_of 74 (by decide +kernel) (by decide +kernel), gw_of 1284 (by decide +kernel) (by decide +kernel), by decide, by decide, by decide +kernel⟩
theorem lm12_write : Cond.methodLink RL 119 yX12_write ∈ gw := gw_of 1281 (by decide +kernel) (by decide +kernel)
theorem lk11_copy : KV yX11_copy cX11_copy 8 (some .int) 5 := ⟨gw_of 874 (by decide +kernel) (by decide +kernel), gw_of 875 (by decide +kernel) (by decide +kernel), gw_of 62 (by decide +kernel) (by decide +kernel), gw_of 876 (by decide +kernel) (by decide +kernel), by decide, by decide, by decide +kernel⟩
theorem lm11_copy : Cond.methodLink RL 120 yX11_copy ∈ gw := gw_of 873 (by decide +kernel) (by decide +kernel)
theorem lk12_copy : KV yX12_copy cX12_copy 7 (some .int) 5 := ⟨gw_of 1290 (by decide +kernel) (by decide +kernel), gw_of 1291 (by decide +kernel) (by decide +kernel), gw_of 74 (by decide +kernel) (by decide +kernel), gw_of 1292 (by decide +kernel) (by decide +kernel), by decide, by decide, by decide +kernel⟩
theorem lm12_copy : Cond.methodLink RL 124 yX12_copy ∈ gw := gw_of 1289 (by decide +kernel) (by decide +kernel)
theorem lk11_lays : KV yX11_lays cX11_lays 8 (some .int) 1 := ⟨gw_of 885 (by decide +kernel) (by decide +kernel), gw_of 886 (by decide +kernel) (by decide +kernel), gw_of 62 (by decide +kernel) (by decide +kernel), gw_of 887 (by decide +kernel) (by decide +kernel), by decide, by decide, by decide +kernel⟩
theorem lm11_lays : Cond.methodLink RL 125 yX11_lays ∈ gw := gw_of 884 (by decide +kernel) (by decide +kernel)
theorem lk12_lays : KV yX12_lays cX12_lays 7 (some .int) 1 := ⟨gw_of 1298 (by decide +kernel) (by decide +kernel), gw_of 1299 (by decide +kernel) (by decide +kernel), gw_of 74 (by decide +kernel) (by decide +kernel), gw_of 1300 (by decide +kernel) (by decide +kernel), by decide, by decide, by decide +kernel⟩
theorem lm12_lays : Cond.methodLink RL 128 yX12_lays ∈ gw := gw_of 1297 (by decide +kernel) (by decide +kernel)
theorem lk11_book : KV yX11_book cX11_book 6 (some .int) 2 := ⟨gw_of 890 (by decide +kernel) (by decide +kernel), gw_of 891 (by decide +kernel) (by decide +kernel), gw_of 62 (by decide +kernel) (by decide +kernel), gw_of 892 (by decide +kernel) (by decide +kernel), by decide, by decide, by decide +kernel⟩
theorem lm11_book : Cond.methodLink RL 129 yX11_book ∈ gw := gw_of 889 (by decide +kernel) (by decide +kernel)
theorem lk12_book : KV yX12_book cX12_book 5 (some .int) 2 := ⟨gw_of 1307 (by decide +kernel) (by decide +kernel), gw_of 1308 (by decide +kernel) (by decide +kernel), gw_of 74 (by decide +kernel) (by decide +kernel), gw_of 1309 (by decide +kernel) (by decide +kernel), by decide, by decide, by decide +kernel⟩
theorem lm12_book : Cond.methodLink RL 132 yX12_book ∈ gw := gw_of 1306 (by decide +kernel) (by decide +kernel)
theorem lk11_read : KV yX11_read cX11_read 8 (some .int) 2 := ⟨gw_of 894 (by decide +kernel) (by decide +kernel), gw_of 895 (by decide +kernel) (by decide +kernel), gw_of 62 (by decide +kernel) (by decide +kernel), gw_of 896 (by decide +kernel) (by decide +kernel), by decide, by decide, by decide +kernel⟩
theorem lm11_read : Cond.methodLink RL 133 yX11_read ∈ gw := gw_of 893 (by decide +kernel) (by decide +kernel)
theorem lk12_read : KV yX12_read cX12_read 6 (some .int) 2 := ⟨gw_of 1311 (by decide +kernel) (by decide +kernel), gw_of 1312 (by decide +kernel) (by decide +kernel), gw_of 74 (by decide +kernel) (by decide +kernel), gw_of 1313 (by decide +kernel) (by decide +kernel), by decide, by decide, by decide +kernel⟩
theorem lm12_read : Cond.methodLink RL 136 yX12_read ∈ gw := gw_of 1310 (by decide +kernel) (by decide +kernel)
theorem lk11_image : KV yX11_image cX11_image 1 (some .int) 0 := ⟨gw_of 902 (by decide +kernel) (by decide +kernel), gw_of 903 (by decide +kernel) (by decide +kernel), gw_of 62 (by decide +kernel) (by decide +kernel), gw_of 904 (by decide +kernel) (by decide +kernel), by decide, by decide, by decide +kernel⟩
theorem lm11_image : Cond.methodLink RL 137 yX11_image ∈ gw := gw_of 901 (by decide +kernel) (by decide +kernel)
theorem lk12_image : KV yX12_image cX12_image 1 (some .int) 0 := ⟨gw_of 1319 (by decide +kernel) (by decide +kernel), gw_of 1320 (by decide +kernel) (by decide +kernel), gw_of 74 (by decide +kernel) (by decide +kernel), gw_of 1321 (by decide +kernel) (by decide +kernel), by decide, by decide, by decide +kernel⟩
theorem lm12_image : Cond.methodLink RL 140 yX12_image ∈ gw := gw_of 1318 (by decide +kernel) (by decide +kernel)
theorem lk11_undo : KV yX11_undo cX11_undo 1 (some .int) 0 := ⟨gw_of 906 (by decide +kernel) (by decide +kernel), gw_of 907 (by decide +kernel) (by decide +kernel), gw_of 62 (by decide +kernel) (by decide +kernel), gw_of 908 (by decide +kernel) (by decide +kernel), by decide, by decide, by decide +kernel⟩
theorem lm11_undo : Cond.methodLink RL 141 yX11_undo ∈ gw := gw_of 905 (by decide +kernel) (by decide +kernel)
theorem lk12_undo : KV yX12_undo cX12_undo 1 (some .int) 0 := ⟨gw_of 1323 (by decide +kernel) (by decide +kernel), gw_of 1324 (by decide +kernel) (by decide +kernel), gw_of 74 (by decide +kernel) (by decide +kernel), gw_of 1325 (by decide +kernel) (by decide +kernel), by decide, by decide, by decide +kernel⟩
theorem lm12_undo : Cond.methodLink RL 144 yX12_undo ∈ gw := gw_of 1322 (by decide +kernel) (by decide +kernel)
theorem lk11_tear : KV yX11_tear cX11_tear 2 (some .int) 0 := ⟨gw_of 910 (by decide +kernel) (by decide +kernel), gw_of 911 (by decide +kernel) (by decide +kernel), gw_of 62 (by decide +kernel) (by decide +kernel), gw_of 912 (by decide +kernel) (by decide +kernel), by decide, by decide, by decide +kernel⟩
theorem lm11_tear : Cond.methodLink RL 145 yX11_tear ∈ gw := gw_of 909 (by decide +kernel) (by decide +kernel)
theorem lk12_tear : KV yX12_tear cX12_tear 2 (some .int) 0 := ⟨gw_of 1327 (by decide +kernel) (by decide +kernel), gw_of 1328 (by decide +kernel) (by decide +kernel), gw_of 74 (by decide +kernel) (by decide +kernel), gw_of 1329 (by decide +kernel) (by decide +kernel), by decide, by decide, by decide +kernel⟩
theorem lm12_tear : Cond.methodLink RL 148 yX12_tear ∈ gw := gw_of 1326 (by decide +kernel) (by decide +kernel)
theorem lk11_count : KV yX11_count cX11_count 2 (some .int) 1 := ⟨gw_of 914 (by decide +kernel) (by decide +kernel), gw_of 915 (by decide +kernel) (by decide +kernel), gw_of 62 (by decide +kernel) (by decide +kernel), gw_of 916 (by decide +kernel) (by decide +kernel), by decide, by decide, by decide +kernel⟩
theorem lm11_count : Cond.methodLink RL 149 yX11_count ∈ gw := gw_of 913 (by decide +kernel) (by decide +kernel)
theorem lk12_count : KV yX12_count cX12_count 2 (some .int) 1 := ⟨gw_of 1331 (by decide +kernel) (by decide +kernel), gw_of 1332 (by decide +kernel) (by decide +kernel), gw_of 74 (by decide +kernel) (by decide +kernel), gw_of 1333 (by decide +kernel) (by decide +kernel), by decide, by decide, by decide +kernel⟩
theorem lm12_count : Cond.methodLink RL 152 yX12_count ∈ gw := gw_of 1330 (by decide +kernel) (by decide +kernel)
theorem lk11_status : KV yX11_status cX11_status 4 (some .int) 1 := ⟨gw_of 918 (by decide +kernel) (by decide +kernel), gw_of 919 (by decide +kernel) (by decide +kernel), gw_of 62 (by decide +kernel) (by decide +kernel), gw_of 920 (by decide +kernel) (by decide +kernel), by decide, by decide, by decide +kernel⟩
theorem lm11_status : Cond.methodLink RL 153 yX11_status ∈ gw := gw_of 917 (by decide +kernel) (by decide +kernel)
theorem lk12_status : KV yX12_status cX12_status 4 (some .int) 1 := ⟨gw_of 1335 (by decide +kernel) (by decide +kernel), gw_of 1336 (by decide +kernel) (by decide +kernel), gw_of 74 (by decide +kernel) (by decide +kernel), gw_of 1337 (by decide +kernel) (by decide +kernel), by decide, by decide, by decide +kernel⟩
theorem lm12_status : Cond.methodLink RL 156 yX12_status ∈ gw := gw_of 1334 (by decide +kernel) (by decide +kernel)
theorem wL_ldc : Cond.constantLong RL 113 4294967295 ∈ gw := gw_of 1338 (by decide +kernel) (by decide +kernel)
set_option maxRecDepth 100000 in
set_option maxHeartbeats 4000000 in
/-- tower -/
theorem law_0 {X : Cx} {kc kn b L i : Nat} {ys : Nat → Int32} {C D : Mem} (F : LawF X b L ys) (hcs : kc ≤ room_1.cells ∧ kn ≤ room_1.slots) (hi : i + 6 ≤ L) (hR : Rel C D) (k : ∀ C2 D2 : Mem, Rel C2 D2 → GN X kc kn (Wc (xE X) C2 ++ Wm (xE X) D2) 1157 (lvL X b i) []) : GN X kc kn (Wc (xE X) C ++ Wm (xE X) D) 184 (lvL X b i) [] := by
  obtain ⟨r, C2, D2, h1, h2, h3⟩ := op_tower hR (ys (i + 1)) (ys (i + 2))
  refine n_aload_n F.1 dL_law_184 rfl 1 rfl ?_
  refine n_arg (a := 1) F (by omega) (by decide) dL_law_185 dL_law_186 dL_law_187 dL_law_188 dL_law_189 ?_
  refine n_arg (a := 2) F (by omega) (by decide) dL_law_190 dL_law_191 dL_law_192 dL_law_193 dL_law_194 ?_
  refine n_callI (Wf := Wc (xE X)) (wr := Wm (xE X) D) (As := [.int (ys (i + 1)), .int (ys (i + 2))]) (rest := []) (r := r) (M2 := C2) (ci := 11) F (hX11_tower h1 (xl X) (xE X)) lk11_tower lm11_tower 0 rfl (wc_T _ _) rfl rfl rfl ⟨Nat.le_of_ble_eq_true rfl, Nat.le_of_ble_eq_true rfl⟩ hcs (by decide) dL_law_195 ?_
  refine n_aload_n F.1 dL_law_198 rfl 2 rfl ?_
  refine n_arg (a := 1) F (by omega) (by decide) dL_law_199 dL_law_200 dL_law_201 dL_law_202 dL_law_203 ?_
  refine n_arg (a := 2) F (by omega) (by decide) dL_law_204 dL_law_205 dL_law_206 dL_law_207 dL_law_208 ?_
  refine n_callI (Wf := Wm (xE X)) (wr := Wc (xE X) C2) (As := [.int (ys (i + 1)), .int (ys (i + 2))]) (rest := [.int r]) (r := r) (M2 := D2) (ci := 12) F (hX12_tower h2 (xl X) (xE X)) lk12_tower lm12_tower 0 rfl rfl rfl rfl rfl ⟨Nat.le_of_ble_eq_true rfl, Nat.le_of_ble_eq_true rfl⟩ hcs (Nat.le_of_ble_eq_true rfl) dL_law_209 ?_
  exact n_icmp_eq (tgt := 1157) F.1 dL_law_212 (by decide) (fun _ => k C2 D2 h3) (fun c => absurd rfl c)
set_option maxRecDepth 100000 in
set_option maxHeartbeats 4000000 in
/-- lamp -/
theorem law_1 {X : Cx} {kc kn b L i : Nat} {ys : Nat → Int32} {C D : Mem} (F : LawF X b L ys) (hcs : kc ≤ room_1.cells ∧ kn ≤ room_1.slots) (hi : i + 6 ≤ L) (hR : Rel C D) (k : ∀ C2 D2 : Mem, Rel C2 D2 → GN X kc kn (Wc (xE X) C2 ++ Wm (xE X) D2) 1157 (lvL X b i) []) : GN X kc kn (Wc (xE X) C ++ Wm (xE X) D) 217 (lvL X b i) [] := by
  obtain ⟨r, C2, D2, h1, h2, h3⟩ := op_lamp hR (ys (i + 1))
  refine n_aload_n F.1 dL_law_217 rfl 1 rfl ?_
  refine n_arg (a := 1) F (by omega) (by decide) dL_law_218 dL_law_219 dL_law_220 dL_law_221 dL_law_222 ?_
  refine n_callI (Wf := Wc (xE X)) (wr := Wm (xE X) D) (As := [.int (ys (i + 1))]) (rest := []) (r := r) (M2 := C2) (ci := 11) F (hX11_lamp h1 (xl X) (xE X)) lk11_lamp lm11_lamp 0 rfl (wc_T _ _) rfl rfl rfl ⟨Nat.le_of_ble_eq_true rfl, Nat.le_of_ble_eq_true rfl⟩ hcs (by decide) dL_law_223 ?_
  refine n_aload_n F.1 dL_law_226 rfl 2 rfl ?_
  refine n_arg (a := 1) F (by omega) (by decide) dL_law_227 dL_law_228 dL_law_229 dL_law_230 dL_law_231 ?_
  refine n_callI (Wf := Wm (xE X)) (wr := Wc (xE X) C2) (As := [.int (ys (i + 1))]) (rest := [.int r]) (r := r) (M2 := D2) (ci := 12) F (hX12_lamp h2 (xl X) (xE X)) lk12_lamp lm12_lamp 0 rfl rfl rfl rfl rfl ⟨Nat.le_of_ble_eq_true rfl, Nat.le_of_ble_eq_true rfl⟩ hcs (Nat.le_of_ble_eq_true rfl) dL_law_232 ?_
  exact n_icmp_eq (tgt := 1157) F.1 dL_law_235 (by decide) (fun _ => k C2 D2 h3) (fun c => absurd rfl c)
set_option maxRecDepth 100000 in
set_option maxHeartbeats 4000000 in
/-- reach -/
theorem law_2 {X : Cx} {kc kn b L i : Nat} {ys : Nat → Int32} {C D : Mem} (F : LawF X b L ys) (hcs : kc ≤ room_1.cells ∧ kn ≤ room_1.slots) (hi : i + 6 ≤ L) (hR : Rel C D) (k : ∀ C2 D2 : Mem, Rel C2 D2 → GN X kc kn (Wc (xE X) C2 ++ Wm (xE X) D2) 1157 (lvL X b i) []) : GN X kc kn (Wc (xE X) C ++ Wm (xE X) D) 240 (lvL X b i) [] := by
  obtain ⟨r, C2, D2, h1, h2, h3⟩ := op_reach hR (ys (i + 1))
  refine n_aload_n F.1 dL_law_240 rfl 1 rfl ?_
  refine n_arg (a := 1) F (by omega) (by decide) dL_law_241 dL_law_242 dL_law_243 dL_law_244 dL_law_245 ?_
  refine n_callI (Wf := Wc (xE X)) (wr := Wm (xE X) D) (As := [.int (ys (i + 1))]) (rest := []) (r := r) (M2 := C2) (ci := 11) F (hX11_reach h1 (xl X) (xE X)) lk11_reach lm11_reach 0 rfl (wc_T _ _) rfl rfl rfl ⟨Nat.le_of_ble_eq_true rfl, Nat.le_of_ble_eq_true rfl⟩ hcs (by decide) dL_law_246 ?_
  refine n_aload_n F.1 dL_law_249 rfl 2 rfl ?_
  refine n_arg (a := 1) F (by omega) (by decide) dL_law_250 dL_law_251 dL_law_252 dL_law_253 dL_law_254 ?_
  refine n_callI (Wf := Wm (xE X)) (wr := Wc (xE X) C2) (As := [.int (ys (i + 1))]) (rest := [.int r]) (r := r) (M2 := D2) (ci := 12) F (hX12_reach h2 (xl X) (xE X)) lk12_reach lm12_reach 0 rfl rfl rfl rfl rfl ⟨Nat.le_of_ble_eq_true rfl, Nat.le_of_ble_eq_true rfl⟩ hcs (Nat.le_of_ble_eq_true rfl) dL_law_255 ?_
  exact n_icmp_eq (tgt := 1157) F.1 dL_law_258 (by decide) (fun _ => k C2 D2 h3) (fun c => absurd rfl c)
set_option maxRecDepth 100000 in
set_option maxHeartbeats 4000000 in
/-- now -/
theorem law_3 {X : Cx} {kc kn b L i : Nat} {ys : Nat → Int32} {C D : Mem} (F : LawF X b L ys) (hcs : kc ≤ room_1.cells ∧ kn ≤ room_1.slots) (hi : i + 6 ≤ L) (hR : Rel C D) (k : ∀ C2 D2 : Mem, Rel C2 D2 → GN X kc kn (Wc (xE X) C2 ++ Wm (xE X) D2) 1157 (lvL X b i) []) : GN X kc kn (Wc (xE X) C ++ Wm (xE X) D) 263 (lvL X b i) [] := by
  obtain ⟨r, C2, D2, h1, h2, h3⟩ := op_now hR (N := 300) (by decide) (ys (i + 1))
  refine n_aload_n F.1 dL_law_263 rfl 1 rfl ?_
  refine n_arg (a := 1) F (by omega) (by decide) dL_law_264 dL_law_265 dL_law_266 dL_law_267 dL_law_268 ?_
  refine n_callI (Wf := Wc (xE X)) (wr := Wm (xE X) D) (As := [.int (ys (i + 1))]) (rest := []) (r := r) (M2 := C2) (ci := 11) F (hX11_now h1 (xl X) (xE X)) lk11_now lm11_now 0 rfl (wc_T _ _) rfl rfl rfl ⟨Nat.le_of_ble_eq_true rfl, Nat.le_of_ble_eq_true rfl⟩ hcs (by decide) dL_law_269 ?_
  refine n_aload_n F.1 dL_law_272 rfl 2 rfl ?_
  refine n_arg (a := 1) F (by omega) (by decide) dL_law_273 dL_law_274 dL_law_275 dL_law_276 dL_law_277 ?_
  refine n_callI (Wf := Wm (xE X)) (wr := Wc (xE X) C2) (As := [.int (ys (i + 1))]) (rest := [.int r]) (r := r) (M2 := D2) (ci := 12) F (hX12_now h2 (xl X) (xE X)) lk12_now lm12_now 0 rfl rfl rfl rfl rfl ⟨Nat.le_of_ble_eq_true rfl, Nat.le_of_ble_eq_true rfl⟩ hcs (Nat.le_of_ble_eq_true rfl) dL_law_278 ?_
  exact n_icmp_eq (tgt := 1157) F.1 dL_law_281 (by decide) (fun _ => k C2 D2 h3) (fun c => absurd rfl c)
set_option maxRecDepth 100000 in
set_option maxHeartbeats 4000000 in
/-- ship -/
theorem law_4 {X : Cx} {kc kn b L i : Nat} {ys : Nat → Int32} {C D : Mem} (F : LawF X b L ys) (hcs : kc ≤ room_1.cells ∧ kn ≤ room_1.slots) (hi : i + 6 ≤ L) (hR : Rel C D) (k : ∀ C2 D2 : Mem, Rel C2 D2 → GN X kc kn (Wc (xE X) C2 ++ Wm (xE X) D2) 1157 (lvL X b i) []) : GN X kc kn (Wc (xE X) C ++ Wm (xE X) D) 286 (lvL X b i) [] := by
  obtain ⟨r, C2, D2, h1, h2, h3⟩ := op_ship hR (ys (i + 1)) (ys (i + 2))
  refine n_aload_n F.1 dL_law_286 rfl 1 rfl ?_
  refine n_arg (a := 1) F (by omega) (by decide) dL_law_287 dL_law_288 dL_law_289 dL_law_290 dL_law_291 ?_
  refine n_arg (a := 2) F (by omega) (by decide) dL_law_292 dL_law_293 dL_law_294 dL_law_295 dL_law_296 ?_
  refine n_callI (Wf := Wc (xE X)) (wr := Wm (xE X) D) (As := [.int (ys (i + 1)), .int (ys (i + 2))]) (rest := []) (r := r) (M2 := C2) (ci := 11) F (hX11_ship h1 (xl X) (xE X)) lk11_ship lm11_ship 0 rfl (wc_T _ _) rfl rfl rfl ⟨Nat.le_of_ble_eq_true rfl, Nat.le_of_ble_eq_true rfl⟩ hcs (by decide) dL_law_297 ?_
  refine n_aload_n F.1 dL_law_300 rfl 2 rfl ?_
  refine n_arg (a := 1) F (by omega) (by decide) dL_law_301 dL_law_302 dL_law_303 dL_law_304 dL_law_305 ?_
  refine n_arg (a := 2) F (by omega) (by decide) dL_law_306 dL_law_307 dL_law_308 dL_law_309 dL_law_310 ?_
  refine n_callI (Wf := Wm (xE X)) (wr := Wc (xE X) C2) (As := [.int (ys (i + 1)), .int (ys (i + 2))]) (rest := [.int r]) (r := r) (M2 := D2) (ci := 12) F (hX12_ship h2 (xl X) (xE X)) lk12_ship lm12_ship 0 rfl rfl rfl rfl rfl ⟨Nat.le_of_ble_eq_true rfl, Nat.le_of_ble_eq_true rfl⟩ hcs (Nat.le_of_ble_eq_true rfl) dL_law_311 ?_
  exact n_icmp_eq (tgt := 1157) F.1 dL_law_314 (by decide) (fun _ => k C2 D2 h3) (fun c => absurd rfl c)
set_option maxRecDepth 100000 in
set_option maxHeartbeats 4000000 in
/-- of -/
theorem law_5 {X : Cx} {kc kn b L i : Nat} {ys : Nat → Int32} {C D : Mem} (F : LawF X b L ys) (hcs : kc ≤ room_1.cells ∧ kn ≤ room_1.slots) (hi : i + 6 ≤ L) (hR : Rel C D) (k : ∀ C2 D2 : Mem, Rel C2 D2 → GN X kc kn (Wc (xE X) C2 ++ Wm (xE X) D2) 1157 (lvL X b i) []) : GN X kc kn (Wc (xE X) C ++ Wm (xE X) D) 319 (lvL X b i) [] := by
  obtain ⟨r, C2, D2, h1, h2, h3⟩ := op_of hR (ys (i + 1)) (ys (i + 2))
  refine n_aload_n F.1 dL_law_319 rfl 1 rfl ?_
  refine n_arg (a := 1) F (by omega) (by decide) dL_law_320 dL_law_321 dL_law_322 dL_law_323 dL_law_324 ?_
  refine n_arg (a := 2) F (by omega) (by decide) dL_law_325 dL_law_326 dL_law_327 dL_law_328 dL_law_329 ?_
  refine n_callI (Wf := Wc (xE X)) (wr := Wm (xE X) D) (As := [.int (ys (i + 1)), .int (ys (i + 2))]) (rest := []) (r := r) (M2 := C2) (ci := 11) F (hX11_of h1 (xl X) (xE X)) lk11_of lm11_of 0 rfl (wc_T _ _) rfl rfl rfl ⟨Nat.le_of_ble_eq_true rfl, Nat.le_of_ble_eq_true rfl⟩ hcs (by decide) dL_law_330 ?_
  refine n_aload_n F.1 dL_law_333 rfl 2 rfl ?_
  refine n_arg (a := 1) F (by omega) (by decide) dL_law_334 dL_law_335 dL_law_336 dL_law_337 dL_law_338 ?_
  refine n_arg (a := 2) F (by omega) (by decide) dL_law_339 dL_law_340 dL_law_341 dL_law_342 dL_law_343 ?_
  refine n_callI (Wf := Wm (xE X)) (wr := Wc (xE X) C2) (As := [.int (ys (i + 1)), .int (ys (i + 2))]) (rest := [.int r]) (r := r) (M2 := D2) (ci := 12) F (hX12_of h2 (xl X) (xE X)) lk12_of lm12_of 0 rfl rfl rfl rfl rfl ⟨Nat.le_of_ble_eq_true rfl, Nat.le_of_ble_eq_true rfl⟩ hcs (Nat.le_of_ble_eq_true rfl) dL_law_344 ?_
  exact n_icmp_eq (tgt := 1157) F.1 dL_law_347 (by decide) (fun _ => k C2 D2 h3) (fun c => absurd rfl c)
set_option maxRecDepth 100000 in
set_option maxHeartbeats 4000000 in
/-- set -/
theorem law_6 {X : Cx} {kc kn b L i : Nat} {ys : Nat → Int32} {C D : Mem} (F : LawF X b L ys) (hcs : kc ≤ room_1.cells ∧ kn ≤ room_1.slots) (hi : i + 6 ≤ L) (hR : Rel C D) (k : ∀ C2 D2 : Mem, Rel C2 D2 → GN X kc kn (Wc (xE X) C2 ++ Wm (xE X) D2) 1157 (lvL X b i) []) : GN X kc kn (Wc (xE X) C ++ Wm (xE X) D) 352 (lvL X b i) [] := by
  obtain ⟨r, C2, D2, h1, h2, h3⟩ := op_set hR (ys (i + 1)) (ys (i + 2)) (ys (i + 3))
  refine n_aload_n F.1 dL_law_352 rfl 1 rfl ?_
  refine n_arg (a := 1) F (by omega) (by decide) dL_law_353 dL_law_354 dL_law_355 dL_law_356 dL_law_357 ?_
  refine n_arg (a := 2) F (by omega) (by decide) dL_law_358 dL_law_359 dL_law_360 dL_law_361 dL_law_362 ?_
  refine n_arg (a := 3) F (by omega) (by decide) dL_law_363 dL_law_364 dL_law_365 dL_law_366 dL_law_367 ?_
  refine n_callI (Wf := Wc (xE X)) (wr := Wm (xE X) D) (As := [.int (ys (i + 1)), .int (ys (i + 2)), .int (ys (i + 3))]) (rest := []) (r := r) (M2 := C2) (ci := 11) F (hX11_set h1 (xl X) (xE X)) lk11_set lm11_set 0 rfl (wc_T _ _) rfl rfl rfl ⟨Nat.le_of_ble_eq_true rfl, Nat.le_of_ble_eq_true rfl⟩ hcs (by decide) dL_law_368 ?_
  refine n_aload_n F.1 dL_law_371 rfl 2 rfl ?_
  refine n_arg (a := 1) F (by omega) (by decide) dL_law_372 dL_law_373 dL_law_374 dL_law_375 dL_law_376 ?_
  refine n_arg (a := 2) F (by omega) (by decide) dL_law_377 dL_law_378 dL_law_379 dL_law_380 dL_law_381 ?_
  refine n_arg (a := 3) F (by omega) (by decide) dL_law_382 dL_law_383 dL_law_384 dL_law_385 dL_law_386 ?_
  refine n_callI (Wf := Wm (xE X)) (wr := Wc (xE X) C2) (As := [.int (ys (i + 1)), .int (ys (i + 2)), .int (ys (i + 3))]) (rest := [.int r]) (r := r) (M2 := D2) (ci := 12) F (hX12_set h2 (xl X) (xE X)) lk12_set lm12_set 0 rfl rfl rfl rfl rfl ⟨Nat.le_of_ble_eq_true rfl, Nat.le_of_ble_eq_true rfl⟩ hcs (Nat.le_of_ble_eq_true rfl) dL_law_387 ?_
  exact n_icmp_eq (tgt := 1157) F.1 dL_law_390 (by decide) (fun _ => k C2 D2 h3) (fun c => absurd rfl c)
set_option maxRecDepth 100000 in
set_option maxHeartbeats 4000000 in
/-- turn -/
theorem law_7 {X : Cx} {kc kn b L i : Nat} {ys : Nat → Int32} {C D : Mem} (F : LawF X b L ys) (hcs : kc ≤ room_1.cells ∧ kn ≤ room_1.slots) (hi : i + 6 ≤ L) (hR : Rel C D) (k : ∀ C2 D2 : Mem, Rel C2 D2 → GN X kc kn (Wc (xE X) C2 ++ Wm (xE X) D2) 1157 (lvL X b i) []) : GN X kc kn (Wc (xE X) C ++ Wm (xE X) D) 395 (lvL X b i) [] := by
  obtain ⟨r, C2, D2, h1, h2, h3⟩ := op_turn hR (ys (i + 1)) (ys (i + 2))
  refine n_aload_n F.1 dL_law_395 rfl 1 rfl ?_
  refine n_arg (a := 1) F (by omega) (by decide) dL_law_396 dL_law_397 dL_law_398 dL_law_399 dL_law_400 ?_
  refine n_arg (a := 2) F (by omega) (by decide) dL_law_401 dL_law_402 dL_law_403 dL_law_404 dL_law_405 ?_
  refine n_callI (Wf := Wc (xE X)) (wr := Wm (xE X) D) (As := [.int (ys (i + 1)), .int (ys (i + 2))]) (rest := []) (r := r) (M2 := C2) (ci := 11) F (hX11_turn h1 (xl X) (xE X)) lk11_turn lm11_turn 0 rfl (wc_T _ _) rfl rfl rfl ⟨Nat.le_of_ble_eq_true rfl, Nat.le_of_ble_eq_true rfl⟩ hcs (by decide) dL_law_406 ?_
  refine n_aload_n F.1 dL_law_409 rfl 2 rfl ?_
  refine n_arg (a := 1) F (by omega) (by decide) dL_law_410 dL_law_411 dL_law_412 dL_law_413 dL_law_414 ?_
  refine n_arg (a := 2) F (by omega) (by decide) dL_law_415 dL_law_416 dL_law_417 dL_law_418 dL_law_419 ?_
  refine n_callI (Wf := Wm (xE X)) (wr := Wc (xE X) C2) (As := [.int (ys (i + 1)), .int (ys (i + 2))]) (rest := [.int r]) (r := r) (M2 := D2) (ci := 12) F (hX12_turn h2 (xl X) (xE X)) lk12_turn lm12_turn 0 rfl rfl rfl rfl rfl ⟨Nat.le_of_ble_eq_true rfl, Nat.le_of_ble_eq_true rfl⟩ hcs (Nat.le_of_ble_eq_true rfl) dL_law_420 ?_
  exact n_icmp_eq (tgt := 1157) F.1 dL_law_423 (by decide) (fun _ => k C2 D2 h3) (fun c => absurd rfl c)
set_option maxRecDepth 100000 in
set_option maxHeartbeats 4000000 in
/-- as -/
theorem law_8 {X : Cx} {kc kn b L i : Nat} {ys : Nat → Int32} {C D : Mem} (F : LawF X b L ys) (hcs : kc ≤ room_1.cells ∧ kn ≤ room_1.slots) (hi : i + 6 ≤ L) (hR : Rel C D) (k : ∀ C2 D2 : Mem, Rel C2 D2 → GN X kc kn (Wc (xE X) C2 ++ Wm (xE X) D2) 1157 (lvL X b i) []) : GN X kc kn (Wc (xE X) C ++ Wm (xE X) D) 428 (lvL X b i) [] := by
  obtain ⟨r, C2, D2, h1, h2, h3⟩ := op_as hR (ys (i + 1)) (ys (i + 2))
  refine n_aload_n F.1 dL_law_428 rfl 1 rfl ?_
  refine n_arg (a := 1) F (by omega) (by decide) dL_law_429 dL_law_430 dL_law_431 dL_law_432 dL_law_433 ?_
  refine n_arg (a := 2) F (by omega) (by decide) dL_law_434 dL_law_435 dL_law_436 dL_law_437 dL_law_438 ?_
  refine n_callI (Wf := Wc (xE X)) (wr := Wm (xE X) D) (As := [.int (ys (i + 1)), .int (ys (i + 2))]) (rest := []) (r := r) (M2 := C2) (ci := 11) F (hX11_as h1 (xl X) (xE X)) lk11_as lm11_as 0 rfl (wc_T _ _) rfl rfl rfl ⟨Nat.le_of_ble_eq_true rfl, Nat.le_of_ble_eq_true rfl⟩ hcs (by decide) dL_law_439 ?_
  refine n_aload_n F.1 dL_law_442 rfl 2 rfl ?_
  refine n_arg (a := 1) F (by omega) (by decide) dL_law_443 dL_law_444 dL_law_445 dL_law_446 dL_law_447 ?_
  refine n_arg (a := 2) F (by omega) (by decide) dL_law_448 dL_law_449 dL_law_450 dL_law_451 dL_law_452 ?_
  refine n_callI (Wf := Wm (xE X)) (wr := Wc (xE X) C2) (As := [.int (ys (i + 1)), .int (ys (i + 2))]) (rest := [.int r]) (r := r) (M2 := D2) (ci := 12) F (hX12_as h2 (xl X) (xE X)) lk12_as lm12_as 0 rfl rfl rfl rfl rfl ⟨Nat.le_of_ble_eq_true rfl, Nat.le_of_ble_eq_true rfl⟩ hcs (Nat.le_of_ble_eq_true rfl) dL_law_453 ?_
  exact n_icmp_eq (tgt := 1157) F.1 dL_law_456 (by decide) (fun _ => k C2 D2 h3) (fun c => absurd rfl c)
set_option maxRecDepth 100000 in
set_option maxHeartbeats 4000000 in
/-- hours -/
theorem law_9 {X : Cx} {kc kn b L i : Nat} {ys : Nat → Int32} {C D : Mem} (F : LawF X b L ys) (hcs : kc ≤ room_1.cells ∧ kn ≤ room_1.slots) (hi : i + 6 ≤ L) (hR : Rel C D) (k : ∀ C2 D2 : Mem, Rel C2 D2 → GN X kc kn (Wc (xE X) C2 ++ Wm (xE X) D2) 1157 (lvL X b i) []) : GN X kc kn (Wc (xE X) C ++ Wm (xE X) D) 461 (lvL X b i) [] := by
  obtain ⟨r, C2, D2, h1, h2, h3⟩ := op_hours hR (N := 300) (by decide) (ys (i + 1))
  refine n_aload_n F.1 dL_law_461 rfl 1 rfl ?_
  refine n_arg (a := 1) F (by omega) (by decide) dL_law_462 dL_law_463 dL_law_464 dL_law_465 dL_law_466 ?_
  refine n_callI (Wf := Wc (xE X)) (wr := Wm (xE X) D) (As := [.int (ys (i + 1))]) (rest := []) (r := r) (M2 := C2) (ci := 11) F (hX11_hours h1 (xl X) (xE X)) lk11_hours lm11_hours 0 rfl (wc_T _ _) rfl rfl rfl ⟨Nat.le_of_ble_eq_true rfl, Nat.le_of_ble_eq_true rfl⟩ hcs (by decide) dL_law_467 ?_
  refine n_aload_n F.1 dL_law_470 rfl 2 rfl ?_
  refine n_arg (a := 1) F (by omega) (by decide) dL_law_471 dL_law_472 dL_law_473 dL_law_474 dL_law_475 ?_
  refine n_callI (Wf := Wm (xE X)) (wr := Wc (xE X) C2) (As := [.int (ys (i + 1))]) (rest := [.int r]) (r := r) (M2 := D2) (ci := 12) F (hX12_hours h2 (xl X) (xE X)) lk12_hours lm12_hours 0 rfl rfl rfl rfl rfl ⟨Nat.le_of_ble_eq_true rfl, Nat.le_of_ble_eq_true rfl⟩ hcs (Nat.le_of_ble_eq_true rfl) dL_law_476 ?_
  exact n_icmp_eq (tgt := 1157) F.1 dL_law_479 (by decide) (fun _ => k C2 D2 h3) (fun c => absurd rfl c)
set_option maxRecDepth 100000 in
set_option maxHeartbeats 4000000 in
/-- on -/
theorem law_10 {X : Cx} {kc kn b L i : Nat} {ys : Nat → Int32} {C D : Mem} (F : LawF X b L ys) (hcs : kc ≤ room_1.cells ∧ kn ≤ room_1.slots) (hi : i + 6 ≤ L) (hR : Rel C D) (k : ∀ C2 D2 : Mem, Rel C2 D2 → GN X kc kn (Wc (xE X) C2 ++ Wm (xE X) D2) 1157 (lvL X b i) []) : GN X kc kn (Wc (xE X) C ++ Wm (xE X) D) 484 (lvL X b i) [] := by
  obtain ⟨r, C2, D2, h1, h2, h3⟩ := op_on hR (N := 300) (by decide) (ys (i + 1)) (ys (i + 2)) (ys (i + 3))
  refine n_aload_n F.1 dL_law_484 rfl 1 rfl ?_
  refine n_arg (a := 1) F (by omega) (by decide) dL_law_485 dL_law_486 dL_law_487 dL_law_488 dL_law_489 ?_
  refine n_arg (a := 2) F (by omega) (by decide) dL_law_490 dL_law_491 dL_law_492 dL_law_493 dL_law_494 ?_
  refine n_arg (a := 3) F (by omega) (by decide) dL_law_495 dL_law_496 dL_law_497 dL_law_498 dL_law_499 ?_
  refine n_callI (Wf := Wc (xE X)) (wr := Wm (xE X) D) (As := [.int (ys (i + 1)), .int (ys (i + 2)), .int (ys (i + 3))]) (rest := []) (r := r) (M2 := C2) (ci := 11) F (hX11_on h1 (xl X) (xE X)) lk11_on lm11_on 0 rfl (wc_T _ _) rfl rfl rfl ⟨Nat.le_of_ble_eq_true rfl, Nat.le_of_ble_eq_true rfl⟩ hcs (by decide) dL_law_500 ?_
  refine n_aload_n F.1 dL_law_503 rfl 2 rfl ?_
  refine n_arg (a := 1) F (by omega) (by decide) dL_law_504 dL_law_505 dL_law_506 dL_law_507 dL_law_508 ?_
  refine n_arg (a := 2) F (by omega) (by decide) dL_law_509 dL_law_510 dL_law_511 dL_law_512 dL_law_513 ?_
  refine n_arg (a := 3) F (by omega) (by decide) dL_law_514 dL_law_515 dL_law_516 dL_law_517 dL_law_518 ?_
  refine n_callI (Wf := Wm (xE X)) (wr := Wc (xE X) C2) (As := [.int (ys (i + 1)), .int (ys (i + 2)), .int (ys (i + 3))]) (rest := [.int r]) (r := r) (M2 := D2) (ci := 12) F (hX12_on h2 (xl X) (xE X)) lk12_on lm12_on 0 rfl rfl rfl rfl rfl ⟨Nat.le_of_ble_eq_true rfl, Nat.le_of_ble_eq_true rfl⟩ hcs (Nat.le_of_ble_eq_true rfl) dL_law_519 ?_
  exact n_icmp_eq (tgt := 1157) F.1 dL_law_522 (by decide) (fun _ => k C2 D2 h3) (fun c => absurd rfl c)
set_option maxRecDepth 100000 in
set_option maxHeartbeats 4000000 in
/-- then -/
theorem law_11 {X : Cx} {kc kn b L i : Nat} {ys : Nat → Int32} {C D : Mem} (F : LawF X b L ys) (hcs : kc ≤ room_1.cells ∧ kn ≤ room_1.slots) (hi : i + 6 ≤ L) (hR : Rel C D) (k : ∀ C2 D2 : Mem, Rel C2 D2 → GN X kc kn (Wc (xE X) C2 ++ Wm (xE X) D2) 1157 (lvL X b i) []) : GN X kc kn (Wc (xE X) C ++ Wm (xE X) D) 527 (lvL X b i) [] := by
  obtain ⟨r, C2, D2, h1, h2, h3⟩ := op_then hR (N := 300) (by decide) (ys (i + 1)) (ys (i + 2))
  refine n_aload_n F.1 dL_law_527 rfl 1 rfl ?_
  refine n_arg (a := 1) F (by omega) (by decide) dL_law_528 dL_law_529 dL_law_530 dL_law_531 dL_law_532 ?_
  refine n_arg (a := 2) F (by omega) (by decide) dL_law_533 dL_law_534 dL_law_535 dL_law_536 dL_law_537 ?_
  refine n_callI (Wf := Wc (xE X)) (wr := Wm (xE X) D) (As := [.int (ys (i + 1)), .int (ys (i + 2))]) (rest := []) (r := r) (M2 := C2) (ci := 11) F (hX11_then h1 (xl X) (xE X)) lk11_then lm11_then 0 rfl (wc_T _ _) rfl rfl rfl ⟨Nat.le_of_ble_eq_true rfl, Nat.le_of_ble_eq_true rfl⟩ hcs (by decide) dL_law_538 ?_
  refine n_aload_n F.1 dL_law_541 rfl 2 rfl ?_
  refine n_arg (a := 1) F (by omega) (by decide) dL_law_542 dL_law_543 dL_law_544 dL_law_545 dL_law_546 ?_
  refine n_arg (a := 2) F (by omega) (by decide) dL_law_547 dL_law_548 dL_law_549 dL_law_550 dL_law_551 ?_
  refine n_callI (Wf := Wm (xE X)) (wr := Wc (xE X) C2) (As := [.int (ys (i + 1)), .int (ys (i + 2))]) (rest := [.int r]) (r := r) (M2 := D2) (ci := 12) F (hX12_then h2 (xl X) (xE X)) lk12_then lm12_then 0 rfl rfl rfl rfl rfl ⟨Nat.le_of_ble_eq_true rfl, Nat.le_of_ble_eq_true rfl⟩ hcs (Nat.le_of_ble_eq_true rfl) dL_law_552 ?_
  exact n_icmp_eq (tgt := 1157) F.1 dL_law_555 (by decide) (fun _ => k C2 D2 h3) (fun c => absurd rfl c)
set_option maxRecDepth 100000 in
set_option maxHeartbeats 4000000 in
/-- comes -/
theorem law_12 {X : Cx} {kc kn b L i : Nat} {ys : Nat → Int32} {C D : Mem} (F : LawF X b L ys) (hcs : kc ≤ room_1.cells ∧ kn ≤ room_1.slots) (hi : i + 6 ≤ L) (hR : Rel C D) (k : ∀ C2 D2 : Mem, Rel C2 D2 → GN X kc kn (Wc (xE X) C2 ++ Wm (xE X) D2) 1157 (lvL X b i) []) : GN X kc kn (Wc (xE X) C ++ Wm (xE X) D) 560 (lvL X b i) [] := by
  obtain ⟨r, C2, D2, h1, h2, h3⟩ := op_comes hR (N := 300) (by decide) (ys (i + 1))
  refine n_aload_n F.1 dL_law_560 rfl 1 rfl ?_
  refine n_arg (a := 1) F (by omega) (by decide) dL_law_561 dL_law_562 dL_law_563 dL_law_564 dL_law_565 ?_
  refine n_callI (Wf := Wc (xE X)) (wr := Wm (xE X) D) (As := [.int (ys (i + 1))]) (rest := []) (r := r) (M2 := C2) (ci := 11) F (hX11_comes h1 (xl X) (xE X)) lk11_comes lm11_comes 0 rfl (wc_T _ _) rfl rfl rfl ⟨Nat.le_of_ble_eq_true rfl, Nat.le_of_ble_eq_true rfl⟩ hcs (by decide) dL_law_566 ?_
  refine n_aload_n F.1 dL_law_569 rfl 2 rfl ?_
  refine n_arg (a := 1) F (by omega) (by decide) dL_law_570 dL_law_571 dL_law_572 dL_law_573 dL_law_574 ?_
  refine n_callI (Wf := Wm (xE X)) (wr := Wc (xE X) C2) (As := [.int (ys (i + 1))]) (rest := [.int r]) (r := r) (M2 := D2) (ci := 12) F (hX12_comes h2 (xl X) (xE X)) lk12_comes lm12_comes 0 rfl rfl rfl rfl rfl ⟨Nat.le_of_ble_eq_true rfl, Nat.le_of_ble_eq_true rfl⟩ hcs (Nat.le_of_ble_eq_true rfl) dL_law_575 ?_
  exact n_icmp_eq (tgt := 1157) F.1 dL_law_578 (by decide) (fun _ => k C2 D2 h3) (fun c => absurd rfl c)
set_option maxRecDepth 100000 in
set_option maxHeartbeats 4000000 in
/-- wrecks -/
theorem law_13 {X : Cx} {kc kn b L i : Nat} {ys : Nat → Int32} {C D : Mem} (F : LawF X b L ys) (hcs : kc ≤ room_1.cells ∧ kn ≤ room_1.slots) (hi : i + 6 ≤ L) (hR : Rel C D) (k : ∀ C2 D2 : Mem, Rel C2 D2 → GN X kc kn (Wc (xE X) C2 ++ Wm (xE X) D2) 1157 (lvL X b i) []) : GN X kc kn (Wc (xE X) C ++ Wm (xE X) D) 583 (lvL X b i) [] := by
  obtain ⟨r, C2, D2, h1, h2, h3⟩ := op_wrecks hR (N := 300) (by decide) (ys (i + 1))
  refine n_aload_n F.1 dL_law_583 rfl 1 rfl ?_
  refine n_arg (a := 1) F (by omega) (by decide) dL_law_584 dL_law_585 dL_law_586 dL_law_587 dL_law_588 ?_
  refine n_callI (Wf := Wc (xE X)) (wr := Wm (xE X) D) (As := [.int (ys (i + 1))]) (rest := []) (r := r) (M2 := C2) (ci := 11) F (hX11_wrecks h1 (xl X) (xE X)) lk11_wrecks lm11_wrecks 0 rfl (wc_T _ _) rfl rfl rfl ⟨Nat.le_of_ble_eq_true rfl, Nat.le_of_ble_eq_true rfl⟩ hcs (by decide) dL_law_589 ?_
  refine n_aload_n F.1 dL_law_592 rfl 2 rfl ?_
  refine n_arg (a := 1) F (by omega) (by decide) dL_law_593 dL_law_594 dL_law_595 dL_law_596 dL_law_597 ?_
  refine n_callI (Wf := Wm (xE X)) (wr := Wc (xE X) C2) (As := [.int (ys (i + 1))]) (rest := [.int r]) (r := r) (M2 := D2) (ci := 12) F (hX12_wrecks h2 (xl X) (xE X)) lk12_wrecks lm12_wrecks 0 rfl rfl rfl rfl rfl ⟨Nat.le_of_ble_eq_true rfl, Nat.le_of_ble_eq_true rfl⟩ hcs (Nat.le_of_ble_eq_true rfl) dL_law_598 ?_
  exact n_icmp_eq (tgt := 1157) F.1 dL_law_601 (by decide) (fun _ => k C2 D2 h3) (fun c => absurd rfl c)
set_option maxRecDepth 100000 in
set_option maxHeartbeats 4000000 in
/-- row -/
theorem law_14 {X : Cx} {kc kn b L i : Nat} {ys : Nat → Int32} {C D : Mem} (F : LawF X b L ys) (hcs : kc ≤ room_1.cells ∧ kn ≤ room_1.slots) (hi : i + 6 ≤ L) (hR : Rel C D) (k : ∀ C2 D2 : Mem, Rel C2 D2 → GN X kc kn (Wc (xE X) C2 ++ Wm (xE X) D2) 1157 (lvL X b i) []) : GN X kc kn (Wc (xE X) C ++ Wm (xE X) D) 606 (lvL X b i) [] := by
  obtain ⟨r, C2, D2, h1, h2, h3⟩ := op_row hR (N := 300) (by decide) (ys (i + 1))
  refine n_aload_n F.1 dL_law_606 rfl 1 rfl ?_
  refine n_arg (a := 1) F (by omega) (by decide) dL_law_607 dL_law_608 dL_law_609 dL_law_610 dL_law_611 ?_
  refine n_callI (Wf := Wc (xE X)) (wr := Wm (xE X) D) (As := [.int (ys (i + 1))]) (rest := []) (r := r) (M2 := C2) (ci := 11) F (hX11_row h1 (xl X) (xE X)) lk11_row lm11_row 0 rfl (wc_T _ _) rfl rfl rfl ⟨Nat.le_of_ble_eq_true rfl, Nat.le_of_ble_eq_true rfl⟩ hcs (by decide) dL_law_612 ?_
  refine n_aload_n F.1 dL_law_615 rfl 2 rfl ?_
  refine n_arg (a := 1) F (by omega) (by decide) dL_law_616 dL_law_617 dL_law_618 dL_law_619 dL_law_620 ?_
  refine n_callI (Wf := Wm (xE X)) (wr := Wc (xE X) C2) (As := [.int (ys (i + 1))]) (rest := [.int r]) (r := r) (M2 := D2) (ci := 12) F (hX12_row h2 (xl X) (xE X)) lk12_row lm12_row 0 rfl rfl rfl rfl rfl ⟨Nat.le_of_ble_eq_true rfl, Nat.le_of_ble_eq_true rfl⟩ hcs (Nat.le_of_ble_eq_true rfl) dL_law_621 ?_
  exact n_icmp_eq (tgt := 1157) F.1 dL_law_624 (by decide) (fun _ => k C2 D2 h3) (fun c => absurd rfl c)
set_option maxRecDepth 100000 in
set_option maxHeartbeats 4000000 in
/-- kind -/
theorem law_15 {X : Cx} {kc kn b L i : Nat} {ys : Nat → Int32} {C D : Mem} (F : LawF X b L ys) (hcs : kc ≤ room_1.cells ∧ kn ≤ room_1.slots) (hi : i + 6 ≤ L) (hR : Rel C D) (k : ∀ C2 D2 : Mem, Rel C2 D2 → GN X kc kn (Wc (xE X) C2 ++ Wm (xE X) D2) 1157 (lvL X b i) []) : GN X kc kn (Wc (xE X) C ++ Wm (xE X) D) 629 (lvL X b i) [] := by
  obtain ⟨r, C2, D2, h1, h2, h3⟩ := op_kind hR (N := 300) (by decide) (ys (i + 1))
  refine n_aload_n F.1 dL_law_629 rfl 1 rfl ?_
  refine n_arg (a := 1) F (by omega) (by decide) dL_law_630 dL_law_631 dL_law_632 dL_law_633 dL_law_634 ?_
  refine n_callI (Wf := Wc (xE X)) (wr := Wm (xE X) D) (As := [.int (ys (i + 1))]) (rest := []) (r := r) (M2 := C2) (ci := 11) F (hX11_kind h1 (xl X) (xE X)) lk11_kind lm11_kind 0 rfl (wc_T _ _) rfl rfl rfl ⟨Nat.le_of_ble_eq_true rfl, Nat.le_of_ble_eq_true rfl⟩ hcs (by decide) dL_law_635 ?_
  refine n_aload_n F.1 dL_law_638 rfl 2 rfl ?_
  refine n_arg (a := 1) F (by omega) (by decide) dL_law_639 dL_law_640 dL_law_641 dL_law_642 dL_law_643 ?_
  refine n_callI (Wf := Wm (xE X)) (wr := Wc (xE X) C2) (As := [.int (ys (i + 1))]) (rest := [.int r]) (r := r) (M2 := D2) (ci := 12) F (hX12_kind h2 (xl X) (xE X)) lk12_kind lm12_kind 0 rfl rfl rfl rfl rfl ⟨Nat.le_of_ble_eq_true rfl, Nat.le_of_ble_eq_true rfl⟩ hcs (Nat.le_of_ble_eq_true rfl) dL_law_644 ?_
  exact n_icmp_eq (tgt := 1157) F.1 dL_law_647 (by decide) (fun _ => k C2 D2 h3) (fun c => absurd rfl c)
set_option maxRecDepth 100000 in
set_option maxHeartbeats 4000000 in
/-- shine -/
theorem law_16 {X : Cx} {kc kn b L i : Nat} {ys : Nat → Int32} {C D : Mem} (F : LawF X b L ys) (hcs : kc ≤ room_1.cells ∧ kn ≤ room_1.slots) (hi : i + 6 ≤ L) (hR : Rel C D) (k : ∀ C2 D2 : Mem, Rel C2 D2 → GN X kc kn (Wc (xE X) C2 ++ Wm (xE X) D2) 1157 (lvL X b i) []) : GN X kc kn (Wc (xE X) C ++ Wm (xE X) D) 652 (lvL X b i) [] := by
  obtain ⟨r, C2, D2, h1, h2, h3⟩ := op_shine hR (N := 300) (by decide) (ys (i + 1))
  refine n_aload_n F.1 dL_law_652 rfl 1 rfl ?_
  refine n_arg (a := 1) F (by omega) (by decide) dL_law_653 dL_law_654 dL_law_655 dL_law_656 dL_law_657 ?_
  refine n_callI (Wf := Wc (xE X)) (wr := Wm (xE X) D) (As := [.int (ys (i + 1))]) (rest := []) (r := r) (M2 := C2) (ci := 11) F (hX11_shine h1 (xl X) (xE X)) lk11_shine lm11_shine 0 rfl (wc_T _ _) rfl rfl rfl ⟨Nat.le_of_ble_eq_true rfl, Nat.le_of_ble_eq_true rfl⟩ hcs (by decide) dL_law_658 ?_
  refine n_aload_n F.1 dL_law_661 rfl 2 rfl ?_
  refine n_arg (a := 1) F (by omega) (by decide) dL_law_662 dL_law_663 dL_law_664 dL_law_665 dL_law_666 ?_
  refine n_callI (Wf := Wm (xE X)) (wr := Wc (xE X) C2) (As := [.int (ys (i + 1))]) (rest := [.int r]) (r := r) (M2 := D2) (ci := 12) F (hX12_shine h2 (xl X) (xE X)) lk12_shine lm12_shine 0 rfl rfl rfl rfl rfl ⟨Nat.le_of_ble_eq_true rfl, Nat.le_of_ble_eq_true rfl⟩ hcs (Nat.le_of_ble_eq_true rfl) dL_law_667 ?_
  exact n_icmp_eq (tgt := 1157) F.1 dL_law_670 (by decide) (fun _ => k C2 D2 h3) (fun c => absurd rfl c)
set_option maxRecDepth 100000 in
set_option maxHeartbeats 4000000 in
/-- hour -/
theorem law_17 {X : Cx} {kc kn b L i : Nat} {ys : Nat → Int32} {C D : Mem} (F : LawF X b L ys) (hcs : kc ≤ room_1.cells ∧ kn ≤ room_1.slots) (hi : i + 6 ≤ L) (hR : Rel C D) (k : ∀ C2 D2 : Mem, Rel C2 D2 → GN X kc kn (Wc (xE X) C2 ++ Wm (xE X) D2) 1157 (lvL X b i) []) : GN X kc kn (Wc (xE X) C ++ Wm (xE X) D) 675 (lvL X b i) [] := by
  obtain ⟨r, C2, D2, h1, h2, h3⟩ := op_hour hR (N := 300) (by decide) (ys (i + 1))
  refine n_aload_n F.1 dL_law_675 rfl 1 rfl ?_
  refine n_arg (a := 1) F (by omega) (by decide) dL_law_676 dL_law_677 dL_law_678 dL_law_679 dL_law_680 ?_
  refine n_callI (Wf := Wc (xE X)) (wr := Wm (xE X) D) (As := [.int (ys (i + 1))]) (rest := []) (r := r) (M2 := C2) (ci := 11) F (hX11_hour h1 (xl X) (xE X)) lk11_hour lm11_hour 0 rfl (wc_T _ _) rfl rfl rfl ⟨Nat.le_of_ble_eq_true rfl, Nat.le_of_ble_eq_true rfl⟩ hcs (by decide) dL_law_681 ?_
  refine n_aload_n F.1 dL_law_684 rfl 2 rfl ?_
  refine n_arg (a := 1) F (by omega) (by decide) dL_law_685 dL_law_686 dL_law_687 dL_law_688 dL_law_689 ?_
  refine n_callI (Wf := Wm (xE X)) (wr := Wc (xE X) C2) (As := [.int (ys (i + 1))]) (rest := [.int r]) (r := r) (M2 := D2) (ci := 12) F (hX12_hour h2 (xl X) (xE X)) lk12_hour lm12_hour 0 rfl rfl rfl rfl rfl ⟨Nat.le_of_ble_eq_true rfl, Nat.le_of_ble_eq_true rfl⟩ hcs (Nat.le_of_ble_eq_true rfl) dL_law_690 ?_
  exact n_icmp_eq (tgt := 1157) F.1 dL_law_693 (by decide) (fun _ => k C2 D2 h3) (fun c => absurd rfl c)
set_option maxRecDepth 100000 in
set_option maxHeartbeats 4000000 in
/-- site -/
theorem law_18 {X : Cx} {kc kn b L i : Nat} {ys : Nat → Int32} {C D : Mem} (F : LawF X b L ys) (hcs : kc ≤ room_1.cells ∧ kn ≤ room_1.slots) (hi : i + 6 ≤ L) (hR : Rel C D) (k : ∀ C2 D2 : Mem, Rel C2 D2 → GN X kc kn (Wc (xE X) C2 ++ Wm (xE X) D2) 1157 (lvL X b i) []) : GN X kc kn (Wc (xE X) C ++ Wm (xE X) D) 698 (lvL X b i) [] := by
  obtain ⟨r, C2, D2, h1, h2, h3⟩ := op_site hR (N := 300) (by decide) (ys (i + 1))
  refine n_aload_n F.1 dL_law_698 rfl 1 rfl ?_
  refine n_arg (a := 1) F (by omega) (by decide) dL_law_699 dL_law_700 dL_law_701 dL_law_702 dL_law_703 ?_
  refine n_callI (Wf := Wc (xE X)) (wr := Wm (xE X) D) (As := [.int (ys (i + 1))]) (rest := []) (r := r) (M2 := C2) (ci := 11) F (hX11_site h1 (xl X) (xE X)) lk11_site lm11_site 0 rfl (wc_T _ _) rfl rfl rfl ⟨Nat.le_of_ble_eq_true rfl, Nat.le_of_ble_eq_true rfl⟩ hcs (by decide) dL_law_704 ?_
  refine n_aload_n F.1 dL_law_707 rfl 2 rfl ?_
  refine n_arg (a := 1) F (by omega) (by decide) dL_law_708 dL_law_709 dL_law_710 dL_law_711 dL_law_712 ?_
  refine n_callI (Wf := Wm (xE X)) (wr := Wc (xE X) C2) (As := [.int (ys (i + 1))]) (rest := [.int r]) (r := r) (M2 := D2) (ci := 12) F (hX12_site h2 (xl X) (xE X)) lk12_site lm12_site 0 rfl rfl rfl rfl rfl ⟨Nat.le_of_ble_eq_true rfl, Nat.le_of_ble_eq_true rfl⟩ hcs (Nat.le_of_ble_eq_true rfl) dL_law_713 ?_
  exact n_icmp_eq (tgt := 1157) F.1 dL_law_716 (by decide) (fun _ => k C2 D2 h3) (fun c => absurd rfl c)
set_option maxRecDepth 100000 in
set_option maxHeartbeats 4000000 in
/-- nearest -/
theorem law_19 {X : Cx} {kc kn b L i : Nat} {ys : Nat → Int32} {C D : Mem} (F : LawF X b L ys) (hcs : kc ≤ room_1.cells ∧ kn ≤ room_1.slots) (hi : i + 6 ≤ L) (hR : Rel C D) (k : ∀ C2 D2 : Mem, Rel C2 D2 → GN X kc kn (Wc (xE X) C2 ++ Wm (xE X) D2) 1157 (lvL X b i) []) : GN X kc kn (Wc (xE X) C ++ Wm (xE X) D) 721 (lvL X b i) [] := by
  obtain ⟨r, C2, D2, h1, h2, h3⟩ := op_nearest hR (N := 300) (by decide) (ys (i + 1))
  refine n_aload_n F.1 dL_law_721 rfl 1 rfl ?_
  refine n_arg (a := 1) F (by omega) (by decide) dL_law_722 dL_law_723 dL_law_724 dL_law_725 dL_law_726 ?_
  refine n_callI (Wf := Wc (xE X)) (wr := Wm (xE X) D) (As := [.int (ys (i + 1))]) (rest := []) (r := r) (M2 := C2) (ci := 11) F (hX11_nearest h1 (xl X) (xE X)) lk11_nearest lm11_nearest 0 rfl (wc_T _ _) rfl rfl rfl ⟨Nat.le_of_ble_eq_true rfl, Nat.le_of_ble_eq_true rfl⟩ hcs (by decide) dL_law_727 ?_
  refine n_aload_n F.1 dL_law_730 rfl 2 rfl ?_
  refine n_arg (a := 1) F (by omega) (by decide) dL_law_731 dL_law_732 dL_law_733 dL_law_734 dL_law_735 ?_
  refine n_callI (Wf := Wm (xE X)) (wr := Wc (xE X) C2) (As := [.int (ys (i + 1))]) (rest := [.int r]) (r := r) (M2 := D2) (ci := 12) F (hX12_nearest h2 (xl X) (xE X)) lk12_nearest lm12_nearest 0 rfl rfl rfl rfl rfl ⟨Nat.le_of_ble_eq_true rfl, Nat.le_of_ble_eq_true rfl⟩ hcs (Nat.le_of_ble_eq_true rfl) dL_law_736 ?_
  exact n_icmp_eq (tgt := 1157) F.1 dL_law_739 (by decide) (fun _ => k C2 D2 h3) (fun c => absurd rfl c)
set_option maxRecDepth 100000 in
set_option maxHeartbeats 4000000 in
/-- feed -/
theorem law_20 {X : Cx} {kc kn b L i : Nat} {ys : Nat → Int32} {C D : Mem} (F : LawF X b L ys) (hcs : kc ≤ room_1.cells ∧ kn ≤ room_1.slots) (hi : i + 6 ≤ L) (hR : Rel C D) (k : ∀ C2 D2 : Mem, Rel C2 D2 → GN X kc kn (Wc (xE X) C2 ++ Wm (xE X) D2) 1157 (lvL X b i) []) : GN X kc kn (Wc (xE X) C ++ Wm (xE X) D) 744 (lvL X b i) [] := by
  obtain ⟨r, C2, D2, h1, h2, h3⟩ := op_feed hR (N := 300) (by decide) (ys (i + 1)) (ys (i + 2))
  refine n_aload_n F.1 dL_law_744 rfl 1 rfl ?_
  refine n_arg (a := 1) F (by omega) (by decide) dL_law_745 dL_law_746 dL_law_747 dL_law_748 dL_law_749 ?_
  refine n_arg (a := 2) F (by omega) (by decide) dL_law_750 dL_law_751 dL_law_752 dL_law_753 dL_law_754 ?_
  refine n_callI (Wf := Wc (xE X)) (wr := Wm (xE X) D) (As := [.int (ys (i + 1)), .int (ys (i + 2))]) (rest := []) (r := r) (M2 := C2) (ci := 11) F (hX11_feed h1 (xl X) (xE X)) lk11_feed lm11_feed 0 rfl (wc_T _ _) rfl rfl rfl ⟨Nat.le_of_ble_eq_true rfl, Nat.le_of_ble_eq_true rfl⟩ hcs (by decide) dL_law_755 ?_
  refine n_aload_n F.1 dL_law_758 rfl 2 rfl ?_
  refine n_arg (a := 1) F (by omega) (by decide) dL_law_759 dL_law_760 dL_law_761 dL_law_762 dL_law_763 ?_
  refine n_arg (a := 2) F (by omega) (by decide) dL_law_764 dL_law_765 dL_law_766 dL_law_767 dL_law_768 ?_
  refine n_callI (Wf := Wm (xE X)) (wr := Wc (xE X) C2) (As := [.int (ys (i + 1)), .int (ys (i + 2))]) (rest := [.int r]) (r := r) (M2 := D2) (ci := 12) F (hX12_feed h2 (xl X) (xE X)) lk12_feed lm12_feed 0 rfl rfl rfl rfl rfl ⟨Nat.le_of_ble_eq_true rfl, Nat.le_of_ble_eq_true rfl⟩ hcs (Nat.le_of_ble_eq_true rfl) dL_law_769 ?_
  exact n_icmp_eq (tgt := 1157) F.1 dL_law_772 (by decide) (fun _ => k C2 D2 h3) (fun c => absurd rfl c)
set_option maxRecDepth 100000 in
set_option maxHeartbeats 4000000 in
/-- wipe -/
theorem law_21 {X : Cx} {kc kn b L i : Nat} {ys : Nat → Int32} {C D : Mem} (F : LawF X b L ys) (hcs : kc ≤ room_1.cells ∧ kn ≤ room_1.slots) (hi : i + 6 ≤ L) (hR : Rel C D) (k : ∀ C2 D2 : Mem, Rel C2 D2 → GN X kc kn (Wc (xE X) C2 ++ Wm (xE X) D2) 1157 (lvL X b i) []) : GN X kc kn (Wc (xE X) C ++ Wm (xE X) D) 777 (lvL X b i) [] := by
  obtain ⟨r, C2, D2, h1, h2, h3⟩ := op_wipe hR
  refine n_aload_n F.1 dL_law_777 rfl 1 rfl ?_
  refine n_callI (Wf := Wc (xE X)) (wr := Wm (xE X) D) (As := []) (rest := []) (r := r) (M2 := C2) (ci := 11) F (hX11_wipe h1 (xl X) (xE X)) lk11_wipe lm11_wipe 0 rfl (wc_T _ _) rfl rfl rfl ⟨Nat.le_of_ble_eq_true rfl, Nat.le_of_ble_eq_true rfl⟩ hcs (by decide) dL_law_778 ?_
  refine n_aload_n F.1 dL_law_781 rfl 2 rfl ?_
  refine n_callI (Wf := Wm (xE X)) (wr := Wc (xE X) C2) (As := []) (rest := [.int r]) (r := r) (M2 := D2) (ci := 12) F (hX12_wipe h2 (xl X) (xE X)) lk12_wipe lm12_wipe 0 rfl rfl rfl rfl rfl ⟨Nat.le_of_ble_eq_true rfl, Nat.le_of_ble_eq_true rfl⟩ hcs (Nat.le_of_ble_eq_true rfl) dL_law_782 ?_
  exact n_icmp_eq (tgt := 1157) F.1 dL_law_785 (by decide) (fun _ => k C2 D2 h3) (fun c => absurd rfl c)
set_option maxRecDepth 100000 in
set_option maxHeartbeats 4000000 in
/-- sea -/
theorem law_22 {X : Cx} {kc kn b L i : Nat} {ys : Nat → Int32} {C D : Mem} (F : LawF X b L ys) (hcs : kc ≤ room_1.cells ∧ kn ≤ room_1.slots) (hi : i + 6 ≤ L) (hR : Rel C D) (k : ∀ C2 D2 : Mem, Rel C2 D2 → GN X kc kn (Wc (xE X) C2 ++ Wm (xE X) D2) 1157 (lvL X b i) []) : GN X kc kn (Wc (xE X) C ++ Wm (xE X) D) 790 (lvL X b i) [] := by
  obtain ⟨r, C2, D2, h1, h2, h3⟩ := op_sea hR (N := 300) (by decide)
  refine n_aload_n F.1 dL_law_790 rfl 1 rfl ?_
  refine n_callI (Wf := Wc (xE X)) (wr := Wm (xE X) D) (As := []) (rest := []) (r := r) (M2 := C2) (ci := 11) F (hX11_sea h1 (xl X) (xE X)) lk11_sea lm11_sea 0 rfl (wc_T _ _) rfl rfl rfl ⟨Nat.le_of_ble_eq_true rfl, Nat.le_of_ble_eq_true rfl⟩ hcs (by decide) dL_law_791 ?_
  refine n_aload_n F.1 dL_law_794 rfl 2 rfl ?_
  refine n_callI (Wf := Wm (xE X)) (wr := Wc (xE X) C2) (As := []) (rest := [.int r]) (r := r) (M2 := D2) (ci := 12) F (hX12_sea h2 (xl X) (xE X)) lk12_sea lm12_sea 0 rfl rfl rfl rfl rfl ⟨Nat.le_of_ble_eq_true rfl, Nat.le_of_ble_eq_true rfl⟩ hcs (Nat.le_of_ble_eq_true rfl) dL_law_795 ?_
  exact n_icmp_eq (tgt := 1157) F.1 dL_law_798 (by decide) (fun _ => k C2 D2 h3) (fun c => absurd rfl c)
set_option maxRecDepth 100000 in
set_option maxHeartbeats 4000000 in
/-- sheet -/
theorem law_23 {X : Cx} {kc kn b L i : Nat} {ys : Nat → Int32} {C D : Mem} (F : LawF X b L ys) (hcs : kc ≤ room_1.cells ∧ kn ≤ room_1.slots) (hi : i + 6 ≤ L) (hR : Rel C D) (k : ∀ C2 D2 : Mem, Rel C2 D2 → GN X kc kn (Wc (xE X) C2 ++ Wm (xE X) D2) 1157 (lvL X b i) []) : GN X kc kn (Wc (xE X) C ++ Wm (xE X) D) 803 (lvL X b i) [] := by
  obtain ⟨r, C2, D2, h1, h2, h3⟩ := op_sheet hR (N := 300) (by decide) (ys (i + 1)) (ys (i + 2)) (ys (i + 3))
  refine n_aload_n F.1 dL_law_803 rfl 1 rfl ?_
  refine n_arg (a := 1) F (by omega) (by decide) dL_law_804 dL_law_805 dL_law_806 dL_law_807 dL_law_808 ?_
  refine n_arg (a := 2) F (by omega) (by decide) dL_law_809 dL_law_810 dL_law_811 dL_law_812 dL_law_813 ?_
  refine n_arg (a := 3) F (by omega) (by decide) dL_law_814 dL_law_815 dL_law_816 dL_law_817 dL_law_818 ?_
  refine n_callI (Wf := Wc (xE X)) (wr := Wm (xE X) D) (As := [.int (ys (i + 1)), .int (ys (i + 2)), .int (ys (i + 3))]) (rest := []) (r := r) (M2 := C2) (ci := 11) F (hX11_sheet h1 (xl X) (xE X)) lk11_sheet lm11_sheet 0 rfl (wc_T _ _) rfl rfl rfl ⟨Nat.le_of_ble_eq_true rfl, Nat.le_of_ble_eq_true rfl⟩ hcs (by decide) dL_law_819 ?_
  refine n_aload_n F.1 dL_law_822 rfl 2 rfl ?_
  refine n_arg (a := 1) F (by omega) (by decide) dL_law_823 dL_law_824 dL_law_825 dL_law_826 dL_law_827 ?_
  refine n_arg (a := 2) F (by omega) (by decide) dL_law_828 dL_law_829 dL_law_830 dL_law_831 dL_law_832 ?_
  refine n_arg (a := 3) F (by omega) (by decide) dL_law_833 dL_law_834 dL_law_835 dL_law_836 dL_law_837 ?_
  refine n_callI (Wf := Wm (xE X)) (wr := Wc (xE X) C2) (As := [.int (ys (i + 1)), .int (ys (i + 2)), .int (ys (i + 3))]) (rest := [.int r]) (r := r) (M2 := D2) (ci := 12) F (hX12_sheet h2 (xl X) (xE X)) lk12_sheet lm12_sheet 0 rfl rfl rfl rfl rfl ⟨Nat.le_of_ble_eq_true rfl, Nat.le_of_ble_eq_true rfl⟩ hcs (Nat.le_of_ble_eq_true rfl) dL_law_838 ?_
  exact n_icmp_eq (tgt := 1157) F.1 dL_law_841 (by decide) (fun _ => k C2 D2 h3) (fun c => absurd rfl c)
set_option maxRecDepth 100000 in
set_option maxHeartbeats 4000000 in
/-- write -/
theorem law_24 {X : Cx} {kc kn b L i : Nat} {ys : Nat → Int32} {C D : Mem} (F : LawF X b L ys) (hcs : kc ≤ room_1.cells ∧ kn ≤ room_1.slots) (hi : i + 6 ≤ L) (hR : Rel C D) (k : ∀ C2 D2 : Mem, Rel C2 D2 → GN X kc kn (Wc (xE X) C2 ++ Wm (xE X) D2) 1157 (lvL X b i) []) : GN X kc kn (Wc (xE X) C ++ Wm (xE X) D) 846 (lvL X b i) [] := by
  obtain ⟨r, C2, D2, h1, h2, h3⟩ := op_write hR (ys (i + 1)) (ys (i + 2)) ((ys (i + 3)).toInt64 <<< ((32 : Int32).toInt64 &&& 63) ||| (ys (i + 4)).toInt64 &&& 4294967295)
  refine n_aload_n F.1 dL_law_846 rfl 1 rfl ?_
  refine n_arg (a := 1) F (by omega) (by decide) dL_law_847 dL_law_848 dL_law_849 dL_law_850 dL_law_851 ?_
  refine n_arg (a := 2) F (by omega) (by decide) dL_law_852 dL_law_853 dL_law_854 dL_law_855 dL_law_856 ?_
  refine n_arg (a := 3) F (by omega) (by decide) dL_law_857 dL_law_858 dL_law_859 dL_law_860 dL_law_861 ?_
  refine n_i2l F.1 dL_law_862 ?_
  refine n_bipush (v := 32) F.1 dL_law_863 (by decide) ?_
  refine n_lshl F.1 dL_law_865 ?_
  refine n_arg (a := 4) F (by omega) (by decide) dL_law_866 dL_law_867 dL_law_868 dL_law_869 dL_law_870 ?_
  refine n_i2l F.1 dL_law_871 ?_
  refine n_ldc2 (v := 4294967295) F.1 wL_ldc dL_law_872 ?_
  refine n_land F.1 dL_law_875 ?_
  refine n_lor F.1 dL_law_876 ?_
  refine n_callL (Wf := Wc (xE X)) (wr := Wm (xE X) D) (As := [.int (ys (i + 1)), .int (ys (i + 2)), .long ((ys (i + 3)).toInt64 <<< ((32 : Int32).toInt64 &&& 63) ||| (ys (i + 4)).toInt64 &&& 4294967295)]) (rest := []) (r := r) (M2 := C2) (ci := 11) F (hX11_write h1 (xl X) (xE X)) lk11_write lm11_write 0 rfl (wc_T _ _) rfl rfl rfl ⟨Nat.le_of_ble_eq_true rfl, Nat.le_of_ble_eq_true rfl⟩ hcs (by decide) dL_law_877 ?_
  refine n_aload_n F.1 dL_law_880 rfl 2 rfl ?_
  refine n_arg (a := 1) F (by omega) (by decide) dL_law_881 dL_law_882 dL_law_883 dL_law_884 dL_law_885 ?_
  refine n_arg (a := 2) F (by omega) (by decide) dL_law_886 dL_law_887 dL_law_888 dL_law_889 dL_law_890 ?_
  refine n_arg (a := 3) F (by omega) (by decide) dL_law_891 dL_law_892 dL_law_893 dL_law_894 dL_law_895 ?_
  refine n_i2l F.1 dL_law_896 ?_
  refine n_bipush (v := 32) F.1 dL_law_897 (by decide) ?_
  refine n_lshl F.1 dL_law_899 ?_
  refine n_arg (a := 4) F (by omega) (by decide) dL_law_900 dL_law_901 dL_law_902 dL_law_903 dL_law_904 ?_
  refine n_i2l F.1 dL_law_905 ?_
  refine n_ldc2 (v := 4294967295) F.1 wL_ldc dL_law_906 ?_
  refine n_land F.1 dL_law_909 ?_
  refine n_lor F.1 dL_law_910 ?_
  refine n_callL (Wf := Wm (xE X)) (wr := Wc (xE X) C2) (As := [.int (ys (i + 1)), .int (ys (i + 2)), .long ((ys (i + 3)).toInt64 <<< ((32 : Int32).toInt64 &&& 63) ||| (ys (i + 4)).toInt64 &&& 4294967295)]) (rest := [.long r]) (r := r) (M2 := D2) (ci := 12) F (hX12_write h2 (xl X) (xE X)) lk12_write lm12_write 0 rfl rfl rfl rfl rfl ⟨Nat.le_of_ble_eq_true rfl, Nat.le_of_ble_eq_true rfl⟩ hcs (Nat.le_of_ble_eq_true rfl) dL_law_911 ?_
  refine n_lcmp F.1 dL_law_914 ?_
  exact n_if_eq (tgt := 1157) F.1 dL_law_915 (by decide) (fun _ => k C2 D2 h3) (fun c => absurd ((lg_cmp_eq r r).mpr rfl) c)
set_option maxRecDepth 100000 in
set_option maxHeartbeats 4000000 in
/-- copy -/
theorem law_25 {X : Cx} {kc kn b L i : Nat} {ys : Nat → Int32} {C D : Mem} (F : LawF X b L ys) (hcs : kc ≤ room_1.cells ∧ kn ≤ room_1.slots) (hi : i + 6 ≤ L) (hR : Rel C D) (k : ∀ C2 D2 : Mem, Rel C2 D2 → GN X kc kn (Wc (xE X) C2 ++ Wm (xE X) D2) 1157 (lvL X b i) []) : GN X kc kn (Wc (xE X) C ++ Wm (xE X) D) 920 (lvL X b i) [] := by
  obtain ⟨r, C2, D2, h1, h2, h3⟩ := op_copy hR (N := 300) (by decide) (ys (i + 1)) (ys (i + 2)) (ys (i + 3)) (ys (i + 4)) (ys (i + 5))
  refine n_aload_n F.1 dL_law_920 rfl 1 rfl ?_
  refine n_arg (a := 1) F (by omega) (by decide) dL_law_921 dL_law_922 dL_law_923 dL_law_924 dL_law_925 ?_
  refine n_arg (a := 2) F (by omega) (by decide) dL_law_926 dL_law_927 dL_law_928 dL_law_929 dL_law_930 ?_
  refine n_arg (a := 3) F (by omega) (by decide) dL_law_931 dL_law_932 dL_law_933 dL_law_934 dL_law_935 ?_
  refine n_arg (a := 4) F (by omega) (by decide) dL_law_936 dL_law_937 dL_law_938 dL_law_939 dL_law_940 ?_
  refine n_arg (a := 5) F (by omega) (by decide) dL_law_941 dL_law_942 dL_law_943 dL_law_944 dL_law_945 ?_
  refine n_callI (Wf := Wc (xE X)) (wr := Wm (xE X) D) (As := [.int (ys (i + 1)), .int (ys (i + 2)), .int (ys (i + 3)), .int (ys (i + 4)), .int (ys (i + 5))]) (rest := []) (r := r) (M2 := C2) (ci := 11) F (hX11_copy h1 (xl X) (xE X)) lk11_copy lm11_copy 0 rfl (wc_T _ _) rfl rfl rfl ⟨Nat.le_of_ble_eq_true rfl, Nat.le_of_ble_eq_true rfl⟩ hcs (by decide) dL_law_946 ?_
  refine n_aload_n F.1 dL_law_949 rfl 2 rfl ?_
  refine n_arg (a := 1) F (by omega) (by decide) dL_law_950 dL_law_951 dL_law_952 dL_law_953 dL_law_954 ?_
  refine n_arg (a := 2) F (by omega) (by decide) dL_law_955 dL_law_956 dL_law_957 dL_law_958 dL_law_959 ?_
  refine n_arg (a := 3) F (by omega) (by decide) dL_law_960 dL_law_961 dL_law_962 dL_law_963 dL_law_964 ?_
  refine n_arg (a := 4) F (by omega) (by decide) dL_law_965 dL_law_966 dL_law_967 dL_law_968 dL_law_969 ?_
  refine n_arg (a := 5) F (by omega) (by decide) dL_law_970 dL_law_971 dL_law_972 dL_law_973 dL_law_974 ?_
  refine n_callI (Wf := Wm (xE X)) (wr := Wc (xE X) C2) (As := [.int (ys (i + 1)), .int (ys (i + 2)), .int (ys (i + 3)), .int (ys (i + 4)), .int (ys (i + 5))]) (rest := [.int r]) (r := r) (M2 := D2) (ci := 12) F (hX12_copy h2 (xl X) (xE X)) lk12_copy lm12_copy 0 rfl rfl rfl rfl rfl ⟨Nat.le_of_ble_eq_true rfl, Nat.le_of_ble_eq_true rfl⟩ hcs (Nat.le_of_ble_eq_true rfl) dL_law_975 ?_
  exact n_icmp_eq (tgt := 1157) F.1 dL_law_978 (by decide) (fun _ => k C2 D2 h3) (fun c => absurd rfl c)
set_option maxRecDepth 100000 in
set_option maxHeartbeats 4000000 in
/-- lays -/
theorem law_26 {X : Cx} {kc kn b L i : Nat} {ys : Nat → Int32} {C D : Mem} (F : LawF X b L ys) (hcs : kc ≤ room_1.cells ∧ kn ≤ room_1.slots) (hi : i + 6 ≤ L) (hR : Rel C D) (k : ∀ C2 D2 : Mem, Rel C2 D2 → GN X kc kn (Wc (xE X) C2 ++ Wm (xE X) D2) 1157 (lvL X b i) []) : GN X kc kn (Wc (xE X) C ++ Wm (xE X) D) 983 (lvL X b i) [] := by
  obtain ⟨r, C2, D2, h1, h2, h3⟩ := op_lays hR (N := 300) (by decide) (ys (i + 1))
  refine n_aload_n F.1 dL_law_983 rfl 1 rfl ?_
  refine n_arg (a := 1) F (by omega) (by decide) dL_law_984 dL_law_985 dL_law_986 dL_law_987 dL_law_988 ?_
  refine n_callI (Wf := Wc (xE X)) (wr := Wm (xE X) D) (As := [.int (ys (i + 1))]) (rest := []) (r := r) (M2 := C2) (ci := 11) F (hX11_lays h1 (xl X) (xE X)) lk11_lays lm11_lays 0 rfl (wc_T _ _) rfl rfl rfl ⟨Nat.le_of_ble_eq_true rfl, Nat.le_of_ble_eq_true rfl⟩ hcs (by decide) dL_law_989 ?_
  refine n_aload_n F.1 dL_law_992 rfl 2 rfl ?_
  refine n_arg (a := 1) F (by omega) (by decide) dL_law_993 dL_law_994 dL_law_995 dL_law_996 dL_law_997 ?_
  refine n_callI (Wf := Wm (xE X)) (wr := Wc (xE X) C2) (As := [.int (ys (i + 1))]) (rest := [.int r]) (r := r) (M2 := D2) (ci := 12) F (hX12_lays h2 (xl X) (xE X)) lk12_lays lm12_lays 0 rfl rfl rfl rfl rfl ⟨Nat.le_of_ble_eq_true rfl, Nat.le_of_ble_eq_true rfl⟩ hcs (Nat.le_of_ble_eq_true rfl) dL_law_998 ?_
  exact n_icmp_eq (tgt := 1157) F.1 dL_law_1001 (by decide) (fun _ => k C2 D2 h3) (fun c => absurd rfl c)
set_option maxRecDepth 100000 in
set_option maxHeartbeats 4000000 in
/-- book -/
theorem law_27 {X : Cx} {kc kn b L i : Nat} {ys : Nat → Int32} {C D : Mem} (F : LawF X b L ys) (hcs : kc ≤ room_1.cells ∧ kn ≤ room_1.slots) (hi : i + 6 ≤ L) (hR : Rel C D) (k : ∀ C2 D2 : Mem, Rel C2 D2 → GN X kc kn (Wc (xE X) C2 ++ Wm (xE X) D2) 1157 (lvL X b i) []) : GN X kc kn (Wc (xE X) C ++ Wm (xE X) D) 1006 (lvL X b i) [] := by
  obtain ⟨r, C2, D2, h1, h2, h3⟩ := op_book hR (N := 300) (by decide) (ys (i + 1)) (ys (i + 2))
  refine n_aload_n F.1 dL_law_1006 rfl 1 rfl ?_
  refine n_arg (a := 1) F (by omega) (by decide) dL_law_1007 dL_law_1008 dL_law_1009 dL_law_1010 dL_law_1011 ?_
  refine n_arg (a := 2) F (by omega) (by decide) dL_law_1012 dL_law_1013 dL_law_1014 dL_law_1015 dL_law_1016 ?_
  refine n_callI (Wf := Wc (xE X)) (wr := Wm (xE X) D) (As := [.int (ys (i + 1)), .int (ys (i + 2))]) (rest := []) (r := r) (M2 := C2) (ci := 11) F (hX11_book h1 (xl X) (xE X)) lk11_book lm11_book 0 rfl (wc_T _ _) rfl rfl rfl ⟨Nat.le_of_ble_eq_true rfl, Nat.le_of_ble_eq_true rfl⟩ hcs (by decide) dL_law_1017 ?_
  refine n_aload_n F.1 dL_law_1020 rfl 2 rfl ?_
  refine n_arg (a := 1) F (by omega) (by decide) dL_law_1021 dL_law_1022 dL_law_1023 dL_law_1024 dL_law_1025 ?_
  refine n_arg (a := 2) F (by omega) (by decide) dL_law_1026 dL_law_1027 dL_law_1028 dL_law_1029 dL_law_1030 ?_
  refine n_callI (Wf := Wm (xE X)) (wr := Wc (xE X) C2) (As := [.int (ys (i + 1)), .int (ys (i + 2))]) (rest := [.int r]) (r := r) (M2 := D2) (ci := 12) F (hX12_book h2 (xl X) (xE X)) lk12_book lm12_book 0 rfl rfl rfl rfl rfl ⟨Nat.le_of_ble_eq_true rfl, Nat.le_of_ble_eq_true rfl⟩ hcs (Nat.le_of_ble_eq_true rfl) dL_law_1031 ?_
  exact n_icmp_eq (tgt := 1157) F.1 dL_law_1034 (by decide) (fun _ => k C2 D2 h3) (fun c => absurd rfl c)
set_option maxRecDepth 100000 in
set_option maxHeartbeats 4000000 in
/-- read -/
theorem law_28 {X : Cx} {kc kn b L i : Nat} {ys : Nat → Int32} {C D : Mem} (F : LawF X b L ys) (hcs : kc ≤ room_1.cells ∧ kn ≤ room_1.slots) (hi : i + 6 ≤ L) (hR : Rel C D) (k : ∀ C2 D2 : Mem, Rel C2 D2 → GN X kc kn (Wc (xE X) C2 ++ Wm (xE X) D2) 1157 (lvL X b i) []) : GN X kc kn (Wc (xE X) C ++ Wm (xE X) D) 1039 (lvL X b i) [] := by
  obtain ⟨r, C2, D2, h1, h2, h3⟩ := op_read hR (N := 300) (by decide) (ys (i + 1)) (ys (i + 2))
  refine n_aload_n F.1 dL_law_1039 rfl 1 rfl ?_
  refine n_arg (a := 1) F (by omega) (by decide) dL_law_1040 dL_law_1041 dL_law_1042 dL_law_1043 dL_law_1044 ?_
  refine n_arg (a := 2) F (by omega) (by decide) dL_law_1045 dL_law_1046 dL_law_1047 dL_law_1048 dL_law_1049 ?_
  refine n_callI (Wf := Wc (xE X)) (wr := Wm (xE X) D) (As := [.int (ys (i + 1)), .int (ys (i + 2))]) (rest := []) (r := r) (M2 := C2) (ci := 11) F (hX11_read h1 (xl X) (xE X)) lk11_read lm11_read 0 rfl (wc_T _ _) rfl rfl rfl ⟨Nat.le_of_ble_eq_true rfl, Nat.le_of_ble_eq_true rfl⟩ hcs (by decide) dL_law_1050 ?_
  refine n_aload_n F.1 dL_law_1053 rfl 2 rfl ?_
  refine n_arg (a := 1) F (by omega) (by decide) dL_law_1054 dL_law_1055 dL_law_1056 dL_law_1057 dL_law_1058 ?_
  refine n_arg (a := 2) F (by omega) (by decide) dL_law_1059 dL_law_1060 dL_law_1061 dL_law_1062 dL_law_1063 ?_
  refine n_callI (Wf := Wm (xE X)) (wr := Wc (xE X) C2) (As := [.int (ys (i + 1)), .int (ys (i + 2))]) (rest := [.int r]) (r := r) (M2 := D2) (ci := 12) F (hX12_read h2 (xl X) (xE X)) lk12_read lm12_read 0 rfl rfl rfl rfl rfl ⟨Nat.le_of_ble_eq_true rfl, Nat.le_of_ble_eq_true rfl⟩ hcs (Nat.le_of_ble_eq_true rfl) dL_law_1064 ?_
  exact n_icmp_eq (tgt := 1157) F.1 dL_law_1067 (by decide) (fun _ => k C2 D2 h3) (fun c => absurd rfl c)
set_option maxRecDepth 100000 in
set_option maxHeartbeats 4000000 in
/-- image -/
theorem law_29 {X : Cx} {kc kn b L i : Nat} {ys : Nat → Int32} {C D : Mem} (F : LawF X b L ys) (hcs : kc ≤ room_1.cells ∧ kn ≤ room_1.slots) (hi : i + 6 ≤ L) (hR : Rel C D) (k : ∀ C2 D2 : Mem, Rel C2 D2 → GN X kc kn (Wc (xE X) C2 ++ Wm (xE X) D2) 1157 (lvL X b i) []) : GN X kc kn (Wc (xE X) C ++ Wm (xE X) D) 1072 (lvL X b i) [] := by
  obtain ⟨r, C2, D2, h1, h2, h3⟩ := op_image hR (N := 300) (by decide)
  refine n_aload_n F.1 dL_law_1072 rfl 1 rfl ?_
  refine n_callI (Wf := Wc (xE X)) (wr := Wm (xE X) D) (As := []) (rest := []) (r := r) (M2 := C2) (ci := 11) F (hX11_image h1 (xl X) (xE X)) lk11_image lm11_image 0 rfl (wc_T _ _) rfl rfl rfl ⟨Nat.le_of_ble_eq_true rfl, Nat.le_of_ble_eq_true rfl⟩ hcs (by decide) dL_law_1073 ?_
  refine n_aload_n F.1 dL_law_1076 rfl 2 rfl ?_
  refine n_callI (Wf := Wm (xE X)) (wr := Wc (xE X) C2) (As := []) (rest := [.int r]) (r := r) (M2 := D2) (ci := 12) F (hX12_image h2 (xl X) (xE X)) lk12_image lm12_image 0 rfl rfl rfl rfl rfl ⟨Nat.le_of_ble_eq_true rfl, Nat.le_of_ble_eq_true rfl⟩ hcs (Nat.le_of_ble_eq_true rfl) dL_law_1077 ?_
  exact n_icmp_eq (tgt := 1157) F.1 dL_law_1080 (by decide) (fun _ => k C2 D2 h3) (fun c => absurd rfl c)
set_option maxRecDepth 100000 in
set_option maxHeartbeats 4000000 in
/-- undo -/
theorem law_30 {X : Cx} {kc kn b L i : Nat} {ys : Nat → Int32} {C D : Mem} (F : LawF X b L ys) (hcs : kc ≤ room_1.cells ∧ kn ≤ room_1.slots) (hi : i + 6 ≤ L) (hR : Rel C D) (k : ∀ C2 D2 : Mem, Rel C2 D2 → GN X kc kn (Wc (xE X) C2 ++ Wm (xE X) D2) 1157 (lvL X b i) []) : GN X kc kn (Wc (xE X) C ++ Wm (xE X) D) 1085 (lvL X b i) [] := by
  obtain ⟨r, C2, D2, h1, h2, h3⟩ := op_undo hR (N := 300) (by decide)
  refine n_aload_n F.1 dL_law_1085 rfl 1 rfl ?_
  refine n_callI (Wf := Wc (xE X)) (wr := Wm (xE X) D) (As := []) (rest := []) (r := r) (M2 := C2) (ci := 11) F (hX11_undo h1 (xl X) (xE X)) lk11_undo lm11_undo 0 rfl (wc_T _ _) rfl rfl rfl ⟨Nat.le_of_ble_eq_true rfl, Nat.le_of_ble_eq_true rfl⟩ hcs (by decide) dL_law_1086 ?_
  refine n_aload_n F.1 dL_law_1089 rfl 2 rfl ?_
  refine n_callI (Wf := Wm (xE X)) (wr := Wc (xE X) C2) (As := []) (rest := [.int r]) (r := r) (M2 := D2) (ci := 12) F (hX12_undo h2 (xl X) (xE X)) lk12_undo lm12_undo 0 rfl rfl rfl rfl rfl ⟨Nat.le_of_ble_eq_true rfl, Nat.le_of_ble_eq_true rfl⟩ hcs (Nat.le_of_ble_eq_true rfl) dL_law_1090 ?_
  exact n_icmp_eq (tgt := 1157) F.1 dL_law_1093 (by decide) (fun _ => k C2 D2 h3) (fun c => absurd rfl c)
set_option maxRecDepth 100000 in
set_option maxHeartbeats 4000000 in
/-- tear -/
theorem law_31 {X : Cx} {kc kn b L i : Nat} {ys : Nat → Int32} {C D : Mem} (F : LawF X b L ys) (hcs : kc ≤ room_1.cells ∧ kn ≤ room_1.slots) (hi : i + 6 ≤ L) (hR : Rel C D) (k : ∀ C2 D2 : Mem, Rel C2 D2 → GN X kc kn (Wc (xE X) C2 ++ Wm (xE X) D2) 1157 (lvL X b i) []) : GN X kc kn (Wc (xE X) C ++ Wm (xE X) D) 1098 (lvL X b i) [] := by
  obtain ⟨r, C2, D2, h1, h2, h3⟩ := op_tear hR
  refine n_aload_n F.1 dL_law_1098 rfl 1 rfl ?_
  refine n_callI (Wf := Wc (xE X)) (wr := Wm (xE X) D) (As := []) (rest := []) (r := r) (M2 := C2) (ci := 11) F (hX11_tear h1 (xl X) (xE X)) lk11_tear lm11_tear 0 rfl (wc_T _ _) rfl rfl rfl ⟨Nat.le_of_ble_eq_true rfl, Nat.le_of_ble_eq_true rfl⟩ hcs (by decide) dL_law_1099 ?_
  refine n_aload_n F.1 dL_law_1102 rfl 2 rfl ?_
  refine n_callI (Wf := Wm (xE X)) (wr := Wc (xE X) C2) (As := []) (rest := [.int r]) (r := r) (M2 := D2) (ci := 12) F (hX12_tear h2 (xl X) (xE X)) lk12_tear lm12_tear 0 rfl rfl rfl rfl rfl ⟨Nat.le_of_ble_eq_true rfl, Nat.le_of_ble_eq_true rfl⟩ hcs (Nat.le_of_ble_eq_true rfl) dL_law_1103 ?_
  exact n_icmp_eq (tgt := 1157) F.1 dL_law_1106 (by decide) (fun _ => k C2 D2 h3) (fun c => absurd rfl c)
set_option maxRecDepth 100000 in
set_option maxHeartbeats 4000000 in
/-- count -/
theorem law_32 {X : Cx} {kc kn b L i : Nat} {ys : Nat → Int32} {C D : Mem} (F : LawF X b L ys) (hcs : kc ≤ room_1.cells ∧ kn ≤ room_1.slots) (hi : i + 6 ≤ L) (hR : Rel C D) (k : ∀ C2 D2 : Mem, Rel C2 D2 → GN X kc kn (Wc (xE X) C2 ++ Wm (xE X) D2) 1157 (lvL X b i) []) : GN X kc kn (Wc (xE X) C ++ Wm (xE X) D) 1111 (lvL X b i) [] := by
  obtain ⟨r, C2, D2, h1, h2, h3⟩ := op_count hR (N := 300) (by decide) (ys (i + 1))
  refine n_aload_n F.1 dL_law_1111 rfl 1 rfl ?_
  refine n_arg (a := 1) F (by omega) (by decide) dL_law_1112 dL_law_1113 dL_law_1114 dL_law_1115 dL_law_1116 ?_
  refine n_callI (Wf := Wc (xE X)) (wr := Wm (xE X) D) (As := [.int (ys (i + 1))]) (rest := []) (r := r) (M2 := C2) (ci := 11) F (hX11_count h1 (xl X) (xE X)) lk11_count lm11_count 0 rfl (wc_T _ _) rfl rfl rfl ⟨Nat.le_of_ble_eq_true rfl, Nat.le_of_ble_eq_true rfl⟩ hcs (by decide) dL_law_1117 ?_
  refine n_aload_n F.1 dL_law_1120 rfl 2 rfl ?_
  refine n_arg (a := 1) F (by omega) (by decide) dL_law_1121 dL_law_1122 dL_law_1123 dL_law_1124 dL_law_1125 ?_
  refine n_callI (Wf := Wm (xE X)) (wr := Wc (xE X) C2) (As := [.int (ys (i + 1))]) (rest := [.int r]) (r := r) (M2 := D2) (ci := 12) F (hX12_count h2 (xl X) (xE X)) lk12_count lm12_count 0 rfl rfl rfl rfl rfl ⟨Nat.le_of_ble_eq_true rfl, Nat.le_of_ble_eq_true rfl⟩ hcs (Nat.le_of_ble_eq_true rfl) dL_law_1126 ?_
  exact n_icmp_eq (tgt := 1157) F.1 dL_law_1129 (by decide) (fun _ => k C2 D2 h3) (fun c => absurd rfl c)
set_option maxRecDepth 100000 in
set_option maxHeartbeats 4000000 in
/-- status -/
theorem law_33 {X : Cx} {kc kn b L i : Nat} {ys : Nat → Int32} {C D : Mem} (F : LawF X b L ys) (hcs : kc ≤ room_1.cells ∧ kn ≤ room_1.slots) (hi : i + 6 ≤ L) (hR : Rel C D) (k : ∀ C2 D2 : Mem, Rel C2 D2 → GN X kc kn (Wc (xE X) C2 ++ Wm (xE X) D2) 1157 (lvL X b i) []) : GN X kc kn (Wc (xE X) C ++ Wm (xE X) D) 1134 (lvL X b i) [] := by
  obtain ⟨r, C2, D2, h1, h2, h3⟩ := op_status hR (N := 300) (by decide) (ys (i + 1))
  refine n_aload_n F.1 dL_law_1134 rfl 1 rfl ?_
  refine n_arg (a := 1) F (by omega) (by decide) dL_law_1135 dL_law_1136 dL_law_1137 dL_law_1138 dL_law_1139 ?_
  refine n_callI (Wf := Wc (xE X)) (wr := Wm (xE X) D) (As := [.int (ys (i + 1))]) (rest := []) (r := r) (M2 := C2) (ci := 11) F (hX11_status h1 (xl X) (xE X)) lk11_status lm11_status 0 rfl (wc_T _ _) rfl rfl rfl ⟨Nat.le_of_ble_eq_true rfl, Nat.le_of_ble_eq_true rfl⟩ hcs (by decide) dL_law_1140 ?_
  refine n_aload_n F.1 dL_law_1143 rfl 2 rfl ?_
  refine n_arg (a := 1) F (by omega) (by decide) dL_law_1144 dL_law_1145 dL_law_1146 dL_law_1147 dL_law_1148 ?_
  refine n_callI (Wf := Wm (xE X)) (wr := Wc (xE X) C2) (As := [.int (ys (i + 1))]) (rest := [.int r]) (r := r) (M2 := D2) (ci := 12) F (hX12_status h2 (xl X) (xE X)) lk12_status lm12_status 0 rfl rfl rfl rfl rfl ⟨Nat.le_of_ble_eq_true rfl, Nat.le_of_ble_eq_true rfl⟩ hcs (Nat.le_of_ble_eq_true rfl) dL_law_1149 ?_
  exact n_icmp_eq (tgt := 1157) F.1 dL_law_1152 (by decide) (fun _ => k C2 D2 h3) (fun c => absurd rfl c)
