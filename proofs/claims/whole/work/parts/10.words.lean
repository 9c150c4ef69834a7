/-! ===== the words of the tables, by their places ===== -/
theorem uw0 : ∀ w ∈ u_ws RX0 TX0 4, w ∈ gT := uwOf [415, 417, 419, 421] (by decide +kernel) (by decide +kernel)
theorem uw1 : ∀ w ∈ u_ws RX1 TX1 8, w ∈ gT := uwOf [388, 390, 392, 394, 396, 398, 400, 402] (by decide +kernel) (by decide +kernel)
theorem uw2 : ∀ w ∈ u_ws RX2 TX2 5, w ∈ gT := uwOf [491, 493, 495, 497, 499] (by decide +kernel) (by decide +kernel)
theorem uw3 : ∀ w ∈ u_ws RX3 TX3 8, w ∈ gT := uwOf [463, 465, 467, 469, 471, 473, 475, 477] (by decide +kernel) (by decide +kernel)
theorem uw4 : ∀ w ∈ u_ws RX4 TX4 5, w ∈ gT := uwOf [436, 438, 440, 442, 444] (by decide +kernel) (by decide +kernel)
theorem uw5 : ∀ w ∈ u_ws RX5 TX5 10, w ∈ gT := uwOf [351, 353, 355, 357, 359, 361, 363, 365, 367, 369] (by decide +kernel) (by decide +kernel)
theorem uw6 : ∀ w ∈ u_ws RX6 TX6 15, w ∈ gT := uwOf [296, 298, 300, 302, 304, 306, 308, 310, 312, 314, 316, 318, 320, 322, 324] (by decide +kernel) (by decide +kernel)
theorem uw7 : ∀ w ∈ u_ws RX7 TX7 3, w ∈ gT := uwOf [261, 263, 265] (by decide +kernel) (by decide +kernel)
theorem uw8 : ∀ w ∈ u_ws RX8 TX8 17, w ∈ gT := uwOf [210, 212, 214, 216, 218, 220, 222, 224, 226, 228, 230, 232, 234, 236, 238, 240, 242] (by decide +kernel) (by decide +kernel)
theorem uw9 : ∀ w ∈ u_ws RX9 TX9 17, w ∈ gT := uwOf [519, 521, 523, 525, 527, 529, 531, 533, 535, 537, 539, 541, 543, 545, 547, 549, 551] (by decide +kernel) (by decide +kernel)
theorem uw10 : ∀ w ∈ u_ws RX10 TX10 38, w ∈ gT := uwOf [1270, 1272, 1274, 1276, 1278, 1280, 1282, 1284, 1286, 1288, 1290, 1292, 1294, 1296, 1298, 1300, 1302, 1304, 1306, 1308, 1310, 1312, 1314, 1316, 1318, 1320, 1322, 1324, 1326, 1328, 1330, 1332, 1334, 1336, 1338, 1340, 1342, 1344] (by decide +kernel) (by decide +kernel)
set_option maxRecDepth 60000 in
theorem cw_J6_bitCount_0f7a4 : Cond.code MJ6_bitCount_0f7a4.1 MJ6_bitCount_0f7a4.2.1 MJ6_bitCount_0f7a4.2.2.1 MJ6_bitCount_0f7a4.2.2.2.1 ∈ gT := wt (i := 964) rfl rfl
theorem mk_J6_bitCount_0f7a4 : mok MJ6_bitCount_0f7a4 1 := ⟨by decide, by decide, by decide +kernel⟩
theorem st_J6_bitCount_0f7a4 : Cond.static MJ6_bitCount_0f7a4.1 ∈ gT := wt (i := 963) (by decide +kernel) rfl
set_option maxRecDepth 60000 in
theorem cw_X0_fillGifts : Cond.code MX0_fillGifts.1 MX0_fillGifts.2.1 MX0_fillGifts.2.2.1 MX0_fillGifts.2.2.2.1 ∈ gT := wt (i := 1032) rfl rfl
theorem mk_X0_fillGifts : mok MX0_fillGifts 1 := ⟨by decide, by decide, by decide +kernel⟩
theorem im_X0_fillGifts : Cond.instanceMethod MX0_fillGifts.1 ∈ gT := wt (i := 1030) (by decide +kernel) rfl
theorem se_X0_fillGifts : Cond.selects MX0_fillGifts.1.cls MX0_fillGifts.1 MX0_fillGifts.1 ∈ gT := wt (i := 1031) (by decide +kernel) rfl
set_option maxRecDepth 60000 in
theorem cw_X0_fillOwn : Cond.code MX0_fillOwn.1 MX0_fillOwn.2.1 MX0_fillOwn.2.2.1 MX0_fillOwn.2.2.2.1 ∈ gT := wt (i := 1024) rfl rfl
theorem mk_X0_fillOwn : mok MX0_fillOwn 4 := ⟨by decide, by decide, by decide +kernel⟩
theorem im_X0_fillOwn : Cond.instanceMethod MX0_fillOwn.1 ∈ gT := wt (i := 1022) (by decide +kernel) rfl
theorem se_X0_fillOwn : Cond.selects MX0_fillOwn.1.cls MX0_fillOwn.1 MX0_fillOwn.1 ∈ gT := wt (i := 1023) (by decide +kernel) rfl
set_option maxRecDepth 60000 in
theorem cw_X0_hungryWeight : Cond.code MX0_hungryWeight.1 MX0_hungryWeight.2.1 MX0_hungryWeight.2.2.1 MX0_hungryWeight.2.2.2.1 ∈ gT := wt (i := 1036) rfl rfl
theorem mk_X0_hungryWeight : mok MX0_hungryWeight 2 := ⟨by decide, by decide, by decide +kernel⟩
theorem im_X0_hungryWeight : Cond.instanceMethod MX0_hungryWeight.1 ∈ gT := wt (i := 1034) (by decide +kernel) rfl
theorem se_X0_hungryWeight : Cond.selects MX0_hungryWeight.1.cls MX0_hungryWeight.1 MX0_hungryWeight.1 ∈ gT := wt (i := 1035) (by decide +kernel) rfl
set_option maxRecDepth 60000 in
theorem cw_X10_aFamily : Cond.code MX10_aFamily.1 MX10_aFamily.2.1 MX10_aFamily.2.2.1 MX10_aFamily.2.2.2.1 ∈ gT := wt (i := 1513) rfl rfl
theorem mk_X10_aFamily : mok MX10_aFamily 0 := ⟨by decide, by decide, by decide +kernel⟩
theorem im_X10_aFamily : Cond.instanceMethod MX10_aFamily.1 ∈ gT := wt (i := 1512) (by decide +kernel) rfl
theorem se_X10_aFamily : Cond.selects MX10_aFamily.1.cls MX10_aFamily.1 MX10_aFamily.1 ∈ gT := wt (i := 63) (by decide +kernel) rfl
set_option maxRecDepth 60000 in
theorem cw_X10_aHarm : Cond.code MX10_aHarm.1 MX10_aHarm.2.1 MX10_aHarm.2.2.1 MX10_aHarm.2.2.2.1 ∈ gT := wt (i := 1509) rfl rfl
theorem mk_X10_aHarm : mok MX10_aHarm 1 := ⟨by decide, by decide, by decide +kernel⟩
theorem im_X10_aHarm : Cond.instanceMethod MX10_aHarm.1 ∈ gT := wt (i := 1508) (by decide +kernel) rfl
theorem se_X10_aHarm : Cond.selects MX10_aHarm.1.cls MX10_aHarm.1 MX10_aHarm.1 ∈ gT := wt (i := 62) (by decide +kernel) rfl
set_option maxRecDepth 60000 in
theorem cw_X10_aStrip : Cond.code MX10_aStrip.1 MX10_aStrip.2.1 MX10_aStrip.2.2.1 MX10_aStrip.2.2.2.1 ∈ gT := wt (i := 1482) rfl rfl
theorem mk_X10_aStrip : mok MX10_aStrip 0 := ⟨by decide, by decide, by decide +kernel⟩
theorem im_X10_aStrip : Cond.instanceMethod MX10_aStrip.1 ∈ gT := wt (i := 1481) (by decide +kernel) rfl
theorem se_X10_aStrip : Cond.selects MX10_aStrip.1.cls MX10_aStrip.1 MX10_aStrip.1 ∈ gT := wt (i := 56) (by decide +kernel) rfl
set_option maxRecDepth 60000 in
theorem cw_X10_ahead : Cond.code MX10_ahead.1 MX10_ahead.2.1 MX10_ahead.2.2.1 MX10_ahead.2.2.2.1 ∈ gT := wt (i := 1410) rfl rfl
theorem mk_X10_ahead : mok MX10_ahead 0 := ⟨by decide, by decide, by decide +kernel⟩
theorem im_X10_ahead : Cond.instanceMethod MX10_ahead.1 ∈ gT := wt (i := 1409) (by decide +kernel) rfl
theorem se_X10_ahead : Cond.selects MX10_ahead.1.cls MX10_ahead.1 MX10_ahead.1 ∈ gT := wt (i := 52) (by decide +kernel) rfl
set_option maxRecDepth 60000 in
theorem cw_X10_allLots : Cond.code MX10_allLots.1 MX10_allLots.2.1 MX10_allLots.2.2.1 MX10_allLots.2.2.2.1 ∈ gT := wt (i := 1655) rfl rfl
theorem mk_X10_allLots : mok MX10_allLots 0 := ⟨by decide, by decide, by decide +kernel⟩
theorem im_X10_allLots : Cond.instanceMethod MX10_allLots.1 ∈ gT := wt (i := 1654) (by decide +kernel) rfl
theorem se_X10_allLots : Cond.selects MX10_allLots.1.cls MX10_allLots.1 MX10_allLots.1 ∈ gT := wt (i := 84) (by decide +kernel) rfl
set_option maxRecDepth 60000 in
theorem cw_X10_apart : Cond.code MX10_apart.1 MX10_apart.2.1 MX10_apart.2.2.1 MX10_apart.2.2.2.1 ∈ gT := wt (i := 1625) rfl rfl
theorem mk_X10_apart : mok MX10_apart 4 := ⟨by decide, by decide, by decide +kernel⟩
theorem st_X10_apart : Cond.static MX10_apart.1 ∈ gT := wt (i := 1624) (by decide +kernel) rfl
set_option maxRecDepth 60000 in
theorem cw_X10_areStrips : Cond.code MX10_areStrips.1 MX10_areStrips.2.1 MX10_areStrips.2.2.1 MX10_areStrips.2.2.2.1 ∈ gT := wt (i := 1617) rfl rfl
theorem mk_X10_areStrips : mok MX10_areStrips 1 := ⟨by decide, by decide, by decide +kernel⟩
theorem im_X10_areStrips : Cond.instanceMethod MX10_areStrips.1 ∈ gT := wt (i := 1616) (by decide +kernel) rfl
theorem se_X10_areStrips : Cond.selects MX10_areStrips.1.cls MX10_areStrips.1 MX10_areStrips.1 ∈ gT := wt (i := 78) (by decide +kernel) rfl
set_option maxRecDepth 60000 in
theorem cw_X10_areTwo : Cond.code MX10_areTwo.1 MX10_areTwo.2.1 MX10_areTwo.2.2.1 MX10_areTwo.2.2.2.1 ∈ gT := wt (i := 1719) rfl rfl
theorem mk_X10_areTwo : mok MX10_areTwo 2 := ⟨by decide, by decide, by decide +kernel⟩
theorem im_X10_areTwo : Cond.instanceMethod MX10_areTwo.1 ∈ gT := wt (i := 1718) (by decide +kernel) rfl
theorem se_X10_areTwo : Cond.selects MX10_areTwo.1.cls MX10_areTwo.1 MX10_areTwo.1 ∈ gT := wt (i := 90) (by decide +kernel) rfl
set_option maxRecDepth 60000 in
theorem cw_X10_atMost : Cond.code MX10_atMost.1 MX10_atMost.2.1 MX10_atMost.2.2.1 MX10_atMost.2.2.2.1 ∈ gT := wt (i := 1647) rfl rfl
theorem mk_X10_atMost : mok MX10_atMost 3 := ⟨by decide, by decide, by decide +kernel⟩
theorem im_X10_atMost : Cond.instanceMethod MX10_atMost.1 ∈ gT := wt (i := 1646) (by decide +kernel) rfl
theorem se_X10_atMost : Cond.selects MX10_atMost.1.cls MX10_atMost.1 MX10_atMost.1 ∈ gT := wt (i := 82) (by decide +kernel) rfl
set_option maxRecDepth 60000 in
theorem cw_X10_bestOf : Cond.code MX10_bestOf.1 MX10_bestOf.2.1 MX10_bestOf.2.2.1 MX10_bestOf.2.2.2.1 ∈ gT := wt (i := 1684) rfl rfl
theorem mk_X10_bestOf : mok MX10_bestOf 2 := ⟨by decide, by decide, by decide +kernel⟩
theorem im_X10_bestOf : Cond.instanceMethod MX10_bestOf.1 ∈ gT := wt (i := 1683) (by decide +kernel) rfl
theorem se_X10_bestOf : Cond.selects MX10_bestOf.1.cls MX10_bestOf.1 MX10_bestOf.1 ∈ gT := wt (i := 88) (by decide +kernel) rfl
set_option maxRecDepth 60000 in
theorem cw_X10_bits : Cond.code MX10_bits.1 MX10_bits.2.1 MX10_bits.2.2.1 MX10_bits.2.2.2.1 ∈ gT := wt (i := 1691) rfl rfl
theorem mk_X10_bits : mok MX10_bits 1 := ⟨by decide, by decide, by decide +kernel⟩
theorem st_X10_bits : Cond.static MX10_bits.1 ∈ gT := wt (i := 1690) (by decide +kernel) rfl
set_option maxRecDepth 60000 in
theorem cw_X10_byteAt : Cond.code MX10_byteAt.1 MX10_byteAt.2.1 MX10_byteAt.2.2.1 MX10_byteAt.2.2.2.1 ∈ gT := wt (i := 1414) rfl rfl
theorem mk_X10_byteAt : mok MX10_byteAt 1 := ⟨by decide, by decide, by decide +kernel⟩
theorem im_X10_byteAt : Cond.instanceMethod MX10_byteAt.1 ∈ gT := wt (i := 1413) (by decide +kernel) rfl
theorem se_X10_byteAt : Cond.selects MX10_byteAt.1.cls MX10_byteAt.1 MX10_byteAt.1 ∈ gT := wt (i := 53) (by decide +kernel) rfl
set_option maxRecDepth 60000 in
theorem cw_X10_copies : Cond.code MX10_copies.1 MX10_copies.2.1 MX10_copies.2.2.1 MX10_copies.2.2.2.1 ∈ gT := wt (i := 1517) rfl rfl
theorem mk_X10_copies : mok MX10_copies 2 := ⟨by decide, by decide, by decide +kernel⟩
theorem im_X10_copies : Cond.instanceMethod MX10_copies.1 ∈ gT := wt (i := 1516) (by decide +kernel) rfl
theorem se_X10_copies : Cond.selects MX10_copies.1.cls MX10_copies.1 MX10_copies.1 ∈ gT := wt (i := 64) (by decide +kernel) rfl
set_option maxRecDepth 60000 in
theorem cw_X10_cut : Cond.code MX10_cut.1 MX10_cut.2.1 MX10_cut.2.2.1 MX10_cut.2.2.2.1 ∈ gT := wt (i := 1381) rfl rfl
theorem mk_X10_cut : mok MX10_cut 2 := ⟨by decide, by decide, by decide +kernel⟩
theorem st_X10_cut : Cond.static MX10_cut.1 ∈ gT := wt (i := 1380) (by decide +kernel) rfl
set_option maxRecDepth 60000 in
theorem cw_X10_deals : Cond.code MX10_deals.1 MX10_deals.2.1 MX10_deals.2.2.1 MX10_deals.2.2.2.1 ∈ gT := wt (i := 1782) rfl rfl
theorem mk_X10_deals : mok MX10_deals 0 := ⟨by decide, by decide, by decide +kernel⟩
theorem im_X10_deals : Cond.instanceMethod MX10_deals.1 ∈ gT := wt (i := 1781) (by decide +kernel) rfl
theorem se_X10_deals : Cond.selects MX10_deals.1.cls MX10_deals.1 MX10_deals.1 ∈ gT := wt (i := 98) (by decide +kernel) rfl
set_option maxRecDepth 60000 in
theorem cw_X10_fails : Cond.code MX10_fails.1 MX10_fails.2.1 MX10_fails.2.2.1 MX10_fails.2.2.2.1 ∈ gT := wt (i := 1486) rfl rfl
theorem mk_X10_fails : mok MX10_fails 1 := ⟨by decide, by decide, by decide +kernel⟩
theorem im_X10_fails : Cond.instanceMethod MX10_fails.1 ∈ gT := wt (i := 1485) (by decide +kernel) rfl
theorem se_X10_fails : Cond.selects MX10_fails.1.cls MX10_fails.1 MX10_fails.1 ∈ gT := wt (i := 57) (by decide +kernel) rfl
set_option maxRecDepth 60000 in
theorem cw_X10_falls : Cond.code MX10_falls.1 MX10_falls.2.1 MX10_falls.2.2.1 MX10_falls.2.2.2.1 ∈ gT := wt (i := 1557) rfl rfl
theorem mk_X10_falls : mok MX10_falls 2 := ⟨by decide, by decide, by decide +kernel⟩
theorem im_X10_falls : Cond.instanceMethod MX10_falls.1 ∈ gT := wt (i := 1556) (by decide +kernel) rfl
theorem se_X10_falls : Cond.selects MX10_falls.1.cls MX10_falls.1 MX10_falls.1 ∈ gT := wt (i := 70) (by decide +kernel) rfl
set_option maxRecDepth 60000 in
theorem cw_X10_fills : Cond.code MX10_fills.1 MX10_fills.2.1 MX10_fills.2.2.1 MX10_fills.2.2.2.1 ∈ gT := wt (i := 1751) rfl rfl
theorem mk_X10_fills : mok MX10_fills 1 := ⟨by decide, by decide, by decide +kernel⟩
theorem im_X10_fills : Cond.instanceMethod MX10_fills.1 ∈ gT := wt (i := 1750) (by decide +kernel) rfl
theorem se_X10_fills : Cond.selects MX10_fills.1.cls MX10_fills.1 MX10_fills.1 ∈ gT := wt (i := 94) (by decide +kernel) rfl
set_option maxRecDepth 60000 in
theorem cw_X10_find : Cond.code MX10_find.1 MX10_find.2.1 MX10_find.2.2.1 MX10_find.2.2.2.1 ∈ gT := wt (i := 1497) rfl rfl
theorem mk_X10_find : mok MX10_find 3 := ⟨by decide, by decide, by decide +kernel⟩
theorem st_X10_find : Cond.static MX10_find.1 ∈ gT := wt (i := 1496) (by decide +kernel) rfl
set_option maxRecDepth 60000 in
theorem cw_X10_four : Cond.code MX10_four.1 MX10_four.2.1 MX10_four.2.2.1 MX10_four.2.2.2.1 ∈ gT := wt (i := 1398) rfl rfl
theorem mk_X10_four : mok MX10_four 1 := ⟨by decide, by decide, by decide +kernel⟩
theorem im_X10_four : Cond.instanceMethod MX10_four.1 ∈ gT := wt (i := 1397) (by decide +kernel) rfl
theorem se_X10_four : Cond.selects MX10_four.1.cls MX10_four.1 MX10_four.1 ∈ gT := wt (i := 50) (by decide +kernel) rfl
set_option maxRecDepth 60000 in
theorem cw_X10_gives : Cond.code MX10_gives.1 MX10_gives.2.1 MX10_gives.2.2.1 MX10_gives.2.2.2.1 ∈ gT := wt (i := 1521) rfl rfl
theorem mk_X10_gives : mok MX10_gives 1 := ⟨by decide, by decide, by decide +kernel⟩
theorem im_X10_gives : Cond.instanceMethod MX10_gives.1 ∈ gT := wt (i := 1520) (by decide +kernel) rfl
theorem se_X10_gives : Cond.selects MX10_gives.1.cls MX10_gives.1 MX10_gives.1 ∈ gT := wt (i := 65) (by decide +kernel) rfl
set_option maxRecDepth 60000 in
theorem cw_X10_givesLong : Cond.code MX10_givesLong.1 MX10_givesLong.2.1 MX10_givesLong.2.2.1 MX10_givesLong.2.2.2.1 ∈ gT := wt (i := 1601) rfl rfl
theorem mk_X10_givesLong : mok MX10_givesLong 1 := ⟨by decide, by decide, by decide +kernel⟩
theorem im_X10_givesLong : Cond.instanceMethod MX10_givesLong.1 ∈ gT := wt (i := 1600) (by decide +kernel) rfl
theorem se_X10_givesLong : Cond.selects MX10_givesLong.1.cls MX10_givesLong.1 MX10_givesLong.1 ∈ gT := wt (i := 76) (by decide +kernel) rfl
set_option maxRecDepth 60000 in
theorem cw_X10_goesRound : Cond.code MX10_goesRound.1 MX10_goesRound.2.1 MX10_goesRound.2.2.1 MX10_goesRound.2.2.2.1 ∈ gT := wt (i := 1634) rfl rfl
theorem mk_X10_goesRound : mok MX10_goesRound 2 := ⟨by decide, by decide, by decide +kernel⟩
theorem im_X10_goesRound : Cond.instanceMethod MX10_goesRound.1 ∈ gT := wt (i := 1633) (by decide +kernel) rfl
theorem se_X10_goesRound : Cond.selects MX10_goesRound.1.cls MX10_goesRound.1 MX10_goesRound.1 ∈ gT := wt (i := 80) (by decide +kernel) rfl
set_option maxRecDepth 60000 in
theorem cw_X10_grows : Cond.code MX10_grows.1 MX10_grows.2.1 MX10_grows.2.2.1 MX10_grows.2.2.2.1 ∈ gT := wt (i := 1727) rfl rfl
theorem mk_X10_grows : mok MX10_grows 4 := ⟨by decide, by decide, by decide +kernel⟩
theorem im_X10_grows : Cond.instanceMethod MX10_grows.1 ∈ gT := wt (i := 1726) (by decide +kernel) rfl
theorem se_X10_grows : Cond.selects MX10_grows.1.cls MX10_grows.1 MX10_grows.1 ∈ gT := wt (i := 92) (by decide +kernel) rfl
set_option maxRecDepth 60000 in
theorem cw_X10_held : Cond.code MX10_held.1 MX10_held.2.1 MX10_held.2.2.1 MX10_held.2.2.2.1 ∈ gT := wt (i := 1573) rfl rfl
theorem mk_X10_held : mok MX10_held 1 := ⟨by decide, by decide, by decide +kernel⟩
theorem im_X10_held : Cond.instanceMethod MX10_held.1 ∈ gT := wt (i := 1572) (by decide +kernel) rfl
theorem se_X10_held : Cond.selects MX10_held.1.cls MX10_held.1 MX10_held.1 ∈ gT := wt (i := 73) (by decide +kernel) rfl
set_option maxRecDepth 60000 in
theorem cw_X10_hungers : Cond.code MX10_hungers.1 MX10_hungers.2.1 MX10_hungers.2.2.1 MX10_hungers.2.2.2.1 ∈ gT := wt (i := 1755) rfl rfl
theorem mk_X10_hungers : mok MX10_hungers 1 := ⟨by decide, by decide, by decide +kernel⟩
theorem im_X10_hungers : Cond.instanceMethod MX10_hungers.1 ∈ gT := wt (i := 1754) (by decide +kernel) rfl
theorem se_X10_hungers : Cond.selects MX10_hungers.1.cls MX10_hungers.1 MX10_hungers.1 ∈ gT := wt (i := 95) (by decide +kernel) rfl
set_option maxRecDepth 60000 in
theorem cw_X10_is : Cond.code MX10_is.1 MX10_is.2.1 MX10_is.2.2.1 MX10_is.2.2.2.1 ∈ gT := wt (i := 1370) rfl rfl
theorem mk_X10_is : mok MX10_is 1 := ⟨by decide, by decide, by decide +kernel⟩
theorem im_X10_is : Cond.instanceMethod MX10_is.1 ∈ gT := wt (i := 1369) (by decide +kernel) rfl
theorem se_X10_is : Cond.selects MX10_is.1.cls MX10_is.1 MX10_is.1 ∈ gT := wt (i := 48) (by decide +kernel) rfl
set_option maxRecDepth 60000 in
theorem cw_X10_isBehind : Cond.code MX10_isBehind.1 MX10_isBehind.2.1 MX10_isBehind.2.2.1 MX10_isBehind.2.2.2.1 ∈ gT := wt (i := 1778) rfl rfl
theorem mk_X10_isBehind : mok MX10_isBehind 2 := ⟨by decide, by decide, by decide +kernel⟩
theorem im_X10_isBehind : Cond.instanceMethod MX10_isBehind.1 ∈ gT := wt (i := 1777) (by decide +kernel) rfl
theorem se_X10_isBehind : Cond.selects MX10_isBehind.1.cls MX10_isBehind.1 MX10_isBehind.1 ∈ gT := wt (i := 97) (by decide +kernel) rfl
set_option maxRecDepth 60000 in
theorem cw_X10_isDigit : Cond.code MX10_isDigit.1 MX10_isDigit.2.1 MX10_isDigit.2.2.1 MX10_isDigit.2.2.2.1 ∈ gT := wt (i := 1420) rfl rfl
theorem mk_X10_isDigit : mok MX10_isDigit 1 := ⟨by decide, by decide, by decide +kernel⟩
theorem st_X10_isDigit : Cond.static MX10_isDigit.1 ∈ gT := wt (i := 1419) (by decide +kernel) rfl
set_option maxRecDepth 60000 in
theorem cw_X10_isFamily : Cond.code MX10_isFamily.1 MX10_isFamily.2.1 MX10_isFamily.2.2.1 MX10_isFamily.2.2.2.1 ∈ gT := wt (i := 1565) rfl rfl
theorem mk_X10_isFamily : mok MX10_isFamily 1 := ⟨by decide, by decide, by decide +kernel⟩
theorem im_X10_isFamily : Cond.instanceMethod MX10_isFamily.1 ∈ gT := wt (i := 1564) (by decide +kernel) rfl
theorem se_X10_isFamily : Cond.selects MX10_isFamily.1.cls MX10_isFamily.1 MX10_isFamily.1 ∈ gT := wt (i := 71) (by decide +kernel) rfl
set_option maxRecDepth 60000 in
theorem cw_X10_isHarm : Cond.code MX10_isHarm.1 MX10_isHarm.2.1 MX10_isHarm.2.2.1 MX10_isHarm.2.2.2.1 ∈ gT := wt (i := 1549) rfl rfl
theorem mk_X10_isHarm : mok MX10_isHarm 1 := ⟨by decide, by decide, by decide +kernel⟩
theorem im_X10_isHarm : Cond.instanceMethod MX10_isHarm.1 ∈ gT := wt (i := 1548) (by decide +kernel) rfl
theorem se_X10_isHarm : Cond.selects MX10_isHarm.1.cls MX10_isHarm.1 MX10_isHarm.1 ∈ gT := wt (i := 68) (by decide +kernel) rfl
set_option maxRecDepth 60000 in
theorem cw_X10_isLot : Cond.code MX10_isLot.1 MX10_isLot.2.1 MX10_isLot.2.2.1 MX10_isLot.2.2.2.1 ∈ gT := wt (i := 1593) rfl rfl
theorem mk_X10_isLot : mok MX10_isLot 1 := ⟨by decide, by decide, by decide +kernel⟩
theorem im_X10_isLot : Cond.instanceMethod MX10_isLot.1 ∈ gT := wt (i := 1592) (by decide +kernel) rfl
theorem se_X10_isLot : Cond.selects MX10_isLot.1.cls MX10_isLot.1 MX10_isLot.1 ∈ gT := wt (i := 74) (by decide +kernel) rfl
set_option maxRecDepth 60000 in
theorem cw_X10_isName : Cond.code MX10_isName.1 MX10_isName.2.1 MX10_isName.2.2.1 MX10_isName.2.2.2.1 ∈ gT := wt (i := 1490) rfl rfl
theorem mk_X10_isName : mok MX10_isName 0 := ⟨by decide, by decide, by decide +kernel⟩
theorem im_X10_isName : Cond.instanceMethod MX10_isName.1 ∈ gT := wt (i := 1489) (by decide +kernel) rfl
theorem se_X10_isName : Cond.selects MX10_isName.1.cls MX10_isName.1 MX10_isName.1 ∈ gT := wt (i := 58) (by decide +kernel) rfl
set_option maxRecDepth 60000 in
theorem cw_X10_isSmall : Cond.code MX10_isSmall.1 MX10_isSmall.2.1 MX10_isSmall.2.2.1 MX10_isSmall.2.2.2.1 ∈ gT := wt (i := 1417) rfl rfl
theorem mk_X10_isSmall : mok MX10_isSmall 1 := ⟨by decide, by decide, by decide +kernel⟩
theorem st_X10_isSmall : Cond.static MX10_isSmall.1 ∈ gT := wt (i := 1416) (by decide +kernel) rfl
set_option maxRecDepth 60000 in
theorem cw_X10_isStrip : Cond.code MX10_isStrip.1 MX10_isStrip.2.1 MX10_isStrip.2.2.1 MX10_isStrip.2.2.2.1 ∈ gT := wt (i := 1537) rfl rfl
theorem mk_X10_isStrip : mok MX10_isStrip 1 := ⟨by decide, by decide, by decide +kernel⟩
theorem im_X10_isStrip : Cond.instanceMethod MX10_isStrip.1 ∈ gT := wt (i := 1536) (by decide +kernel) rfl
theorem se_X10_isStrip : Cond.selects MX10_isStrip.1.cls MX10_isStrip.1 MX10_isStrip.1 ∈ gT := wt (i := 66) (by decide +kernel) rfl
set_option maxRecDepth 60000 in
theorem cw_X10_isTray : Cond.code MX10_isTray.1 MX10_isTray.2.1 MX10_isTray.2.2.1 MX10_isTray.2.2.2.1 ∈ gT := wt (i := 1366) rfl rfl
theorem mk_X10_isTray : mok MX10_isTray 1 := ⟨by decide, by decide, by decide +kernel⟩
theorem st_X10_isTray : Cond.static MX10_isTray.1 ∈ gT := wt (i := 1365) (by decide +kernel) rfl
set_option maxRecDepth 60000 in
theorem cw_X10_keyWord : Cond.code MX10_keyWord.1 MX10_keyWord.2.1 MX10_keyWord.2.2.1 MX10_keyWord.2.2.2.1 ∈ gT := wt (i := 1429) rfl rfl
theorem mk_X10_keyWord : mok MX10_keyWord 0 := ⟨by decide, by decide, by decide +kernel⟩
theorem im_X10_keyWord : Cond.instanceMethod MX10_keyWord.1 ∈ gT := wt (i := 1428) (by decide +kernel) rfl
theorem se_X10_keyWord : Cond.selects MX10_keyWord.1.cls MX10_keyWord.1 MX10_keyWord.1 ∈ gT := wt (i := 55) (by decide +kernel) rfl
set_option maxRecDepth 60000 in
theorem cw_X10_laysRow : Cond.code MX10_laysRow.1 MX10_laysRow.2.1 MX10_laysRow.2.2.1 MX10_laysRow.2.2.2.1 ∈ gT := wt (i := 1774) rfl rfl
theorem mk_X10_laysRow : mok MX10_laysRow 0 := ⟨by decide, by decide, by decide +kernel⟩
theorem im_X10_laysRow : Cond.instanceMethod MX10_laysRow.1 ∈ gT := wt (i := 1773) (by decide +kernel) rfl
theorem se_X10_laysRow : Cond.selects MX10_laysRow.1.cls MX10_laysRow.1 MX10_laysRow.1 ∈ gT := wt (i := 96) (by decide +kernel) rfl
set_option maxRecDepth 60000 in
theorem cw_X10_leftOf : Cond.code MX10_leftOf.1 MX10_leftOf.2.1 MX10_leftOf.2.2.1 MX10_leftOf.2.2.2.1 ∈ gT := wt (i := 1609) rfl rfl
theorem mk_X10_leftOf : mok MX10_leftOf 2 := ⟨by decide, by decide, by decide +kernel⟩
theorem im_X10_leftOf : Cond.instanceMethod MX10_leftOf.1 ∈ gT := wt (i := 1608) (by decide +kernel) rfl
theorem se_X10_leftOf : Cond.selects MX10_leftOf.1.cls MX10_leftOf.1 MX10_leftOf.1 ∈ gT := wt (i := 77) (by decide +kernel) rfl
set_option maxRecDepth 60000 in
theorem cw_X10_lots : Cond.code MX10_lots.1 MX10_lots.2.1 MX10_lots.2.2.1 MX10_lots.2.2.2.1 ∈ gT := wt (i := 1651) rfl rfl
theorem mk_X10_lots : mok MX10_lots 0 := ⟨by decide, by decide, by decide +kernel⟩
theorem im_X10_lots : Cond.instanceMethod MX10_lots.1 ∈ gT := wt (i := 1650) (by decide +kernel) rfl
theorem se_X10_lots : Cond.selects MX10_lots.1.cls MX10_lots.1 MX10_lots.1 ∈ gT := wt (i := 83) (by decide +kernel) rfl
set_option maxRecDepth 60000 in
theorem cw_X10_mayHave : Cond.code MX10_mayHave.1 MX10_mayHave.2.1 MX10_mayHave.2.2.1 MX10_mayHave.2.2.2.1 ∈ gT := wt (i := 1688) rfl rfl
theorem mk_X10_mayHave : mok MX10_mayHave 1 := ⟨by decide, by decide, by decide +kernel⟩
theorem im_X10_mayHave : Cond.instanceMethod MX10_mayHave.1 ∈ gT := wt (i := 1687) (by decide +kernel) rfl
theorem se_X10_mayHave : Cond.selects MX10_mayHave.1.cls MX10_mayHave.1 MX10_mayHave.1 ∈ gT := wt (i := 89) (by decide +kernel) rfl
set_option maxRecDepth 60000 in
theorem cw_X10_nameHere : Cond.code MX10_nameHere.1 MX10_nameHere.2.1 MX10_nameHere.2.2.1 MX10_nameHere.2.2.2.1 ∈ gT := wt (i := 1494) rfl rfl
theorem mk_X10_nameHere : mok MX10_nameHere 0 := ⟨by decide, by decide, by decide +kernel⟩
theorem im_X10_nameHere : Cond.instanceMethod MX10_nameHere.1 ∈ gT := wt (i := 1493) (by decide +kernel) rfl
theorem se_X10_nameHere : Cond.selects MX10_nameHere.1.cls MX10_nameHere.1 MX10_nameHere.1 ∈ gT := wt (i := 59) (by decide +kernel) rfl
set_option maxRecDepth 60000 in
theorem cw_X10_netOf : Cond.code MX10_netOf.1 MX10_netOf.2.1 MX10_netOf.2.2.1 MX10_netOf.2.2.2.1 ∈ gT := wt (i := 1638) rfl rfl
theorem mk_X10_netOf : mok MX10_netOf 2 := ⟨by decide, by decide, by decide +kernel⟩
theorem im_X10_netOf : Cond.instanceMethod MX10_netOf.1 ∈ gT := wt (i := 1637) (by decide +kernel) rfl
theorem se_X10_netOf : Cond.selects MX10_netOf.1.cls MX10_netOf.1 MX10_netOf.1 ∈ gT := wt (i := 81) (by decide +kernel) rfl
set_option maxRecDepth 60000 in
theorem cw_X10_number : Cond.code MX10_number.1 MX10_number.2.1 MX10_number.2.2.1 MX10_number.2.2.2.1 ∈ gT := wt (i := 1505) rfl rfl
theorem mk_X10_number : mok MX10_number 3 := ⟨by decide, by decide, by decide +kernel⟩
theorem im_X10_number : Cond.instanceMethod MX10_number.1 ∈ gT := wt (i := 1504) (by decide +kernel) rfl
theorem se_X10_number : Cond.selects MX10_number.1.cls MX10_number.1 MX10_number.1 ∈ gT := wt (i := 61) (by decide +kernel) rfl
set_option maxRecDepth 60000 in
theorem cw_X10_ofFamily : Cond.code MX10_ofFamily.1 MX10_ofFamily.2.1 MX10_ofFamily.2.2.1 MX10_ofFamily.2.2.2.1 ∈ gT := wt (i := 1569) rfl rfl
theorem mk_X10_ofFamily : mok MX10_ofFamily 2 := ⟨by decide, by decide, by decide +kernel⟩
theorem im_X10_ofFamily : Cond.instanceMethod MX10_ofFamily.1 ∈ gT := wt (i := 1568) (by decide +kernel) rfl
theorem se_X10_ofFamily : Cond.selects MX10_ofFamily.1.cls MX10_ofFamily.1 MX10_ofFamily.1 ∈ gT := wt (i := 72) (by decide +kernel) rfl
set_option maxRecDepth 60000 in
theorem cw_X10_ofHarm : Cond.code MX10_ofHarm.1 MX10_ofHarm.2.1 MX10_ofHarm.2.2.1 MX10_ofHarm.2.2.2.1 ∈ gT := wt (i := 1553) rfl rfl
theorem mk_X10_ofHarm : mok MX10_ofHarm 2 := ⟨by decide, by decide, by decide +kernel⟩
theorem im_X10_ofHarm : Cond.instanceMethod MX10_ofHarm.1 ∈ gT := wt (i := 1552) (by decide +kernel) rfl
theorem se_X10_ofHarm : Cond.selects MX10_ofHarm.1.cls MX10_ofHarm.1 MX10_ofHarm.1 ∈ gT := wt (i := 69) (by decide +kernel) rfl
set_option maxRecDepth 60000 in
theorem cw_X10_ofStrip : Cond.code MX10_ofStrip.1 MX10_ofStrip.2.1 MX10_ofStrip.2.2.1 MX10_ofStrip.2.2.2.1 ∈ gT := wt (i := 1541) rfl rfl
theorem mk_X10_ofStrip : mok MX10_ofStrip 2 := ⟨by decide, by decide, by decide +kernel⟩
theorem im_X10_ofStrip : Cond.instanceMethod MX10_ofStrip.1 ∈ gT := wt (i := 1540) (by decide +kernel) rfl
theorem se_X10_ofStrip : Cond.selects MX10_ofStrip.1.cls MX10_ofStrip.1 MX10_ofStrip.1 ∈ gT := wt (i := 67) (by decide +kernel) rfl
set_option maxRecDepth 60000 in
theorem cw_X10_part : Cond.code MX10_part.1 MX10_part.2.1 MX10_part.2.2.1 MX10_part.2.2.2.1 ∈ gT := wt (i := 1425) rfl rfl
theorem mk_X10_part : mok MX10_part 0 := ⟨by decide, by decide, by decide +kernel⟩
theorem im_X10_part : Cond.instanceMethod MX10_part.1 ∈ gT := wt (i := 1424) (by decide +kernel) rfl
theorem se_X10_part : Cond.selects MX10_part.1.cls MX10_part.1 MX10_part.1 ∈ gT := wt (i := 54) (by decide +kernel) rfl
set_option maxRecDepth 60000 in
theorem cw_X10_refuse : Cond.code MX10_refuse.1 MX10_refuse.2.1 MX10_refuse.2.2.1 MX10_refuse.2.2.2.1 ∈ gT := wt (i := 1406) rfl rfl
theorem mk_X10_refuse : mok MX10_refuse 1 := ⟨by decide, by decide, by decide +kernel⟩
theorem im_X10_refuse : Cond.instanceMethod MX10_refuse.1 ∈ gT := wt (i := 1405) (by decide +kernel) rfl
theorem se_X10_refuse : Cond.selects MX10_refuse.1.cls MX10_refuse.1 MX10_refuse.1 ∈ gT := wt (i := 51) (by decide +kernel) rfl
set_option maxRecDepth 60000 in
theorem cw_X10_roundOf : Cond.code MX10_roundOf.1 MX10_roundOf.2.1 MX10_roundOf.2.2.1 MX10_roundOf.2.2.2.1 ∈ gT := wt (i := 1621) rfl rfl
theorem mk_X10_roundOf : mok MX10_roundOf 2 := ⟨by decide, by decide, by decide +kernel⟩
theorem im_X10_roundOf : Cond.instanceMethod MX10_roundOf.1 ∈ gT := wt (i := 1620) (by decide +kernel) rfl
theorem se_X10_roundOf : Cond.selects MX10_roundOf.1.cls MX10_roundOf.1 MX10_roundOf.1 ∈ gT := wt (i := 79) (by decide +kernel) rfl
set_option maxRecDepth 60000 in
theorem cw_X10_settles : Cond.code MX10_settles.1 MX10_settles.2.1 MX10_settles.2.2.1 MX10_settles.2.2.2.1 ∈ gT := wt (i := 1743) rfl rfl
theorem mk_X10_settles : mok MX10_settles 0 := ⟨by decide, by decide, by decide +kernel⟩
theorem im_X10_settles : Cond.instanceMethod MX10_settles.1 ∈ gT := wt (i := 1742) (by decide +kernel) rfl
theorem se_X10_settles : Cond.selects MX10_settles.1.cls MX10_settles.1 MX10_settles.1 ∈ gT := wt (i := 93) (by decide +kernel) rfl
set_option maxRecDepth 60000 in
theorem cw_X10_shortOf : Cond.code MX10_shortOf.1 MX10_shortOf.2.1 MX10_shortOf.2.2.1 MX10_shortOf.2.2.2.1 ∈ gT := wt (i := 1676) rfl rfl
theorem mk_X10_shortOf : mok MX10_shortOf 2 := ⟨by decide, by decide, by decide +kernel⟩
theorem im_X10_shortOf : Cond.instanceMethod MX10_shortOf.1 ∈ gT := wt (i := 1675) (by decide +kernel) rfl
theorem se_X10_shortOf : Cond.selects MX10_shortOf.1.cls MX10_shortOf.1 MX10_shortOf.1 ∈ gT := wt (i := 87) (by decide +kernel) rfl
set_option maxRecDepth 60000 in
theorem cw_X10_starvesIn : Cond.code MX10_starvesIn.1 MX10_starvesIn.2.1 MX10_starvesIn.2.2.1 MX10_starvesIn.2.2.2.1 ∈ gT := wt (i := 1794) rfl rfl
theorem mk_X10_starvesIn : mok MX10_starvesIn 4 := ⟨by decide, by decide, by decide +kernel⟩
theorem im_X10_starvesIn : Cond.instanceMethod MX10_starvesIn.1 ∈ gT := wt (i := 1793) (by decide +kernel) rfl
theorem se_X10_starvesIn : Cond.selects MX10_starvesIn.1.cls MX10_starvesIn.1 MX10_starvesIn.1 ∈ gT := wt (i := 100) (by decide +kernel) rfl
set_option maxRecDepth 60000 in
theorem cw_X10_swapsOf : Cond.code MX10_swapsOf.1 MX10_swapsOf.2.1 MX10_swapsOf.2.2.1 MX10_swapsOf.2.2.2.1 ∈ gT := wt (i := 1723) rfl rfl
theorem mk_X10_swapsOf : mok MX10_swapsOf 3 := ⟨by decide, by decide, by decide +kernel⟩
theorem im_X10_swapsOf : Cond.instanceMethod MX10_swapsOf.1 ∈ gT := wt (i := 1722) (by decide +kernel) rfl
theorem se_X10_swapsOf : Cond.selects MX10_swapsOf.1.cls MX10_swapsOf.1 MX10_swapsOf.1 ∈ gT := wt (i := 91) (by decide +kernel) rfl
set_option maxRecDepth 60000 in
theorem cw_X10_tells : Cond.code MX10_tells.1 MX10_tells.2.1 MX10_tells.2.2.1 MX10_tells.2.2.2.1 ∈ gT := wt (i := 1660) rfl rfl
theorem mk_X10_tells : mok MX10_tells 2 := ⟨by decide, by decide, by decide +kernel⟩
theorem im_X10_tells : Cond.instanceMethod MX10_tells.1 ∈ gT := wt (i := 1659) (by decide +kernel) rfl
theorem se_X10_tells : Cond.selects MX10_tells.1.cls MX10_tells.1 MX10_tells.1 ∈ gT := wt (i := 85) (by decide +kernel) rfl
set_option maxRecDepth 60000 in
theorem cw_X10_wantWord : Cond.code MX10_wantWord.1 MX10_wantWord.2.1 MX10_wantWord.2.2.1 MX10_wantWord.2.2.2.1 ∈ gT := wt (i := 1501) rfl rfl
theorem mk_X10_wantWord : mok MX10_wantWord 1 := ⟨by decide, by decide, by decide +kernel⟩
theorem im_X10_wantWord : Cond.instanceMethod MX10_wantWord.1 ∈ gT := wt (i := 1500) (by decide +kernel) rfl
theorem se_X10_wantWord : Cond.selects MX10_wantWord.1.cls MX10_wantWord.1 MX10_wantWord.1 ∈ gT := wt (i := 60) (by decide +kernel) rfl
set_option maxRecDepth 60000 in
theorem cw_X10_weightOf : Cond.code MX10_weightOf.1 MX10_weightOf.2.1 MX10_weightOf.2.2.1 MX10_weightOf.2.2.2.1 ∈ gT := wt (i := 1597) rfl rfl
theorem mk_X10_weightOf : mok MX10_weightOf 1 := ⟨by decide, by decide, by decide +kernel⟩
theorem im_X10_weightOf : Cond.instanceMethod MX10_weightOf.1 ∈ gT := wt (i := 1596) (by decide +kernel) rfl
theorem se_X10_weightOf : Cond.selects MX10_weightOf.1.cls MX10_weightOf.1 MX10_weightOf.1 ∈ gT := wt (i := 75) (by decide +kernel) rfl
set_option maxRecDepth 60000 in
theorem cw_X10_worthOf : Cond.code MX10_worthOf.1 MX10_worthOf.2.1 MX10_worthOf.2.2.1 MX10_worthOf.2.2.2.1 ∈ gT := wt (i := 1672) rfl rfl
theorem mk_X10_worthOf : mok MX10_worthOf 2 := ⟨by decide, by decide, by decide +kernel⟩
theorem im_X10_worthOf : Cond.instanceMethod MX10_worthOf.1 ∈ gT := wt (i := 1671) (by decide +kernel) rfl
theorem se_X10_worthOf : Cond.selects MX10_worthOf.1.cls MX10_worthOf.1 MX10_worthOf.1 ∈ gT := wt (i := 86) (by decide +kernel) rfl
set_option maxRecDepth 60000 in
theorem cw_X10_wrongPlace : Cond.code MX10_wrongPlace.1 MX10_wrongPlace.2.1 MX10_wrongPlace.2.2.1 MX10_wrongPlace.2.2.2.1 ∈ gT := wt (i := 1378) rfl rfl
theorem mk_X10_wrongPlace : mok MX10_wrongPlace 2 := ⟨by decide, by decide, by decide +kernel⟩
theorem im_X10_wrongPlace : Cond.instanceMethod MX10_wrongPlace.1 ∈ gT := wt (i := 1377) (by decide +kernel) rfl
theorem se_X10_wrongPlace : Cond.selects MX10_wrongPlace.1.cls MX10_wrongPlace.1 MX10_wrongPlace.1 ∈ gT := wt (i := 49) (by decide +kernel) rfl
set_option maxRecDepth 60000 in
theorem cw_X10_wrongYears : Cond.code MX10_wrongYears.1 MX10_wrongYears.2.1 MX10_wrongYears.2.2.1 MX10_wrongYears.2.2.2.1 ∈ gT := wt (i := 1790) rfl rfl
theorem mk_X10_wrongYears : mok MX10_wrongYears 3 := ⟨by decide, by decide, by decide +kernel⟩
theorem im_X10_wrongYears : Cond.instanceMethod MX10_wrongYears.1 ∈ gT := wt (i := 1789) (by decide +kernel) rfl
theorem se_X10_wrongYears : Cond.selects MX10_wrongYears.1.cls MX10_wrongYears.1 MX10_wrongYears.1 ∈ gT := wt (i := 99) (by decide +kernel) rfl
set_option maxRecDepth 60000 in
theorem cw_X1_bestExchange : Cond.code MX1_bestExchange.1 MX1_bestExchange.2.1 MX1_bestExchange.2.2.1 MX1_bestExchange.2.2.2.1 ∈ gT := wt (i := 998) rfl rfl
theorem mk_X1_bestExchange : mok MX1_bestExchange 3 := ⟨by decide, by decide, by decide +kernel⟩
theorem im_X1_bestExchange : Cond.instanceMethod MX1_bestExchange.1 ∈ gT := wt (i := 997) (by decide +kernel) rfl
theorem se_X1_bestExchange : Cond.selects MX1_bestExchange.1.cls MX1_bestExchange.1 MX1_bestExchange.1 ∈ gT := wt (i := 29) (by decide +kernel) rfl
set_option maxRecDepth 60000 in
theorem cw_X1_bestIndex : Cond.code MX1_bestIndex.1 MX1_bestIndex.2.1 MX1_bestIndex.2.2.1 MX1_bestIndex.2.2.2.1 ∈ gT := wt (i := 978) rfl rfl
theorem mk_X1_bestIndex : mok MX1_bestIndex 1 := ⟨by decide, by decide, by decide +kernel⟩
theorem im_X1_bestIndex : Cond.instanceMethod MX1_bestIndex.1 ∈ gT := wt (i := 976) (by decide +kernel) rfl
theorem se_X1_bestIndex : Cond.selects MX1_bestIndex.1.cls MX1_bestIndex.1 MX1_bestIndex.1 ∈ gT := wt (i := 977) (by decide +kernel) rfl
set_option maxRecDepth 60000 in
theorem cw_X1_climbFrom : Cond.code MX1_climbFrom.1 MX1_climbFrom.2.1 MX1_climbFrom.2.2.1 MX1_climbFrom.2.2.2.1 ∈ gT := wt (i := 991) rfl rfl
theorem mk_X1_climbFrom : mok MX1_climbFrom 1 := ⟨by decide, by decide, by decide +kernel⟩
theorem im_X1_climbFrom : Cond.instanceMethod MX1_climbFrom.1 ∈ gT := wt (i := 989) (by decide +kernel) rfl
theorem se_X1_climbFrom : Cond.selects MX1_climbFrom.1.cls MX1_climbFrom.1 MX1_climbFrom.1 ∈ gT := wt (i := 990) (by decide +kernel) rfl
set_option maxRecDepth 60000 in
theorem cw_X1_leastOtherHunger : Cond.code MX1_leastOtherHunger.1 MX1_leastOtherHunger.2.1 MX1_leastOtherHunger.2.2.1 MX1_leastOtherHunger.2.2.2.1 ∈ gT := wt (i := 1010) rfl rfl
theorem mk_X1_leastOtherHunger : mok MX1_leastOtherHunger 0 := ⟨by decide, by decide, by decide +kernel⟩
theorem im_X1_leastOtherHunger : Cond.instanceMethod MX1_leastOtherHunger.1 ∈ gT := wt (i := 1008) (by decide +kernel) rfl
theorem se_X1_leastOtherHunger : Cond.selects MX1_leastOtherHunger.1.cls MX1_leastOtherHunger.1 MX1_leastOtherHunger.1 ∈ gT := wt (i := 1009) (by decide +kernel) rfl
set_option maxRecDepth 60000 in
theorem cw_X1_listSets : Cond.code MX1_listSets.1 MX1_listSets.2.1 MX1_listSets.2.2.1 MX1_listSets.2.2.2.1 ∈ gT := wt (i := 971) rfl rfl
theorem mk_X1_listSets : mok MX1_listSets 2 := ⟨by decide, by decide, by decide +kernel⟩
theorem im_X1_listSets : Cond.instanceMethod MX1_listSets.1 ∈ gT := wt (i := 969) (by decide +kernel) rfl
theorem se_X1_listSets : Cond.selects MX1_listSets.1.cls MX1_listSets.1 MX1_listSets.1 ∈ gT := wt (i := 970) (by decide +kernel) rfl
set_option maxRecDepth 60000 in
theorem cw_X1_worthAt : Cond.code MX1_worthAt.1 MX1_worthAt.2.1 MX1_worthAt.2.2.1 MX1_worthAt.2.2.2.1 ∈ gT := wt (i := 982) rfl rfl
theorem mk_X1_worthAt : mok MX1_worthAt 2 := ⟨by decide, by decide, by decide +kernel⟩
theorem im_X1_worthAt : Cond.instanceMethod MX1_worthAt.1 ∈ gT := wt (i := 980) (by decide +kernel) rfl
theorem se_X1_worthAt : Cond.selects MX1_worthAt.1.cls MX1_worthAt.1 MX1_worthAt.1 ∈ gT := wt (i := 981) (by decide +kernel) rfl
set_option maxRecDepth 60000 in
theorem cw_X2_dealtTo : Cond.code MX2_dealtTo.1 MX2_dealtTo.2.1 MX2_dealtTo.2.2.1 MX2_dealtTo.2.2.2.1 ∈ gT := wt (i := 1173) rfl rfl
theorem mk_X2_dealtTo : mok MX2_dealtTo 1 := ⟨by decide, by decide, by decide +kernel⟩
theorem im_X2_dealtTo : Cond.instanceMethod MX2_dealtTo.1 ∈ gT := wt (i := 1172) (by decide +kernel) rfl
theorem se_X2_dealtTo : Cond.selects MX2_dealtTo.1.cls MX2_dealtTo.1 MX2_dealtTo.1 ∈ gT := wt (i := 44) (by decide +kernel) rfl
set_option maxRecDepth 60000 in
theorem cw_X2_exchange : Cond.code MX2_exchange.1 MX2_exchange.2.1 MX2_exchange.2.2.1 MX2_exchange.2.2.2.1 ∈ gT := wt (i := 1167) rfl rfl
theorem mk_X2_exchange : mok MX2_exchange 2 := ⟨by decide, by decide, by decide +kernel⟩
theorem im_X2_exchange : Cond.instanceMethod MX2_exchange.1 ∈ gT := wt (i := 1166) (by decide +kernel) rfl
theorem se_X2_exchange : Cond.selects MX2_exchange.1.cls MX2_exchange.1 MX2_exchange.1 ∈ gT := wt (i := 43) (by decide +kernel) rfl
set_option maxRecDepth 60000 in
theorem cw_X2_fillRow : Cond.code MX2_fillRow.1 MX2_fillRow.2.1 MX2_fillRow.2.2.1 MX2_fillRow.2.2.2.1 ∈ gT := wt (i := 1155) rfl rfl
theorem mk_X2_fillRow : mok MX2_fillRow 0 := ⟨by decide, by decide, by decide +kernel⟩
theorem im_X2_fillRow : Cond.instanceMethod MX2_fillRow.1 ∈ gT := wt (i := 1154) (by decide +kernel) rfl
theorem se_X2_fillRow : Cond.selects MX2_fillRow.1.cls MX2_fillRow.1 MX2_fillRow.1 ∈ gT := wt (i := 40) (by decide +kernel) rfl
set_option maxRecDepth 60000 in
theorem cw_X2_losersByPlace : Cond.code MX2_losersByPlace.1 MX2_losersByPlace.2.1 MX2_losersByPlace.2.2.1 MX2_losersByPlace.2.2.2.1 ∈ gT := wt (i := 1151) rfl rfl
theorem mk_X2_losersByPlace : mok MX2_losersByPlace 0 := ⟨by decide, by decide, by decide +kernel⟩
theorem im_X2_losersByPlace : Cond.instanceMethod MX2_losersByPlace.1 ∈ gT := wt (i := 1149) (by decide +kernel) rfl
theorem se_X2_losersByPlace : Cond.selects MX2_losersByPlace.1.cls MX2_losersByPlace.1 MX2_losersByPlace.1 ∈ gT := wt (i := 1150) (by decide +kernel) rfl
set_option maxRecDepth 60000 in
theorem cw_X2_luckierDeals : Cond.code MX2_luckierDeals.1 MX2_luckierDeals.2.1 MX2_luckierDeals.2.2.1 MX2_luckierDeals.2.2.2.1 ∈ gT := wt (i := 1201) rfl rfl
theorem mk_X2_luckierDeals : mok MX2_luckierDeals 4 := ⟨by decide, by decide, by decide +kernel⟩
theorem im_X2_luckierDeals : Cond.instanceMethod MX2_luckierDeals.1 ∈ gT := wt (i := 1199) (by decide +kernel) rfl
theorem se_X2_luckierDeals : Cond.selects MX2_luckierDeals.1.cls MX2_luckierDeals.1 MX2_luckierDeals.1 ∈ gT := wt (i := 1200) (by decide +kernel) rfl
set_option maxRecDepth 60000 in
theorem cw_X2_nextDraw : Cond.code MX2_nextDraw.1 MX2_nextDraw.2.1 MX2_nextDraw.2.2.1 MX2_nextDraw.2.2.2.1 ∈ gT := wt (i := 1210) rfl rfl
theorem mk_X2_nextDraw : mok MX2_nextDraw 0 := ⟨by decide, by decide, by decide +kernel⟩
theorem im_X2_nextDraw : Cond.instanceMethod MX2_nextDraw.1 ∈ gT := wt (i := 1209) (by decide +kernel) rfl
theorem se_X2_nextDraw : Cond.selects MX2_nextDraw.1.cls MX2_nextDraw.1 MX2_nextDraw.1 ∈ gT := wt (i := 47) (by decide +kernel) rfl
set_option maxRecDepth 60000 in
theorem cw_X2_shuffleRow : Cond.code MX2_shuffleRow.1 MX2_shuffleRow.2.1 MX2_shuffleRow.2.2.1 MX2_shuffleRow.2.2.2.1 ∈ gT := wt (i := 1206) rfl rfl
theorem mk_X2_shuffleRow : mok MX2_shuffleRow 0 := ⟨by decide, by decide, by decide +kernel⟩
theorem im_X2_shuffleRow : Cond.instanceMethod MX2_shuffleRow.1 ∈ gT := wt (i := 1205) (by decide +kernel) rfl
theorem se_X2_shuffleRow : Cond.selects MX2_shuffleRow.1.cls MX2_shuffleRow.1 MX2_shuffleRow.1 ∈ gT := wt (i := 46) (by decide +kernel) rfl
set_option maxRecDepth 60000 in
theorem cw_X2_sortRow : Cond.code MX2_sortRow.1 MX2_sortRow.2.1 MX2_sortRow.2.2.1 MX2_sortRow.2.2.2.1 ∈ gT := wt (i := 1159) rfl rfl
theorem mk_X2_sortRow : mok MX2_sortRow 0 := ⟨by decide, by decide, by decide +kernel⟩
theorem im_X2_sortRow : Cond.instanceMethod MX2_sortRow.1 ∈ gT := wt (i := 1158) (by decide +kernel) rfl
theorem se_X2_sortRow : Cond.selects MX2_sortRow.1.cls MX2_sortRow.1 MX2_sortRow.1 ∈ gT := wt (i := 41) (by decide +kernel) rfl
set_option maxRecDepth 60000 in
theorem cw_X2_standsAhead : Cond.code MX2_standsAhead.1 MX2_standsAhead.2.1 MX2_standsAhead.2.2.1 MX2_standsAhead.2.2.2.1 ∈ gT := wt (i := 1163) rfl rfl
theorem mk_X2_standsAhead : mok MX2_standsAhead 2 := ⟨by decide, by decide, by decide +kernel⟩
theorem im_X2_standsAhead : Cond.instanceMethod MX2_standsAhead.1 ∈ gT := wt (i := 1162) (by decide +kernel) rfl
theorem se_X2_standsAhead : Cond.selects MX2_standsAhead.1.cls MX2_standsAhead.1 MX2_standsAhead.1 ∈ gT := wt (i := 42) (by decide +kernel) rfl
set_option maxRecDepth 60000 in
theorem cw_X2_startDraws : Cond.code MX2_startDraws.1 MX2_startDraws.2.1 MX2_startDraws.2.2.1 MX2_startDraws.2.2.2.1 ∈ gT := wt (i := 1197) rfl rfl
theorem mk_X2_startDraws : mok MX2_startDraws 1 := ⟨by decide, by decide, by decide +kernel⟩
theorem im_X2_startDraws : Cond.instanceMethod MX2_startDraws.1 ∈ gT := wt (i := 1195) (by decide +kernel) rfl
theorem se_X2_startDraws : Cond.selects MX2_startDraws.1.cls MX2_startDraws.1 MX2_startDraws.1 ∈ gT := wt (i := 1196) (by decide +kernel) rfl
set_option maxRecDepth 60000 in
theorem cw_X3_fillHungry : Cond.code MX3_fillHungry.1 MX3_fillHungry.2.1 MX3_fillHungry.2.2.1 MX3_fillHungry.2.2.2.1 ∈ gT := wt (i := 1106) rfl rfl
theorem mk_X3_fillHungry : mok MX3_fillHungry 2 := ⟨by decide, by decide, by decide +kernel⟩
theorem im_X3_fillHungry : Cond.instanceMethod MX3_fillHungry.1 ∈ gT := wt (i := 1105) (by decide +kernel) rfl
theorem se_X3_fillHungry : Cond.selects MX3_fillHungry.1.cls MX3_fillHungry.1 MX3_fillHungry.1 ∈ gT := wt (i := 35) (by decide +kernel) rfl
set_option maxRecDepth 60000 in
theorem cw_X3_findLeast : Cond.code MX3_findLeast.1 MX3_findLeast.2.1 MX3_findLeast.2.2.1 MX3_findLeast.2.2.2.1 ∈ gT := wt (i := 1101) rfl rfl
theorem mk_X3_findLeast : mok MX3_findLeast 1 := ⟨by decide, by decide, by decide +kernel⟩
theorem im_X3_findLeast : Cond.instanceMethod MX3_findLeast.1 ∈ gT := wt (i := 1099) (by decide +kernel) rfl
theorem se_X3_findLeast : Cond.selects MX3_findLeast.1.cls MX3_findLeast.1 MX3_findLeast.1 ∈ gT := wt (i := 1100) (by decide +kernel) rfl
set_option maxRecDepth 60000 in
theorem cw_X3_isSmallEnough : Cond.code MX3_isSmallEnough.1 MX3_isSmallEnough.2.1 MX3_isSmallEnough.2.2.1 MX3_isSmallEnough.2.2.2.1 ∈ gT := wt (i := 1097) rfl rfl
theorem mk_X3_isSmallEnough : mok MX3_isSmallEnough 0 := ⟨by decide, by decide, by decide +kernel⟩
theorem im_X3_isSmallEnough : Cond.instanceMethod MX3_isSmallEnough.1 ∈ gT := wt (i := 1095) (by decide +kernel) rfl
theorem se_X3_isSmallEnough : Cond.selects MX3_isSmallEnough.1.cls MX3_isSmallEnough.1 MX3_isSmallEnough.1 ∈ gT := wt (i := 1096) (by decide +kernel) rfl
set_option maxRecDepth 60000 in
theorem cw_X3_startWays : Cond.code MX3_startWays.1 MX3_startWays.2.1 MX3_startWays.2.2.1 MX3_startWays.2.2.2.1 ∈ gT := wt (i := 1113) rfl rfl
theorem mk_X3_startWays : mok MX3_startWays 0 := ⟨by decide, by decide, by decide +kernel⟩
theorem im_X3_startWays : Cond.instanceMethod MX3_startWays.1 ∈ gT := wt (i := 1112) (by decide +kernel) rfl
theorem se_X3_startWays : Cond.selects MX3_startWays.1.cls MX3_startWays.1 MX3_startWays.1 ∈ gT := wt (i := 36) (by decide +kernel) rfl
set_option maxRecDepth 60000 in
theorem cw_X3_turnToNextWay : Cond.code MX3_turnToNextWay.1 MX3_turnToNextWay.2.1 MX3_turnToNextWay.2.2.1 MX3_turnToNextWay.2.2.2.1 ∈ gT := wt (i := 1127) rfl rfl
theorem mk_X3_turnToNextWay : mok MX3_turnToNextWay 0 := ⟨by decide, by decide, by decide +kernel⟩
theorem im_X3_turnToNextWay : Cond.instanceMethod MX3_turnToNextWay.1 ∈ gT := wt (i := 1126) (by decide +kernel) rfl
theorem se_X3_turnToNextWay : Cond.selects MX3_turnToNextWay.1.cls MX3_turnToNextWay.1 MX3_turnToNextWay.1 ∈ gT := wt (i := 39) (by decide +kernel) rfl
set_option maxRecDepth 60000 in
theorem cw_X3_weightOfWay : Cond.code MX3_weightOfWay.1 MX3_weightOfWay.2.1 MX3_weightOfWay.2.2.1 MX3_weightOfWay.2.2.2.1 ∈ gT := wt (i := 1118) rfl rfl
theorem mk_X3_weightOfWay : mok MX3_weightOfWay 0 := ⟨by decide, by decide, by decide +kernel⟩
theorem im_X3_weightOfWay : Cond.instanceMethod MX3_weightOfWay.1 ∈ gT := wt (i := 1117) (by decide +kernel) rfl
theorem se_X3_weightOfWay : Cond.selects MX3_weightOfWay.1.cls MX3_weightOfWay.1 MX3_weightOfWay.1 ∈ gT := wt (i := 37) (by decide +kernel) rfl
set_option maxRecDepth 60000 in
theorem cw_X3_worstOfWay : Cond.code MX3_worstOfWay.1 MX3_worstOfWay.2.1 MX3_worstOfWay.2.2.1 MX3_worstOfWay.2.2.2.1 ∈ gT := wt (i := 1122) rfl rfl
theorem mk_X3_worstOfWay : mok MX3_worstOfWay 0 := ⟨by decide, by decide, by decide +kernel⟩
theorem im_X3_worstOfWay : Cond.instanceMethod MX3_worstOfWay.1 ∈ gT := wt (i := 1121) (by decide +kernel) rfl
theorem se_X3_worstOfWay : Cond.selects MX3_worstOfWay.1.cls MX3_worstOfWay.1 MX3_worstOfWay.1 ∈ gT := wt (i := 38) (by decide +kernel) rfl
set_option maxRecDepth 60000 in
theorem cw_X4_countSwaps : Cond.code MX4_countSwaps.1 MX4_countSwaps.2.1 MX4_countSwaps.2.2.1 MX4_countSwaps.2.2.2.1 ∈ gT := wt (i := 1050) rfl rfl
theorem mk_X4_countSwaps : mok MX4_countSwaps 3 := ⟨by decide, by decide, by decide +kernel⟩
theorem im_X4_countSwaps : Cond.instanceMethod MX4_countSwaps.1 ∈ gT := wt (i := 1048) (by decide +kernel) rfl
theorem se_X4_countSwaps : Cond.selects MX4_countSwaps.1.cls MX4_countSwaps.1 MX4_countSwaps.1 ∈ gT := wt (i := 1049) (by decide +kernel) rfl
set_option maxRecDepth 60000 in
theorem cw_X4_findRing : Cond.code MX4_findRing.1 MX4_findRing.2.1 MX4_findRing.2.2.1 MX4_findRing.2.2.2.1 ∈ gT := wt (i := 1076) rfl rfl
theorem mk_X4_findRing : mok MX4_findRing 3 := ⟨by decide, by decide, by decide +kernel⟩
theorem im_X4_findRing : Cond.instanceMethod MX4_findRing.1 ∈ gT := wt (i := 1074) (by decide +kernel) rfl
theorem se_X4_findRing : Cond.selects MX4_findRing.1.cls MX4_findRing.1 MX4_findRing.1 ∈ gT := wt (i := 1075) (by decide +kernel) rfl
set_option maxRecDepth 60000 in
theorem cw_X4_gains : Cond.code MX4_gains.1 MX4_gains.2.1 MX4_gains.2.2.1 MX4_gains.2.2.2.1 ∈ gT := wt (i := 1064) rfl rfl
theorem mk_X4_gains : mok MX4_gains 3 := ⟨by decide, by decide, by decide +kernel⟩
theorem im_X4_gains : Cond.instanceMethod MX4_gains.1 ∈ gT := wt (i := 1063) (by decide +kernel) rfl
theorem se_X4_gains : Cond.selects MX4_gains.1.cls MX4_gains.1 MX4_gains.1 ∈ gT := wt (i := 33) (by decide +kernel) rfl
set_option maxRecDepth 60000 in
theorem cw_X4_holds : Cond.code MX4_holds.1 MX4_holds.2.1 MX4_holds.2.2.1 MX4_holds.2.2.2.1 ∈ gT := wt (i := 1060) rfl rfl
theorem mk_X4_holds : mok MX4_holds 2 := ⟨by decide, by decide, by decide +kernel⟩
theorem im_X4_holds : Cond.instanceMethod MX4_holds.1 ∈ gT := wt (i := 1059) (by decide +kernel) rfl
theorem se_X4_holds : Cond.selects MX4_holds.1.cls MX4_holds.1 MX4_holds.1 ∈ gT := wt (i := 32) (by decide +kernel) rfl
set_option maxRecDepth 60000 in
theorem cw_X4_look : Cond.code MX4_look.1 MX4_look.2.1 MX4_look.2.2.1 MX4_look.2.2.2.1 ∈ gT := wt (i := 1054) rfl rfl
theorem mk_X4_look : mok MX4_look 1 := ⟨by decide, by decide, by decide +kernel⟩
theorem im_X4_look : Cond.instanceMethod MX4_look.1 ∈ gT := wt (i := 1053) (by decide +kernel) rfl
theorem se_X4_look : Cond.selects MX4_look.1.cls MX4_look.1 MX4_look.1 ∈ gT := wt (i := 31) (by decide +kernel) rfl
set_option maxRecDepth 60000 in
theorem cw_X4_swapFirst : Cond.code MX4_swapFirst.1 MX4_swapFirst.2.1 MX4_swapFirst.2.2.1 MX4_swapFirst.2.2.2.1 ∈ gT := wt (i := 1088) rfl rfl
theorem mk_X4_swapFirst : mok MX4_swapFirst 0 := ⟨by decide, by decide, by decide +kernel⟩
theorem im_X4_swapFirst : Cond.instanceMethod MX4_swapFirst.1 ∈ gT := wt (i := 1086) (by decide +kernel) rfl
theorem se_X4_swapFirst : Cond.selects MX4_swapFirst.1.cls MX4_swapFirst.1 MX4_swapFirst.1 ∈ gT := wt (i := 1087) (by decide +kernel) rfl
set_option maxRecDepth 60000 in
theorem cw_X4_thirdOfRing : Cond.code MX4_thirdOfRing.1 MX4_thirdOfRing.2.1 MX4_thirdOfRing.2.2.1 MX4_thirdOfRing.2.2.2.1 ∈ gT := wt (i := 1080) rfl rfl
theorem mk_X4_thirdOfRing : mok MX4_thirdOfRing 4 := ⟨by decide, by decide, by decide +kernel⟩
theorem im_X4_thirdOfRing : Cond.instanceMethod MX4_thirdOfRing.1 ∈ gT := wt (i := 1079) (by decide +kernel) rfl
theorem se_X4_thirdOfRing : Cond.selects MX4_thirdOfRing.1.cls MX4_thirdOfRing.1 MX4_thirdOfRing.1 ∈ gT := wt (i := 34) (by decide +kernel) rfl
set_option maxRecDepth 60000 in
theorem cw_X5_eighthsKept : Cond.code MX5_eighthsKept.1 MX5_eighthsKept.2.1 MX5_eighthsKept.2.2.1 MX5_eighthsKept.2.2.2.1 ∈ gT := wt (i := 840) rfl rfl
theorem mk_X5_eighthsKept : mok MX5_eighthsKept 2 := ⟨by decide, by decide, by decide +kernel⟩
theorem im_X5_eighthsKept : Cond.instanceMethod MX5_eighthsKept.1 ∈ gT := wt (i := 838) (by decide +kernel) rfl
theorem se_X5_eighthsKept : Cond.selects MX5_eighthsKept.1.cls MX5_eighthsKept.1 MX5_eighthsKept.1 ∈ gT := wt (i := 839) (by decide +kernel) rfl
set_option maxRecDepth 60000 in
theorem cw_X5_fillApart : Cond.code MX5_fillApart.1 MX5_fillApart.2.1 MX5_fillApart.2.2.1 MX5_fillApart.2.2.2.1 ∈ gT := wt (i := 874) rfl rfl
theorem mk_X5_fillApart : mok MX5_fillApart 0 := ⟨by decide, by decide, by decide +kernel⟩
theorem im_X5_fillApart : Cond.instanceMethod MX5_fillApart.1 ∈ gT := wt (i := 873) (by decide +kernel) rfl
theorem se_X5_fillApart : Cond.selects MX5_fillApart.1.cls MX5_fillApart.1 MX5_fillApart.1 ∈ gT := wt (i := 22) (by decide +kernel) rfl
set_option maxRecDepth 60000 in
theorem cw_X5_fillKept : Cond.code MX5_fillKept.1 MX5_fillKept.2.1 MX5_fillKept.2.2.1 MX5_fillKept.2.2.2.1 ∈ gT := wt (i := 869) rfl rfl
theorem mk_X5_fillKept : mok MX5_fillKept 0 := ⟨by decide, by decide, by decide +kernel⟩
theorem im_X5_fillKept : Cond.instanceMethod MX5_fillKept.1 ∈ gT := wt (i := 868) (by decide +kernel) rfl
theorem se_X5_fillKept : Cond.selects MX5_fillKept.1.cls MX5_fillKept.1 MX5_fillKept.1 ∈ gT := wt (i := 21) (by decide +kernel) rfl
set_option maxRecDepth 60000 in
theorem cw_X5_fillNets : Cond.code MX5_fillNets.1 MX5_fillNets.2.1 MX5_fillNets.2.2.1 MX5_fillNets.2.2.2.1 ∈ gT := wt (i := 908) rfl rfl
theorem mk_X5_fillNets : mok MX5_fillNets 3 := ⟨by decide, by decide, by decide +kernel⟩
theorem im_X5_fillNets : Cond.instanceMethod MX5_fillNets.1 ∈ gT := wt (i := 906) (by decide +kernel) rfl
theorem se_X5_fillNets : Cond.selects MX5_fillNets.1.cls MX5_fillNets.1 MX5_fillNets.1 ∈ gT := wt (i := 907) (by decide +kernel) rfl
set_option maxRecDepth 60000 in
theorem cw_X5_fillRounds : Cond.code MX5_fillRounds.1 MX5_fillRounds.2.1 MX5_fillRounds.2.2.1 MX5_fillRounds.2.2.2.1 ∈ gT := wt (i := 886) rfl rfl
theorem mk_X5_fillRounds : mok MX5_fillRounds 1 := ⟨by decide, by decide, by decide +kernel⟩
theorem im_X5_fillRounds : Cond.instanceMethod MX5_fillRounds.1 ∈ gT := wt (i := 885) (by decide +kernel) rfl
theorem se_X5_fillRounds : Cond.selects MX5_fillRounds.1.cls MX5_fillRounds.1 MX5_fillRounds.1 ∈ gT := wt (i := 24) (by decide +kernel) rfl
set_option maxRecDepth 60000 in
theorem cw_X5_forget : Cond.code MX5_forget.1 MX5_forget.2.1 MX5_forget.2.2.1 MX5_forget.2.2.2.1 ∈ gT := wt (i := 759) rfl rfl
theorem mk_X5_forget : mok MX5_forget 0 := ⟨by decide, by decide, by decide +kernel⟩
theorem im_X5_forget : Cond.instanceMethod MX5_forget.1 ∈ gT := wt (i := 757) (by decide +kernel) rfl
theorem se_X5_forget : Cond.selects MX5_forget.1.cls MX5_forget.1 MX5_forget.1 ∈ gT := wt (i := 758) (by decide +kernel) rfl
set_option maxRecDepth 60000 in
theorem cw_X5_halvingsUntilHungry : Cond.code MX5_halvingsUntilHungry.1 MX5_halvingsUntilHungry.2.1 MX5_halvingsUntilHungry.2.2.1 MX5_halvingsUntilHungry.2.2.2.1 ∈ gT := wt (i := 1139) rfl rfl
theorem mk_X5_halvingsUntilHungry : mok MX5_halvingsUntilHungry 2 := ⟨by decide, by decide, by decide +kernel⟩
theorem im_X5_halvingsUntilHungry : Cond.instanceMethod MX5_halvingsUntilHungry.1 ∈ gT := wt (i := 1137) (by decide +kernel) rfl
theorem se_X5_halvingsUntilHungry : Cond.selects MX5_halvingsUntilHungry.1.cls MX5_halvingsUntilHungry.1 MX5_halvingsUntilHungry.1 ∈ gT := wt (i := 1138) (by decide +kernel) rfl
set_option maxRecDepth 60000 in
theorem cw_X5_hungryYears : Cond.code MX5_hungryYears.1 MX5_hungryYears.2.1 MX5_hungryYears.2.2.1 MX5_hungryYears.2.2.2.1 ∈ gT := wt (i := 1188) rfl rfl
theorem mk_X5_hungryYears : mok MX5_hungryYears 4 := ⟨by decide, by decide, by decide +kernel⟩
theorem im_X5_hungryYears : Cond.instanceMethod MX5_hungryYears.1 ∈ gT := wt (i := 1186) (by decide +kernel) rfl
theorem se_X5_hungryYears : Cond.selects MX5_hungryYears.1.cls MX5_hungryYears.1 MX5_hungryYears.1 ∈ gT := wt (i := 1187) (by decide +kernel) rfl
set_option maxRecDepth 60000 in
theorem cw_X5_makeRoom : Cond.code MX5_makeRoom.1 MX5_makeRoom.2.1 MX5_makeRoom.2.2.1 MX5_makeRoom.2.2.2.1 ∈ gT := wt (i := 881) rfl rfl
theorem mk_X5_makeRoom : mok MX5_makeRoom 0 := ⟨by decide, by decide, by decide +kernel⟩
theorem im_X5_makeRoom : Cond.instanceMethod MX5_makeRoom.1 ∈ gT := wt (i := 880) (by decide +kernel) rfl
theorem se_X5_makeRoom : Cond.selects MX5_makeRoom.1.cls MX5_makeRoom.1 MX5_makeRoom.1 ∈ gT := wt (i := 23) (by decide +kernel) rfl
set_option maxRecDepth 60000 in
theorem cw_X5_ready : Cond.code MX5_ready.1 MX5_ready.2.1 MX5_ready.2.2.1 MX5_ready.2.2.2.1 ∈ gT := wt (i := 859) rfl rfl
theorem mk_X5_ready : mok MX5_ready 0 := ⟨by decide, by decide, by decide +kernel⟩
theorem im_X5_ready : Cond.instanceMethod MX5_ready.1 ∈ gT := wt (i := 857) (by decide +kernel) rfl
theorem se_X5_ready : Cond.selects MX5_ready.1.cls MX5_ready.1 MX5_ready.1 ∈ gT := wt (i := 858) (by decide +kernel) rfl
set_option maxRecDepth 60000 in
theorem cw_X5_roundOf : Cond.code MX5_roundOf.1 MX5_roundOf.2.1 MX5_roundOf.2.2.1 MX5_roundOf.2.2.2.1 ∈ gT := wt (i := 900) rfl rfl
theorem mk_X5_roundOf : mok MX5_roundOf 2 := ⟨by decide, by decide, by decide +kernel⟩
theorem im_X5_roundOf : Cond.instanceMethod MX5_roundOf.1 ∈ gT := wt (i := 898) (by decide +kernel) rfl
theorem se_X5_roundOf : Cond.selects MX5_roundOf.1.cls MX5_roundOf.1 MX5_roundOf.1 ∈ gT := wt (i := 899) (by decide +kernel) rfl
set_option maxRecDepth 60000 in
theorem cw_X5_shortestWay : Cond.code MX5_shortestWay.1 MX5_shortestWay.2.1 MX5_shortestWay.2.2.1 MX5_shortestWay.2.2.2.1 ∈ gT := wt (i := 895) rfl rfl
theorem mk_X5_shortestWay : mok MX5_shortestWay 2 := ⟨by decide, by decide, by decide +kernel⟩
theorem im_X5_shortestWay : Cond.instanceMethod MX5_shortestWay.1 ∈ gT := wt (i := 894) (by decide +kernel) rfl
theorem se_X5_shortestWay : Cond.selects MX5_shortestWay.1.cls MX5_shortestWay.1 MX5_shortestWay.1 ∈ gT := wt (i := 26) (by decide +kernel) rfl
set_option maxRecDepth 60000 in
theorem cw_X5_stepsFromHome : Cond.code MX5_stepsFromHome.1 MX5_stepsFromHome.2.1 MX5_stepsFromHome.2.2.1 MX5_stepsFromHome.2.2.2.1 ∈ gT := wt (i := 891) rfl rfl
theorem mk_X5_stepsFromHome : mok MX5_stepsFromHome 2 := ⟨by decide, by decide, by decide +kernel⟩
theorem im_X5_stepsFromHome : Cond.instanceMethod MX5_stepsFromHome.1 ∈ gT := wt (i := 890) (by decide +kernel) rfl
theorem se_X5_stepsFromHome : Cond.selects MX5_stepsFromHome.1.cls MX5_stepsFromHome.1 MX5_stepsFromHome.1 ∈ gT := wt (i := 25) (by decide +kernel) rfl
set_option maxRecDepth 60000 in
theorem cw_X5_sumUp : Cond.code MX5_sumUp.1 MX5_sumUp.2.1 MX5_sumUp.2.2.1 MX5_sumUp.2.2.2.1 ∈ gT := wt (i := 947) rfl rfl
theorem mk_X5_sumUp : mok MX5_sumUp 2 := ⟨by decide, by decide, by decide +kernel⟩
theorem im_X5_sumUp : Cond.instanceMethod MX5_sumUp.1 ∈ gT := wt (i := 945) (by decide +kernel) rfl
theorem se_X5_sumUp : Cond.selects MX5_sumUp.1.cls MX5_sumUp.1 MX5_sumUp.1 ∈ gT := wt (i := 946) (by decide +kernel) rfl
set_option maxRecDepth 60000 in
theorem cw_X5_weigh : Cond.code MX5_weigh.1 MX5_weigh.2.1 MX5_weigh.2.2.1 MX5_weigh.2.2.2.1 ∈ gT := wt (i := 863) rfl rfl
theorem mk_X5_weigh : mok MX5_weigh 2 := ⟨by decide, by decide, by decide +kernel⟩
theorem im_X5_weigh : Cond.instanceMethod MX5_weigh.1 ∈ gT := wt (i := 861) (by decide +kernel) rfl
theorem se_X5_weigh : Cond.selects MX5_weigh.1.cls MX5_weigh.1 MX5_weigh.1 ∈ gT := wt (i := 862) (by decide +kernel) rfl
set_option maxRecDepth 60000 in
theorem cw_X5_weightAtMost : Cond.code MX5_weightAtMost.1 MX5_weightAtMost.2.1 MX5_weightAtMost.2.2.1 MX5_weightAtMost.2.2.2.1 ∈ gT := wt (i := 917) rfl rfl
theorem mk_X5_weightAtMost : mok MX5_weightAtMost 1 := ⟨by decide, by decide, by decide +kernel⟩
theorem im_X5_weightAtMost : Cond.instanceMethod MX5_weightAtMost.1 ∈ gT := wt (i := 915) (by decide +kernel) rfl
theorem se_X5_weightAtMost : Cond.selects MX5_weightAtMost.1.cls MX5_weightAtMost.1 MX5_weightAtMost.1 ∈ gT := wt (i := 916) (by decide +kernel) rfl
set_option maxRecDepth 60000 in
theorem cw_X5_weightOf : Cond.code MX5_weightOf.1 MX5_weightOf.2.1 MX5_weightOf.2.2.1 MX5_weightOf.2.2.2.1 ∈ gT := wt (i := 832) rfl rfl
theorem mk_X5_weightOf : mok MX5_weightOf 3 := ⟨by decide, by decide, by decide +kernel⟩
theorem im_X5_weightOf : Cond.instanceMethod MX5_weightOf.1 ∈ gT := wt (i := 830) (by decide +kernel) rfl
theorem se_X5_weightOf : Cond.selects MX5_weightOf.1.cls MX5_weightOf.1 MX5_weightOf.1 ∈ gT := wt (i := 831) (by decide +kernel) rfl
set_option maxRecDepth 60000 in
theorem cw_X5_wholeWeight : Cond.code MX5_wholeWeight.1 MX5_wholeWeight.2.1 MX5_wholeWeight.2.2.1 MX5_wholeWeight.2.2.2.1 ∈ gT := wt (i := 921) rfl rfl
theorem mk_X5_wholeWeight : mok MX5_wholeWeight 0 := ⟨by decide, by decide, by decide +kernel⟩
theorem im_X5_wholeWeight : Cond.instanceMethod MX5_wholeWeight.1 ∈ gT := wt (i := 919) (by decide +kernel) rfl
theorem se_X5_wholeWeight : Cond.selects MX5_wholeWeight.1.cls MX5_wholeWeight.1 MX5_wholeWeight.1 ∈ gT := wt (i := 920) (by decide +kernel) rfl
set_option maxRecDepth 60000 in
theorem cw_X5_worthOf : Cond.code MX5_worthOf.1 MX5_worthOf.2.1 MX5_worthOf.2.2.1 MX5_worthOf.2.2.2.1 ∈ gT := wt (i := 943) rfl rfl
theorem mk_X5_worthOf : mok MX5_worthOf 2 := ⟨by decide, by decide, by decide +kernel⟩
theorem im_X5_worthOf : Cond.instanceMethod MX5_worthOf.1 ∈ gT := wt (i := 941) (by decide +kernel) rfl
theorem se_X5_worthOf : Cond.selects MX5_worthOf.1.cls MX5_worthOf.1 MX5_worthOf.1 ∈ gT := wt (i := 942) (by decide +kernel) rfl
set_option maxRecDepth 60000 in
theorem cw_X6_append : Cond.code MX6_append.1 MX6_append.2.1 MX6_append.2.2.1 MX6_append.2.2.2.1 ∈ gT := wt (i := 637) rfl rfl
theorem mk_X6_append : mok MX6_append 1 := ⟨by decide, by decide, by decide +kernel⟩
theorem im_X6_append : Cond.instanceMethod MX6_append.1 ∈ gT := wt (i := 635) (by decide +kernel) rfl
theorem se_X6_append : Cond.selects MX6_append.1.cls MX6_append.1 MX6_append.1 ∈ gT := wt (i := 636) (by decide +kernel) rfl
set_option maxRecDepth 60000 in
theorem cw_X6_expectSign : Cond.code MX6_expectSign.1 MX6_expectSign.2.1 MX6_expectSign.2.2.1 MX6_expectSign.2.2.2.1 ∈ gT := wt (i := 712) rfl rfl
theorem mk_X6_expectSign : mok MX6_expectSign 0 := ⟨by decide, by decide, by decide +kernel⟩
theorem im_X6_expectSign : Cond.instanceMethod MX6_expectSign.1 ∈ gT := wt (i := 711) (by decide +kernel) rfl
theorem se_X6_expectSign : Cond.selects MX6_expectSign.1.cls MX6_expectSign.1 MX6_expectSign.1 ∈ gT := wt (i := 15) (by decide +kernel) rfl
set_option maxRecDepth 60000 in
theorem cw_X6_expectWord : Cond.code MX6_expectWord.1 MX6_expectWord.2.1 MX6_expectWord.2.2.1 MX6_expectWord.2.2.2.1 ∈ gT := wt (i := 702) rfl rfl
theorem mk_X6_expectWord : mok MX6_expectWord 1 := ⟨by decide, by decide, by decide +kernel⟩
theorem im_X6_expectWord : Cond.instanceMethod MX6_expectWord.1 ∈ gT := wt (i := 701) (by decide +kernel) rfl
theorem se_X6_expectWord : Cond.selects MX6_expectWord.1.cls MX6_expectWord.1 MX6_expectWord.1 ∈ gT := wt (i := 13) (by decide +kernel) rfl
set_option maxRecDepth 60000 in
theorem cw_X6_indexOfWord : Cond.code MX6_indexOfWord.1 MX6_indexOfWord.2.1 MX6_indexOfWord.2.2.1 MX6_indexOfWord.2.2.2.1 ∈ gT := wt (i := 697) rfl rfl
theorem mk_X6_indexOfWord : mok MX6_indexOfWord 2 := ⟨by decide, by decide, by decide +kernel⟩
theorem im_X6_indexOfWord : Cond.instanceMethod MX6_indexOfWord.1 ∈ gT := wt (i := 696) (by decide +kernel) rfl
theorem se_X6_indexOfWord : Cond.selects MX6_indexOfWord.1.cls MX6_indexOfWord.1 MX6_indexOfWord.1 ∈ gT := wt (i := 12) (by decide +kernel) rfl
set_option maxRecDepth 60000 in
theorem cw_X6_isDigit : Cond.code MX6_isDigit.1 MX6_isDigit.2.1 MX6_isDigit.2.2.1 MX6_isDigit.2.2.2.1 ∈ gT := wt (i := 666) rfl rfl
theorem mk_X6_isDigit : mok MX6_isDigit 1 := ⟨by decide, by decide, by decide +kernel⟩
theorem st_X6_isDigit : Cond.static MX6_isDigit.1 ∈ gT := wt (i := 665) (by decide +kernel) rfl
set_option maxRecDepth 60000 in
theorem cw_X6_isLetter : Cond.code MX6_isLetter.1 MX6_isLetter.2.1 MX6_isLetter.2.2.1 MX6_isLetter.2.2.2.1 ∈ gT := wt (i := 659) rfl rfl
theorem mk_X6_isLetter : mok MX6_isLetter 1 := ⟨by decide, by decide, by decide +kernel⟩
theorem st_X6_isLetter : Cond.static MX6_isLetter.1 ∈ gT := wt (i := 658) (by decide +kernel) rfl
set_option maxRecDepth 60000 in
theorem cw_X6_kindOfHarm : Cond.code MX6_kindOfHarm.1 MX6_kindOfHarm.2.1 MX6_kindOfHarm.2.2.1 MX6_kindOfHarm.2.2.2.1 ∈ gT := wt (i := 731) rfl rfl
theorem mk_X6_kindOfHarm : mok MX6_kindOfHarm 0 := ⟨by decide, by decide, by decide +kernel⟩
theorem im_X6_kindOfHarm : Cond.instanceMethod MX6_kindOfHarm.1 ∈ gT := wt (i := 730) (by decide +kernel) rfl
theorem se_X6_kindOfHarm : Cond.selects MX6_kindOfHarm.1.cls MX6_kindOfHarm.1 MX6_kindOfHarm.1 ∈ gT := wt (i := 19) (by decide +kernel) rfl
set_option maxRecDepth 60000 in
theorem cw_X6_parse : Cond.code MX6_parse.1 MX6_parse.2.1 MX6_parse.2.2.1 MX6_parse.2.2.2.1 ∈ gT := wt (i := 645) rfl rfl
theorem mk_X6_parse : mok MX6_parse 1 := ⟨by decide, by decide, by decide +kernel⟩
theorem im_X6_parse : Cond.instanceMethod MX6_parse.1 ∈ gT := wt (i := 643) (by decide +kernel) rfl
theorem se_X6_parse : Cond.selects MX6_parse.1.cls MX6_parse.1 MX6_parse.1 ∈ gT := wt (i := 644) (by decide +kernel) rfl
set_option maxRecDepth 60000 in
theorem cw_X6_readFamily : Cond.code MX6_readFamily.1 MX6_readFamily.2.1 MX6_readFamily.2.2.1 MX6_readFamily.2.2.2.1 ∈ gT := wt (i := 717) rfl rfl
theorem mk_X6_readFamily : mok MX6_readFamily 0 := ⟨by decide, by decide, by decide +kernel⟩
theorem im_X6_readFamily : Cond.instanceMethod MX6_readFamily.1 ∈ gT := wt (i := 716) (by decide +kernel) rfl
theorem se_X6_readFamily : Cond.selects MX6_readFamily.1.cls MX6_readFamily.1 MX6_readFamily.1 ∈ gT := wt (i := 16) (by decide +kernel) rfl
set_option maxRecDepth 60000 in
theorem cw_X6_readHarm : Cond.code MX6_readHarm.1 MX6_readHarm.2.1 MX6_readHarm.2.2.1 MX6_readHarm.2.2.2.1 ∈ gT := wt (i := 727) rfl rfl
theorem mk_X6_readHarm : mok MX6_readHarm 0 := ⟨by decide, by decide, by decide +kernel⟩
theorem im_X6_readHarm : Cond.instanceMethod MX6_readHarm.1 ∈ gT := wt (i := 726) (by decide +kernel) rfl
theorem se_X6_readHarm : Cond.selects MX6_readHarm.1.cls MX6_readHarm.1 MX6_readHarm.1 ∈ gT := wt (i := 18) (by decide +kernel) rfl
set_option maxRecDepth 60000 in
theorem cw_X6_readHeld : Cond.code MX6_readHeld.1 MX6_readHeld.2.1 MX6_readHeld.2.2.1 MX6_readHeld.2.2.2.1 ∈ gT := wt (i := 723) rfl rfl
theorem mk_X6_readHeld : mok MX6_readHeld 1 := ⟨by decide, by decide, by decide +kernel⟩
theorem im_X6_readHeld : Cond.instanceMethod MX6_readHeld.1 ∈ gT := wt (i := 722) (by decide +kernel) rfl
theorem se_X6_readHeld : Cond.selects MX6_readHeld.1.cls MX6_readHeld.1 MX6_readHeld.1 ∈ gT := wt (i := 17) (by decide +kernel) rfl
set_option maxRecDepth 60000 in
theorem cw_X6_readNewName : Cond.code MX6_readNewName.1 MX6_readNewName.2.1 MX6_readNewName.2.2.1 MX6_readNewName.2.2.2.1 ∈ gT := wt (i := 687) rfl rfl
theorem mk_X6_readNewName : mok MX6_readNewName 2 := ⟨by decide, by decide, by decide +kernel⟩
theorem im_X6_readNewName : Cond.instanceMethod MX6_readNewName.1 ∈ gT := wt (i := 686) (by decide +kernel) rfl
theorem se_X6_readNewName : Cond.selects MX6_readNewName.1.cls MX6_readNewName.1 MX6_readNewName.1 ∈ gT := wt (i := 10) (by decide +kernel) rfl
set_option maxRecDepth 60000 in
theorem cw_X6_readNumber : Cond.code MX6_readNumber.1 MX6_readNumber.2.1 MX6_readNumber.2.2.1 MX6_readNumber.2.2.2.1 ∈ gT := wt (i := 706) rfl rfl
theorem mk_X6_readNumber : mok MX6_readNumber 2 := ⟨by decide, by decide, by decide +kernel⟩
theorem im_X6_readNumber : Cond.instanceMethod MX6_readNumber.1 ∈ gT := wt (i := 705) (by decide +kernel) rfl
theorem se_X6_readNumber : Cond.selects MX6_readNumber.1.cls MX6_readNumber.1 MX6_readNumber.1 ∈ gT := wt (i := 14) (by decide +kernel) rfl
set_option maxRecDepth 60000 in
theorem cw_X6_readStrip : Cond.code MX6_readStrip.1 MX6_readStrip.2.1 MX6_readStrip.2.2.1 MX6_readStrip.2.2.2.1 ∈ gT := wt (i := 679) rfl rfl
theorem mk_X6_readStrip : mok MX6_readStrip 0 := ⟨by decide, by decide, by decide +kernel⟩
theorem im_X6_readStrip : Cond.instanceMethod MX6_readStrip.1 ∈ gT := wt (i := 678) (by decide +kernel) rfl
theorem se_X6_readStrip : Cond.selects MX6_readStrip.1.cls MX6_readStrip.1 MX6_readStrip.1 ∈ gT := wt (i := 8) (by decide +kernel) rfl
set_option maxRecDepth 60000 in
theorem cw_X6_scanNumber : Cond.code MX6_scanNumber.1 MX6_scanNumber.2.1 MX6_scanNumber.2.2.1 MX6_scanNumber.2.2.2.1 ∈ gT := wt (i := 670) rfl rfl
theorem mk_X6_scanNumber : mok MX6_scanNumber 0 := ⟨by decide, by decide, by decide +kernel⟩
theorem im_X6_scanNumber : Cond.instanceMethod MX6_scanNumber.1 ∈ gT := wt (i := 669) (by decide +kernel) rfl
theorem se_X6_scanNumber : Cond.selects MX6_scanNumber.1.cls MX6_scanNumber.1 MX6_scanNumber.1 ∈ gT := wt (i := 6) (by decide +kernel) rfl
set_option maxRecDepth 60000 in
theorem cw_X6_scanWord : Cond.code MX6_scanWord.1 MX6_scanWord.2.1 MX6_scanWord.2.2.1 MX6_scanWord.2.2.2.1 ∈ gT := wt (i := 663) rfl rfl
theorem mk_X6_scanWord : mok MX6_scanWord 0 := ⟨by decide, by decide, by decide +kernel⟩
theorem im_X6_scanWord : Cond.instanceMethod MX6_scanWord.1 ∈ gT := wt (i := 662) (by decide +kernel) rfl
theorem se_X6_scanWord : Cond.selects MX6_scanWord.1.cls MX6_scanWord.1 MX6_scanWord.1 ∈ gT := wt (i := 5) (by decide +kernel) rfl
set_option maxRecDepth 60000 in
theorem cw_X6_sees : Cond.code MX6_sees.1 MX6_sees.2.1 MX6_sees.2.2.1 MX6_sees.2.2.2.1 ∈ gT := wt (i := 675) rfl rfl
theorem mk_X6_sees : mok MX6_sees 1 := ⟨by decide, by decide, by decide +kernel⟩
theorem im_X6_sees : Cond.instanceMethod MX6_sees.1 ∈ gT := wt (i := 674) (by decide +kernel) rfl
theorem se_X6_sees : Cond.selects MX6_sees.1.cls MX6_sees.1 MX6_sees.1 ∈ gT := wt (i := 7) (by decide +kernel) rfl
set_option maxRecDepth 60000 in
theorem cw_X6_seesName : Cond.code MX6_seesName.1 MX6_seesName.2.1 MX6_seesName.2.2.1 MX6_seesName.2.2.2.1 ∈ gT := wt (i := 691) rfl rfl
theorem mk_X6_seesName : mok MX6_seesName 0 := ⟨by decide, by decide, by decide +kernel⟩
theorem im_X6_seesName : Cond.instanceMethod MX6_seesName.1 ∈ gT := wt (i := 690) (by decide +kernel) rfl
theorem se_X6_seesName : Cond.selects MX6_seesName.1.cls MX6_seesName.1 MX6_seesName.1 ∈ gT := wt (i := 11) (by decide +kernel) rfl
set_option maxRecDepth 60000 in
theorem cw_X6_step : Cond.code MX6_step.1 MX6_step.2.1 MX6_step.2.2.1 MX6_step.2.2.2.1 ∈ gT := wt (i := 656) rfl rfl
theorem mk_X6_step : mok MX6_step 0 := ⟨by decide, by decide, by decide +kernel⟩
theorem im_X6_step : Cond.instanceMethod MX6_step.1 ∈ gT := wt (i := 655) (by decide +kernel) rfl
theorem se_X6_step : Cond.selects MX6_step.1.cls MX6_step.1 MX6_step.1 ∈ gT := wt (i := 4) (by decide +kernel) rfl
set_option maxRecDepth 60000 in
theorem cw_X6_stop : Cond.code MX6_stop.1 MX6_stop.2.1 MX6_stop.2.2.1 MX6_stop.2.2.2.1 ∈ gT := wt (i := 683) rfl rfl
theorem mk_X6_stop : mok MX6_stop 1 := ⟨by decide, by decide, by decide +kernel⟩
theorem im_X6_stop : Cond.instanceMethod MX6_stop.1 ∈ gT := wt (i := 682) (by decide +kernel) rfl
theorem se_X6_stop : Cond.selects MX6_stop.1.cls MX6_stop.1 MX6_stop.1 ∈ gT := wt (i := 9) (by decide +kernel) rfl
set_option maxRecDepth 60000 in
theorem cw_X7_cut : Cond.code MX7_cut.1 MX7_cut.2.1 MX7_cut.2.2.1 MX7_cut.2.2.2.1 ∈ gT := wt (i := 606) rfl rfl
theorem mk_X7_cut : mok MX7_cut 2 := ⟨by decide, by decide, by decide +kernel⟩
theorem st_X7_cut : Cond.static MX7_cut.1 ∈ gT := wt (i := 605) (by decide +kernel) rfl
set_option maxRecDepth 60000 in
theorem cw_X7_isMissing : Cond.code MX7_isMissing.1 MX7_isMissing.2.1 MX7_isMissing.2.2.1 MX7_isMissing.2.2.2.1 ∈ gT := wt (i := 599) rfl rfl
theorem mk_X7_isMissing : mok MX7_isMissing 1 := ⟨by decide, by decide, by decide +kernel⟩
theorem im_X7_isMissing : Cond.instanceMethod MX7_isMissing.1 ∈ gT := wt (i := 597) (by decide +kernel) rfl
theorem se_X7_isMissing : Cond.selects MX7_isMissing.1.cls MX7_isMissing.1 MX7_isMissing.1 ∈ gT := wt (i := 598) (by decide +kernel) rfl
set_option maxRecDepth 60000 in
theorem cw_X7_lay : Cond.code MX7_lay.1 MX7_lay.2.1 MX7_lay.2.2.1 MX7_lay.2.2.2.1 ∈ gT := wt (i := 583) rfl rfl
theorem mk_X7_lay : mok MX7_lay 3 := ⟨by decide, by decide, by decide +kernel⟩
theorem im_X7_lay : Cond.instanceMethod MX7_lay.1 ∈ gT := wt (i := 581) (by decide +kernel) rfl
theorem se_X7_lay : Cond.selects MX7_lay.1.cls MX7_lay.1 MX7_lay.1 ∈ gT := wt (i := 582) (by decide +kernel) rfl
set_option maxRecDepth 60000 in
theorem cw_X7_move : Cond.code MX7_move.1 MX7_move.2.1 MX7_move.2.2.1 MX7_move.2.2.2.1 ∈ gT := wt (i := 626) rfl rfl
theorem mk_X7_move : mok MX7_move 5 := ⟨by decide, by decide, by decide +kernel⟩
theorem im_X7_move : Cond.instanceMethod MX7_move.1 ∈ gT := wt (i := 624) (by decide +kernel) rfl
theorem se_X7_move : Cond.selects MX7_move.1.cls MX7_move.1 MX7_move.1 ∈ gT := wt (i := 625) (by decide +kernel) rfl
set_option maxRecDepth 60000 in
theorem cw_X7_put : Cond.code MX7_put.1 MX7_put.2.1 MX7_put.2.2.1 MX7_put.2.2.2.1 ∈ gT := wt (i := 603) rfl rfl
theorem mk_X7_put : mok MX7_put 3 := ⟨by decide, by decide, by decide +kernel⟩
theorem im_X7_put : Cond.instanceMethod MX7_put.1 ∈ gT := wt (i := 601) (by decide +kernel) rfl
theorem se_X7_put : Cond.selects MX7_put.1.cls MX7_put.1 MX7_put.1 ∈ gT := wt (i := 602) (by decide +kernel) rfl
set_option maxRecDepth 60000 in
theorem cw_X7_reaches : Cond.code MX7_reaches.1 MX7_reaches.2.1 MX7_reaches.2.2.1 MX7_reaches.2.2.2.1 ∈ gT := wt (i := 622) rfl rfl
theorem mk_X7_reaches : mok MX7_reaches 3 := ⟨by decide, by decide, by decide +kernel⟩
theorem im_X7_reaches : Cond.instanceMethod MX7_reaches.1 ∈ gT := wt (i := 620) (by decide +kernel) rfl
theorem se_X7_reaches : Cond.selects MX7_reaches.1.cls MX7_reaches.1 MX7_reaches.1 ∈ gT := wt (i := 621) (by decide +kernel) rfl
set_option maxRecDepth 60000 in
theorem cw_X8_copyRow : Cond.code MX8_copyRow.1 MX8_copyRow.2.1 MX8_copyRow.2.2.1 MX8_copyRow.2.2.2.1 ∈ gT := wt (i := 753) rfl rfl
theorem mk_X8_copyRow : mok MX8_copyRow 2 := ⟨by decide, by decide, by decide +kernel⟩
theorem st_X8_copyRow : Cond.static MX8_copyRow.1 ∈ gT := wt (i := 752) (by decide +kernel) rfl
set_option maxRecDepth 60000 in
theorem cw_X8_empty : Cond.code MX8_empty.1 MX8_empty.2.1 MX8_empty.2.2.1 MX8_empty.2.2.2.1 ∈ gT := wt (i := 652) rfl rfl
theorem mk_X8_empty : mok MX8_empty 0 := ⟨by decide, by decide, by decide +kernel⟩
theorem im_X8_empty : Cond.instanceMethod MX8_empty.1 ∈ gT := wt (i := 650) (by decide +kernel) rfl
theorem se_X8_empty : Cond.selects MX8_empty.1.cls MX8_empty.1 MX8_empty.1 ∈ gT := wt (i := 651) (by decide +kernel) rfl
set_option maxRecDepth 60000 in
theorem cw_X8_fallsOn : Cond.code MX8_fallsOn.1 MX8_fallsOn.2.1 MX8_fallsOn.2.2.1 MX8_fallsOn.2.2.2.1 ∈ gT := wt (i := 746) rfl rfl
theorem mk_X8_fallsOn : mok MX8_fallsOn 4 := ⟨by decide, by decide, by decide +kernel⟩
theorem im_X8_fallsOn : Cond.instanceMethod MX8_fallsOn.1 ∈ gT := wt (i := 744) (by decide +kernel) rfl
theorem se_X8_fallsOn : Cond.selects MX8_fallsOn.1.cls MX8_fallsOn.1 MX8_fallsOn.1 ∈ gT := wt (i := 745) (by decide +kernel) rfl
set_option maxRecDepth 60000 in
theorem cw_X8_hasFamily : Cond.code MX8_hasFamily.1 MX8_hasFamily.2.1 MX8_hasFamily.2.2.1 MX8_hasFamily.2.2.2.1 ∈ gT := wt (i := 795) rfl rfl
theorem mk_X8_hasFamily : mok MX8_hasFamily 1 := ⟨by decide, by decide, by decide +kernel⟩
theorem im_X8_hasFamily : Cond.instanceMethod MX8_hasFamily.1 ∈ gT := wt (i := 793) (by decide +kernel) rfl
theorem se_X8_hasFamily : Cond.selects MX8_hasFamily.1.cls MX8_hasFamily.1 MX8_hasFamily.1 ∈ gT := wt (i := 794) (by decide +kernel) rfl
set_option maxRecDepth 60000 in
theorem cw_X8_hasFamilyOrNone : Cond.code MX8_hasFamilyOrNone.1 MX8_hasFamilyOrNone.2.1 MX8_hasFamilyOrNone.2.2.1 MX8_hasFamilyOrNone.2.2.2.1 ∈ gT := wt (i := 807) rfl rfl
theorem mk_X8_hasFamilyOrNone : mok MX8_hasFamilyOrNone 1 := ⟨by decide, by decide, by decide +kernel⟩
theorem im_X8_hasFamilyOrNone : Cond.instanceMethod MX8_hasFamilyOrNone.1 ∈ gT := wt (i := 805) (by decide +kernel) rfl
theorem se_X8_hasFamilyOrNone : Cond.selects MX8_hasFamilyOrNone.1.cls MX8_hasFamilyOrNone.1 MX8_hasFamilyOrNone.1 ∈ gT := wt (i := 806) (by decide +kernel) rfl
set_option maxRecDepth 60000 in
theorem cw_X8_hasHarm : Cond.code MX8_hasHarm.1 MX8_hasHarm.2.1 MX8_hasHarm.2.2.1 MX8_hasHarm.2.2.2.1 ∈ gT := wt (i := 787) rfl rfl
theorem mk_X8_hasHarm : mok MX8_hasHarm 1 := ⟨by decide, by decide, by decide +kernel⟩
theorem im_X8_hasHarm : Cond.instanceMethod MX8_hasHarm.1 ∈ gT := wt (i := 785) (by decide +kernel) rfl
theorem se_X8_hasHarm : Cond.selects MX8_hasHarm.1.cls MX8_hasHarm.1 MX8_hasHarm.1 ∈ gT := wt (i := 786) (by decide +kernel) rfl
set_option maxRecDepth 60000 in
theorem cw_X8_hasHolding : Cond.code MX8_hasHolding.1 MX8_hasHolding.2.1 MX8_hasHolding.2.2.1 MX8_hasHolding.2.2.2.1 ∈ gT := wt (i := 851) rfl rfl
theorem mk_X8_hasHolding : mok MX8_hasHolding 2 := ⟨by decide, by decide, by decide +kernel⟩
theorem im_X8_hasHolding : Cond.instanceMethod MX8_hasHolding.1 ∈ gT := wt (i := 849) (by decide +kernel) rfl
theorem se_X8_hasHolding : Cond.selects MX8_hasHolding.1.cls MX8_hasHolding.1 MX8_hasHolding.1 ∈ gT := wt (i := 850) (by decide +kernel) rfl
set_option maxRecDepth 60000 in
theorem cw_X8_hasLot : Cond.code MX8_hasLot.1 MX8_hasLot.2.1 MX8_hasLot.2.2.1 MX8_hasLot.2.2.2.1 ∈ gT := wt (i := 824) rfl rfl
theorem mk_X8_hasLot : mok MX8_hasLot 1 := ⟨by decide, by decide, by decide +kernel⟩
theorem im_X8_hasLot : Cond.instanceMethod MX8_hasLot.1 ∈ gT := wt (i := 822) (by decide +kernel) rfl
theorem se_X8_hasLot : Cond.selects MX8_hasLot.1.cls MX8_hasLot.1 MX8_hasLot.1 ∈ gT := wt (i := 823) (by decide +kernel) rfl
set_option maxRecDepth 60000 in
theorem cw_X8_hasStrip : Cond.code MX8_hasStrip.1 MX8_hasStrip.2.1 MX8_hasStrip.2.2.1 MX8_hasStrip.2.2.2.1 ∈ gT := wt (i := 779) rfl rfl
theorem mk_X8_hasStrip : mok MX8_hasStrip 1 := ⟨by decide, by decide, by decide +kernel⟩
theorem im_X8_hasStrip : Cond.instanceMethod MX8_hasStrip.1 ∈ gT := wt (i := 777) (by decide +kernel) rfl
theorem se_X8_hasStrip : Cond.selects MX8_hasStrip.1.cls MX8_hasStrip.1 MX8_hasStrip.1 ∈ gT := wt (i := 778) (by decide +kernel) rfl
set_option maxRecDepth 60000 in
theorem cw_X8_heldBy : Cond.code MX8_heldBy.1 MX8_heldBy.2.1 MX8_heldBy.2.2.1 MX8_heldBy.2.2.2.1 ∈ gT := wt (i := 799) rfl rfl
theorem mk_X8_heldBy : mok MX8_heldBy 1 := ⟨by decide, by decide, by decide +kernel⟩
theorem im_X8_heldBy : Cond.instanceMethod MX8_heldBy.1 ∈ gT := wt (i := 797) (by decide +kernel) rfl
theorem se_X8_heldBy : Cond.selects MX8_heldBy.1.cls MX8_heldBy.1 MX8_heldBy.1 ∈ gT := wt (i := 798) (by decide +kernel) rfl
set_option maxRecDepth 60000 in
theorem cw_X8_lots : Cond.code MX8_lots.1 MX8_lots.2.1 MX8_lots.2.2.1 MX8_lots.2.2.2.1 ∈ gT := wt (i := 828) rfl rfl
theorem mk_X8_lots : mok MX8_lots 0 := ⟨by decide, by decide, by decide +kernel⟩
theorem im_X8_lots : Cond.instanceMethod MX8_lots.1 ∈ gT := wt (i := 826) (by decide +kernel) rfl
theorem se_X8_lots : Cond.selects MX8_lots.1.cls MX8_lots.1 MX8_lots.1 ∈ gT := wt (i := 827) (by decide +kernel) rfl
set_option maxRecDepth 60000 in
theorem cw_X8_openTo : Cond.code MX8_openTo.1 MX8_openTo.2.1 MX8_openTo.2.2.1 MX8_openTo.2.2.2.1 ∈ gT := wt (i := 960) rfl rfl
theorem mk_X8_openTo : mok MX8_openTo 1 := ⟨by decide, by decide, by decide +kernel⟩
theorem im_X8_openTo : Cond.instanceMethod MX8_openTo.1 ∈ gT := wt (i := 958) (by decide +kernel) rfl
theorem se_X8_openTo : Cond.selects MX8_openTo.1.cls MX8_openTo.1 MX8_openTo.1 ∈ gT := wt (i := 959) (by decide +kernel) rfl
set_option maxRecDepth 60000 in
theorem cw_X8_sets : Cond.code MX8_sets.1 MX8_sets.2.1 MX8_sets.2.2.1 MX8_sets.2.2.2.1 ∈ gT := wt (i := 855) rfl rfl
theorem mk_X8_sets : mok MX8_sets 0 := ⟨by decide, by decide, by decide +kernel⟩
theorem im_X8_sets : Cond.instanceMethod MX8_sets.1 ∈ gT := wt (i := 853) (by decide +kernel) rfl
theorem se_X8_sets : Cond.selects MX8_sets.1.cls MX8_sets.1 MX8_sets.1 ∈ gT := wt (i := 854) (by decide +kernel) rfl
set_option maxRecDepth 60000 in
theorem cw_X8_stripsFallenOn : Cond.code MX8_stripsFallenOn.1 MX8_stripsFallenOn.2.1 MX8_stripsFallenOn.2.2.1 MX8_stripsFallenOn.2.2.2.1 ∈ gT := wt (i := 742) rfl rfl
theorem mk_X8_stripsFallenOn : mok MX8_stripsFallenOn 3 := ⟨by decide, by decide, by decide +kernel⟩
theorem im_X8_stripsFallenOn : Cond.instanceMethod MX8_stripsFallenOn.1 ∈ gT := wt (i := 740) (by decide +kernel) rfl
theorem se_X8_stripsFallenOn : Cond.selects MX8_stripsFallenOn.1.cls MX8_stripsFallenOn.1 MX8_stripsFallenOn.1 ∈ gT := wt (i := 741) (by decide +kernel) rfl
set_option maxRecDepth 60000 in
theorem cw_X8_takeAll : Cond.code MX8_takeAll.1 MX8_takeAll.2.1 MX8_takeAll.2.2.1 MX8_takeAll.2.2.2.1 ∈ gT := wt (i := 1219) rfl rfl
theorem mk_X8_takeAll : mok MX8_takeAll 1 := ⟨by decide, by decide, by decide +kernel⟩
theorem im_X8_takeAll : Cond.instanceMethod MX8_takeAll.1 ∈ gT := wt (i := 1217) (by decide +kernel) rfl
theorem se_X8_takeAll : Cond.selects MX8_takeAll.1.cls MX8_takeAll.1 MX8_takeAll.1 ∈ gT := wt (i := 1218) (by decide +kernel) rfl
set_option maxRecDepth 60000 in
theorem cw_X8_takePlaces : Cond.code MX8_takePlaces.1 MX8_takePlaces.2.1 MX8_takePlaces.2.2.1 MX8_takePlaces.2.2.2.1 ∈ gT := wt (i := 750) rfl rfl
theorem mk_X8_takePlaces : mok MX8_takePlaces 1 := ⟨by decide, by decide, by decide +kernel⟩
theorem im_X8_takePlaces : Cond.instanceMethod MX8_takePlaces.1 ∈ gT := wt (i := 748) (by decide +kernel) rfl
theorem se_X8_takePlaces : Cond.selects MX8_takePlaces.1.cls MX8_takePlaces.1 MX8_takePlaces.1 ∈ gT := wt (i := 749) (by decide +kernel) rfl
set_option maxRecDepth 60000 in
theorem cw_X9_agree : Cond.code MX9_agree.1 MX9_agree.2.1 MX9_agree.2.2.1 MX9_agree.2.2.2.1 ∈ gT := wt (i := 587) rfl rfl
theorem mk_X9_agree : mok MX9_agree 0 := ⟨by decide, by decide, by decide +kernel⟩
theorem im_X9_agree : Cond.instanceMethod MX9_agree.1 ∈ gT := wt (i := 586) (by decide +kernel) rfl
theorem se_X9_agree : Cond.selects MX9_agree.1.cls MX9_agree.1 MX9_agree.1 ∈ gT := wt (i := 1) (by decide +kernel) rfl
set_option maxRecDepth 60000 in
theorem cw_X9_answer : Cond.code MX9_answer.1 MX9_answer.2.1 MX9_answer.2.2.1 MX9_answer.2.2.2.1 ∈ gT := wt (i := 763) rfl rfl
theorem mk_X9_answer : mok MX9_answer 1 := ⟨by decide, by decide, by decide +kernel⟩
theorem im_X9_answer : Cond.instanceMethod MX9_answer.1 ∈ gT := wt (i := 762) (by decide +kernel) rfl
theorem se_X9_answer : Cond.selects MX9_answer.1.cls MX9_answer.1 MX9_answer.1 ∈ gT := wt (i := 20) (by decide +kernel) rfl
set_option maxRecDepth 60000 in
theorem cw_X9_commonDivisor : Cond.code MX9_commonDivisor.1 MX9_commonDivisor.2.1 MX9_commonDivisor.2.2.1 MX9_commonDivisor.2.2.2.1 ∈ gT := wt (i := 931) rfl rfl
theorem mk_X9_commonDivisor : mok MX9_commonDivisor 2 := ⟨by decide, by decide, by decide +kernel⟩
theorem st_X9_commonDivisor : Cond.static MX9_commonDivisor.1 ∈ gT := wt (i := 930) (by decide +kernel) rfl
set_option maxRecDepth 60000 in
theorem cw_X9_isCouple : Cond.code MX9_isCouple.1 MX9_isCouple.2.1 MX9_isCouple.2.2.1 MX9_isCouple.2.2.2.1 ∈ gT := wt (i := 1045) rfl rfl
theorem mk_X9_isCouple : mok MX9_isCouple 2 := ⟨by decide, by decide, by decide +kernel⟩
theorem im_X9_isCouple : Cond.instanceMethod MX9_isCouple.1 ∈ gT := wt (i := 1044) (by decide +kernel) rfl
theorem se_X9_isCouple : Cond.selects MX9_isCouple.1.cls MX9_isCouple.1 MX9_isCouple.1 ∈ gT := wt (i := 30) (by decide +kernel) rfl
set_option maxRecDepth 60000 in
theorem cw_X9_isTray : Cond.code MX9_isTray.1 MX9_isTray.2.1 MX9_isTray.2.2.1 MX9_isTray.2.2.2.1 ∈ gT := wt (i := 572) rfl rfl
theorem mk_X9_isTray : mok MX9_isTray 1 := ⟨by decide, by decide, by decide +kernel⟩
theorem st_X9_isTray : Cond.static MX9_isTray.1 ∈ gT := wt (i := 571) (by decide +kernel) rfl
set_option maxRecDepth 60000 in
theorem cw_X9_isWithin : Cond.code MX9_isWithin.1 MX9_isWithin.2.1 MX9_isWithin.2.2.1 MX9_isWithin.2.2.2.1 ∈ gT := wt (i := 575) rfl rfl
theorem mk_X9_isWithin : mok MX9_isWithin 3 := ⟨by decide, by decide, by decide +kernel⟩
theorem st_X9_isWithin : Cond.static MX9_isWithin.1 ∈ gT := wt (i := 574) (by decide +kernel) rfl
set_option maxRecDepth 60000 in
theorem cw_X9_none : Cond.code MX9_none.1 MX9_none.2.1 MX9_none.2.2.1 MX9_none.2.2.2.1 ∈ gT := wt (i := 614) rfl rfl
theorem mk_X9_none : mok MX9_none 1 := ⟨by decide, by decide, by decide +kernel⟩
theorem im_X9_none : Cond.instanceMethod MX9_none.1 ∈ gT := wt (i := 613) (by decide +kernel) rfl
theorem se_X9_none : Cond.selects MX9_none.1.cls MX9_none.1 MX9_none.1 ∈ gT := wt (i := 3) (by decide +kernel) rfl
set_option maxRecDepth 60000 in
theorem cw_X9_refuse : Cond.code MX9_refuse.1 MX9_refuse.2.1 MX9_refuse.2.2.1 MX9_refuse.2.2.2.1 ∈ gT := wt (i := 579) rfl rfl
theorem mk_X9_refuse : mok MX9_refuse 1 := ⟨by decide, by decide, by decide +kernel⟩
theorem im_X9_refuse : Cond.instanceMethod MX9_refuse.1 ∈ gT := wt (i := 578) (by decide +kernel) rfl
theorem se_X9_refuse : Cond.selects MX9_refuse.1.cls MX9_refuse.1 MX9_refuse.1 ∈ gT := wt (i := 0) (by decide +kernel) rfl
set_option maxRecDepth 60000 in
theorem cw_X9_tell : Cond.code MX9_tell.1 MX9_tell.2.1 MX9_tell.2.2.1 MX9_tell.2.2.2.1 ∈ gT := wt (i := 925) rfl rfl
theorem mk_X9_tell : mok MX9_tell 2 := ⟨by decide, by decide, by decide +kernel⟩
theorem im_X9_tell : Cond.instanceMethod MX9_tell.1 ∈ gT := wt (i := 924) (by decide +kernel) rfl
theorem se_X9_tell : Cond.selects MX9_tell.1.cls MX9_tell.1 MX9_tell.1 ∈ gT := wt (i := 27) (by decide +kernel) rfl
set_option maxRecDepth 60000 in
theorem cw_X9_whyNoBest : Cond.code MX9_whyNoBest.1 MX9_whyNoBest.2.1 MX9_whyNoBest.2.2.1 MX9_whyNoBest.2.2.2.1 ∈ gT := wt (i := 956) rfl rfl
theorem mk_X9_whyNoBest : mok MX9_whyNoBest 2 := ⟨by decide, by decide, by decide +kernel⟩
theorem im_X9_whyNoBest : Cond.instanceMethod MX9_whyNoBest.1 ∈ gT := wt (i := 955) (by decide +kernel) rfl
theorem se_X9_whyNoBest : Cond.selects MX9_whyNoBest.1.cls MX9_whyNoBest.1 MX9_whyNoBest.1 ∈ gT := wt (i := 28) (by decide +kernel) rfl
set_option maxRecDepth 60000 in
theorem cw_X9_whyNoPlace : Cond.code MX9_whyNoPlace.1 MX9_whyNoPlace.2.1 MX9_whyNoPlace.2.2.1 MX9_whyNoPlace.2.2.2.1 ∈ gT := wt (i := 595) rfl rfl
theorem mk_X9_whyNoPlace : mok MX9_whyNoPlace 2 := ⟨by decide, by decide, by decide +kernel⟩
theorem im_X9_whyNoPlace : Cond.instanceMethod MX9_whyNoPlace.1 ∈ gT := wt (i := 594) (by decide +kernel) rfl
theorem se_X9_whyNoPlace : Cond.selects MX9_whyNoPlace.1.cls MX9_whyNoPlace.1 MX9_whyNoPlace.1 ∈ gT := wt (i := 2) (by decide +kernel) rfl
set_option maxRecDepth 60000 in
theorem cw_X9_whyNoYears : Cond.code MX9_whyNoYears.1 MX9_whyNoYears.2.1 MX9_whyNoYears.2.2.1 MX9_whyNoYears.2.2.2.1 ∈ gT := wt (i := 1183) rfl rfl
theorem mk_X9_whyNoYears : mok MX9_whyNoYears 3 := ⟨by decide, by decide, by decide +kernel⟩
theorem im_X9_whyNoYears : Cond.instanceMethod MX9_whyNoYears.1 ∈ gT := wt (i := 1182) (by decide +kernel) rfl
theorem se_X9_whyNoYears : Cond.selects MX9_whyNoYears.1.cls MX9_whyNoYears.1 MX9_whyNoYears.1 ∈ gT := wt (i := 45) (by decide +kernel) rfl
theorem in_J6 : Cond.initialized RJ6 ∈ gT := wt (i := 119) (by decide +kernel) rfl
theorem in_X0 : Cond.initialized RX0 ∈ gT := wt (i := 108) (by decide +kernel) rfl
theorem in_X1 : Cond.initialized RX1 ∈ gT := wt (i := 107) (by decide +kernel) rfl
theorem in_X10 : Cond.initialized RX10 ∈ gT := wt (i := 112) (by decide +kernel) rfl
theorem in_X2 : Cond.initialized RX2 ∈ gT := wt (i := 111) (by decide +kernel) rfl
theorem in_X3 : Cond.initialized RX3 ∈ gT := wt (i := 110) (by decide +kernel) rfl
theorem in_X4 : Cond.initialized RX4 ∈ gT := wt (i := 109) (by decide +kernel) rfl
theorem in_X5 : Cond.initialized RX5 ∈ gT := wt (i := 106) (by decide +kernel) rfl
theorem in_X6 : Cond.initialized RX6 ∈ gT := wt (i := 105) (by decide +kernel) rfl
theorem in_X7 : Cond.initialized RX7 ∈ gT := wt (i := 104) (by decide +kernel) rfl
theorem in_X8 : Cond.initialized RX8 ∈ gT := wt (i := 103) (by decide +kernel) rfl
theorem in_X9 : Cond.initialized RX9 ∈ gT := wt (i := 102) (by decide +kernel) rfl
theorem cp_X3_68 : CpW RX3 68 := ⟨wt (i := 1123) (by decide +kernel) rfl, wt (i := 629) (by decide +kernel) rfl, wt (i := 628) (by decide +kernel) rfl, wt (i := 113) (by decide +kernel) rfl⟩
theorem cp_X7_27 : CpW RX7 27 := ⟨wt (i := 627) (by decide +kernel) rfl, wt (i := 629) (by decide +kernel) rfl, wt (i := 628) (by decide +kernel) rfl, wt (i := 113) (by decide +kernel) rfl⟩
theorem cp_X8_78 : CpW RX8 78 := ⟨wt (i := 755) (by decide +kernel) rfl, wt (i := 629) (by decide +kernel) rfl, wt (i := 628) (by decide +kernel) rfl, wt (i := 113) (by decide +kernel) rfl⟩
theorem f_X0_15 : FW RX0 15 0 3 2 true := ⟨RX0, TX0, 4, tyX0, rfl, by decide, wt (i := 414) (by decide +kernel) rfl, uw0, rfl, by decide, rfl, tyX0_ok, rfl, nmX0, rfl, rfl⟩
theorem f_X0_18 : FW RX0 18 0 0 2 true := ⟨RX0, TX0, 4, tyX0, rfl, by decide, wt (i := 411) (by decide +kernel) rfl, uw0, rfl, by decide, rfl, tyX0_ok, rfl, nmX0, rfl, rfl⟩
theorem f_X0_22 : FW RX0 22 0 1 2 true := ⟨RX0, TX0, 4, tyX0, rfl, by decide, wt (i := 412) (by decide +kernel) rfl, uw0, rfl, by decide, rfl, tyX0_ok, rfl, nmX0, rfl, rfl⟩
theorem f_X0_42 : FW RX0 42 5 2 2 true := ⟨RX5, TX5, 10, tyX5, rfl, by decide, wt (i := 339) (by decide +kernel) rfl, uw5, rfl, by decide, rfl, tyX5_ok, rfl, nmX5, rfl, rfl⟩
theorem f_X0_51 : FW RX0 51 8 16 2 true := ⟨RX8, TX8, 17, tyX8, rfl, by decide, wt (i := 205) (by decide +kernel) rfl, uw8, rfl, by decide, rfl, tyX8_ok, rfl, nmX8, rfl, rfl⟩
theorem f_X0_57 : FW RX0 57 5 1 2 true := ⟨RX5, TX5, 10, tyX5, rfl, by decide, wt (i := 337) (by decide +kernel) rfl, uw5, rfl, by decide, rfl, tyX5_ok, rfl, nmX5, rfl, rfl⟩
theorem f_X0_9 : FW RX0 9 0 2 2 true := ⟨RX0, TX0, 4, tyX0, rfl, by decide, wt (i := 413) (by decide +kernel) rfl, uw0, rfl, by decide, rfl, tyX0_ok, rfl, nmX0, rfl, rfl⟩
theorem f_X10_105 : FW RX10 105 10 9 0 false := ⟨RX10, TX10, 38, tyX10, rfl, by decide, wt (i := 1241) (by decide +kernel) rfl, uw10, rfl, by decide, rfl, tyX10_ok, rfl, nmX10, rfl, rfl⟩
theorem f_X10_112 : FW RX10 112 10 10 0 false := ⟨RX10, TX10, 38, tyX10, rfl, by decide, wt (i := 1242) (by decide +kernel) rfl, uw10, rfl, by decide, rfl, tyX10_ok, rfl, nmX10, rfl, rfl⟩
theorem f_X10_115 : FW RX10 115 10 13 0 false := ⟨RX10, TX10, 38, tyX10, rfl, by decide, wt (i := 1245) (by decide +kernel) rfl, uw10, rfl, by decide, rfl, tyX10_ok, rfl, nmX10, rfl, rfl⟩
theorem f_X10_122 : FW RX10 122 10 12 0 false := ⟨RX10, TX10, 38, tyX10, rfl, by decide, wt (i := 1244) (by decide +kernel) rfl, uw10, rfl, by decide, rfl, tyX10_ok, rfl, nmX10, rfl, rfl⟩
theorem f_X10_125 : FW RX10 125 10 14 0 false := ⟨RX10, TX10, 38, tyX10, rfl, by decide, wt (i := 1246) (by decide +kernel) rfl, uw10, rfl, by decide, rfl, tyX10_ok, rfl, nmX10, rfl, rfl⟩
theorem f_X10_128 : FW RX10 128 10 11 0 false := ⟨RX10, TX10, 38, tyX10, rfl, by decide, wt (i := 1243) (by decide +kernel) rfl, uw10, rfl, by decide, rfl, tyX10_ok, rfl, nmX10, rfl, rfl⟩
theorem f_X10_13 : FW RX10 13 10 3 1 false := ⟨RX10, TX10, 38, tyX10, rfl, by decide, wt (i := 1235) (by decide +kernel) rfl, uw10, rfl, by decide, rfl, tyX10_ok, rfl, nmX10, rfl, rfl⟩
theorem f_X10_154 : FW RX10 154 10 17 0 false := ⟨RX10, TX10, 38, tyX10, rfl, by decide, wt (i := 1249) (by decide +kernel) rfl, uw10, rfl, by decide, rfl, tyX10_ok, rfl, nmX10, rfl, rfl⟩
theorem f_X10_17 : FW RX10 17 10 4 2 true := ⟨RX10, TX10, 38, tyX10, rfl, by decide, wt (i := 1236) (by decide +kernel) rfl, uw10, rfl, by decide, rfl, tyX10_ok, rfl, nmX10, rfl, rfl⟩
theorem f_X10_20 : FW RX10 20 10 5 2 true := ⟨RX10, TX10, 38, tyX10, rfl, by decide, wt (i := 1237) (by decide +kernel) rfl, uw10, rfl, by decide, rfl, tyX10_ok, rfl, nmX10, rfl, rfl⟩
theorem f_X10_23 : FW RX10 23 10 6 2 true := ⟨RX10, TX10, 38, tyX10, rfl, by decide, wt (i := 1238) (by decide +kernel) rfl, uw10, rfl, by decide, rfl, tyX10_ok, rfl, nmX10, rfl, rfl⟩
theorem f_X10_234 : FW RX10 234 10 20 0 false := ⟨RX10, TX10, 38, tyX10, rfl, by decide, wt (i := 1252) (by decide +kernel) rfl, uw10, rfl, by decide, rfl, tyX10_ok, rfl, nmX10, rfl, rfl⟩
theorem f_X10_245 : FW RX10 245 10 22 0 false := ⟨RX10, TX10, 38, tyX10, rfl, by decide, wt (i := 1254) (by decide +kernel) rfl, uw10, rfl, by decide, rfl, tyX10_ok, rfl, nmX10, rfl, rfl⟩
theorem f_X10_27 : FW RX10 27 10 7 2 true := ⟨RX10, TX10, 38, tyX10, rfl, by decide, wt (i := 1239) (by decide +kernel) rfl, uw10, rfl, by decide, rfl, tyX10_ok, rfl, nmX10, rfl, rfl⟩
theorem f_X10_305 : FW RX10 305 10 23 1 false := ⟨RX10, TX10, 38, tyX10, rfl, by decide, wt (i := 1255) (by decide +kernel) rfl, uw10, rfl, by decide, rfl, tyX10_ok, rfl, nmX10, rfl, rfl⟩
theorem f_X10_31 : FW RX10 31 10 8 2 true := ⟨RX10, TX10, 38, tyX10, rfl, by decide, wt (i := 1240) (by decide +kernel) rfl, uw10, rfl, by decide, rfl, tyX10_ok, rfl, nmX10, rfl, rfl⟩
theorem f_X10_315 : FW RX10 315 10 27 0 false := ⟨RX10, TX10, 38, tyX10, rfl, by decide, wt (i := 1259) (by decide +kernel) rfl, uw10, rfl, by decide, rfl, tyX10_ok, rfl, nmX10, rfl, rfl⟩
theorem f_X10_318 : FW RX10 318 10 28 0 false := ⟨RX10, TX10, 38, tyX10, rfl, by decide, wt (i := 1260) (by decide +kernel) rfl, uw10, rfl, by decide, rfl, tyX10_ok, rfl, nmX10, rfl, rfl⟩
theorem f_X10_34 : FW RX10 34 10 15 0 false := ⟨RX10, TX10, 38, tyX10, rfl, by decide, wt (i := 1247) (by decide +kernel) rfl, uw10, rfl, by decide, rfl, tyX10_ok, rfl, nmX10, rfl, rfl⟩
theorem f_X10_340 : FW RX10 340 10 36 0 false := ⟨RX10, TX10, 38, tyX10, rfl, by decide, wt (i := 1268) (by decide +kernel) rfl, uw10, rfl, by decide, rfl, tyX10_ok, rfl, nmX10, rfl, rfl⟩
theorem f_X10_360 : FW RX10 360 10 37 0 false := ⟨RX10, TX10, 38, tyX10, rfl, by decide, wt (i := 1269) (by decide +kernel) rfl, uw10, rfl, by decide, rfl, tyX10_ok, rfl, nmX10, rfl, rfl⟩
theorem f_X10_38 : FW RX10 38 10 16 0 false := ⟨RX10, TX10, 38, tyX10, rfl, by decide, wt (i := 1248) (by decide +kernel) rfl, uw10, rfl, by decide, rfl, tyX10_ok, rfl, nmX10, rfl, rfl⟩
theorem f_X10_41 : FW RX10 41 10 18 2 true := ⟨RX10, TX10, 38, tyX10, rfl, by decide, wt (i := 1250) (by decide +kernel) rfl, uw10, rfl, by decide, rfl, tyX10_ok, rfl, nmX10, rfl, rfl⟩
theorem f_X10_44 : FW RX10 44 10 19 2 true := ⟨RX10, TX10, 38, tyX10, rfl, by decide, wt (i := 1251) (by decide +kernel) rfl, uw10, rfl, by decide, rfl, tyX10_ok, rfl, nmX10, rfl, rfl⟩
theorem f_X10_47 : FW RX10 47 10 21 2 true := ⟨RX10, TX10, 38, tyX10, rfl, by decide, wt (i := 1253) (by decide +kernel) rfl, uw10, rfl, by decide, rfl, tyX10_ok, rfl, nmX10, rfl, rfl⟩
theorem f_X10_50 : FW RX10 50 10 24 0 false := ⟨RX10, TX10, 38, tyX10, rfl, by decide, wt (i := 1256) (by decide +kernel) rfl, uw10, rfl, by decide, rfl, tyX10_ok, rfl, nmX10, rfl, rfl⟩
theorem f_X10_53 : FW RX10 53 10 25 2 true := ⟨RX10, TX10, 38, tyX10, rfl, by decide, wt (i := 1257) (by decide +kernel) rfl, uw10, rfl, by decide, rfl, tyX10_ok, rfl, nmX10, rfl, rfl⟩
theorem f_X10_56 : FW RX10 56 10 26 2 true := ⟨RX10, TX10, 38, tyX10, rfl, by decide, wt (i := 1258) (by decide +kernel) rfl, uw10, rfl, by decide, rfl, tyX10_ok, rfl, nmX10, rfl, rfl⟩
theorem f_X10_60 : FW RX10 60 10 29 2 true := ⟨RX10, TX10, 38, tyX10, rfl, by decide, wt (i := 1261) (by decide +kernel) rfl, uw10, rfl, by decide, rfl, tyX10_ok, rfl, nmX10, rfl, rfl⟩
theorem f_X10_64 : FW RX10 64 10 30 2 true := ⟨RX10, TX10, 38, tyX10, rfl, by decide, wt (i := 1262) (by decide +kernel) rfl, uw10, rfl, by decide, rfl, tyX10_ok, rfl, nmX10, rfl, rfl⟩
theorem f_X10_67 : FW RX10 67 10 31 2 true := ⟨RX10, TX10, 38, tyX10, rfl, by decide, wt (i := 1263) (by decide +kernel) rfl, uw10, rfl, by decide, rfl, tyX10_ok, rfl, nmX10, rfl, rfl⟩
theorem f_X10_7 : FW RX10 7 10 0 2 true := ⟨RX10, TX10, 38, tyX10, rfl, by decide, wt (i := 1232) (by decide +kernel) rfl, uw10, rfl, by decide, rfl, tyX10_ok, rfl, nmX10, rfl, rfl⟩
theorem f_X10_70 : FW RX10 70 10 32 2 true := ⟨RX10, TX10, 38, tyX10, rfl, by decide, wt (i := 1264) (by decide +kernel) rfl, uw10, rfl, by decide, rfl, tyX10_ok, rfl, nmX10, rfl, rfl⟩
theorem f_X10_73 : FW RX10 73 10 33 0 false := ⟨RX10, TX10, 38, tyX10, rfl, by decide, wt (i := 1265) (by decide +kernel) rfl, uw10, rfl, by decide, rfl, tyX10_ok, rfl, nmX10, rfl, rfl⟩
theorem f_X10_76 : FW RX10 76 10 34 2 true := ⟨RX10, TX10, 38, tyX10, rfl, by decide, wt (i := 1266) (by decide +kernel) rfl, uw10, rfl, by decide, rfl, tyX10_ok, rfl, nmX10, rfl, rfl⟩
theorem f_X10_79 : FW RX10 79 10 35 2 true := ⟨RX10, TX10, 38, tyX10, rfl, by decide, wt (i := 1267) (by decide +kernel) rfl, uw10, rfl, by decide, rfl, tyX10_ok, rfl, nmX10, rfl, rfl⟩
theorem f_X10_82 : FW RX10 82 10 1 0 false := ⟨RX10, TX10, 38, tyX10, rfl, by decide, wt (i := 1233) (by decide +kernel) rfl, uw10, rfl, by decide, rfl, tyX10_ok, rfl, nmX10, rfl, rfl⟩
theorem f_X10_85 : FW RX10 85 10 2 1 false := ⟨RX10, TX10, 38, tyX10, rfl, by decide, wt (i := 1234) (by decide +kernel) rfl, uw10, rfl, by decide, rfl, tyX10_ok, rfl, nmX10, rfl, rfl⟩
theorem f_X1_11 : FW RX1 11 1 2 2 true := ⟨RX1, TX1, 8, tyX1, rfl, by decide, wt (i := 380) (by decide +kernel) rfl, uw1, rfl, by decide, rfl, tyX1_ok, rfl, nmX1, rfl, rfl⟩
theorem f_X1_15 : FW RX1 15 1 3 2 true := ⟨RX1, TX1, 8, tyX1, rfl, by decide, wt (i := 382) (by decide +kernel) rfl, uw1, rfl, by decide, rfl, tyX1_ok, rfl, nmX1, rfl, rfl⟩
theorem f_X1_19 : FW RX1 19 1 4 2 true := ⟨RX1, TX1, 8, tyX1, rfl, by decide, wt (i := 383) (by decide +kernel) rfl, uw1, rfl, by decide, rfl, tyX1_ok, rfl, nmX1, rfl, rfl⟩
theorem f_X1_22 : FW RX1 22 1 5 0 false := ⟨RX1, TX1, 8, tyX1, rfl, by decide, wt (i := 384) (by decide +kernel) rfl, uw1, rfl, by decide, rfl, tyX1_ok, rfl, nmX1, rfl, rfl⟩
theorem f_X1_26 : FW RX1 26 1 6 0 false := ⟨RX1, TX1, 8, tyX1, rfl, by decide, wt (i := 385) (by decide +kernel) rfl, uw1, rfl, by decide, rfl, tyX1_ok, rfl, nmX1, rfl, rfl⟩
theorem f_X1_29 : FW RX1 29 1 7 1 false := ⟨RX1, TX1, 8, tyX1, rfl, by decide, wt (i := 387) (by decide +kernel) rfl, uw1, rfl, by decide, rfl, tyX1_ok, rfl, nmX1, rfl, rfl⟩
theorem f_X1_33 : FW RX1 33 1 0 2 true := ⟨RX1, TX1, 8, tyX1, rfl, by decide, wt (i := 378) (by decide +kernel) rfl, uw1, rfl, by decide, rfl, tyX1_ok, rfl, nmX1, rfl, rfl⟩
theorem f_X1_37 : FW RX1 37 1 1 2 true := ⟨RX1, TX1, 8, tyX1, rfl, by decide, wt (i := 379) (by decide +kernel) rfl, uw1, rfl, by decide, rfl, tyX1_ok, rfl, nmX1, rfl, rfl⟩
theorem f_X1_58 : FW RX1 58 5 3 1 false := ⟨RX5, TX5, 10, tyX5, rfl, by decide, wt (i := 343) (by decide +kernel) rfl, uw5, rfl, by decide, rfl, tyX5_ok, rfl, nmX5, rfl, rfl⟩
theorem f_X1_61 : FW RX1 61 5 4 1 false := ⟨RX5, TX5, 10, tyX5, rfl, by decide, wt (i := 345) (by decide +kernel) rfl, uw5, rfl, by decide, rfl, tyX5_ok, rfl, nmX5, rfl, rfl⟩
theorem f_X1_84 : FW RX1 84 8 0 0 false := ⟨RX8, TX8, 17, tyX8, rfl, by decide, wt (i := 139) (by decide +kernel) rfl, uw8, rfl, by decide, rfl, tyX8_ok, rfl, nmX8, rfl, rfl⟩
theorem f_X2_15 : FW RX2 15 2 3 0 false := ⟨RX2, TX2, 5, tyX2, rfl, by decide, wt (i := 489) (by decide +kernel) rfl, uw2, rfl, by decide, rfl, tyX2_ok, rfl, nmX2, rfl, rfl⟩
theorem f_X2_19 : FW RX2 19 2 4 0 false := ⟨RX2, TX2, 5, tyX2, rfl, by decide, wt (i := 490) (by decide +kernel) rfl, uw2, rfl, by decide, rfl, tyX2_ok, rfl, nmX2, rfl, rfl⟩
theorem f_X2_22 : FW RX2 22 2 0 2 true := ⟨RX2, TX2, 5, tyX2, rfl, by decide, wt (i := 486) (by decide +kernel) rfl, uw2, rfl, by decide, rfl, tyX2_ok, rfl, nmX2, rfl, rfl⟩
theorem f_X2_26 : FW RX2 26 2 1 2 true := ⟨RX2, TX2, 5, tyX2, rfl, by decide, wt (i := 487) (by decide +kernel) rfl, uw2, rfl, by decide, rfl, tyX2_ok, rfl, nmX2, rfl, rfl⟩
theorem f_X2_36 : FW RX2 36 8 2 0 false := ⟨RX8, TX8, 17, tyX8, rfl, by decide, wt (i := 148) (by decide +kernel) rfl, uw8, rfl, by decide, rfl, tyX8_ok, rfl, nmX8, rfl, rfl⟩
theorem f_X2_61 : FW RX2 61 8 0 0 false := ⟨RX8, TX8, 17, tyX8, rfl, by decide, wt (i := 137) (by decide +kernel) rfl, uw8, rfl, by decide, rfl, tyX8_ok, rfl, nmX8, rfl, rfl⟩
theorem f_X2_64 : FW RX2 64 8 9 2 true := ⟨RX8, TX8, 17, tyX8, rfl, by decide, wt (i := 178) (by decide +kernel) rfl, uw8, rfl, by decide, rfl, tyX8_ok, rfl, nmX8, rfl, rfl⟩
theorem f_X2_75 : FW RX2 75 8 5 2 true := ⟨RX8, TX8, 17, tyX8, rfl, by decide, wt (i := 161) (by decide +kernel) rfl, uw8, rfl, by decide, rfl, tyX8_ok, rfl, nmX8, rfl, rfl⟩
theorem f_X2_78 : FW RX2 78 8 6 2 true := ⟨RX8, TX8, 17, tyX8, rfl, by decide, wt (i := 166) (by decide +kernel) rfl, uw8, rfl, by decide, rfl, tyX8_ok, rfl, nmX8, rfl, rfl⟩
theorem f_X2_9 : FW RX2 9 2 2 2 true := ⟨RX2, TX2, 5, tyX2, rfl, by decide, wt (i := 488) (by decide +kernel) rfl, uw2, rfl, by decide, rfl, tyX2_ok, rfl, nmX2, rfl, rfl⟩
theorem f_X3_11 : FW RX3 11 3 2 2 true := ⟨RX3, TX3, 8, tyX3, rfl, by decide, wt (i := 455) (by decide +kernel) rfl, uw3, rfl, by decide, rfl, tyX3_ok, rfl, nmX3, rfl, rfl⟩
theorem f_X3_15 : FW RX3 15 3 3 2 true := ⟨RX3, TX3, 8, tyX3, rfl, by decide, wt (i := 456) (by decide +kernel) rfl, uw3, rfl, by decide, rfl, tyX3_ok, rfl, nmX3, rfl, rfl⟩
theorem f_X3_18 : FW RX3 18 3 4 2 true := ⟨RX3, TX3, 8, tyX3, rfl, by decide, wt (i := 457) (by decide +kernel) rfl, uw3, rfl, by decide, rfl, tyX3_ok, rfl, nmX3, rfl, rfl⟩
theorem f_X3_22 : FW RX3 22 3 5 2 true := ⟨RX3, TX3, 8, tyX3, rfl, by decide, wt (i := 458) (by decide +kernel) rfl, uw3, rfl, by decide, rfl, tyX3_ok, rfl, nmX3, rfl, rfl⟩
theorem f_X3_25 : FW RX3 25 3 6 2 true := ⟨RX3, TX3, 8, tyX3, rfl, by decide, wt (i := 459) (by decide +kernel) rfl, uw3, rfl, by decide, rfl, tyX3_ok, rfl, nmX3, rfl, rfl⟩
theorem f_X3_28 : FW RX3 28 3 7 0 false := ⟨RX3, TX3, 8, tyX3, rfl, by decide, wt (i := 461) (by decide +kernel) rfl, uw3, rfl, by decide, rfl, tyX3_ok, rfl, nmX3, rfl, rfl⟩
theorem f_X3_32 : FW RX3 32 3 0 2 true := ⟨RX3, TX3, 8, tyX3, rfl, by decide, wt (i := 453) (by decide +kernel) rfl, uw3, rfl, by decide, rfl, tyX3_ok, rfl, nmX3, rfl, rfl⟩
theorem f_X3_36 : FW RX3 36 3 1 2 true := ⟨RX3, TX3, 8, tyX3, rfl, by decide, wt (i := 454) (by decide +kernel) rfl, uw3, rfl, by decide, rfl, tyX3_ok, rfl, nmX3, rfl, rfl⟩
theorem f_X3_40 : FW RX3 40 8 0 0 false := ⟨RX8, TX8, 17, tyX8, rfl, by decide, wt (i := 135) (by decide +kernel) rfl, uw8, rfl, by decide, rfl, tyX8_ok, rfl, nmX8, rfl, rfl⟩
theorem f_X3_45 : FW RX3 45 8 2 0 false := ⟨RX8, TX8, 17, tyX8, rfl, by decide, wt (i := 147) (by decide +kernel) rfl, uw8, rfl, by decide, rfl, tyX8_ok, rfl, nmX8, rfl, rfl⟩
theorem f_X3_87 : FW RX3 87 5 2 2 true := ⟨RX5, TX5, 10, tyX5, rfl, by decide, wt (i := 340) (by decide +kernel) rfl, uw5, rfl, by decide, rfl, tyX5_ok, rfl, nmX5, rfl, rfl⟩
theorem f_X3_90 : FW RX3 90 8 16 2 true := ⟨RX8, TX8, 17, tyX8, rfl, by decide, wt (i := 206) (by decide +kernel) rfl, uw8, rfl, by decide, rfl, tyX8_ok, rfl, nmX8, rfl, rfl⟩
theorem f_X3_93 : FW RX3 93 5 1 2 true := ⟨RX5, TX5, 10, tyX5, rfl, by decide, wt (i := 336) (by decide +kernel) rfl, uw5, rfl, by decide, rfl, tyX5_ok, rfl, nmX5, rfl, rfl⟩
theorem f_X4_15 : FW RX4 15 4 3 2 true := ⟨RX4, TX4, 5, tyX4, rfl, by decide, wt (i := 434) (by decide +kernel) rfl, uw4, rfl, by decide, rfl, tyX4_ok, rfl, nmX4, rfl, rfl⟩
theorem f_X4_18 : FW RX4 18 4 4 2 true := ⟨RX4, TX4, 5, tyX4, rfl, by decide, wt (i := 435) (by decide +kernel) rfl, uw4, rfl, by decide, rfl, tyX4_ok, rfl, nmX4, rfl, rfl⟩
theorem f_X4_22 : FW RX4 22 4 0 2 true := ⟨RX4, TX4, 5, tyX4, rfl, by decide, wt (i := 430) (by decide +kernel) rfl, uw4, rfl, by decide, rfl, tyX4_ok, rfl, nmX4, rfl, rfl⟩
theorem f_X4_26 : FW RX4 26 4 1 2 true := ⟨RX4, TX4, 5, tyX4, rfl, by decide, wt (i := 431) (by decide +kernel) rfl, uw4, rfl, by decide, rfl, tyX4_ok, rfl, nmX4, rfl, rfl⟩
theorem f_X4_46 : FW RX4 46 8 0 0 false := ⟨RX8, TX8, 17, tyX8, rfl, by decide, wt (i := 138) (by decide +kernel) rfl, uw8, rfl, by decide, rfl, tyX8_ok, rfl, nmX8, rfl, rfl⟩
theorem f_X4_62 : FW RX4 62 8 2 0 false := ⟨RX8, TX8, 17, tyX8, rfl, by decide, wt (i := 151) (by decide +kernel) rfl, uw8, rfl, by decide, rfl, tyX8_ok, rfl, nmX8, rfl, rfl⟩
theorem f_X4_69 : FW RX4 69 8 9 2 true := ⟨RX8, TX8, 17, tyX8, rfl, by decide, wt (i := 179) (by decide +kernel) rfl, uw8, rfl, by decide, rfl, tyX8_ok, rfl, nmX8, rfl, rfl⟩
theorem f_X4_9 : FW RX4 9 4 2 2 true := ⟨RX4, TX4, 5, tyX4, rfl, by decide, wt (i := 432) (by decide +kernel) rfl, uw4, rfl, by decide, rfl, tyX4_ok, rfl, nmX4, rfl, rfl⟩
theorem f_X5_101 : FW RX5 101 8 5 2 true := ⟨RX8, TX8, 17, tyX8, rfl, by decide, wt (i := 162) (by decide +kernel) rfl, uw8, rfl, by decide, rfl, tyX8_ok, rfl, nmX8, rfl, rfl⟩
theorem f_X5_108 : FW RX5 108 8 6 2 true := ⟨RX8, TX8, 17, tyX8, rfl, by decide, wt (i := 167) (by decide +kernel) rfl, uw8, rfl, by decide, rfl, tyX8_ok, rfl, nmX8, rfl, rfl⟩
theorem f_X5_124 : FW RX5 124 8 14 2 true := ⟨RX8, TX8, 17, tyX8, rfl, by decide, wt (i := 198) (by decide +kernel) rfl, uw8, rfl, by decide, rfl, tyX8_ok, rfl, nmX8, rfl, rfl⟩
theorem f_X5_127 : FW RX5 127 8 15 2 true := ⟨RX8, TX8, 17, tyX8, rfl, by decide, wt (i := 202) (by decide +kernel) rfl, uw8, rfl, by decide, rfl, tyX8_ok, rfl, nmX8, rfl, rfl⟩
theorem f_X5_130 : FW RX5 130 8 3 0 false := ⟨RX8, TX8, 17, tyX8, rfl, by decide, wt (i := 154) (by decide +kernel) rfl, uw8, rfl, by decide, rfl, tyX8_ok, rfl, nmX8, rfl, rfl⟩
theorem f_X5_136 : FW RX5 136 8 7 2 true := ⟨RX8, TX8, 17, tyX8, rfl, by decide, wt (i := 172) (by decide +kernel) rfl, uw8, rfl, by decide, rfl, tyX8_ok, rfl, nmX8, rfl, rfl⟩
theorem f_X5_143 : FW RX5 143 8 16 2 true := ⟨RX8, TX8, 17, tyX8, rfl, by decide, wt (i := 209) (by decide +kernel) rfl, uw8, rfl, by decide, rfl, tyX8_ok, rfl, nmX8, rfl, rfl⟩
theorem f_X5_149 : FW RX5 149 8 4 0 false := ⟨RX8, TX8, 17, tyX8, rfl, by decide, wt (i := 158) (by decide +kernel) rfl, uw8, rfl, by decide, rfl, tyX8_ok, rfl, nmX8, rfl, rfl⟩
theorem f_X5_15 : FW RX5 15 5 2 2 true := ⟨RX5, TX5, 10, tyX5, rfl, by decide, wt (i := 338) (by decide +kernel) rfl, uw5, rfl, by decide, rfl, tyX5_ok, rfl, nmX5, rfl, rfl⟩
theorem f_X5_19 : FW RX5 19 5 3 1 false := ⟨RX5, TX5, 10, tyX5, rfl, by decide, wt (i := 342) (by decide +kernel) rfl, uw5, rfl, by decide, rfl, tyX5_ok, rfl, nmX5, rfl, rfl⟩
theorem f_X5_23 : FW RX5 23 5 4 1 false := ⟨RX5, TX5, 10, tyX5, rfl, by decide, wt (i := 344) (by decide +kernel) rfl, uw5, rfl, by decide, rfl, tyX5_ok, rfl, nmX5, rfl, rfl⟩
theorem f_X5_26 : FW RX5 26 5 5 3 false := ⟨RX5, TX5, 10, tyX5, rfl, by decide, wt (i := 346) (by decide +kernel) rfl, uw5, rfl, by decide, rfl, tyX5_ok, rfl, nmX5, rfl, rfl⟩
theorem f_X5_30 : FW RX5 30 5 6 2 true := ⟨RX5, TX5, 10, tyX5, rfl, by decide, wt (i := 347) (by decide +kernel) rfl, uw5, rfl, by decide, rfl, tyX5_ok, rfl, nmX5, rfl, rfl⟩
theorem f_X5_33 : FW RX5 33 5 7 2 true := ⟨RX5, TX5, 10, tyX5, rfl, by decide, wt (i := 348) (by decide +kernel) rfl, uw5, rfl, by decide, rfl, tyX5_ok, rfl, nmX5, rfl, rfl⟩
theorem f_X5_36 : FW RX5 36 5 8 2 false := ⟨RX5, TX5, 10, tyX5, rfl, by decide, wt (i := 349) (by decide +kernel) rfl, uw5, rfl, by decide, rfl, tyX5_ok, rfl, nmX5, rfl, rfl⟩
theorem f_X5_39 : FW RX5 39 5 9 2 false := ⟨RX5, TX5, 10, tyX5, rfl, by decide, wt (i := 350) (by decide +kernel) rfl, uw5, rfl, by decide, rfl, tyX5_ok, rfl, nmX5, rfl, rfl⟩
theorem f_X5_42 : FW RX5 42 5 0 2 true := ⟨RX5, TX5, 10, tyX5, rfl, by decide, wt (i := 334) (by decide +kernel) rfl, uw5, rfl, by decide, rfl, tyX5_ok, rfl, nmX5, rfl, rfl⟩
theorem f_X5_59 : FW RX5 59 8 2 0 false := ⟨RX8, TX8, 17, tyX8, rfl, by decide, wt (i := 149) (by decide +kernel) rfl, uw8, rfl, by decide, rfl, tyX8_ok, rfl, nmX8, rfl, rfl⟩
theorem f_X5_77 : FW RX5 77 8 1 0 false := ⟨RX8, TX8, 17, tyX8, rfl, by decide, wt (i := 144) (by decide +kernel) rfl, uw8, rfl, by decide, rfl, tyX8_ok, rfl, nmX8, rfl, rfl⟩
theorem f_X5_80 : FW RX5 80 8 12 2 true := ⟨RX8, TX8, 17, tyX8, rfl, by decide, wt (i := 189) (by decide +kernel) rfl, uw8, rfl, by decide, rfl, tyX8_ok, rfl, nmX8, rfl, rfl⟩
theorem f_X5_83 : FW RX5 83 8 13 2 true := ⟨RX8, TX8, 17, tyX8, rfl, by decide, wt (i := 194) (by decide +kernel) rfl, uw8, rfl, by decide, rfl, tyX8_ok, rfl, nmX8, rfl, rfl⟩
theorem f_X5_86 : FW RX5 86 8 11 2 true := ⟨RX8, TX8, 17, tyX8, rfl, by decide, wt (i := 186) (by decide +kernel) rfl, uw8, rfl, by decide, rfl, tyX8_ok, rfl, nmX8, rfl, rfl⟩
theorem f_X5_9 : FW RX5 9 5 1 2 true := ⟨RX5, TX5, 10, tyX5, rfl, by decide, wt (i := 335) (by decide +kernel) rfl, uw5, rfl, by decide, rfl, tyX5_ok, rfl, nmX5, rfl, rfl⟩
theorem f_X5_95 : FW RX5 95 8 0 0 false := ⟨RX8, TX8, 17, tyX8, rfl, by decide, wt (i := 140) (by decide +kernel) rfl, uw8, rfl, by decide, rfl, tyX8_ok, rfl, nmX8, rfl, rfl⟩
theorem f_X6_104 : FW RX6 104 8 0 0 false := ⟨RX8, TX8, 17, tyX8, rfl, by decide, wt (i := 136) (by decide +kernel) rfl, uw8, rfl, by decide, rfl, tyX8_ok, rfl, nmX8, rfl, rfl⟩
theorem f_X6_121 : FW RX6 121 8 5 2 true := ⟨RX8, TX8, 17, tyX8, rfl, by decide, wt (i := 160) (by decide +kernel) rfl, uw8, rfl, by decide, rfl, tyX8_ok, rfl, nmX8, rfl, rfl⟩
theorem f_X6_127 : FW RX6 127 8 6 2 true := ⟨RX8, TX8, 17, tyX8, rfl, by decide, wt (i := 165) (by decide +kernel) rfl, uw8, rfl, by decide, rfl, tyX8_ok, rfl, nmX8, rfl, rfl⟩
theorem f_X6_132 : FW RX6 132 8 7 2 true := ⟨RX8, TX8, 17, tyX8, rfl, by decide, wt (i := 170) (by decide +kernel) rfl, uw8, rfl, by decide, rfl, tyX8_ok, rfl, nmX8, rfl, rfl⟩
theorem f_X6_135 : FW RX6 135 8 8 2 true := ⟨RX8, TX8, 17, tyX8, rfl, by decide, wt (i := 174) (by decide +kernel) rfl, uw8, rfl, by decide, rfl, tyX8_ok, rfl, nmX8, rfl, rfl⟩
theorem f_X6_143 : FW RX6 143 8 9 2 true := ⟨RX8, TX8, 17, tyX8, rfl, by decide, wt (i := 177) (by decide +kernel) rfl, uw8, rfl, by decide, rfl, tyX8_ok, rfl, nmX8, rfl, rfl⟩
theorem f_X6_15 : FW RX6 15 6 1 0 false := ⟨RX6, TX6, 15, tyX6, rfl, by decide, wt (i := 278) (by decide +kernel) rfl, uw6, rfl, by decide, rfl, tyX6_ok, rfl, nmX6, rfl, rfl⟩
theorem f_X6_154 : FW RX6 154 8 11 2 true := ⟨RX8, TX8, 17, tyX8, rfl, by decide, wt (i := 185) (by decide +kernel) rfl, uw8, rfl, by decide, rfl, tyX8_ok, rfl, nmX8, rfl, rfl⟩
theorem f_X6_159 : FW RX6 159 8 12 2 true := ⟨RX8, TX8, 17, tyX8, rfl, by decide, wt (i := 190) (by decide +kernel) rfl, uw8, rfl, by decide, rfl, tyX8_ok, rfl, nmX8, rfl, rfl⟩
theorem f_X6_162 : FW RX6 162 8 10 2 true := ⟨RX8, TX8, 17, tyX8, rfl, by decide, wt (i := 182) (by decide +kernel) rfl, uw8, rfl, by decide, rfl, tyX8_ok, rfl, nmX8, rfl, rfl⟩
theorem f_X6_173 : FW RX6 173 8 2 0 false := ⟨RX8, TX8, 17, tyX8, rfl, by decide, wt (i := 150) (by decide +kernel) rfl, uw8, rfl, by decide, rfl, tyX8_ok, rfl, nmX8, rfl, rfl⟩
theorem f_X6_176 : FW RX6 176 8 14 2 true := ⟨RX8, TX8, 17, tyX8, rfl, by decide, wt (i := 197) (by decide +kernel) rfl, uw8, rfl, by decide, rfl, tyX8_ok, rfl, nmX8, rfl, rfl⟩
theorem f_X6_179 : FW RX6 179 8 15 2 true := ⟨RX8, TX8, 17, tyX8, rfl, by decide, wt (i := 201) (by decide +kernel) rfl, uw8, rfl, by decide, rfl, tyX8_ok, rfl, nmX8, rfl, rfl⟩
theorem f_X6_184 : FW RX6 184 8 16 2 true := ⟨RX8, TX8, 17, tyX8, rfl, by decide, wt (i := 207) (by decide +kernel) rfl, uw8, rfl, by decide, rfl, tyX8_ok, rfl, nmX8, rfl, rfl⟩
theorem f_X6_22 : FW RX6 22 6 2 2 true := ⟨RX6, TX6, 15, tyX6, rfl, by decide, wt (i := 280) (by decide +kernel) rfl, uw6, rfl, by decide, rfl, tyX6_ok, rfl, nmX6, rfl, rfl⟩
theorem f_X6_26 : FW RX6 26 6 3 0 false := ⟨RX6, TX6, 15, tyX6, rfl, by decide, wt (i := 282) (by decide +kernel) rfl, uw6, rfl, by decide, rfl, tyX6_ok, rfl, nmX6, rfl, rfl⟩
theorem f_X6_29 : FW RX6 29 6 4 0 false := ⟨RX6, TX6, 15, tyX6, rfl, by decide, wt (i := 284) (by decide +kernel) rfl, uw6, rfl, by decide, rfl, tyX6_ok, rfl, nmX6, rfl, rfl⟩
theorem f_X6_32 : FW RX6 32 6 5 0 false := ⟨RX6, TX6, 15, tyX6, rfl, by decide, wt (i := 286) (by decide +kernel) rfl, uw6, rfl, by decide, rfl, tyX6_ok, rfl, nmX6, rfl, rfl⟩
theorem f_X6_35 : FW RX6 35 6 6 0 false := ⟨RX6, TX6, 15, tyX6, rfl, by decide, wt (i := 287) (by decide +kernel) rfl, uw6, rfl, by decide, rfl, tyX6_ok, rfl, nmX6, rfl, rfl⟩
theorem f_X6_38 : FW RX6 38 6 7 0 false := ⟨RX6, TX6, 15, tyX6, rfl, by decide, wt (i := 288) (by decide +kernel) rfl, uw6, rfl, by decide, rfl, tyX6_ok, rfl, nmX6, rfl, rfl⟩
theorem f_X6_41 : FW RX6 41 6 8 0 false := ⟨RX6, TX6, 15, tyX6, rfl, by decide, wt (i := 289) (by decide +kernel) rfl, uw6, rfl, by decide, rfl, tyX6_ok, rfl, nmX6, rfl, rfl⟩
theorem f_X6_44 : FW RX6 44 6 9 0 false := ⟨RX6, TX6, 15, tyX6, rfl, by decide, wt (i := 290) (by decide +kernel) rfl, uw6, rfl, by decide, rfl, tyX6_ok, rfl, nmX6, rfl, rfl⟩
theorem f_X6_47 : FW RX6 47 6 10 1 false := ⟨RX6, TX6, 15, tyX6, rfl, by decide, wt (i := 291) (by decide +kernel) rfl, uw6, rfl, by decide, rfl, tyX6_ok, rfl, nmX6, rfl, rfl⟩
theorem f_X6_51 : FW RX6 51 6 11 2 true := ⟨RX6, TX6, 15, tyX6, rfl, by decide, wt (i := 292) (by decide +kernel) rfl, uw6, rfl, by decide, rfl, tyX6_ok, rfl, nmX6, rfl, rfl⟩
theorem f_X6_55 : FW RX6 55 6 12 2 true := ⟨RX6, TX6, 15, tyX6, rfl, by decide, wt (i := 293) (by decide +kernel) rfl, uw6, rfl, by decide, rfl, tyX6_ok, rfl, nmX6, rfl, rfl⟩
theorem f_X6_58 : FW RX6 58 6 13 2 true := ⟨RX6, TX6, 15, tyX6, rfl, by decide, wt (i := 294) (by decide +kernel) rfl, uw6, rfl, by decide, rfl, tyX6_ok, rfl, nmX6, rfl, rfl⟩
theorem f_X6_62 : FW RX6 62 6 14 2 true := ⟨RX6, TX6, 15, tyX6, rfl, by decide, wt (i := 295) (by decide +kernel) rfl, uw6, rfl, by decide, rfl, tyX6_ok, rfl, nmX6, rfl, rfl⟩
theorem f_X6_9 : FW RX6 9 6 0 2 true := ⟨RX6, TX6, 15, tyX6, rfl, by decide, wt (i := 277) (by decide +kernel) rfl, uw6, rfl, by decide, rfl, tyX6_ok, rfl, nmX6, rfl, rfl⟩
theorem f_X6_94 : FW RX6 94 8 1 0 false := ⟨RX8, TX8, 17, tyX8, rfl, by decide, wt (i := 143) (by decide +kernel) rfl, uw8, rfl, by decide, rfl, tyX8_ok, rfl, nmX8, rfl, rfl⟩
theorem f_X6_97 : FW RX6 97 8 13 2 true := ⟨RX8, TX8, 17, tyX8, rfl, by decide, wt (i := 193) (by decide +kernel) rfl, uw8, rfl, by decide, rfl, tyX8_ok, rfl, nmX8, rfl, rfl⟩
theorem f_X7_11 : FW RX7 11 7 0 2 true := ⟨RX7, TX7, 3, tyX7, rfl, by decide, wt (i := 255) (by decide +kernel) rfl, uw7, rfl, by decide, rfl, tyX7_ok, rfl, nmX7, rfl, rfl⟩
theorem f_X7_16 : FW RX7 16 7 1 2 true := ⟨RX7, TX7, 3, tyX7, rfl, by decide, wt (i := 257) (by decide +kernel) rfl, uw7, rfl, by decide, rfl, tyX7_ok, rfl, nmX7, rfl, rfl⟩
theorem f_X7_20 : FW RX7 20 7 2 2 true := ⟨RX7, TX7, 3, tyX7, rfl, by decide, wt (i := 259) (by decide +kernel) rfl, uw7, rfl, by decide, rfl, tyX7_ok, rfl, nmX7, rfl, rfl⟩
theorem f_X8_15 : FW RX8 15 8 1 0 false := ⟨RX8, TX8, 17, tyX8, rfl, by decide, wt (i := 142) (by decide +kernel) rfl, uw8, rfl, by decide, rfl, tyX8_ok, rfl, nmX8, rfl, rfl⟩
theorem f_X8_18 : FW RX8 18 8 2 0 false := ⟨RX8, TX8, 17, tyX8, rfl, by decide, wt (i := 146) (by decide +kernel) rfl, uw8, rfl, by decide, rfl, tyX8_ok, rfl, nmX8, rfl, rfl⟩
theorem f_X8_21 : FW RX8 21 8 3 0 false := ⟨RX8, TX8, 17, tyX8, rfl, by decide, wt (i := 153) (by decide +kernel) rfl, uw8, rfl, by decide, rfl, tyX8_ok, rfl, nmX8, rfl, rfl⟩
theorem f_X8_24 : FW RX8 24 8 4 0 false := ⟨RX8, TX8, 17, tyX8, rfl, by decide, wt (i := 156) (by decide +kernel) rfl, uw8, rfl, by decide, rfl, tyX8_ok, rfl, nmX8, rfl, rfl⟩
theorem f_X8_27 : FW RX8 27 8 5 2 true := ⟨RX8, TX8, 17, tyX8, rfl, by decide, wt (i := 159) (by decide +kernel) rfl, uw8, rfl, by decide, rfl, tyX8_ok, rfl, nmX8, rfl, rfl⟩
theorem f_X8_31 : FW RX8 31 8 6 2 true := ⟨RX8, TX8, 17, tyX8, rfl, by decide, wt (i := 164) (by decide +kernel) rfl, uw8, rfl, by decide, rfl, tyX8_ok, rfl, nmX8, rfl, rfl⟩
theorem f_X8_34 : FW RX8 34 8 7 2 true := ⟨RX8, TX8, 17, tyX8, rfl, by decide, wt (i := 169) (by decide +kernel) rfl, uw8, rfl, by decide, rfl, tyX8_ok, rfl, nmX8, rfl, rfl⟩
theorem f_X8_37 : FW RX8 37 8 8 2 true := ⟨RX8, TX8, 17, tyX8, rfl, by decide, wt (i := 173) (by decide +kernel) rfl, uw8, rfl, by decide, rfl, tyX8_ok, rfl, nmX8, rfl, rfl⟩
theorem f_X8_40 : FW RX8 40 8 9 2 true := ⟨RX8, TX8, 17, tyX8, rfl, by decide, wt (i := 176) (by decide +kernel) rfl, uw8, rfl, by decide, rfl, tyX8_ok, rfl, nmX8, rfl, rfl⟩
theorem f_X8_43 : FW RX8 43 8 10 2 true := ⟨RX8, TX8, 17, tyX8, rfl, by decide, wt (i := 181) (by decide +kernel) rfl, uw8, rfl, by decide, rfl, tyX8_ok, rfl, nmX8, rfl, rfl⟩
theorem f_X8_46 : FW RX8 46 8 11 2 true := ⟨RX8, TX8, 17, tyX8, rfl, by decide, wt (i := 184) (by decide +kernel) rfl, uw8, rfl, by decide, rfl, tyX8_ok, rfl, nmX8, rfl, rfl⟩
theorem f_X8_49 : FW RX8 49 8 12 2 true := ⟨RX8, TX8, 17, tyX8, rfl, by decide, wt (i := 188) (by decide +kernel) rfl, uw8, rfl, by decide, rfl, tyX8_ok, rfl, nmX8, rfl, rfl⟩
theorem f_X8_52 : FW RX8 52 8 13 2 true := ⟨RX8, TX8, 17, tyX8, rfl, by decide, wt (i := 192) (by decide +kernel) rfl, uw8, rfl, by decide, rfl, tyX8_ok, rfl, nmX8, rfl, rfl⟩
theorem f_X8_55 : FW RX8 55 8 14 2 true := ⟨RX8, TX8, 17, tyX8, rfl, by decide, wt (i := 196) (by decide +kernel) rfl, uw8, rfl, by decide, rfl, tyX8_ok, rfl, nmX8, rfl, rfl⟩
theorem f_X8_58 : FW RX8 58 8 15 2 true := ⟨RX8, TX8, 17, tyX8, rfl, by decide, wt (i := 200) (by decide +kernel) rfl, uw8, rfl, by decide, rfl, tyX8_ok, rfl, nmX8, rfl, rfl⟩
theorem f_X8_61 : FW RX8 61 8 16 2 true := ⟨RX8, TX8, 17, tyX8, rfl, by decide, wt (i := 204) (by decide +kernel) rfl, uw8, rfl, by decide, rfl, tyX8_ok, rfl, nmX8, rfl, rfl⟩
theorem f_X8_9 : FW RX8 9 8 0 0 false := ⟨RX8, TX8, 17, tyX8, rfl, by decide, wt (i := 134) (by decide +kernel) rfl, uw8, rfl, by decide, rfl, tyX8_ok, rfl, nmX8, rfl, rfl⟩
theorem f_X9_10 : FW RX9 10 9 0 2 true := ⟨RX9, TX9, 17, tyX9, rfl, by decide, wt (i := 502) (by decide +kernel) rfl, uw9, rfl, by decide, rfl, tyX9_ok, rfl, nmX9, rfl, rfl⟩
theorem f_X9_100 : FW RX9 100 9 16 0 false := ⟨RX9, TX9, 17, tyX9, rfl, by decide, wt (i := 518) (by decide +kernel) rfl, uw9, rfl, by decide, rfl, tyX9_ok, rfl, nmX9, rfl, rfl⟩
theorem f_X9_134 : FW RX9 134 7 0 2 true := ⟨RX7, TX7, 3, tyX7, rfl, by decide, wt (i := 256) (by decide +kernel) rfl, uw7, rfl, by decide, rfl, tyX7_ok, rfl, nmX7, rfl, rfl⟩
theorem f_X9_141 : FW RX9 141 7 1 2 true := ⟨RX7, TX7, 3, tyX7, rfl, by decide, wt (i := 258) (by decide +kernel) rfl, uw7, rfl, by decide, rfl, tyX7_ok, rfl, nmX7, rfl, rfl⟩
theorem f_X9_152 : FW RX9 152 6 1 0 false := ⟨RX6, TX6, 15, tyX6, rfl, by decide, wt (i := 279) (by decide +kernel) rfl, uw6, rfl, by decide, rfl, tyX6_ok, rfl, nmX6, rfl, rfl⟩
theorem f_X9_16 : FW RX9 16 9 1 2 true := ⟨RX9, TX9, 17, tyX9, rfl, by decide, wt (i := 503) (by decide +kernel) rfl, uw9, rfl, by decide, rfl, tyX9_ok, rfl, nmX9, rfl, rfl⟩
theorem f_X9_162 : FW RX9 162 6 3 0 false := ⟨RX6, TX6, 15, tyX6, rfl, by decide, wt (i := 283) (by decide +kernel) rfl, uw6, rfl, by decide, rfl, tyX6_ok, rfl, nmX6, rfl, rfl⟩
theorem f_X9_165 : FW RX9 165 6 4 0 false := ⟨RX6, TX6, 15, tyX6, rfl, by decide, wt (i := 285) (by decide +kernel) rfl, uw6, rfl, by decide, rfl, tyX6_ok, rfl, nmX6, rfl, rfl⟩
theorem f_X9_168 : FW RX9 168 6 2 2 true := ⟨RX6, TX6, 15, tyX6, rfl, by decide, wt (i := 281) (by decide +kernel) rfl, uw6, rfl, by decide, rfl, tyX6_ok, rfl, nmX6, rfl, rfl⟩
theorem f_X9_177 : FW RX9 177 8 0 0 false := ⟨RX8, TX8, 17, tyX8, rfl, by decide, wt (i := 141) (by decide +kernel) rfl, uw8, rfl, by decide, rfl, tyX8_ok, rfl, nmX8, rfl, rfl⟩
theorem f_X9_183 : FW RX9 183 8 1 0 false := ⟨RX8, TX8, 17, tyX8, rfl, by decide, wt (i := 145) (by decide +kernel) rfl, uw8, rfl, by decide, rfl, tyX8_ok, rfl, nmX8, rfl, rfl⟩
theorem f_X9_186 : FW RX9 186 8 2 0 false := ⟨RX8, TX8, 17, tyX8, rfl, by decide, wt (i := 152) (by decide +kernel) rfl, uw8, rfl, by decide, rfl, tyX8_ok, rfl, nmX8, rfl, rfl⟩
theorem f_X9_192 : FW RX9 192 8 5 2 true := ⟨RX8, TX8, 17, tyX8, rfl, by decide, wt (i := 163) (by decide +kernel) rfl, uw8, rfl, by decide, rfl, tyX8_ok, rfl, nmX8, rfl, rfl⟩
theorem f_X9_195 : FW RX9 195 8 6 2 true := ⟨RX8, TX8, 17, tyX8, rfl, by decide, wt (i := 168) (by decide +kernel) rfl, uw8, rfl, by decide, rfl, tyX8_ok, rfl, nmX8, rfl, rfl⟩
theorem f_X9_198 : FW RX9 198 8 7 2 true := ⟨RX8, TX8, 17, tyX8, rfl, by decide, wt (i := 171) (by decide +kernel) rfl, uw8, rfl, by decide, rfl, tyX8_ok, rfl, nmX8, rfl, rfl⟩
theorem f_X9_20 : FW RX9 20 9 2 0 false := ⟨RX9, TX9, 17, tyX9, rfl, by decide, wt (i := 504) (by decide +kernel) rfl, uw9, rfl, by decide, rfl, tyX9_ok, rfl, nmX9, rfl, rfl⟩
theorem f_X9_201 : FW RX9 201 8 8 2 true := ⟨RX8, TX8, 17, tyX8, rfl, by decide, wt (i := 175) (by decide +kernel) rfl, uw8, rfl, by decide, rfl, tyX8_ok, rfl, nmX8, rfl, rfl⟩
theorem f_X9_204 : FW RX9 204 8 9 2 true := ⟨RX8, TX8, 17, tyX8, rfl, by decide, wt (i := 180) (by decide +kernel) rfl, uw8, rfl, by decide, rfl, tyX8_ok, rfl, nmX8, rfl, rfl⟩
theorem f_X9_210 : FW RX9 210 8 10 2 true := ⟨RX8, TX8, 17, tyX8, rfl, by decide, wt (i := 183) (by decide +kernel) rfl, uw8, rfl, by decide, rfl, tyX8_ok, rfl, nmX8, rfl, rfl⟩
theorem f_X9_213 : FW RX9 213 8 11 2 true := ⟨RX8, TX8, 17, tyX8, rfl, by decide, wt (i := 187) (by decide +kernel) rfl, uw8, rfl, by decide, rfl, tyX8_ok, rfl, nmX8, rfl, rfl⟩
theorem f_X9_216 : FW RX9 216 8 12 2 true := ⟨RX8, TX8, 17, tyX8, rfl, by decide, wt (i := 191) (by decide +kernel) rfl, uw8, rfl, by decide, rfl, tyX8_ok, rfl, nmX8, rfl, rfl⟩
theorem f_X9_219 : FW RX9 219 8 13 2 true := ⟨RX8, TX8, 17, tyX8, rfl, by decide, wt (i := 195) (by decide +kernel) rfl, uw8, rfl, by decide, rfl, tyX8_ok, rfl, nmX8, rfl, rfl⟩
theorem f_X9_225 : FW RX9 225 8 14 2 true := ⟨RX8, TX8, 17, tyX8, rfl, by decide, wt (i := 199) (by decide +kernel) rfl, uw8, rfl, by decide, rfl, tyX8_ok, rfl, nmX8, rfl, rfl⟩
theorem f_X9_228 : FW RX9 228 8 15 2 true := ⟨RX8, TX8, 17, tyX8, rfl, by decide, wt (i := 203) (by decide +kernel) rfl, uw8, rfl, by decide, rfl, tyX8_ok, rfl, nmX8, rfl, rfl⟩
theorem f_X9_231 : FW RX9 231 8 16 2 true := ⟨RX8, TX8, 17, tyX8, rfl, by decide, wt (i := 208) (by decide +kernel) rfl, uw8, rfl, by decide, rfl, tyX8_ok, rfl, nmX8, rfl, rfl⟩
theorem f_X9_240 : FW RX9 240 8 3 0 false := ⟨RX8, TX8, 17, tyX8, rfl, by decide, wt (i := 155) (by decide +kernel) rfl, uw8, rfl, by decide, rfl, tyX8_ok, rfl, nmX8, rfl, rfl⟩
theorem f_X9_243 : FW RX9 243 8 4 0 false := ⟨RX8, TX8, 17, tyX8, rfl, by decide, wt (i := 157) (by decide +kernel) rfl, uw8, rfl, by decide, rfl, tyX8_ok, rfl, nmX8, rfl, rfl⟩
theorem f_X9_269 : FW RX9 269 5 2 2 true := ⟨RX5, TX5, 10, tyX5, rfl, by decide, wt (i := 341) (by decide +kernel) rfl, uw5, rfl, by decide, rfl, tyX5_ok, rfl, nmX5, rfl, rfl⟩
theorem f_X9_27 : FW RX9 27 9 3 2 true := ⟨RX9, TX9, 17, tyX9, rfl, by decide, wt (i := 505) (by decide +kernel) rfl, uw9, rfl, by decide, rfl, tyX9_ok, rfl, nmX9, rfl, rfl⟩
theorem f_X9_301 : FW RX9 301 1 2 2 true := ⟨RX1, TX1, 8, tyX1, rfl, by decide, wt (i := 381) (by decide +kernel) rfl, uw1, rfl, by decide, rfl, tyX1_ok, rfl, nmX1, rfl, rfl⟩
theorem f_X9_307 : FW RX9 307 1 6 0 false := ⟨RX1, TX1, 8, tyX1, rfl, by decide, wt (i := 386) (by decide +kernel) rfl, uw1, rfl, by decide, rfl, tyX1_ok, rfl, nmX1, rfl, rfl⟩
theorem f_X9_335 : FW RX9 335 4 2 2 true := ⟨RX4, TX4, 5, tyX4, rfl, by decide, wt (i := 433) (by decide +kernel) rfl, uw4, rfl, by decide, rfl, tyX4_ok, rfl, nmX4, rfl, rfl⟩
theorem f_X9_34 : FW RX9 34 9 4 2 true := ⟨RX9, TX9, 17, tyX9, rfl, by decide, wt (i := 506) (by decide +kernel) rfl, uw9, rfl, by decide, rfl, tyX9_ok, rfl, nmX9, rfl, rfl⟩
theorem f_X9_350 : FW RX9 350 3 7 0 false := ⟨RX3, TX3, 8, tyX3, rfl, by decide, wt (i := 462) (by decide +kernel) rfl, uw3, rfl, by decide, rfl, tyX3_ok, rfl, nmX3, rfl, rfl⟩
theorem f_X9_353 : FW RX9 353 3 6 2 true := ⟨RX3, TX3, 8, tyX3, rfl, by decide, wt (i := 460) (by decide +kernel) rfl, uw3, rfl, by decide, rfl, tyX3_ok, rfl, nmX3, rfl, rfl⟩
theorem f_X9_389 : FW RX9 389 7 2 2 true := ⟨RX7, TX7, 3, tyX7, rfl, by decide, wt (i := 260) (by decide +kernel) rfl, uw7, rfl, by decide, rfl, tyX7_ok, rfl, nmX7, rfl, rfl⟩
theorem f_X9_43 : FW RX9 43 9 5 2 true := ⟨RX9, TX9, 17, tyX9, rfl, by decide, wt (i := 507) (by decide +kernel) rfl, uw9, rfl, by decide, rfl, tyX9_ok, rfl, nmX9, rfl, rfl⟩
theorem f_X9_52 : FW RX9 52 9 6 2 true := ⟨RX9, TX9, 17, tyX9, rfl, by decide, wt (i := 508) (by decide +kernel) rfl, uw9, rfl, by decide, rfl, tyX9_ok, rfl, nmX9, rfl, rfl⟩
theorem f_X9_59 : FW RX9 59 9 7 2 true := ⟨RX9, TX9, 17, tyX9, rfl, by decide, wt (i := 509) (by decide +kernel) rfl, uw9, rfl, by decide, rfl, tyX9_ok, rfl, nmX9, rfl, rfl⟩
theorem f_X9_66 : FW RX9 66 9 8 2 true := ⟨RX9, TX9, 17, tyX9, rfl, by decide, wt (i := 510) (by decide +kernel) rfl, uw9, rfl, by decide, rfl, tyX9_ok, rfl, nmX9, rfl, rfl⟩
theorem f_X9_73 : FW RX9 73 9 9 2 true := ⟨RX9, TX9, 17, tyX9, rfl, by decide, wt (i := 511) (by decide +kernel) rfl, uw9, rfl, by decide, rfl, tyX9_ok, rfl, nmX9, rfl, rfl⟩
theorem f_X9_80 : FW RX9 80 9 10 2 true := ⟨RX9, TX9, 17, tyX9, rfl, by decide, wt (i := 512) (by decide +kernel) rfl, uw9, rfl, by decide, rfl, tyX9_ok, rfl, nmX9, rfl, rfl⟩
theorem f_X9_84 : FW RX9 84 9 11 0 false := ⟨RX9, TX9, 17, tyX9, rfl, by decide, wt (i := 513) (by decide +kernel) rfl, uw9, rfl, by decide, rfl, tyX9_ok, rfl, nmX9, rfl, rfl⟩
theorem f_X9_87 : FW RX9 87 9 12 1 false := ⟨RX9, TX9, 17, tyX9, rfl, by decide, wt (i := 514) (by decide +kernel) rfl, uw9, rfl, by decide, rfl, tyX9_ok, rfl, nmX9, rfl, rfl⟩
theorem f_X9_91 : FW RX9 91 9 13 1 false := ⟨RX9, TX9, 17, tyX9, rfl, by decide, wt (i := 515) (by decide +kernel) rfl, uw9, rfl, by decide, rfl, tyX9_ok, rfl, nmX9, rfl, rfl⟩
theorem f_X9_94 : FW RX9 94 9 14 0 false := ⟨RX9, TX9, 17, tyX9, rfl, by decide, wt (i := 516) (by decide +kernel) rfl, uw9, rfl, by decide, rfl, tyX9_ok, rfl, nmX9, rfl, rfl⟩
theorem f_X9_97 : FW RX9 97 9 15 0 false := ⟨RX9, TX9, 17, tyX9, rfl, by decide, wt (i := 517) (by decide +kernel) rfl, uw9, rfl, by decide, rfl, tyX9_ok, rfl, nmX9, rfl, rfl⟩
theorem k_J6_265 : Cond.constant RJ6 265 (Int32.ofInt 1431655765) ∈ gT := wt (i := 965) (by decide +kernel) rfl
theorem k_J6_266 : Cond.constant RJ6 266 (Int32.ofInt 858993459) ∈ gT := wt (i := 966) (by decide +kernel) rfl
theorem k_J6_267 : Cond.constant RJ6 267 (Int32.ofInt 252645135) ∈ gT := wt (i := 967) (by decide +kernel) rfl
theorem k_X10_103 : Cond.constantLong RX10 103 (Int64.ofInt (-1)) ∈ gT := wt (i := 1386) (by decide +kernel) rfl
theorem k_X10_232 : Cond.constantLong RX10 232 (Int64.ofInt 16) ∈ gT := wt (i := 1656) (by decide +kernel) rfl
theorem k_X10_240 : Cond.constant RX10 240 (Int32.ofInt 1000000) ∈ gT := wt (i := 1622) (by decide +kernel) rfl
theorem k_X10_359 : Cond.constant RX10 359 (Int32.ofInt 65536) ∈ gT := wt (i := 1799) (by decide +kernel) rfl
theorem k_X2_85 : Cond.constant RX2 85 (Int32.ofInt 65536) ∈ gT := wt (i := 1211) (by decide +kernel) rfl
theorem k_X3_59 : Cond.constantLong RX3 59 (Int64.ofInt 9223372036854775807) ∈ gT := wt (i := 1114) (by decide +kernel) rfl
theorem k_X5_114 : Cond.constant RX5 114 (Int32.ofInt 2147483647) ∈ gT := wt (i := 887) (by decide +kernel) rfl
theorem k_X5_159 : Cond.constantLong RX5 159 (Int64.ofInt 16) ∈ gT := wt (i := 1142) (by decide +kernel) rfl
theorem k_X6_115 : Cond.constantLong RX6 115 (Int64.ofInt 24948) ∈ gT := wt (i := 698) (by decide +kernel) rfl
theorem k_X6_130 : Cond.constantLong RX6 130 (Int64.ofInt 444150998387) ∈ gT := wt (i := 707) (by decide +kernel) rfl
theorem k_X6_138 : Cond.constantLong RX6 138 (Int64.ofInt 1936681324) ∈ gT := wt (i := 708) (by decide +kernel) rfl
theorem k_X6_150 : Cond.constantLong RX6 150 (Int64.ofInt 29807) ∈ gT := wt (i := 736) (by decide +kernel) rfl
theorem k_X6_152 : Cond.constantLong RX6 152 (Int64.ofInt 499850634611) ∈ gT := wt (i := 737) (by decide +kernel) rfl
theorem k_X6_157 : Cond.constantLong RX6 157 (Int64.ofInt 1868850291) ∈ gT := wt (i := 738) (by decide +kernel) rfl
theorem k_X6_165 : Cond.constantLong RX6 165 (Int64.ofInt 1751214444) ∈ gT := wt (i := 732) (by decide +kernel) rfl
theorem k_X6_167 : Cond.constantLong RX6 167 (Int64.ofInt 440006570868) ∈ gT := wt (i := 733) (by decide +kernel) rfl
theorem k_X6_169 : Cond.constantLong RX6 169 (Int64.ofInt 6582905) ∈ gT := wt (i := 734) (by decide +kernel) rfl
theorem k_X6_171 : Cond.constantLong RX6 171 (Int64.ofInt 108217764374644) ∈ gT := wt (i := 735) (by decide +kernel) rfl
theorem k_X6_182 : Cond.constantLong RX6 182 (Int64.ofInt 1852138852) ∈ gT := wt (i := 718) (by decide +kernel) rfl
theorem k_X6_187 : Cond.constantLong RX6 187 (Int64.ofInt 448545973363) ∈ gT := wt (i := 719) (by decide +kernel) rfl
theorem k_X6_77 : Cond.constantLong RX6 77 (Int64.ofInt 495874894192) ∈ gT := wt (i := 671) (by decide +kernel) rfl
theorem k_X6_86 : Cond.constantLong RX6 86 (Int64.ofInt 112568633486457) ∈ gT := wt (i := 713) (by decide +kernel) rfl
theorem k_X9_330 : Cond.constant RX9 330 (Int32.ofInt 2147483647) ∈ gT := wt (i := 1046) (by decide +kernel) rfl
theorem ms_X10_131 : MwS RX10 131 MX10_isSmall 1 := ⟨wt (i := 1415) (by decide +kernel) rfl, cw_X10_isSmall, st_X10_isSmall, in_X10, mk_X10_isSmall⟩
theorem ms_X10_134 : MwS RX10 134 MX10_isDigit 1 := ⟨wt (i := 1418) (by decide +kernel) rfl, cw_X10_isDigit, st_X10_isDigit, in_X10, mk_X10_isDigit⟩
theorem ms_X10_174 : MwS RX10 174 MX10_find 3 := ⟨wt (i := 1495) (by decide +kernel) rfl, cw_X10_find, st_X10_find, in_X10, mk_X10_find⟩
theorem ms_X10_241 : MwS RX10 241 MX10_apart 4 := ⟨wt (i := 1623) (by decide +kernel) rfl, cw_X10_apart, st_X10_apart, in_X10, mk_X10_apart⟩
theorem ms_X10_302 : MwS RX10 302 MX10_bits 1 := ⟨wt (i := 1689) (by decide +kernel) rfl, cw_X10_bits, st_X10_bits, in_X10, mk_X10_bits⟩
theorem ms_X10_92 : MwS RX10 92 MX10_isTray 1 := ⟨wt (i := 1364) (by decide +kernel) rfl, cw_X10_isTray, st_X10_isTray, in_X10, mk_X10_isTray⟩
theorem ms_X10_99 : MwS RX10 99 MX10_cut 2 := ⟨wt (i := 1379) (by decide +kernel) rfl, cw_X10_cut, st_X10_cut, in_X10, mk_X10_cut⟩
theorem ms_X1_47 : MwS RX1 47 MJ6_bitCount_0f7a4 1 := ⟨wt (i := 973) (by decide +kernel) rfl, cw_J6_bitCount_0f7a4, st_J6_bitCount_0f7a4, in_J6, mk_J6_bitCount_0f7a4⟩
theorem ms_X2_86 : MwS RX2 86 MJ6_bitCount_0f7a4 1 := ⟨wt (i := 1174) (by decide +kernel) rfl, cw_J6_bitCount_0f7a4, st_J6_bitCount_0f7a4, in_J6, mk_J6_bitCount_0f7a4⟩
theorem ms_X6_203 : MwS RX6 203 MX6_isLetter 1 := ⟨wt (i := 657) (by decide +kernel) rfl, cw_X6_isLetter, st_X6_isLetter, in_X6, mk_X6_isLetter⟩
theorem ms_X6_210 : MwS RX6 210 MX6_isDigit 1 := ⟨wt (i := 664) (by decide +kernel) rfl, cw_X6_isDigit, st_X6_isDigit, in_X6, mk_X6_isDigit⟩
theorem ms_X7_23 : MwS RX7 23 MX7_cut 2 := ⟨wt (i := 604) (by decide +kernel) rfl, cw_X7_cut, st_X7_cut, in_X7, mk_X7_cut⟩
theorem ms_X8_68 : MwS RX8 68 MX8_copyRow 2 := ⟨wt (i := 751) (by decide +kernel) rfl, cw_X8_copyRow, st_X8_copyRow, in_X8, mk_X8_copyRow⟩
theorem ms_X9_103 : MwS RX9 103 MX9_isTray 1 := ⟨wt (i := 570) (by decide +kernel) rfl, cw_X9_isTray, st_X9_isTray, in_X9, mk_X9_isTray⟩
theorem ms_X9_107 : MwS RX9 107 MX9_isWithin 3 := ⟨wt (i := 573) (by decide +kernel) rfl, cw_X9_isWithin, st_X9_isWithin, in_X9, mk_X9_isWithin⟩
theorem ms_X9_385 : MwS RX9 385 MX9_commonDivisor 2 := ⟨wt (i := 929) (by decide +kernel) rfl, cw_X9_commonDivisor, st_X9_commonDivisor, in_X9, mk_X9_commonDivisor⟩
theorem ms_X9_395 : MwS RX9 395 MJ6_bitCount_0f7a4 1 := ⟨wt (i := 962) (by decide +kernel) rfl, cw_J6_bitCount_0f7a4, st_J6_bitCount_0f7a4, in_J6, mk_J6_bitCount_0f7a4⟩
theorem mv_X0_26 : MwV RX0 26 MX8_heldBy 1 := ⟨wt (i := 1025) (by decide +kernel) rfl, cw_X8_heldBy, im_X8_heldBy, se_X8_heldBy, in_X8, mk_X8_heldBy⟩
theorem mv_X0_32 : MwV RX0 32 MX5_fillNets 3 := ⟨wt (i := 1026) (by decide +kernel) rfl, cw_X5_fillNets, im_X5_fillNets, se_X5_fillNets, in_X5, mk_X5_fillNets⟩
theorem mv_X0_38 : MwV RX0 38 MX8_lots 0 := ⟨wt (i := 1027) (by decide +kernel) rfl, cw_X8_lots, im_X8_lots, se_X8_lots, in_X8, mk_X8_lots⟩
theorem mv_X10_108 : MwV RX10 108 MX10_four 1 := ⟨wt (i := 1395) (by decide +kernel) rfl, cw_X10_four, im_X10_four, se_X10_four, in_X10, mk_X10_four⟩
theorem mv_X10_118 : MwV RX10 118 MX10_byteAt 1 := ⟨wt (i := 1411) (by decide +kernel) rfl, cw_X10_byteAt, im_X10_byteAt, se_X10_byteAt, in_X10, mk_X10_byteAt⟩
theorem mv_X10_157 : MwV RX10 157 MX10_keyWord 0 := ⟨wt (i := 1426) (by decide +kernel) rfl, cw_X10_keyWord, im_X10_keyWord, se_X10_keyWord, in_X10, mk_X10_keyWord⟩
theorem mv_X10_160 : MwV RX10 160 MX10_fails 1 := ⟨wt (i := 1483) (by decide +kernel) rfl, cw_X10_fails, im_X10_fails, se_X10_fails, in_X10, mk_X10_fails⟩
theorem mv_X10_163 : MwV RX10 163 MX10_ahead 0 := ⟨wt (i := 1407) (by decide +kernel) rfl, cw_X10_ahead, im_X10_ahead, se_X10_ahead, in_X10, mk_X10_ahead⟩
theorem mv_X10_166 : MwV RX10 166 MX10_isName 0 := ⟨wt (i := 1487) (by decide +kernel) rfl, cw_X10_isName, im_X10_isName, se_X10_isName, in_X10, mk_X10_isName⟩
theorem mv_X10_170 : MwV RX10 170 MX10_nameHere 0 := ⟨wt (i := 1491) (by decide +kernel) rfl, cw_X10_nameHere, im_X10_nameHere, se_X10_nameHere, in_X10, mk_X10_nameHere⟩
theorem mv_X10_178 : MwV RX10 178 MX10_wantWord 1 := ⟨wt (i := 1498) (by decide +kernel) rfl, cw_X10_wantWord, im_X10_wantWord, se_X10_wantWord, in_X10, mk_X10_wantWord⟩
theorem mv_X10_181 : MwV RX10 181 MX10_number 3 := ⟨wt (i := 1502) (by decide +kernel) rfl, cw_X10_number, im_X10_number, se_X10_number, in_X10, mk_X10_number⟩
theorem mv_X10_185 : MwV RX10 185 MX10_aStrip 0 := ⟨wt (i := 1479) (by decide +kernel) rfl, cw_X10_aStrip, im_X10_aStrip, se_X10_aStrip, in_X10, mk_X10_aStrip⟩
theorem mv_X10_188 : MwV RX10 188 MX10_aHarm 1 := ⟨wt (i := 1506) (by decide +kernel) rfl, cw_X10_aHarm, im_X10_aHarm, se_X10_aHarm, in_X10, mk_X10_aHarm⟩
theorem mv_X10_191 : MwV RX10 191 MX10_aFamily 0 := ⟨wt (i := 1510) (by decide +kernel) rfl, cw_X10_aFamily, im_X10_aFamily, se_X10_aFamily, in_X10, mk_X10_aFamily⟩
theorem mv_X10_194 : MwV RX10 194 MX10_refuse 1 := ⟨wt (i := 1403) (by decide +kernel) rfl, cw_X10_refuse, im_X10_refuse, se_X10_refuse, in_X10, mk_X10_refuse⟩
theorem mv_X10_197 : MwV RX10 197 MX10_part 0 := ⟨wt (i := 1422) (by decide +kernel) rfl, cw_X10_part, im_X10_part, se_X10_part, in_X10, mk_X10_part⟩
theorem mv_X10_200 : MwV RX10 200 MX10_copies 2 := ⟨wt (i := 1514) (by decide +kernel) rfl, cw_X10_copies, im_X10_copies, se_X10_copies, in_X10, mk_X10_copies⟩
theorem mv_X10_204 : MwV RX10 204 MX10_gives 1 := ⟨wt (i := 1518) (by decide +kernel) rfl, cw_X10_gives, im_X10_gives, se_X10_gives, in_X10, mk_X10_gives⟩
theorem mv_X10_207 : MwV RX10 207 MX10_ofHarm 2 := ⟨wt (i := 1550) (by decide +kernel) rfl, cw_X10_ofHarm, im_X10_ofHarm, se_X10_ofHarm, in_X10, mk_X10_ofHarm⟩
theorem mv_X10_210 : MwV RX10 210 MX10_ofStrip 2 := ⟨wt (i := 1538) (by decide +kernel) rfl, cw_X10_ofStrip, im_X10_ofStrip, se_X10_ofStrip, in_X10, mk_X10_ofStrip⟩
theorem mv_X10_213 : MwV RX10 213 MX10_isStrip 1 := ⟨wt (i := 1534) (by decide +kernel) rfl, cw_X10_isStrip, im_X10_isStrip, se_X10_isStrip, in_X10, mk_X10_isStrip⟩
theorem mv_X10_216 : MwV RX10 216 MX10_isHarm 1 := ⟨wt (i := 1546) (by decide +kernel) rfl, cw_X10_isHarm, im_X10_isHarm, se_X10_isHarm, in_X10, mk_X10_isHarm⟩
theorem mv_X10_219 : MwV RX10 219 MX10_falls 2 := ⟨wt (i := 1554) (by decide +kernel) rfl, cw_X10_falls, im_X10_falls, se_X10_falls, in_X10, mk_X10_falls⟩
theorem mv_X10_223 : MwV RX10 223 MX10_isFamily 1 := ⟨wt (i := 1562) (by decide +kernel) rfl, cw_X10_isFamily, im_X10_isFamily, se_X10_isFamily, in_X10, mk_X10_isFamily⟩
theorem mv_X10_226 : MwV RX10 226 MX10_ofFamily 2 := ⟨wt (i := 1566) (by decide +kernel) rfl, cw_X10_ofFamily, im_X10_ofFamily, se_X10_ofFamily, in_X10, mk_X10_ofFamily⟩
theorem mv_X10_229 : MwV RX10 229 MX10_held 1 := ⟨wt (i := 1570) (by decide +kernel) rfl, cw_X10_held, im_X10_held, se_X10_held, in_X10, mk_X10_held⟩
theorem mv_X10_248 : MwV RX10 248 MX10_leftOf 2 := ⟨wt (i := 1606) (by decide +kernel) rfl, cw_X10_leftOf, im_X10_leftOf, se_X10_leftOf, in_X10, mk_X10_leftOf⟩
theorem mv_X10_254 : MwV RX10 254 MX10_roundOf 2 := ⟨wt (i := 1618) (by decide +kernel) rfl, cw_X10_roundOf, im_X10_roundOf, se_X10_roundOf, in_X10, mk_X10_roundOf⟩
theorem mv_X10_257 : MwV RX10 257 MX10_goesRound 2 := ⟨wt (i := 1631) (by decide +kernel) rfl, cw_X10_goesRound, im_X10_goesRound, se_X10_goesRound, in_X10, mk_X10_goesRound⟩
theorem mv_X10_260 : MwV RX10 260 MX10_lots 0 := ⟨wt (i := 1648) (by decide +kernel) rfl, cw_X10_lots, im_X10_lots, se_X10_lots, in_X10, mk_X10_lots⟩
theorem mv_X10_263 : MwV RX10 263 MX10_weightOf 1 := ⟨wt (i := 1594) (by decide +kernel) rfl, cw_X10_weightOf, im_X10_weightOf, se_X10_weightOf, in_X10, mk_X10_weightOf⟩
theorem mv_X10_267 : MwV RX10 267 MX10_netOf 2 := ⟨wt (i := 1635) (by decide +kernel) rfl, cw_X10_netOf, im_X10_netOf, se_X10_netOf, in_X10, mk_X10_netOf⟩
theorem mv_X10_270 : MwV RX10 270 MX10_shortOf 2 := ⟨wt (i := 1673) (by decide +kernel) rfl, cw_X10_shortOf, im_X10_shortOf, se_X10_shortOf, in_X10, mk_X10_shortOf⟩
theorem mv_X10_273 : MwV RX10 273 MX10_isLot 1 := ⟨wt (i := 1590) (by decide +kernel) rfl, cw_X10_isLot, im_X10_isLot, se_X10_isLot, in_X10, mk_X10_isLot⟩
theorem mv_X10_277 : MwV RX10 277 MX10_givesLong 1 := ⟨wt (i := 1598) (by decide +kernel) rfl, cw_X10_givesLong, im_X10_givesLong, se_X10_givesLong, in_X10, mk_X10_givesLong⟩
theorem mv_X10_281 : MwV RX10 281 MX10_areStrips 1 := ⟨wt (i := 1614) (by decide +kernel) rfl, cw_X10_areStrips, im_X10_areStrips, se_X10_areStrips, in_X10, mk_X10_areStrips⟩
theorem mv_X10_284 : MwV RX10 284 MX10_atMost 3 := ⟨wt (i := 1644) (by decide +kernel) rfl, cw_X10_atMost, im_X10_atMost, se_X10_atMost, in_X10, mk_X10_atMost⟩
theorem mv_X10_288 : MwV RX10 288 MX10_allLots 0 := ⟨wt (i := 1652) (by decide +kernel) rfl, cw_X10_allLots, im_X10_allLots, se_X10_allLots, in_X10, mk_X10_allLots⟩
theorem mv_X10_291 : MwV RX10 291 MX10_tells 2 := ⟨wt (i := 1657) (by decide +kernel) rfl, cw_X10_tells, im_X10_tells, se_X10_tells, in_X10, mk_X10_tells⟩
theorem mv_X10_295 : MwV RX10 295 MX10_worthOf 2 := ⟨wt (i := 1669) (by decide +kernel) rfl, cw_X10_worthOf, im_X10_worthOf, se_X10_worthOf, in_X10, mk_X10_worthOf⟩
theorem mv_X10_299 : MwV RX10 299 MX10_mayHave 1 := ⟨wt (i := 1685) (by decide +kernel) rfl, cw_X10_mayHave, im_X10_mayHave, se_X10_mayHave, in_X10, mk_X10_mayHave⟩
theorem mv_X10_308 : MwV RX10 308 MX10_bestOf 2 := ⟨wt (i := 1681) (by decide +kernel) rfl, cw_X10_bestOf, im_X10_bestOf, se_X10_bestOf, in_X10, mk_X10_bestOf⟩
theorem mv_X10_311 : MwV RX10 311 MX10_grows 4 := ⟨wt (i := 1724) (by decide +kernel) rfl, cw_X10_grows, im_X10_grows, se_X10_grows, in_X10, mk_X10_grows⟩
theorem mv_X10_321 : MwV RX10 321 MX10_areTwo 2 := ⟨wt (i := 1716) (by decide +kernel) rfl, cw_X10_areTwo, im_X10_areTwo, se_X10_areTwo, in_X10, mk_X10_areTwo⟩
theorem mv_X10_324 : MwV RX10 324 MX10_swapsOf 3 := ⟨wt (i := 1720) (by decide +kernel) rfl, cw_X10_swapsOf, im_X10_swapsOf, se_X10_swapsOf, in_X10, mk_X10_swapsOf⟩
theorem mv_X10_328 : MwV RX10 328 MX10_settles 0 := ⟨wt (i := 1740) (by decide +kernel) rfl, cw_X10_settles, im_X10_settles, se_X10_settles, in_X10, mk_X10_settles⟩
theorem mv_X10_334 : MwV RX10 334 MX10_fills 1 := ⟨wt (i := 1748) (by decide +kernel) rfl, cw_X10_fills, im_X10_fills, se_X10_fills, in_X10, mk_X10_fills⟩
theorem mv_X10_337 : MwV RX10 337 MX10_hungers 1 := ⟨wt (i := 1752) (by decide +kernel) rfl, cw_X10_hungers, im_X10_hungers, se_X10_hungers, in_X10, mk_X10_hungers⟩
theorem mv_X10_343 : MwV RX10 343 MX10_laysRow 0 := ⟨wt (i := 1771) (by decide +kernel) rfl, cw_X10_laysRow, im_X10_laysRow, se_X10_laysRow, in_X10, mk_X10_laysRow⟩
theorem mv_X10_346 : MwV RX10 346 MX10_isBehind 2 := ⟨wt (i := 1775) (by decide +kernel) rfl, cw_X10_isBehind, im_X10_isBehind, se_X10_isBehind, in_X10, mk_X10_isBehind⟩
theorem mv_X10_349 : MwV RX10 349 MX10_deals 0 := ⟨wt (i := 1779) (by decide +kernel) rfl, cw_X10_deals, im_X10_deals, se_X10_deals, in_X10, mk_X10_deals⟩
theorem mv_X10_352 : MwV RX10 352 MX10_wrongYears 3 := ⟨wt (i := 1787) (by decide +kernel) rfl, cw_X10_wrongYears, im_X10_wrongYears, se_X10_wrongYears, in_X10, mk_X10_wrongYears⟩
theorem mv_X10_356 : MwV RX10 356 MX10_starvesIn 4 := ⟨wt (i := 1791) (by decide +kernel) rfl, cw_X10_starvesIn, im_X10_starvesIn, se_X10_starvesIn, in_X10, mk_X10_starvesIn⟩
theorem mv_X10_88 : MwV RX10 88 MX10_is 1 := ⟨wt (i := 1367) (by decide +kernel) rfl, cw_X10_is, im_X10_is, se_X10_is, in_X10, mk_X10_is⟩
theorem mv_X10_95 : MwV RX10 95 MX10_wrongPlace 2 := ⟨wt (i := 1375) (by decide +kernel) rfl, cw_X10_wrongPlace, im_X10_wrongPlace, se_X10_wrongPlace, in_X10, mk_X10_wrongPlace⟩
theorem mv_X1_41 : MwV RX1 41 MX8_openTo 1 := ⟨wt (i := 972) (by decide +kernel) rfl, cw_X8_openTo, im_X8_openTo, se_X8_openTo, in_X8, mk_X8_openTo⟩
theorem mv_X1_52 : MwV RX1 52 MX5_sumUp 2 := ⟨wt (i := 974) (by decide +kernel) rfl, cw_X5_sumUp, im_X5_sumUp, se_X5_sumUp, in_X5, mk_X5_sumUp⟩
theorem mv_X1_64 : MwV RX1 64 MX1_worthAt 2 := ⟨wt (i := 979) (by decide +kernel) rfl, cw_X1_worthAt, im_X1_worthAt, se_X1_worthAt, in_X1, mk_X1_worthAt⟩
theorem mv_X1_68 : MwV RX1 68 MX1_bestIndex 1 := ⟨wt (i := 1011) (by decide +kernel) rfl, cw_X1_bestIndex, im_X1_bestIndex, se_X1_bestIndex, in_X1, mk_X1_bestIndex⟩
theorem mv_X1_71 : MwV RX1 71 MX8_heldBy 1 := ⟨wt (i := 992) (by decide +kernel) rfl, cw_X8_heldBy, im_X8_heldBy, se_X8_heldBy, in_X8, mk_X8_heldBy⟩
theorem mv_X1_74 : MwV RX1 74 MX5_worthOf 2 := ⟨wt (i := 993) (by decide +kernel) rfl, cw_X5_worthOf, im_X5_worthOf, se_X5_worthOf, in_X5, mk_X5_worthOf⟩
theorem mv_X1_77 : MwV RX1 77 MX8_sets 0 := ⟨wt (i := 994) (by decide +kernel) rfl, cw_X8_sets, im_X8_sets, se_X8_sets, in_X8, mk_X8_sets⟩
theorem mv_X1_80 : MwV RX1 80 MX1_bestExchange 3 := ⟨wt (i := 995) (by decide +kernel) rfl, cw_X1_bestExchange, im_X1_bestExchange, se_X1_bestExchange, in_X1, mk_X1_bestExchange⟩
theorem mv_X2_30 : MwV RX2 30 MX2_fillRow 0 := ⟨wt (i := 1152) (by decide +kernel) rfl, cw_X2_fillRow, im_X2_fillRow, se_X2_fillRow, in_X2, mk_X2_fillRow⟩
theorem mv_X2_33 : MwV RX2 33 MX2_sortRow 0 := ⟨wt (i := 1156) (by decide +kernel) rfl, cw_X2_sortRow, im_X2_sortRow, se_X2_sortRow, in_X2, mk_X2_sortRow⟩
theorem mv_X2_41 : MwV RX2 41 MX8_heldBy 1 := ⟨wt (i := 1168) (by decide +kernel) rfl, cw_X8_heldBy, im_X8_heldBy, se_X8_heldBy, in_X8, mk_X8_heldBy⟩
theorem mv_X2_45 : MwV RX2 45 MX5_worthOf 2 := ⟨wt (i := 1169) (by decide +kernel) rfl, cw_X5_worthOf, im_X5_worthOf, se_X5_worthOf, in_X5, mk_X5_worthOf⟩
theorem mv_X2_51 : MwV RX2 51 MX2_dealtTo 1 := ⟨wt (i := 1170) (by decide +kernel) rfl, cw_X2_dealtTo, im_X2_dealtTo, se_X2_dealtTo, in_X2, mk_X2_dealtTo⟩
theorem mv_X2_54 : MwV RX2 54 MX5_hungryYears 4 := ⟨wt (i := 1202) (by decide +kernel) rfl, cw_X5_hungryYears, im_X5_hungryYears, se_X5_hungryYears, in_X5, mk_X5_hungryYears⟩
theorem mv_X2_58 : MwV RX2 58 MX2_shuffleRow 0 := ⟨wt (i := 1203) (by decide +kernel) rfl, cw_X2_shuffleRow, im_X2_shuffleRow, se_X2_shuffleRow, in_X2, mk_X2_shuffleRow⟩
theorem mv_X2_67 : MwV RX2 67 MX2_standsAhead 2 := ⟨wt (i := 1160) (by decide +kernel) rfl, cw_X2_standsAhead, im_X2_standsAhead, se_X2_standsAhead, in_X2, mk_X2_standsAhead⟩
theorem mv_X2_71 : MwV RX2 71 MX2_exchange 2 := ⟨wt (i := 1164) (by decide +kernel) rfl, cw_X2_exchange, im_X2_exchange, se_X2_exchange, in_X2, mk_X2_exchange⟩
theorem mv_X2_81 : MwV RX2 81 MX2_nextDraw 0 := ⟨wt (i := 1207) (by decide +kernel) rfl, cw_X2_nextDraw, im_X2_nextDraw, se_X2_nextDraw, in_X2, mk_X2_nextDraw⟩
theorem mv_X3_48 : MwV RX3 48 MX8_sets 0 := ⟨wt (i := 1102) (by decide +kernel) rfl, cw_X8_sets, im_X8_sets, se_X8_sets, in_X8, mk_X8_sets⟩
theorem mv_X3_52 : MwV RX3 52 MX3_fillHungry 2 := ⟨wt (i := 1103) (by decide +kernel) rfl, cw_X3_fillHungry, im_X3_fillHungry, se_X3_fillHungry, in_X3, mk_X3_fillHungry⟩
theorem mv_X3_56 : MwV RX3 56 MX3_startWays 0 := ⟨wt (i := 1110) (by decide +kernel) rfl, cw_X3_startWays, im_X3_startWays, se_X3_startWays, in_X3, mk_X3_startWays⟩
theorem mv_X3_61 : MwV RX3 61 MX3_weightOfWay 0 := ⟨wt (i := 1115) (by decide +kernel) rfl, cw_X3_weightOfWay, im_X3_weightOfWay, se_X3_weightOfWay, in_X3, mk_X3_weightOfWay⟩
theorem mv_X3_65 : MwV RX3 65 MX3_worstOfWay 0 := ⟨wt (i := 1119) (by decide +kernel) rfl, cw_X3_worstOfWay, im_X3_worstOfWay, se_X3_worstOfWay, in_X3, mk_X3_worstOfWay⟩
theorem mv_X3_74 : MwV RX3 74 MX3_turnToNextWay 0 := ⟨wt (i := 1124) (by decide +kernel) rfl, cw_X3_turnToNextWay, im_X3_turnToNextWay, se_X3_turnToNextWay, in_X3, mk_X3_turnToNextWay⟩
theorem mv_X3_78 : MwV RX3 78 MX5_fillNets 3 := ⟨wt (i := 1107) (by decide +kernel) rfl, cw_X5_fillNets, im_X5_fillNets, se_X5_fillNets, in_X5, mk_X5_fillNets⟩
theorem mv_X3_84 : MwV RX3 84 MX8_lots 0 := ⟨wt (i := 1108) (by decide +kernel) rfl, cw_X8_lots, im_X8_lots, se_X8_lots, in_X8, mk_X8_lots⟩
theorem mv_X3_96 : MwV RX3 96 MX5_weightAtMost 1 := ⟨wt (i := 1109) (by decide +kernel) rfl, cw_X5_weightAtMost, im_X5_weightAtMost, se_X5_weightAtMost, in_X5, mk_X5_weightAtMost⟩
theorem mv_X4_30 : MwV RX4 30 MX8_heldBy 1 := ⟨wt (i := 1055) (by decide +kernel) rfl, cw_X8_heldBy, im_X8_heldBy, se_X8_heldBy, in_X8, mk_X8_heldBy⟩
theorem mv_X4_36 : MwV RX4 36 MX5_worthOf 2 := ⟨wt (i := 1056) (by decide +kernel) rfl, cw_X5_worthOf, im_X5_worthOf, se_X5_worthOf, in_X5, mk_X5_worthOf⟩
theorem mv_X4_42 : MwV RX4 42 MX4_look 1 := ⟨wt (i := 1051) (by decide +kernel) rfl, cw_X4_look, im_X4_look, se_X4_look, in_X4, mk_X4_look⟩
theorem mv_X4_50 : MwV RX4 50 MX4_holds 2 := ⟨wt (i := 1057) (by decide +kernel) rfl, cw_X4_holds, im_X4_holds, se_X4_holds, in_X4, mk_X4_holds⟩
theorem mv_X4_54 : MwV RX4 54 MX4_gains 3 := ⟨wt (i := 1061) (by decide +kernel) rfl, cw_X4_gains, im_X4_gains, se_X4_gains, in_X4, mk_X4_gains⟩
theorem mv_X4_58 : MwV RX4 58 MX4_thirdOfRing 4 := ⟨wt (i := 1077) (by decide +kernel) rfl, cw_X4_thirdOfRing, im_X4_thirdOfRing, se_X4_thirdOfRing, in_X4, mk_X4_thirdOfRing⟩
theorem mv_X4_65 : MwV RX4 65 MX4_countSwaps 3 := ⟨wt (i := 1089) (by decide +kernel) rfl, cw_X4_countSwaps, im_X4_countSwaps, se_X4_countSwaps, in_X4, mk_X4_countSwaps⟩
theorem mv_X5_111 : MwV RX5 111 MX8_sets 0 := ⟨wt (i := 882) (by decide +kernel) rfl, cw_X8_sets, im_X8_sets, se_X8_sets, in_X8, mk_X8_sets⟩
theorem mv_X5_115 : MwV RX5 115 MX5_stepsFromHome 2 := ⟨wt (i := 888) (by decide +kernel) rfl, cw_X5_stepsFromHome, im_X5_stepsFromHome, se_X5_stepsFromHome, in_X5, mk_X5_stepsFromHome⟩
theorem mv_X5_118 : MwV RX5 118 MX5_shortestWay 2 := ⟨wt (i := 892) (by decide +kernel) rfl, cw_X5_shortestWay, im_X5_shortestWay, se_X5_shortestWay, in_X5, mk_X5_shortestWay⟩
theorem mv_X5_133 : MwV RX5 133 MX5_roundOf 2 := ⟨wt (i := 909) (by decide +kernel) rfl, cw_X5_roundOf, im_X5_roundOf, se_X5_roundOf, in_X5, mk_X5_roundOf⟩
theorem mv_X5_139 : MwV RX5 139 MX5_fillNets 3 := ⟨wt (i := 948) (by decide +kernel) rfl, cw_X5_fillNets, im_X5_fillNets, se_X5_fillNets, in_X5, mk_X5_fillNets⟩
theorem mv_X5_146 : MwV RX5 146 MX5_sumUp 2 := ⟨wt (i := 944) (by decide +kernel) rfl, cw_X5_sumUp, im_X5_sumUp, se_X5_sumUp, in_X5, mk_X5_sumUp⟩
theorem mv_X5_152 : MwV RX5 152 MX8_heldBy 1 := ⟨wt (i := 1140) (by decide +kernel) rfl, cw_X8_heldBy, im_X8_heldBy, se_X8_heldBy, in_X8, mk_X8_heldBy⟩
theorem mv_X5_155 : MwV RX5 155 MX5_weightAtMost 1 := ⟨wt (i := 1141) (by decide +kernel) rfl, cw_X5_weightAtMost, im_X5_weightAtMost, se_X5_weightAtMost, in_X5, mk_X5_weightAtMost⟩
theorem mv_X5_161 : MwV RX5 161 MX5_wholeWeight 0 := ⟨wt (i := 1143) (by decide +kernel) rfl, cw_X5_wholeWeight, im_X5_wholeWeight, se_X5_wholeWeight, in_X5, mk_X5_wholeWeight⟩
theorem mv_X5_165 : MwV RX5 165 MX8_hasLot 1 := ⟨wt (i := 1189) (by decide +kernel) rfl, cw_X8_hasLot, im_X8_hasLot, se_X8_hasLot, in_X8, mk_X8_hasLot⟩
theorem mv_X5_46 : MwV RX5 46 MX5_weigh 2 := ⟨wt (i := 860) (by decide +kernel) rfl, cw_X5_weigh, im_X5_weigh, se_X5_weigh, in_X5, mk_X5_weigh⟩
theorem mv_X5_50 : MwV RX5 50 MX5_fillKept 0 := ⟨wt (i := 866) (by decide +kernel) rfl, cw_X5_fillKept, im_X5_fillKept, se_X5_fillKept, in_X5, mk_X5_fillKept⟩
theorem mv_X5_53 : MwV RX5 53 MX5_fillApart 0 := ⟨wt (i := 871) (by decide +kernel) rfl, cw_X5_fillApart, im_X5_fillApart, se_X5_fillApart, in_X5, mk_X5_fillApart⟩
theorem mv_X5_56 : MwV RX5 56 MX5_makeRoom 0 := ⟨wt (i := 878) (by decide +kernel) rfl, cw_X5_makeRoom, im_X5_makeRoom, se_X5_makeRoom, in_X5, mk_X5_makeRoom⟩
theorem mv_X5_65 : MwV RX5 65 MX5_fillRounds 1 := ⟨wt (i := 883) (by decide +kernel) rfl, cw_X5_fillRounds, im_X5_fillRounds, se_X5_fillRounds, in_X5, mk_X5_fillRounds⟩
theorem mv_X5_69 : MwV RX5 69 MX8_lots 0 := ⟨wt (i := 864) (by decide +kernel) rfl, cw_X8_lots, im_X8_lots, se_X8_lots, in_X8, mk_X8_lots⟩
theorem mv_X5_73 : MwV RX5 73 MX5_weightOf 3 := ⟨wt (i := 865) (by decide +kernel) rfl, cw_X5_weightOf, im_X5_weightOf, se_X5_weightOf, in_X5, mk_X5_weightOf⟩
theorem mv_X5_98 : MwV RX5 98 MX5_eighthsKept 2 := ⟨wt (i := 870) (by decide +kernel) rfl, cw_X5_eighthsKept, im_X5_eighthsKept, se_X5_eighthsKept, in_X5, mk_X5_eighthsKept⟩
theorem mv_X6_100 : MwV RX6 100 MX8_stripsFallenOn 3 := ⟨wt (i := 739) (by decide +kernel) rfl, cw_X8_stripsFallenOn, im_X8_stripsFallenOn, se_X8_stripsFallenOn, in_X8, mk_X8_stripsFallenOn⟩
theorem mv_X6_107 : MwV RX6 107 MX6_stop 1 := ⟨wt (i := 680) (by decide +kernel) rfl, cw_X6_stop, im_X6_stop, se_X6_stop, in_X6, mk_X6_stop⟩
theorem mv_X6_111 : MwV RX6 111 MX6_readNewName 2 := ⟨wt (i := 684) (by decide +kernel) rfl, cw_X6_readNewName, im_X6_readNewName, se_X6_readNewName, in_X6, mk_X6_readNewName⟩
theorem mv_X6_117 : MwV RX6 117 MX6_expectWord 1 := ⟨wt (i := 699) (by decide +kernel) rfl, cw_X6_expectWord, im_X6_expectWord, se_X6_expectWord, in_X6, mk_X6_expectWord⟩
theorem mv_X6_124 : MwV RX6 124 MX6_readNumber 2 := ⟨wt (i := 703) (by decide +kernel) rfl, cw_X6_readNumber, im_X6_readNumber, se_X6_readNumber, in_X6, mk_X6_readNumber⟩
theorem mv_X6_140 : MwV RX6 140 MX6_expectSign 0 := ⟨wt (i := 709) (by decide +kernel) rfl, cw_X6_expectSign, im_X6_expectSign, se_X6_expectSign, in_X6, mk_X6_expectSign⟩
theorem mv_X6_146 : MwV RX6 146 MX6_kindOfHarm 0 := ⟨wt (i := 728) (by decide +kernel) rfl, cw_X6_kindOfHarm, im_X6_kindOfHarm, se_X6_kindOfHarm, in_X6, mk_X6_kindOfHarm⟩
theorem mv_X6_189 : MwV RX6 189 MX6_readHeld 1 := ⟨wt (i := 720) (by decide +kernel) rfl, cw_X6_readHeld, im_X6_readHeld, se_X6_readHeld, in_X6, mk_X6_readHeld⟩
theorem mv_X6_192 : MwV RX6 192 MX6_seesName 0 := ⟨wt (i := 688) (by decide +kernel) rfl, cw_X6_seesName, im_X6_seesName, se_X6_seesName, in_X6, mk_X6_seesName⟩
theorem mv_X6_196 : MwV RX6 196 MX6_indexOfWord 2 := ⟨wt (i := 694) (by decide +kernel) rfl, cw_X6_indexOfWord, im_X6_indexOfWord, se_X6_indexOfWord, in_X6, mk_X6_indexOfWord⟩
theorem mv_X6_207 : MwV RX6 207 MX6_scanWord 0 := ⟨wt (i := 660) (by decide +kernel) rfl, cw_X6_scanWord, im_X6_scanWord, se_X6_scanWord, in_X6, mk_X6_scanWord⟩
theorem mv_X6_213 : MwV RX6 213 MX6_scanNumber 0 := ⟨wt (i := 667) (by decide +kernel) rfl, cw_X6_scanNumber, im_X6_scanNumber, se_X6_scanNumber, in_X6, mk_X6_scanNumber⟩
theorem mv_X6_71 : MwV RX6 71 MX8_empty 0 := ⟨wt (i := 649) (by decide +kernel) rfl, cw_X8_empty, im_X8_empty, se_X8_empty, in_X8, mk_X8_empty⟩
theorem mv_X6_74 : MwV RX6 74 MX6_step 0 := ⟨wt (i := 653) (by decide +kernel) rfl, cw_X6_step, im_X6_step, se_X6_step, in_X6, mk_X6_step⟩
theorem mv_X6_79 : MwV RX6 79 MX6_sees 1 := ⟨wt (i := 672) (by decide +kernel) rfl, cw_X6_sees, im_X6_sees, se_X6_sees, in_X6, mk_X6_sees⟩
theorem mv_X6_83 : MwV RX6 83 MX6_readStrip 0 := ⟨wt (i := 676) (by decide +kernel) rfl, cw_X6_readStrip, im_X6_readStrip, se_X6_readStrip, in_X6, mk_X6_readStrip⟩
theorem mv_X6_88 : MwV RX6 88 MX6_readFamily 0 := ⟨wt (i := 714) (by decide +kernel) rfl, cw_X6_readFamily, im_X6_readFamily, se_X6_readFamily, in_X6, mk_X6_readFamily⟩
theorem mv_X6_91 : MwV RX6 91 MX6_readHarm 0 := ⟨wt (i := 724) (by decide +kernel) rfl, cw_X6_readHarm, im_X6_readHarm, se_X6_readHarm, in_X6, mk_X6_readHarm⟩
theorem mv_X8_64 : MwV RX8 64 MX8_takePlaces 1 := ⟨wt (i := 1220) (by decide +kernel) rfl, cw_X8_takePlaces, im_X8_takePlaces, se_X8_takePlaces, in_X8, mk_X8_takePlaces⟩
theorem mv_X8_84 : MwV RX8 84 MX8_hasFamily 1 := ⟨wt (i := 808) (by decide +kernel) rfl, cw_X8_hasFamily, im_X8_hasFamily, se_X8_hasFamily, in_X8, mk_X8_hasFamily⟩
theorem mv_X8_88 : MwV RX8 88 MX8_lots 0 := ⟨wt (i := 825) (by decide +kernel) rfl, cw_X8_lots, im_X8_lots, se_X8_lots, in_X8, mk_X8_lots⟩
theorem mv_X8_92 : MwV RX8 92 MX8_sets 0 := ⟨wt (i := 852) (by decide +kernel) rfl, cw_X8_sets, im_X8_sets, se_X8_sets, in_X8, mk_X8_sets⟩
theorem mv_X8_95 : MwV RX8 95 MX8_heldBy 1 := ⟨wt (i := 961) (by decide +kernel) rfl, cw_X8_heldBy, im_X8_heldBy, se_X8_heldBy, in_X8, mk_X8_heldBy⟩
theorem mv_X8_99 : MwV RX8 99 MX8_fallsOn 4 := ⟨wt (i := 743) (by decide +kernel) rfl, cw_X8_fallsOn, im_X8_fallsOn, se_X8_fallsOn, in_X8, mk_X8_fallsOn⟩
theorem mv_X9_111 : MwV RX9 111 MX9_refuse 1 := ⟨wt (i := 576) (by decide +kernel) rfl, cw_X9_refuse, im_X9_refuse, se_X9_refuse, in_X9, mk_X9_refuse⟩
theorem mv_X9_114 : MwV RX9 114 MX7_lay 3 := ⟨wt (i := 580) (by decide +kernel) rfl, cw_X7_lay, im_X7_lay, se_X7_lay, in_X7, mk_X7_lay⟩
theorem mv_X9_118 : MwV RX9 118 MX9_agree 0 := ⟨wt (i := 584) (by decide +kernel) rfl, cw_X9_agree, im_X9_agree, se_X9_agree, in_X9, mk_X9_agree⟩
theorem mv_X9_122 : MwV RX9 122 MX9_whyNoPlace 2 := ⟨wt (i := 592) (by decide +kernel) rfl, cw_X9_whyNoPlace, im_X9_whyNoPlace, se_X9_whyNoPlace, in_X9, mk_X9_whyNoPlace⟩
theorem mv_X9_126 : MwV RX9 126 MX7_put 3 := ⟨wt (i := 600) (by decide +kernel) rfl, cw_X7_put, im_X7_put, se_X7_put, in_X7, mk_X7_put⟩
theorem mv_X9_130 : MwV RX9 130 MX9_none 1 := ⟨wt (i := 611) (by decide +kernel) rfl, cw_X9_none, im_X9_none, se_X9_none, in_X9, mk_X9_none⟩
theorem mv_X9_138 : MwV RX9 138 MX7_isMissing 1 := ⟨wt (i := 596) (by decide +kernel) rfl, cw_X7_isMissing, im_X7_isMissing, se_X7_isMissing, in_X7, mk_X7_isMissing⟩
theorem mv_X9_145 : MwV RX9 145 MX7_reaches 3 := ⟨wt (i := 619) (by decide +kernel) rfl, cw_X7_reaches, im_X7_reaches, se_X7_reaches, in_X7, mk_X7_reaches⟩
theorem mv_X9_148 : MwV RX9 148 MX7_move 5 := ⟨wt (i := 623) (by decide +kernel) rfl, cw_X7_move, im_X7_move, se_X7_move, in_X7, mk_X7_move⟩
theorem mv_X9_155 : MwV RX9 155 MX6_append 1 := ⟨wt (i := 634) (by decide +kernel) rfl, cw_X6_append, im_X6_append, se_X6_append, in_X6, mk_X6_append⟩
theorem mv_X9_159 : MwV RX9 159 MX6_parse 1 := ⟨wt (i := 642) (by decide +kernel) rfl, cw_X6_parse, im_X6_parse, se_X6_parse, in_X6, mk_X6_parse⟩
theorem mv_X9_171 : MwV RX9 171 MX8_takePlaces 1 := ⟨wt (i := 747) (by decide +kernel) rfl, cw_X8_takePlaces, im_X8_takePlaces, se_X8_takePlaces, in_X8, mk_X8_takePlaces⟩
theorem mv_X9_174 : MwV RX9 174 MX5_forget 0 := ⟨wt (i := 756) (by decide +kernel) rfl, cw_X5_forget, im_X5_forget, se_X5_forget, in_X5, mk_X5_forget⟩
theorem mv_X9_180 : MwV RX9 180 MX9_answer 1 := ⟨wt (i := 760) (by decide +kernel) rfl, cw_X9_answer, im_X9_answer, se_X9_answer, in_X9, mk_X9_answer⟩
theorem mv_X9_189 : MwV RX9 189 MX8_hasStrip 1 := ⟨wt (i := 776) (by decide +kernel) rfl, cw_X8_hasStrip, im_X8_hasStrip, se_X8_hasStrip, in_X8, mk_X8_hasStrip⟩
theorem mv_X9_207 : MwV RX9 207 MX8_hasHarm 1 := ⟨wt (i := 784) (by decide +kernel) rfl, cw_X8_hasHarm, im_X8_hasHarm, se_X8_hasHarm, in_X8, mk_X8_hasHarm⟩
theorem mv_X9_222 : MwV RX9 222 MX8_hasFamily 1 := ⟨wt (i := 792) (by decide +kernel) rfl, cw_X8_hasFamily, im_X8_hasFamily, se_X8_hasFamily, in_X8, mk_X8_hasFamily⟩
theorem mv_X9_234 : MwV RX9 234 MX8_heldBy 1 := ⟨wt (i := 796) (by decide +kernel) rfl, cw_X8_heldBy, im_X8_heldBy, se_X8_heldBy, in_X8, mk_X8_heldBy⟩
theorem mv_X9_237 : MwV RX9 237 MX8_hasFamilyOrNone 1 := ⟨wt (i := 804) (by decide +kernel) rfl, cw_X8_hasFamilyOrNone, im_X8_hasFamilyOrNone, se_X8_hasFamilyOrNone, in_X8, mk_X8_hasFamilyOrNone⟩
theorem mv_X9_246 : MwV RX9 246 MX8_hasLot 1 := ⟨wt (i := 821) (by decide +kernel) rfl, cw_X8_hasLot, im_X8_hasLot, se_X8_hasLot, in_X8, mk_X8_hasLot⟩
theorem mv_X9_249 : MwV RX9 249 MX5_weightOf 3 := ⟨wt (i := 829) (by decide +kernel) rfl, cw_X5_weightOf, im_X5_weightOf, se_X5_weightOf, in_X5, mk_X5_weightOf⟩
theorem mv_X9_253 : MwV RX9 253 MX5_eighthsKept 2 := ⟨wt (i := 837) (by decide +kernel) rfl, cw_X5_eighthsKept, im_X5_eighthsKept, se_X5_eighthsKept, in_X5, mk_X5_eighthsKept⟩
theorem mv_X9_256 : MwV RX9 256 MX8_hasHolding 2 := ⟨wt (i := 848) (by decide +kernel) rfl, cw_X8_hasHolding, im_X8_hasHolding, se_X8_hasHolding, in_X8, mk_X8_hasHolding⟩
theorem mv_X9_260 : MwV RX9 260 MX5_ready 0 := ⟨wt (i := 856) (by decide +kernel) rfl, cw_X5_ready, im_X5_ready, se_X5_ready, in_X5, mk_X5_ready⟩
theorem mv_X9_263 : MwV RX9 263 MX5_roundOf 2 := ⟨wt (i := 897) (by decide +kernel) rfl, cw_X5_roundOf, im_X5_roundOf, se_X5_roundOf, in_X5, mk_X5_roundOf⟩
theorem mv_X9_266 : MwV RX9 266 MX5_fillNets 3 := ⟨wt (i := 905) (by decide +kernel) rfl, cw_X5_fillNets, im_X5_fillNets, se_X5_fillNets, in_X5, mk_X5_fillNets⟩
theorem mv_X9_272 : MwV RX9 272 MX5_weightAtMost 1 := ⟨wt (i := 914) (by decide +kernel) rfl, cw_X5_weightAtMost, im_X5_weightAtMost, se_X5_weightAtMost, in_X5, mk_X5_weightAtMost⟩
theorem mv_X9_276 : MwV RX9 276 MX5_wholeWeight 0 := ⟨wt (i := 918) (by decide +kernel) rfl, cw_X5_wholeWeight, im_X5_wholeWeight, se_X5_wholeWeight, in_X5, mk_X5_wholeWeight⟩
theorem mv_X9_280 : MwV RX9 280 MX9_tell 2 := ⟨wt (i := 922) (by decide +kernel) rfl, cw_X9_tell, im_X9_tell, se_X9_tell, in_X9, mk_X9_tell⟩
theorem mv_X9_284 : MwV RX9 284 MX5_worthOf 2 := ⟨wt (i := 940) (by decide +kernel) rfl, cw_X5_worthOf, im_X5_worthOf, se_X5_worthOf, in_X5, mk_X5_worthOf⟩
theorem mv_X9_288 : MwV RX9 288 MX9_whyNoBest 2 := ⟨wt (i := 953) (by decide +kernel) rfl, cw_X9_whyNoBest, im_X9_whyNoBest, se_X9_whyNoBest, in_X9, mk_X9_whyNoBest⟩
theorem mv_X9_291 : MwV RX9 291 MX1_listSets 2 := ⟨wt (i := 968) (by decide +kernel) rfl, cw_X1_listSets, im_X1_listSets, se_X1_listSets, in_X1, mk_X1_listSets⟩
theorem mv_X9_295 : MwV RX9 295 MX1_bestIndex 1 := ⟨wt (i := 975) (by decide +kernel) rfl, cw_X1_bestIndex, im_X1_bestIndex, se_X1_bestIndex, in_X1, mk_X1_bestIndex⟩
theorem mv_X9_298 : MwV RX9 298 MX1_worthAt 2 := ⟨wt (i := 983) (by decide +kernel) rfl, cw_X1_worthAt, im_X1_worthAt, se_X1_worthAt, in_X1, mk_X1_worthAt⟩
theorem mv_X9_304 : MwV RX9 304 MX1_climbFrom 1 := ⟨wt (i := 988) (by decide +kernel) rfl, cw_X1_climbFrom, im_X1_climbFrom, se_X1_climbFrom, in_X1, mk_X1_climbFrom⟩
theorem mv_X9_310 : MwV RX9 310 MX1_leastOtherHunger 0 := ⟨wt (i := 1007) (by decide +kernel) rfl, cw_X1_leastOtherHunger, im_X1_leastOtherHunger, se_X1_leastOtherHunger, in_X1, mk_X1_leastOtherHunger⟩
theorem mv_X9_314 : MwV RX9 314 MX5_weigh 2 := ⟨wt (i := 1016) (by decide +kernel) rfl, cw_X5_weigh, im_X5_weigh, se_X5_weigh, in_X5, mk_X5_weigh⟩
theorem mv_X9_317 : MwV RX9 317 MX0_fillOwn 4 := ⟨wt (i := 1021) (by decide +kernel) rfl, cw_X0_fillOwn, im_X0_fillOwn, se_X0_fillOwn, in_X0, mk_X0_fillOwn⟩
theorem mv_X9_321 : MwV RX9 321 MX0_fillGifts 1 := ⟨wt (i := 1029) (by decide +kernel) rfl, cw_X0_fillGifts, im_X0_fillGifts, se_X0_fillGifts, in_X0, mk_X0_fillGifts⟩
theorem mv_X9_324 : MwV RX9 324 MX0_hungryWeight 2 := ⟨wt (i := 1033) (by decide +kernel) rfl, cw_X0_hungryWeight, im_X0_hungryWeight, se_X0_hungryWeight, in_X0, mk_X0_hungryWeight⟩
theorem mv_X9_327 : MwV RX9 327 MX9_isCouple 2 := ⟨wt (i := 1042) (by decide +kernel) rfl, cw_X9_isCouple, im_X9_isCouple, se_X9_isCouple, in_X9, mk_X9_isCouple⟩
theorem mv_X9_331 : MwV RX9 331 MX4_countSwaps 3 := ⟨wt (i := 1047) (by decide +kernel) rfl, cw_X4_countSwaps, im_X4_countSwaps, se_X4_countSwaps, in_X4, mk_X4_countSwaps⟩
theorem mv_X9_338 : MwV RX9 338 MX4_findRing 3 := ⟨wt (i := 1073) (by decide +kernel) rfl, cw_X4_findRing, im_X4_findRing, se_X4_findRing, in_X4, mk_X4_findRing⟩
theorem mv_X9_341 : MwV RX9 341 MX4_swapFirst 0 := ⟨wt (i := 1085) (by decide +kernel) rfl, cw_X4_swapFirst, im_X4_swapFirst, se_X4_swapFirst, in_X4, mk_X4_swapFirst⟩
theorem mv_X9_344 : MwV RX9 344 MX3_isSmallEnough 0 := ⟨wt (i := 1094) (by decide +kernel) rfl, cw_X3_isSmallEnough, im_X3_isSmallEnough, se_X3_isSmallEnough, in_X3, mk_X3_isSmallEnough⟩
theorem mv_X9_347 : MwV RX9 347 MX3_findLeast 1 := ⟨wt (i := 1098) (by decide +kernel) rfl, cw_X3_findLeast, im_X3_findLeast, se_X3_findLeast, in_X3, mk_X3_findLeast⟩
theorem mv_X9_356 : MwV RX9 356 MX5_halvingsUntilHungry 2 := ⟨wt (i := 1136) (by decide +kernel) rfl, cw_X5_halvingsUntilHungry, im_X5_halvingsUntilHungry, se_X5_halvingsUntilHungry, in_X5, mk_X5_halvingsUntilHungry⟩
theorem mv_X9_359 : MwV RX9 359 MX2_losersByPlace 0 := ⟨wt (i := 1148) (by decide +kernel) rfl, cw_X2_losersByPlace, im_X2_losersByPlace, se_X2_losersByPlace, in_X2, mk_X2_losersByPlace⟩
theorem mv_X9_362 : MwV RX9 362 MX9_whyNoYears 3 := ⟨wt (i := 1180) (by decide +kernel) rfl, cw_X9_whyNoYears, im_X9_whyNoYears, se_X9_whyNoYears, in_X9, mk_X9_whyNoYears⟩
theorem mv_X9_365 : MwV RX9 365 MX5_hungryYears 4 := ⟨wt (i := 1185) (by decide +kernel) rfl, cw_X5_hungryYears, im_X5_hungryYears, se_X5_hungryYears, in_X5, mk_X5_hungryYears⟩
theorem mv_X9_369 : MwV RX9 369 MX2_startDraws 1 := ⟨wt (i := 1194) (by decide +kernel) rfl, cw_X2_startDraws, im_X2_startDraws, se_X2_startDraws, in_X2, mk_X2_startDraws⟩
theorem mv_X9_372 : MwV RX9 372 MX2_luckierDeals 4 := ⟨wt (i := 1198) (by decide +kernel) rfl, cw_X2_luckierDeals, im_X2_luckierDeals, se_X2_luckierDeals, in_X2, mk_X2_luckierDeals⟩
theorem mv_X9_376 : MwV RX9 376 MX8_takeAll 1 := ⟨wt (i := 1216) (by decide +kernel) rfl, cw_X8_takeAll, im_X8_takeAll, se_X8_takeAll, in_X8, mk_X8_takeAll⟩
theorem mv_X9_392 : MwV RX9 392 MX8_openTo 1 := ⟨wt (i := 957) (by decide +kernel) rfl, cw_X8_openTo, im_X8_openTo, se_X8_openTo, in_X8, mk_X8_openTo⟩
theorem mv_X9_400 : MwV RX9 400 MX8_lots 0 := ⟨wt (i := 1184) (by decide +kernel) rfl, cw_X8_lots, im_X8_lots, se_X8_lots, in_X8, mk_X8_lots⟩
theorem nn_X6_200 : Cond.fieldLink RX6 200 "HailHill$Scribe" "NO_NAMES" "[J" ∈ gT := wt (i := 692) (by decide +kernel) rfl
theorem ma_X0_45 : MtW RX0 45 Lib.Math.max.name Lib.Math.max.code 2 (some .int) := ⟨wt (i := 1028) (by decide +kernel) rfl, wt (i := 842) (by decide +kernel) rfl, wt (i := 114) (by decide +kernel) rfl, wt (i := 843) (by decide +kernel) rfl⟩
theorem ma_X0_54 : MtW RX0 54 Lib.Math.min.name Lib.Math.min.code 2 (some .int) := ⟨wt (i := 1037) (by decide +kernel) rfl, wt (i := 647) (by decide +kernel) rfl, wt (i := 114) (by decide +kernel) rfl, wt (i := 648) (by decide +kernel) rfl⟩
theorem ma_X10_137 : MtW RX10 137 Lib.Math.min.name Lib.Math.min.code 2 (some .int) := ⟨wt (i := 1421) (by decide +kernel) rfl, wt (i := 647) (by decide +kernel) rfl, wt (i := 114) (by decide +kernel) rfl, wt (i := 648) (by decide +kernel) rfl⟩
theorem ma_X10_237 : MtW RX10 237 Lib.Math.abs.name Lib.Math.abs.code 1 (some .int) := ⟨wt (i := 1626) (by decide +kernel) rfl, wt (i := 876) (by decide +kernel) rfl, wt (i := 114) (by decide +kernel) rfl, wt (i := 877) (by decide +kernel) rfl⟩
theorem ma_X10_251 : MtW RX10 251 Lib.Math.max.name Lib.Math.max.code 2 (some .int) := ⟨wt (i := 1639) (by decide +kernel) rfl, wt (i := 842) (by decide +kernel) rfl, wt (i := 114) (by decide +kernel) rfl, wt (i := 843) (by decide +kernel) rfl⟩
theorem ma_X10_331 : MtW RX10 331 Lib.MathLoose.max_long.x Lib.MathLoose.max_long.code 4 (some .long) := ⟨wt (i := 1756) (by decide +kernel) rfl, wt (i := 1757) (by decide +kernel) rfl, wt (i := 114) (by decide +kernel) rfl, wt (i := 1758) (by decide +kernel) rfl⟩
theorem ma_X2_91 : MtW RX2 91 Lib.Math.min.name Lib.Math.min.code 2 (some .int) := ⟨wt (i := 1175) (by decide +kernel) rfl, wt (i := 647) (by decide +kernel) rfl, wt (i := 114) (by decide +kernel) rfl, wt (i := 648) (by decide +kernel) rfl⟩
theorem ma_X5_104 : MtW RX5 104 Lib.Math.abs.name Lib.Math.abs.code 1 (some .int) := ⟨wt (i := 875) (by decide +kernel) rfl, wt (i := 876) (by decide +kernel) rfl, wt (i := 114) (by decide +kernel) rfl, wt (i := 877) (by decide +kernel) rfl⟩
theorem ma_X5_121 : MtW RX5 121 Lib.Math.min.name Lib.Math.min.code 2 (some .int) := ⟨wt (i := 896) (by decide +kernel) rfl, wt (i := 647) (by decide +kernel) rfl, wt (i := 114) (by decide +kernel) rfl, wt (i := 648) (by decide +kernel) rfl⟩
theorem ma_X5_89 : MtW RX5 89 Lib.Math.max.name Lib.Math.max.code 2 (some .int) := ⟨wt (i := 841) (by decide +kernel) rfl, wt (i := 842) (by decide +kernel) rfl, wt (i := 114) (by decide +kernel) rfl, wt (i := 843) (by decide +kernel) rfl⟩
theorem ma_X6_65 : MtW RX6 65 Lib.Math.min.name Lib.Math.min.code 2 (some .int) := ⟨wt (i := 646) (by decide +kernel) rfl, wt (i := 647) (by decide +kernel) rfl, wt (i := 114) (by decide +kernel) rfl, wt (i := 648) (by decide +kernel) rfl⟩
theorem ma_X8_72 : MtW RX8 72 Lib.Math.min.name Lib.Math.min.code 2 (some .int) := ⟨wt (i := 754) (by decide +kernel) rfl, wt (i := 647) (by decide +kernel) rfl, wt (i := 114) (by decide +kernel) rfl, wt (i := 648) (by decide +kernel) rfl⟩
theorem ma_X9_379 : MtW RX9 379 Lib.MathLoose.abs_long.x Lib.MathLoose.abs_long.code 2 (some .long) := ⟨wt (i := 926) (by decide +kernel) rfl, wt (i := 927) (by decide +kernel) rfl, wt (i := 114) (by decide +kernel) rfl, wt (i := 928) (by decide +kernel) rfl⟩
