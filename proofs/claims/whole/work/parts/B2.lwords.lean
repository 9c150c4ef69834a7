/-! ===== words of the law ===== -/
set_option maxRecDepth 60000 in
theorem cw_X9_status : Cond.code MX9_status.1 MX9_status.2.1 MX9_status.2.2.1 MX9_status.2.2.2.1 ∈ gT := wt (i := 557) rfl rfl
theorem mk_X9_status : mok MX9_status 0 := ⟨by decide, by decide, by decide +kernel⟩
theorem im_X9_status : Cond.instanceMethod MX9_status.1 ∈ gT := wt (i := 555) (by decide +kernel) rfl
theorem se_X9_status : Cond.selects MX9_status.1.cls MX9_status.1 MX9_status.1 ∈ gT := wt (i := 556) (by decide +kernel) rfl
theorem mv_L_13 : MwV RL 13 MX9_status 0 := ⟨wt (i := 554) (by decide +kernel) rfl, cw_X9_status, im_X9_status, se_X9_status, in_X9, mk_X9_status⟩
set_option maxRecDepth 60000 in
theorem cw_X10_status : Cond.code MX10_status.1 MX10_status.2.1 MX10_status.2.2.1 MX10_status.2.2.2.1 ∈ gT := wt (i := 1351) rfl rfl
theorem mk_X10_status : mok MX10_status 0 := ⟨by decide, by decide, by decide +kernel⟩
theorem im_X10_status : Cond.instanceMethod MX10_status.1 ∈ gT := wt (i := 1349) (by decide +kernel) rfl
theorem se_X10_status : Cond.selects MX10_status.1.cls MX10_status.1 MX10_status.1 ∈ gT := wt (i := 1350) (by decide +kernel) rfl
theorem mv_L_17 : MwV RL 17 MX10_status 0 := ⟨wt (i := 1348) (by decide +kernel) rfl, cw_X10_status, im_X10_status, se_X10_status, in_X10, mk_X10_status⟩
set_option maxRecDepth 60000 in
theorem cw_X9_top : Cond.code MX9_top.1 MX9_top.2.1 MX9_top.2.2.1 MX9_top.2.2.2.1 ∈ gT := wt (i := 561) rfl rfl
theorem mk_X9_top : mok MX9_top 0 := ⟨by decide, by decide, by decide +kernel⟩
theorem im_X9_top : Cond.instanceMethod MX9_top.1 ∈ gT := wt (i := 559) (by decide +kernel) rfl
theorem se_X9_top : Cond.selects MX9_top.1.cls MX9_top.1 MX9_top.1 ∈ gT := wt (i := 560) (by decide +kernel) rfl
theorem mv_L_18 : MwV RL 18 MX9_top 0 := ⟨wt (i := 558) (by decide +kernel) rfl, cw_X9_top, im_X9_top, se_X9_top, in_X9, mk_X9_top⟩
set_option maxRecDepth 60000 in
theorem cw_X10_top : Cond.code MX10_top.1 MX10_top.2.1 MX10_top.2.2.1 MX10_top.2.2.2.1 ∈ gT := wt (i := 1355) rfl rfl
theorem mk_X10_top : mok MX10_top 0 := ⟨by decide, by decide, by decide +kernel⟩
theorem im_X10_top : Cond.instanceMethod MX10_top.1 ∈ gT := wt (i := 1353) (by decide +kernel) rfl
theorem se_X10_top : Cond.selects MX10_top.1.cls MX10_top.1 MX10_top.1 ∈ gT := wt (i := 1354) (by decide +kernel) rfl
theorem mv_L_22 : MwV RL 22 MX10_top 0 := ⟨wt (i := 1352) (by decide +kernel) rfl, cw_X10_top, im_X10_top, se_X10_top, in_X10, mk_X10_top⟩
set_option maxRecDepth 60000 in
theorem cw_X9_bottom : Cond.code MX9_bottom.1 MX9_bottom.2.1 MX9_bottom.2.2.1 MX9_bottom.2.2.2.1 ∈ gT := wt (i := 565) rfl rfl
theorem mk_X9_bottom : mok MX9_bottom 0 := ⟨by decide, by decide, by decide +kernel⟩
theorem im_X9_bottom : Cond.instanceMethod MX9_bottom.1 ∈ gT := wt (i := 563) (by decide +kernel) rfl
theorem se_X9_bottom : Cond.selects MX9_bottom.1.cls MX9_bottom.1 MX9_bottom.1 ∈ gT := wt (i := 564) (by decide +kernel) rfl
theorem mv_L_23 : MwV RL 23 MX9_bottom 0 := ⟨wt (i := 562) (by decide +kernel) rfl, cw_X9_bottom, im_X9_bottom, se_X9_bottom, in_X9, mk_X9_bottom⟩
set_option maxRecDepth 60000 in
theorem cw_X10_bottom : Cond.code MX10_bottom.1 MX10_bottom.2.1 MX10_bottom.2.2.1 MX10_bottom.2.2.2.1 ∈ gT := wt (i := 1359) rfl rfl
theorem mk_X10_bottom : mok MX10_bottom 0 := ⟨by decide, by decide, by decide +kernel⟩
theorem im_X10_bottom : Cond.instanceMethod MX10_bottom.1 ∈ gT := wt (i := 1357) (by decide +kernel) rfl
theorem se_X10_bottom : Cond.selects MX10_bottom.1.cls MX10_bottom.1 MX10_bottom.1 ∈ gT := wt (i := 1358) (by decide +kernel) rfl
theorem mv_L_26 : MwV RL 26 MX10_bottom 0 := ⟨wt (i := 1356) (by decide +kernel) rfl, cw_X10_bottom, im_X10_bottom, se_X10_bottom, in_X10, mk_X10_bottom⟩
set_option maxRecDepth 60000 in
theorem cw_X9_tray : Cond.code MX9_tray.1 MX9_tray.2.1 MX9_tray.2.2.1 MX9_tray.2.2.2.1 ∈ gT := wt (i := 569) rfl rfl
theorem mk_X9_tray : mok MX9_tray 3 := ⟨by decide, by decide, by decide +kernel⟩
theorem im_X9_tray : Cond.instanceMethod MX9_tray.1 ∈ gT := wt (i := 567) (by decide +kernel) rfl
theorem se_X9_tray : Cond.selects MX9_tray.1.cls MX9_tray.1 MX9_tray.1 ∈ gT := wt (i := 568) (by decide +kernel) rfl
theorem mv_L_27 : MwV RL 27 MX9_tray 3 := ⟨wt (i := 566) (by decide +kernel) rfl, cw_X9_tray, im_X9_tray, se_X9_tray, in_X9, mk_X9_tray⟩
set_option maxRecDepth 60000 in
theorem cw_X10_tray : Cond.code MX10_tray.1 MX10_tray.2.1 MX10_tray.2.2.1 MX10_tray.2.2.2.1 ∈ gT := wt (i := 1363) rfl rfl
theorem mk_X10_tray : mok MX10_tray 3 := ⟨by decide, by decide, by decide +kernel⟩
theorem im_X10_tray : Cond.instanceMethod MX10_tray.1 ∈ gT := wt (i := 1361) (by decide +kernel) rfl
theorem se_X10_tray : Cond.selects MX10_tray.1.cls MX10_tray.1 MX10_tray.1 ∈ gT := wt (i := 1362) (by decide +kernel) rfl
theorem mv_L_31 : MwV RL 31 MX10_tray 3 := ⟨wt (i := 1360) (by decide +kernel) rfl, cw_X10_tray, im_X10_tray, se_X10_tray, in_X10, mk_X10_tray⟩
theorem k_L_32 : Cond.constantLong RL 32 (Int64.ofInt 4294967295) ∈ gT := wt (i := 1808) (by decide +kernel) rfl
set_option maxRecDepth 60000 in
theorem cw_X9_write : Cond.code MX9_write.1 MX9_write.2.1 MX9_write.2.2.1 MX9_write.2.2.2.1 ∈ gT := wt (i := 591) rfl rfl
theorem mk_X9_write : mok MX9_write 3 := ⟨by decide, by decide, by decide +kernel⟩
theorem im_X9_write : Cond.instanceMethod MX9_write.1 ∈ gT := wt (i := 589) (by decide +kernel) rfl
theorem se_X9_write : Cond.selects MX9_write.1.cls MX9_write.1 MX9_write.1 ∈ gT := wt (i := 590) (by decide +kernel) rfl
theorem mv_L_34 : MwV RL 34 MX9_write 3 := ⟨wt (i := 588) (by decide +kernel) rfl, cw_X9_write, im_X9_write, se_X9_write, in_X9, mk_X9_write⟩
set_option maxRecDepth 60000 in
theorem cw_X10_write : Cond.code MX10_write.1 MX10_write.2.1 MX10_write.2.2.1 MX10_write.2.2.2.1 ∈ gT := wt (i := 1374) rfl rfl
theorem mk_X10_write : mok MX10_write 3 := ⟨by decide, by decide, by decide +kernel⟩
theorem im_X10_write : Cond.instanceMethod MX10_write.1 ∈ gT := wt (i := 1372) (by decide +kernel) rfl
theorem se_X10_write : Cond.selects MX10_write.1.cls MX10_write.1 MX10_write.1 ∈ gT := wt (i := 1373) (by decide +kernel) rfl
theorem mv_L_38 : MwV RL 38 MX10_write 3 := ⟨wt (i := 1371) (by decide +kernel) rfl, cw_X10_write, im_X10_write, se_X10_write, in_X10, mk_X10_write⟩
set_option maxRecDepth 60000 in
theorem cw_X9_read : Cond.code MX9_read.1 MX9_read.2.1 MX9_read.2.2.1 MX9_read.2.2.2.1 ∈ gT := wt (i := 610) rfl rfl
theorem mk_X9_read : mok MX9_read 2 := ⟨by decide, by decide, by decide +kernel⟩
theorem im_X9_read : Cond.instanceMethod MX9_read.1 ∈ gT := wt (i := 608) (by decide +kernel) rfl
theorem se_X9_read : Cond.selects MX9_read.1.cls MX9_read.1 MX9_read.1 ∈ gT := wt (i := 609) (by decide +kernel) rfl
theorem mv_L_39 : MwV RL 39 MX9_read 2 := ⟨wt (i := 607) (by decide +kernel) rfl, cw_X9_read, im_X9_read, se_X9_read, in_X9, mk_X9_read⟩
set_option maxRecDepth 60000 in
theorem cw_X10_read : Cond.code MX10_read.1 MX10_read.2.1 MX10_read.2.2.1 MX10_read.2.2.2.1 ∈ gT := wt (i := 1385) rfl rfl
theorem mk_X10_read : mok MX10_read 2 := ⟨by decide, by decide, by decide +kernel⟩
theorem im_X10_read : Cond.instanceMethod MX10_read.1 ∈ gT := wt (i := 1383) (by decide +kernel) rfl
theorem se_X10_read : Cond.selects MX10_read.1.cls MX10_read.1 MX10_read.1 ∈ gT := wt (i := 1384) (by decide +kernel) rfl
theorem mv_L_43 : MwV RL 43 MX10_read 2 := ⟨wt (i := 1382) (by decide +kernel) rfl, cw_X10_read, im_X10_read, se_X10_read, in_X10, mk_X10_read⟩
set_option maxRecDepth 60000 in
theorem cw_X9_pour : Cond.code MX9_pour.1 MX9_pour.2.1 MX9_pour.2.2.1 MX9_pour.2.2.2.1 ∈ gT := wt (i := 618) rfl rfl
theorem mk_X9_pour : mok MX9_pour 5 := ⟨by decide, by decide, by decide +kernel⟩
theorem im_X9_pour : Cond.instanceMethod MX9_pour.1 ∈ gT := wt (i := 616) (by decide +kernel) rfl
theorem se_X9_pour : Cond.selects MX9_pour.1.cls MX9_pour.1 MX9_pour.1 ∈ gT := wt (i := 617) (by decide +kernel) rfl
theorem mv_L_44 : MwV RL 44 MX9_pour 5 := ⟨wt (i := 615) (by decide +kernel) rfl, cw_X9_pour, im_X9_pour, se_X9_pour, in_X9, mk_X9_pour⟩
set_option maxRecDepth 60000 in
theorem cw_X10_pour : Cond.code MX10_pour.1 MX10_pour.2.1 MX10_pour.2.2.1 MX10_pour.2.2.2.1 ∈ gT := wt (i := 1390) rfl rfl
theorem mk_X10_pour : mok MX10_pour 5 := ⟨by decide, by decide, by decide +kernel⟩
theorem im_X10_pour : Cond.instanceMethod MX10_pour.1 ∈ gT := wt (i := 1388) (by decide +kernel) rfl
theorem se_X10_pour : Cond.selects MX10_pour.1.cls MX10_pour.1 MX10_pour.1 ∈ gT := wt (i := 1389) (by decide +kernel) rfl
theorem mv_L_48 : MwV RL 48 MX10_pour 5 := ⟨wt (i := 1387) (by decide +kernel) rfl, cw_X10_pour, im_X10_pour, se_X10_pour, in_X10, mk_X10_pour⟩
set_option maxRecDepth 60000 in
theorem cw_X9_feed : Cond.code MX9_feed.1 MX9_feed.2.1 MX9_feed.2.2.1 MX9_feed.2.2.2.1 ∈ gT := wt (i := 633) rfl rfl
theorem mk_X9_feed : mok MX9_feed 5 := ⟨by decide, by decide, by decide +kernel⟩
theorem im_X9_feed : Cond.instanceMethod MX9_feed.1 ∈ gT := wt (i := 631) (by decide +kernel) rfl
theorem se_X9_feed : Cond.selects MX9_feed.1.cls MX9_feed.1 MX9_feed.1 ∈ gT := wt (i := 632) (by decide +kernel) rfl
theorem mv_L_49 : MwV RL 49 MX9_feed 5 := ⟨wt (i := 630) (by decide +kernel) rfl, cw_X9_feed, im_X9_feed, se_X9_feed, in_X9, mk_X9_feed⟩
set_option maxRecDepth 60000 in
theorem cw_X10_feed : Cond.code MX10_feed.1 MX10_feed.2.1 MX10_feed.2.2.1 MX10_feed.2.2.2.1 ∈ gT := wt (i := 1394) rfl rfl
theorem mk_X10_feed : mok MX10_feed 5 := ⟨by decide, by decide, by decide +kernel⟩
theorem im_X10_feed : Cond.instanceMethod MX10_feed.1 ∈ gT := wt (i := 1392) (by decide +kernel) rfl
theorem se_X10_feed : Cond.selects MX10_feed.1.cls MX10_feed.1 MX10_feed.1 ∈ gT := wt (i := 1393) (by decide +kernel) rfl
theorem mv_L_53 : MwV RL 53 MX10_feed 5 := ⟨wt (i := 1391) (by decide +kernel) rfl, cw_X10_feed, im_X10_feed, se_X10_feed, in_X10, mk_X10_feed⟩
set_option maxRecDepth 60000 in
theorem cw_X9_village : Cond.code MX9_village.1 MX9_village.2.1 MX9_village.2.2.1 MX9_village.2.2.2.1 ∈ gT := wt (i := 641) rfl rfl
theorem mk_X9_village : mok MX9_village 1 := ⟨by decide, by decide, by decide +kernel⟩
theorem im_X9_village : Cond.instanceMethod MX9_village.1 ∈ gT := wt (i := 639) (by decide +kernel) rfl
theorem se_X9_village : Cond.selects MX9_village.1.cls MX9_village.1 MX9_village.1 ∈ gT := wt (i := 640) (by decide +kernel) rfl
theorem mv_L_54 : MwV RL 54 MX9_village 1 := ⟨wt (i := 638) (by decide +kernel) rfl, cw_X9_village, im_X9_village, se_X9_village, in_X9, mk_X9_village⟩
set_option maxRecDepth 60000 in
theorem cw_X10_village : Cond.code MX10_village.1 MX10_village.2.1 MX10_village.2.2.1 MX10_village.2.2.2.1 ∈ gT := wt (i := 1402) rfl rfl
theorem mk_X10_village : mok MX10_village 1 := ⟨by decide, by decide, by decide +kernel⟩
theorem im_X10_village : Cond.instanceMethod MX10_village.1 ∈ gT := wt (i := 1400) (by decide +kernel) rfl
theorem se_X10_village : Cond.selects MX10_village.1.cls MX10_village.1 MX10_village.1 ∈ gT := wt (i := 1401) (by decide +kernel) rfl
theorem mv_L_58 : MwV RL 58 MX10_village 1 := ⟨wt (i := 1399) (by decide +kernel) rfl, cw_X10_village, im_X10_village, se_X10_village, in_X10, mk_X10_village⟩
set_option maxRecDepth 60000 in
theorem cw_X9_fault : Cond.code MX9_fault.1 MX9_fault.2.1 MX9_fault.2.2.1 MX9_fault.2.2.2.1 ∈ gT := wt (i := 767) rfl rfl
theorem mk_X9_fault : mok MX9_fault 1 := ⟨by decide, by decide, by decide +kernel⟩
theorem im_X9_fault : Cond.instanceMethod MX9_fault.1 ∈ gT := wt (i := 765) (by decide +kernel) rfl
theorem se_X9_fault : Cond.selects MX9_fault.1.cls MX9_fault.1 MX9_fault.1 ∈ gT := wt (i := 766) (by decide +kernel) rfl
theorem mv_L_59 : MwV RL 59 MX9_fault 1 := ⟨wt (i := 764) (by decide +kernel) rfl, cw_X9_fault, im_X9_fault, se_X9_fault, in_X9, mk_X9_fault⟩
set_option maxRecDepth 60000 in
theorem cw_X10_fault : Cond.code MX10_fault.1 MX10_fault.2.1 MX10_fault.2.2.1 MX10_fault.2.2.2.1 ∈ gT := wt (i := 1525) rfl rfl
theorem mk_X10_fault : mok MX10_fault 1 := ⟨by decide, by decide, by decide +kernel⟩
theorem im_X10_fault : Cond.instanceMethod MX10_fault.1 ∈ gT := wt (i := 1523) (by decide +kernel) rfl
theorem se_X10_fault : Cond.selects MX10_fault.1.cls MX10_fault.1 MX10_fault.1 ∈ gT := wt (i := 1524) (by decide +kernel) rfl
theorem mv_L_62 : MwV RL 62 MX10_fault 1 := ⟨wt (i := 1522) (by decide +kernel) rfl, cw_X10_fault, im_X10_fault, se_X10_fault, in_X10, mk_X10_fault⟩
set_option maxRecDepth 60000 in
theorem cw_X9_many : Cond.code MX9_many.1 MX9_many.2.1 MX9_many.2.2.1 MX9_many.2.2.2.1 ∈ gT := wt (i := 771) rfl rfl
theorem mk_X9_many : mok MX9_many 1 := ⟨by decide, by decide, by decide +kernel⟩
theorem im_X9_many : Cond.instanceMethod MX9_many.1 ∈ gT := wt (i := 769) (by decide +kernel) rfl
theorem se_X9_many : Cond.selects MX9_many.1.cls MX9_many.1 MX9_many.1 ∈ gT := wt (i := 770) (by decide +kernel) rfl
theorem mv_L_63 : MwV RL 63 MX9_many 1 := ⟨wt (i := 768) (by decide +kernel) rfl, cw_X9_many, im_X9_many, se_X9_many, in_X9, mk_X9_many⟩
set_option maxRecDepth 60000 in
theorem cw_X10_many : Cond.code MX10_many.1 MX10_many.2.1 MX10_many.2.2.1 MX10_many.2.2.2.1 ∈ gT := wt (i := 1529) rfl rfl
theorem mk_X10_many : mok MX10_many 1 := ⟨by decide, by decide, by decide +kernel⟩
theorem im_X10_many : Cond.instanceMethod MX10_many.1 ∈ gT := wt (i := 1527) (by decide +kernel) rfl
theorem se_X10_many : Cond.selects MX10_many.1.cls MX10_many.1 MX10_many.1 ∈ gT := wt (i := 1528) (by decide +kernel) rfl
theorem mv_L_66 : MwV RL 66 MX10_many 1 := ⟨wt (i := 1526) (by decide +kernel) rfl, cw_X10_many, im_X10_many, se_X10_many, in_X10, mk_X10_many⟩
set_option maxRecDepth 60000 in
theorem cw_X9_strip : Cond.code MX9_strip.1 MX9_strip.2.1 MX9_strip.2.2.1 MX9_strip.2.2.2.1 ∈ gT := wt (i := 775) rfl rfl
theorem mk_X9_strip : mok MX9_strip 2 := ⟨by decide, by decide, by decide +kernel⟩
theorem im_X9_strip : Cond.instanceMethod MX9_strip.1 ∈ gT := wt (i := 773) (by decide +kernel) rfl
theorem se_X9_strip : Cond.selects MX9_strip.1.cls MX9_strip.1 MX9_strip.1 ∈ gT := wt (i := 774) (by decide +kernel) rfl
theorem mv_L_67 : MwV RL 67 MX9_strip 2 := ⟨wt (i := 772) (by decide +kernel) rfl, cw_X9_strip, im_X9_strip, se_X9_strip, in_X9, mk_X9_strip⟩
set_option maxRecDepth 60000 in
theorem cw_X10_strip : Cond.code MX10_strip.1 MX10_strip.2.1 MX10_strip.2.2.1 MX10_strip.2.2.2.1 ∈ gT := wt (i := 1533) rfl rfl
theorem mk_X10_strip : mok MX10_strip 2 := ⟨by decide, by decide, by decide +kernel⟩
theorem im_X10_strip : Cond.instanceMethod MX10_strip.1 ∈ gT := wt (i := 1531) (by decide +kernel) rfl
theorem se_X10_strip : Cond.selects MX10_strip.1.cls MX10_strip.1 MX10_strip.1 ∈ gT := wt (i := 1532) (by decide +kernel) rfl
theorem mv_L_71 : MwV RL 71 MX10_strip 2 := ⟨wt (i := 1530) (by decide +kernel) rfl, cw_X10_strip, im_X10_strip, se_X10_strip, in_X10, mk_X10_strip⟩
set_option maxRecDepth 60000 in
theorem cw_X9_harm : Cond.code MX9_harm.1 MX9_harm.2.1 MX9_harm.2.2.1 MX9_harm.2.2.2.1 ∈ gT := wt (i := 783) rfl rfl
theorem mk_X9_harm : mok MX9_harm 2 := ⟨by decide, by decide, by decide +kernel⟩
theorem im_X9_harm : Cond.instanceMethod MX9_harm.1 ∈ gT := wt (i := 781) (by decide +kernel) rfl
theorem se_X9_harm : Cond.selects MX9_harm.1.cls MX9_harm.1 MX9_harm.1 ∈ gT := wt (i := 782) (by decide +kernel) rfl
theorem mv_L_72 : MwV RL 72 MX9_harm 2 := ⟨wt (i := 780) (by decide +kernel) rfl, cw_X9_harm, im_X9_harm, se_X9_harm, in_X9, mk_X9_harm⟩
set_option maxRecDepth 60000 in
theorem cw_X10_harm : Cond.code MX10_harm.1 MX10_harm.2.1 MX10_harm.2.2.1 MX10_harm.2.2.2.1 ∈ gT := wt (i := 1545) rfl rfl
theorem mk_X10_harm : mok MX10_harm 2 := ⟨by decide, by decide, by decide +kernel⟩
theorem im_X10_harm : Cond.instanceMethod MX10_harm.1 ∈ gT := wt (i := 1543) (by decide +kernel) rfl
theorem se_X10_harm : Cond.selects MX10_harm.1.cls MX10_harm.1 MX10_harm.1 ∈ gT := wt (i := 1544) (by decide +kernel) rfl
theorem mv_L_75 : MwV RL 75 MX10_harm 2 := ⟨wt (i := 1542) (by decide +kernel) rfl, cw_X10_harm, im_X10_harm, se_X10_harm, in_X10, mk_X10_harm⟩
set_option maxRecDepth 60000 in
theorem cw_X9_family : Cond.code MX9_family.1 MX9_family.2.1 MX9_family.2.2.1 MX9_family.2.2.2.1 ∈ gT := wt (i := 791) rfl rfl
theorem mk_X9_family : mok MX9_family 2 := ⟨by decide, by decide, by decide +kernel⟩
theorem im_X9_family : Cond.instanceMethod MX9_family.1 ∈ gT := wt (i := 789) (by decide +kernel) rfl
theorem se_X9_family : Cond.selects MX9_family.1.cls MX9_family.1 MX9_family.1 ∈ gT := wt (i := 790) (by decide +kernel) rfl
theorem mv_L_76 : MwV RL 76 MX9_family 2 := ⟨wt (i := 788) (by decide +kernel) rfl, cw_X9_family, im_X9_family, se_X9_family, in_X9, mk_X9_family⟩
set_option maxRecDepth 60000 in
theorem cw_X10_family : Cond.code MX10_family.1 MX10_family.2.1 MX10_family.2.2.1 MX10_family.2.2.2.1 ∈ gT := wt (i := 1561) rfl rfl
theorem mk_X10_family : mok MX10_family 2 := ⟨by decide, by decide, by decide +kernel⟩
theorem im_X10_family : Cond.instanceMethod MX10_family.1 ∈ gT := wt (i := 1559) (by decide +kernel) rfl
theorem se_X10_family : Cond.selects MX10_family.1.cls MX10_family.1 MX10_family.1 ∈ gT := wt (i := 1560) (by decide +kernel) rfl
theorem mv_L_79 : MwV RL 79 MX10_family 2 := ⟨wt (i := 1558) (by decide +kernel) rfl, cw_X10_family, im_X10_family, se_X10_family, in_X10, mk_X10_family⟩
set_option maxRecDepth 60000 in
theorem cw_X9_hold : Cond.code MX9_hold.1 MX9_hold.2.1 MX9_hold.2.2.1 MX9_hold.2.2.2.1 ∈ gT := wt (i := 803) rfl rfl
theorem mk_X9_hold : mok MX9_hold 2 := ⟨by decide, by decide, by decide +kernel⟩
theorem im_X9_hold : Cond.instanceMethod MX9_hold.1 ∈ gT := wt (i := 801) (by decide +kernel) rfl
theorem se_X9_hold : Cond.selects MX9_hold.1.cls MX9_hold.1 MX9_hold.1 ∈ gT := wt (i := 802) (by decide +kernel) rfl
theorem mv_L_80 : MwV RL 80 MX9_hold 2 := ⟨wt (i := 800) (by decide +kernel) rfl, cw_X9_hold, im_X9_hold, se_X9_hold, in_X9, mk_X9_hold⟩
set_option maxRecDepth 60000 in
theorem cw_X10_hold : Cond.code MX10_hold.1 MX10_hold.2.1 MX10_hold.2.2.1 MX10_hold.2.2.2.1 ∈ gT := wt (i := 1577) rfl rfl
theorem mk_X10_hold : mok MX10_hold 2 := ⟨by decide, by decide, by decide +kernel⟩
theorem im_X10_hold : Cond.instanceMethod MX10_hold.1 ∈ gT := wt (i := 1575) (by decide +kernel) rfl
theorem se_X10_hold : Cond.selects MX10_hold.1.cls MX10_hold.1 MX10_hold.1 ∈ gT := wt (i := 1576) (by decide +kernel) rfl
theorem mv_L_84 : MwV RL 84 MX10_hold 2 := ⟨wt (i := 1574) (by decide +kernel) rfl, cw_X10_hold, im_X10_hold, se_X10_hold, in_X10, mk_X10_hold⟩
set_option maxRecDepth 60000 in
theorem cw_X9_let : Cond.code MX9_let.1 MX9_let.2.1 MX9_let.2.2.1 MX9_let.2.2.2.1 ∈ gT := wt (i := 812) rfl rfl
theorem mk_X9_let : mok MX9_let 2 := ⟨by decide, by decide, by decide +kernel⟩
theorem im_X9_let : Cond.instanceMethod MX9_let.1 ∈ gT := wt (i := 810) (by decide +kernel) rfl
theorem se_X9_let : Cond.selects MX9_let.1.cls MX9_let.1 MX9_let.1 ∈ gT := wt (i := 811) (by decide +kernel) rfl
theorem mv_L_85 : MwV RL 85 MX9_let 2 := ⟨wt (i := 809) (by decide +kernel) rfl, cw_X9_let, im_X9_let, se_X9_let, in_X9, mk_X9_let⟩
set_option maxRecDepth 60000 in
theorem cw_X10_let : Cond.code MX10_let.1 MX10_let.2.1 MX10_let.2.2.1 MX10_let.2.2.2.1 ∈ gT := wt (i := 1581) rfl rfl
theorem mk_X10_let : mok MX10_let 2 := ⟨by decide, by decide, by decide +kernel⟩
theorem im_X10_let : Cond.instanceMethod MX10_let.1 ∈ gT := wt (i := 1579) (by decide +kernel) rfl
theorem se_X10_let : Cond.selects MX10_let.1.cls MX10_let.1 MX10_let.1 ∈ gT := wt (i := 1580) (by decide +kernel) rfl
theorem mv_L_88 : MwV RL 88 MX10_let 2 := ⟨wt (i := 1578) (by decide +kernel) rfl, cw_X10_let, im_X10_let, se_X10_let, in_X10, mk_X10_let⟩
set_option maxRecDepth 60000 in
theorem cw_X9_likely : Cond.code MX9_likely.1 MX9_likely.2.1 MX9_likely.2.2.1 MX9_likely.2.2.2.1 ∈ gT := wt (i := 816) rfl rfl
theorem mk_X9_likely : mok MX9_likely 2 := ⟨by decide, by decide, by decide +kernel⟩
theorem im_X9_likely : Cond.instanceMethod MX9_likely.1 ∈ gT := wt (i := 814) (by decide +kernel) rfl
theorem se_X9_likely : Cond.selects MX9_likely.1.cls MX9_likely.1 MX9_likely.1 ∈ gT := wt (i := 815) (by decide +kernel) rfl
theorem mv_L_89 : MwV RL 89 MX9_likely 2 := ⟨wt (i := 813) (by decide +kernel) rfl, cw_X9_likely, im_X9_likely, se_X9_likely, in_X9, mk_X9_likely⟩
set_option maxRecDepth 60000 in
theorem cw_X10_likely : Cond.code MX10_likely.1 MX10_likely.2.1 MX10_likely.2.2.1 MX10_likely.2.2.2.1 ∈ gT := wt (i := 1585) rfl rfl
theorem mk_X10_likely : mok MX10_likely 2 := ⟨by decide, by decide, by decide +kernel⟩
theorem im_X10_likely : Cond.instanceMethod MX10_likely.1 ∈ gT := wt (i := 1583) (by decide +kernel) rfl
theorem se_X10_likely : Cond.selects MX10_likely.1.cls MX10_likely.1 MX10_likely.1 ∈ gT := wt (i := 1584) (by decide +kernel) rfl
theorem mv_L_92 : MwV RL 92 MX10_likely 2 := ⟨wt (i := 1582) (by decide +kernel) rfl, cw_X10_likely, im_X10_likely, se_X10_likely, in_X10, mk_X10_likely⟩
set_option maxRecDepth 60000 in
theorem cw_X9_weight : Cond.code MX9_weight.1 MX9_weight.2.1 MX9_weight.2.2.1 MX9_weight.2.2.2.1 ∈ gT := wt (i := 820) rfl rfl
theorem mk_X9_weight : mok MX9_weight 1 := ⟨by decide, by decide, by decide +kernel⟩
theorem im_X9_weight : Cond.instanceMethod MX9_weight.1 ∈ gT := wt (i := 818) (by decide +kernel) rfl
theorem se_X9_weight : Cond.selects MX9_weight.1.cls MX9_weight.1 MX9_weight.1 ∈ gT := wt (i := 819) (by decide +kernel) rfl
theorem mv_L_93 : MwV RL 93 MX9_weight 1 := ⟨wt (i := 817) (by decide +kernel) rfl, cw_X9_weight, im_X9_weight, se_X9_weight, in_X9, mk_X9_weight⟩
set_option maxRecDepth 60000 in
theorem cw_X10_weight : Cond.code MX10_weight.1 MX10_weight.2.1 MX10_weight.2.2.1 MX10_weight.2.2.2.1 ∈ gT := wt (i := 1589) rfl rfl
theorem mk_X10_weight : mok MX10_weight 1 := ⟨by decide, by decide, by decide +kernel⟩
theorem im_X10_weight : Cond.instanceMethod MX10_weight.1 ∈ gT := wt (i := 1587) (by decide +kernel) rfl
theorem se_X10_weight : Cond.selects MX10_weight.1.cls MX10_weight.1 MX10_weight.1 ∈ gT := wt (i := 1588) (by decide +kernel) rfl
theorem mv_L_97 : MwV RL 97 MX10_weight 1 := ⟨wt (i := 1586) (by decide +kernel) rfl, cw_X10_weight, im_X10_weight, se_X10_weight, in_X10, mk_X10_weight⟩
set_option maxRecDepth 60000 in
theorem cw_X9_left : Cond.code MX9_left.1 MX9_left.2.1 MX9_left.2.2.1 MX9_left.2.2.2.1 ∈ gT := wt (i := 836) rfl rfl
theorem mk_X9_left : mok MX9_left 2 := ⟨by decide, by decide, by decide +kernel⟩
theorem im_X9_left : Cond.instanceMethod MX9_left.1 ∈ gT := wt (i := 834) (by decide +kernel) rfl
theorem se_X9_left : Cond.selects MX9_left.1.cls MX9_left.1 MX9_left.1 ∈ gT := wt (i := 835) (by decide +kernel) rfl
theorem mv_L_98 : MwV RL 98 MX9_left 2 := ⟨wt (i := 833) (by decide +kernel) rfl, cw_X9_left, im_X9_left, se_X9_left, in_X9, mk_X9_left⟩
set_option maxRecDepth 60000 in
theorem cw_X10_left : Cond.code MX10_left.1 MX10_left.2.1 MX10_left.2.2.1 MX10_left.2.2.2.1 ∈ gT := wt (i := 1605) rfl rfl
theorem mk_X10_left : mok MX10_left 2 := ⟨by decide, by decide, by decide +kernel⟩
theorem im_X10_left : Cond.instanceMethod MX10_left.1 ∈ gT := wt (i := 1603) (by decide +kernel) rfl
theorem se_X10_left : Cond.selects MX10_left.1.cls MX10_left.1 MX10_left.1 ∈ gT := wt (i := 1604) (by decide +kernel) rfl
theorem mv_L_101 : MwV RL 101 MX10_left 2 := ⟨wt (i := 1602) (by decide +kernel) rfl, cw_X10_left, im_X10_left, se_X10_left, in_X10, mk_X10_left⟩
set_option maxRecDepth 60000 in
theorem cw_X9_round : Cond.code MX9_round.1 MX9_round.2.1 MX9_round.2.2.1 MX9_round.2.2.2.1 ∈ gT := wt (i := 847) rfl rfl
theorem mk_X9_round : mok MX9_round 2 := ⟨by decide, by decide, by decide +kernel⟩
theorem im_X9_round : Cond.instanceMethod MX9_round.1 ∈ gT := wt (i := 845) (by decide +kernel) rfl
theorem se_X9_round : Cond.selects MX9_round.1.cls MX9_round.1 MX9_round.1 ∈ gT := wt (i := 846) (by decide +kernel) rfl
theorem mv_L_102 : MwV RL 102 MX9_round 2 := ⟨wt (i := 844) (by decide +kernel) rfl, cw_X9_round, im_X9_round, se_X9_round, in_X9, mk_X9_round⟩
set_option maxRecDepth 60000 in
theorem cw_X10_round : Cond.code MX10_round.1 MX10_round.2.1 MX10_round.2.2.1 MX10_round.2.2.2.1 ∈ gT := wt (i := 1613) rfl rfl
theorem mk_X10_round : mok MX10_round 2 := ⟨by decide, by decide, by decide +kernel⟩
theorem im_X10_round : Cond.instanceMethod MX10_round.1 ∈ gT := wt (i := 1611) (by decide +kernel) rfl
theorem se_X10_round : Cond.selects MX10_round.1.cls MX10_round.1 MX10_round.1 ∈ gT := wt (i := 1612) (by decide +kernel) rfl
theorem mv_L_105 : MwV RL 105 MX10_round 2 := ⟨wt (i := 1610) (by decide +kernel) rfl, cw_X10_round, im_X10_round, se_X10_round, in_X10, mk_X10_round⟩
set_option maxRecDepth 60000 in
theorem cw_X9_net : Cond.code MX9_net.1 MX9_net.2.1 MX9_net.2.2.1 MX9_net.2.2.2.1 ∈ gT := wt (i := 904) rfl rfl
theorem mk_X9_net : mok MX9_net 3 := ⟨by decide, by decide, by decide +kernel⟩
theorem im_X9_net : Cond.instanceMethod MX9_net.1 ∈ gT := wt (i := 902) (by decide +kernel) rfl
theorem se_X9_net : Cond.selects MX9_net.1.cls MX9_net.1 MX9_net.1 ∈ gT := wt (i := 903) (by decide +kernel) rfl
theorem mv_L_106 : MwV RL 106 MX9_net 3 := ⟨wt (i := 901) (by decide +kernel) rfl, cw_X9_net, im_X9_net, se_X9_net, in_X9, mk_X9_net⟩
set_option maxRecDepth 60000 in
theorem cw_X10_net : Cond.code MX10_net.1 MX10_net.2.1 MX10_net.2.2.1 MX10_net.2.2.2.1 ∈ gT := wt (i := 1630) rfl rfl
theorem mk_X10_net : mok MX10_net 3 := ⟨by decide, by decide, by decide +kernel⟩
theorem im_X10_net : Cond.instanceMethod MX10_net.1 ∈ gT := wt (i := 1628) (by decide +kernel) rfl
theorem se_X10_net : Cond.selects MX10_net.1.cls MX10_net.1 MX10_net.1 ∈ gT := wt (i := 1629) (by decide +kernel) rfl
theorem mv_L_110 : MwV RL 110 MX10_net 3 := ⟨wt (i := 1627) (by decide +kernel) rfl, cw_X10_net, im_X10_net, se_X10_net, in_X10, mk_X10_net⟩
set_option maxRecDepth 60000 in
theorem cw_X9_odds : Cond.code MX9_odds.1 MX9_odds.2.1 MX9_odds.2.2.1 MX9_odds.2.2.2.1 ∈ gT := wt (i := 913) rfl rfl
theorem mk_X9_odds : mok MX9_odds 3 := ⟨by decide, by decide, by decide +kernel⟩
theorem im_X9_odds : Cond.instanceMethod MX9_odds.1 ∈ gT := wt (i := 911) (by decide +kernel) rfl
theorem se_X9_odds : Cond.selects MX9_odds.1.cls MX9_odds.1 MX9_odds.1 ∈ gT := wt (i := 912) (by decide +kernel) rfl
theorem mv_L_111 : MwV RL 111 MX9_odds 3 := ⟨wt (i := 910) (by decide +kernel) rfl, cw_X9_odds, im_X9_odds, se_X9_odds, in_X9, mk_X9_odds⟩
set_option maxRecDepth 60000 in
theorem cw_X10_odds : Cond.code MX10_odds.1 MX10_odds.2.1 MX10_odds.2.2.1 MX10_odds.2.2.2.1 ∈ gT := wt (i := 1643) rfl rfl
theorem mk_X10_odds : mok MX10_odds 3 := ⟨by decide, by decide, by decide +kernel⟩
theorem im_X10_odds : Cond.instanceMethod MX10_odds.1 ∈ gT := wt (i := 1641) (by decide +kernel) rfl
theorem se_X10_odds : Cond.selects MX10_odds.1.cls MX10_odds.1 MX10_odds.1 ∈ gT := wt (i := 1642) (by decide +kernel) rfl
theorem mv_L_114 : MwV RL 114 MX10_odds 3 := ⟨wt (i := 1640) (by decide +kernel) rfl, cw_X10_odds, im_X10_odds, se_X10_odds, in_X10, mk_X10_odds⟩
set_option maxRecDepth 60000 in
theorem cw_X9_hungry : Cond.code MX9_hungry.1 MX9_hungry.2.1 MX9_hungry.2.2.1 MX9_hungry.2.2.2.1 ∈ gT := wt (i := 935) rfl rfl
theorem mk_X9_hungry : mok MX9_hungry 2 := ⟨by decide, by decide, by decide +kernel⟩
theorem im_X9_hungry : Cond.instanceMethod MX9_hungry.1 ∈ gT := wt (i := 933) (by decide +kernel) rfl
theorem se_X9_hungry : Cond.selects MX9_hungry.1.cls MX9_hungry.1 MX9_hungry.1 ∈ gT := wt (i := 934) (by decide +kernel) rfl
theorem mv_L_115 : MwV RL 115 MX9_hungry 2 := ⟨wt (i := 932) (by decide +kernel) rfl, cw_X9_hungry, im_X9_hungry, se_X9_hungry, in_X9, mk_X9_hungry⟩
set_option maxRecDepth 60000 in
theorem cw_X10_hungry : Cond.code MX10_hungry.1 MX10_hungry.2.1 MX10_hungry.2.2.1 MX10_hungry.2.2.2.1 ∈ gT := wt (i := 1664) rfl rfl
theorem mk_X10_hungry : mok MX10_hungry 2 := ⟨by decide, by decide, by decide +kernel⟩
theorem im_X10_hungry : Cond.instanceMethod MX10_hungry.1 ∈ gT := wt (i := 1662) (by decide +kernel) rfl
theorem se_X10_hungry : Cond.selects MX10_hungry.1.cls MX10_hungry.1 MX10_hungry.1 ∈ gT := wt (i := 1663) (by decide +kernel) rfl
theorem mv_L_118 : MwV RL 118 MX10_hungry 2 := ⟨wt (i := 1661) (by decide +kernel) rfl, cw_X10_hungry, im_X10_hungry, se_X10_hungry, in_X10, mk_X10_hungry⟩
set_option maxRecDepth 60000 in
theorem cw_X9_worth : Cond.code MX9_worth.1 MX9_worth.2.1 MX9_worth.2.2.1 MX9_worth.2.2.2.1 ∈ gT := wt (i := 939) rfl rfl
theorem mk_X9_worth : mok MX9_worth 2 := ⟨by decide, by decide, by decide +kernel⟩
theorem im_X9_worth : Cond.instanceMethod MX9_worth.1 ∈ gT := wt (i := 937) (by decide +kernel) rfl
theorem se_X9_worth : Cond.selects MX9_worth.1.cls MX9_worth.1 MX9_worth.1 ∈ gT := wt (i := 938) (by decide +kernel) rfl
theorem mv_L_119 : MwV RL 119 MX9_worth 2 := ⟨wt (i := 936) (by decide +kernel) rfl, cw_X9_worth, im_X9_worth, se_X9_worth, in_X9, mk_X9_worth⟩
set_option maxRecDepth 60000 in
theorem cw_X10_worth : Cond.code MX10_worth.1 MX10_worth.2.1 MX10_worth.2.2.1 MX10_worth.2.2.2.1 ∈ gT := wt (i := 1668) rfl rfl
theorem mk_X10_worth : mok MX10_worth 2 := ⟨by decide, by decide, by decide +kernel⟩
theorem im_X10_worth : Cond.instanceMethod MX10_worth.1 ∈ gT := wt (i := 1666) (by decide +kernel) rfl
theorem se_X10_worth : Cond.selects MX10_worth.1.cls MX10_worth.1 MX10_worth.1 ∈ gT := wt (i := 1667) (by decide +kernel) rfl
theorem mv_L_122 : MwV RL 122 MX10_worth 2 := ⟨wt (i := 1665) (by decide +kernel) rfl, cw_X10_worth, im_X10_worth, se_X10_worth, in_X10, mk_X10_worth⟩
set_option maxRecDepth 60000 in
theorem cw_X9_best : Cond.code MX9_best.1 MX9_best.2.1 MX9_best.2.2.1 MX9_best.2.2.2.1 ∈ gT := wt (i := 952) rfl rfl
theorem mk_X9_best : mok MX9_best 2 := ⟨by decide, by decide, by decide +kernel⟩
theorem im_X9_best : Cond.instanceMethod MX9_best.1 ∈ gT := wt (i := 950) (by decide +kernel) rfl
theorem se_X9_best : Cond.selects MX9_best.1.cls MX9_best.1 MX9_best.1 ∈ gT := wt (i := 951) (by decide +kernel) rfl
theorem mv_L_123 : MwV RL 123 MX9_best 2 := ⟨wt (i := 949) (by decide +kernel) rfl, cw_X9_best, im_X9_best, se_X9_best, in_X9, mk_X9_best⟩
set_option maxRecDepth 60000 in
theorem cw_X10_best : Cond.code MX10_best.1 MX10_best.2.1 MX10_best.2.2.1 MX10_best.2.2.2.1 ∈ gT := wt (i := 1680) rfl rfl
theorem mk_X10_best : mok MX10_best 2 := ⟨by decide, by decide, by decide +kernel⟩
theorem im_X10_best : Cond.instanceMethod MX10_best.1 ∈ gT := wt (i := 1678) (by decide +kernel) rfl
theorem se_X10_best : Cond.selects MX10_best.1.cls MX10_best.1 MX10_best.1 ∈ gT := wt (i := 1679) (by decide +kernel) rfl
theorem mv_L_126 : MwV RL 126 MX10_best 2 := ⟨wt (i := 1677) (by decide +kernel) rfl, cw_X10_best, im_X10_best, se_X10_best, in_X10, mk_X10_best⟩
set_option maxRecDepth 60000 in
theorem cw_X9_climb : Cond.code MX9_climb.1 MX9_climb.2.1 MX9_climb.2.2.1 MX9_climb.2.2.2.1 ∈ gT := wt (i := 987) rfl rfl
theorem mk_X9_climb : mok MX9_climb 1 := ⟨by decide, by decide, by decide +kernel⟩
theorem im_X9_climb : Cond.instanceMethod MX9_climb.1 ∈ gT := wt (i := 985) (by decide +kernel) rfl
theorem se_X9_climb : Cond.selects MX9_climb.1.cls MX9_climb.1 MX9_climb.1 ∈ gT := wt (i := 986) (by decide +kernel) rfl
theorem mv_L_127 : MwV RL 127 MX9_climb 1 := ⟨wt (i := 984) (by decide +kernel) rfl, cw_X9_climb, im_X9_climb, se_X9_climb, in_X9, mk_X9_climb⟩
set_option maxRecDepth 60000 in
theorem cw_X10_climb : Cond.code MX10_climb.1 MX10_climb.2.1 MX10_climb.2.2.1 MX10_climb.2.2.2.1 ∈ gT := wt (i := 1695) rfl rfl
theorem mk_X10_climb : mok MX10_climb 1 := ⟨by decide, by decide, by decide +kernel⟩
theorem im_X10_climb : Cond.instanceMethod MX10_climb.1 ∈ gT := wt (i := 1693) (by decide +kernel) rfl
theorem se_X10_climb : Cond.selects MX10_climb.1.cls MX10_climb.1 MX10_climb.1 ∈ gT := wt (i := 1694) (by decide +kernel) rfl
theorem mv_L_130 : MwV RL 130 MX10_climb 1 := ⟨wt (i := 1692) (by decide +kernel) rfl, cw_X10_climb, im_X10_climb, se_X10_climb, in_X10, mk_X10_climb⟩
set_option maxRecDepth 60000 in
theorem cw_X9_climbed : Cond.code MX9_climbed.1 MX9_climbed.2.1 MX9_climbed.2.2.1 MX9_climbed.2.2.2.1 ∈ gT := wt (i := 1002) rfl rfl
theorem mk_X9_climbed : mok MX9_climbed 0 := ⟨by decide, by decide, by decide +kernel⟩
theorem im_X9_climbed : Cond.instanceMethod MX9_climbed.1 ∈ gT := wt (i := 1000) (by decide +kernel) rfl
theorem se_X9_climbed : Cond.selects MX9_climbed.1.cls MX9_climbed.1 MX9_climbed.1 ∈ gT := wt (i := 1001) (by decide +kernel) rfl
theorem mv_L_131 : MwV RL 131 MX9_climbed 0 := ⟨wt (i := 999) (by decide +kernel) rfl, cw_X9_climbed, im_X9_climbed, se_X9_climbed, in_X9, mk_X9_climbed⟩
set_option maxRecDepth 60000 in
theorem cw_X10_climbed : Cond.code MX10_climbed.1 MX10_climbed.2.1 MX10_climbed.2.2.1 MX10_climbed.2.2.2.1 ∈ gT := wt (i := 1699) rfl rfl
theorem mk_X10_climbed : mok MX10_climbed 0 := ⟨by decide, by decide, by decide +kernel⟩
theorem im_X10_climbed : Cond.instanceMethod MX10_climbed.1 ∈ gT := wt (i := 1697) (by decide +kernel) rfl
theorem se_X10_climbed : Cond.selects MX10_climbed.1.cls MX10_climbed.1 MX10_climbed.1 ∈ gT := wt (i := 1698) (by decide +kernel) rfl
theorem mv_L_134 : MwV RL 134 MX10_climbed 0 := ⟨wt (i := 1696) (by decide +kernel) rfl, cw_X10_climbed, im_X10_climbed, se_X10_climbed, in_X10, mk_X10_climbed⟩
set_option maxRecDepth 60000 in
theorem cw_X9_edge : Cond.code MX9_edge.1 MX9_edge.2.1 MX9_edge.2.2.1 MX9_edge.2.2.2.1 ∈ gT := wt (i := 1006) rfl rfl
theorem mk_X9_edge : mok MX9_edge 2 := ⟨by decide, by decide, by decide +kernel⟩
theorem im_X9_edge : Cond.instanceMethod MX9_edge.1 ∈ gT := wt (i := 1004) (by decide +kernel) rfl
theorem se_X9_edge : Cond.selects MX9_edge.1.cls MX9_edge.1 MX9_edge.1 ∈ gT := wt (i := 1005) (by decide +kernel) rfl
theorem mv_L_135 : MwV RL 135 MX9_edge 2 := ⟨wt (i := 1003) (by decide +kernel) rfl, cw_X9_edge, im_X9_edge, se_X9_edge, in_X9, mk_X9_edge⟩
set_option maxRecDepth 60000 in
theorem cw_X10_edge : Cond.code MX10_edge.1 MX10_edge.2.1 MX10_edge.2.2.1 MX10_edge.2.2.2.1 ∈ gT := wt (i := 1703) rfl rfl
theorem mk_X10_edge : mok MX10_edge 2 := ⟨by decide, by decide, by decide +kernel⟩
theorem im_X10_edge : Cond.instanceMethod MX10_edge.1 ∈ gT := wt (i := 1701) (by decide +kernel) rfl
theorem se_X10_edge : Cond.selects MX10_edge.1.cls MX10_edge.1 MX10_edge.1 ∈ gT := wt (i := 1702) (by decide +kernel) rfl
theorem mv_L_138 : MwV RL 138 MX10_edge 2 := ⟨wt (i := 1700) (by decide +kernel) rfl, cw_X10_edge, im_X10_edge, se_X10_edge, in_X10, mk_X10_edge⟩
set_option maxRecDepth 60000 in
theorem cw_X9_change : Cond.code MX9_change.1 MX9_change.2.1 MX9_change.2.2.1 MX9_change.2.2.2.1 ∈ gT := wt (i := 1015) rfl rfl
theorem mk_X9_change : mok MX9_change 4 := ⟨by decide, by decide, by decide +kernel⟩
theorem im_X9_change : Cond.instanceMethod MX9_change.1 ∈ gT := wt (i := 1013) (by decide +kernel) rfl
theorem se_X9_change : Cond.selects MX9_change.1.cls MX9_change.1 MX9_change.1 ∈ gT := wt (i := 1014) (by decide +kernel) rfl
theorem mv_L_139 : MwV RL 139 MX9_change 4 := ⟨wt (i := 1012) (by decide +kernel) rfl, cw_X9_change, im_X9_change, se_X9_change, in_X9, mk_X9_change⟩
set_option maxRecDepth 60000 in
theorem cw_X10_change : Cond.code MX10_change.1 MX10_change.2.1 MX10_change.2.2.1 MX10_change.2.2.2.1 ∈ gT := wt (i := 1707) rfl rfl
theorem mk_X10_change : mok MX10_change 4 := ⟨by decide, by decide, by decide +kernel⟩
theorem im_X10_change : Cond.instanceMethod MX10_change.1 ∈ gT := wt (i := 1705) (by decide +kernel) rfl
theorem se_X10_change : Cond.selects MX10_change.1.cls MX10_change.1 MX10_change.1 ∈ gT := wt (i := 1706) (by decide +kernel) rfl
theorem mv_L_143 : MwV RL 143 MX10_change 4 := ⟨wt (i := 1704) (by decide +kernel) rfl, cw_X10_change, im_X10_change, se_X10_change, in_X10, mk_X10_change⟩
set_option maxRecDepth 60000 in
theorem cw_X9_beside : Cond.code MX9_beside.1 MX9_beside.2.1 MX9_beside.2.2.1 MX9_beside.2.2.2.1 ∈ gT := wt (i := 1020) rfl rfl
theorem mk_X9_beside : mok MX9_beside 6 := ⟨by decide, by decide, by decide +kernel⟩
theorem im_X9_beside : Cond.instanceMethod MX9_beside.1 ∈ gT := wt (i := 1018) (by decide +kernel) rfl
theorem se_X9_beside : Cond.selects MX9_beside.1.cls MX9_beside.1 MX9_beside.1 ∈ gT := wt (i := 1019) (by decide +kernel) rfl
theorem mv_L_144 : MwV RL 144 MX9_beside 6 := ⟨wt (i := 1017) (by decide +kernel) rfl, cw_X9_beside, im_X9_beside, se_X9_beside, in_X9, mk_X9_beside⟩
set_option maxRecDepth 60000 in
theorem cw_X10_beside : Cond.code MX10_beside.1 MX10_beside.2.1 MX10_beside.2.2.1 MX10_beside.2.2.2.1 ∈ gT := wt (i := 1711) rfl rfl
theorem mk_X10_beside : mok MX10_beside 6 := ⟨by decide, by decide, by decide +kernel⟩
theorem im_X10_beside : Cond.instanceMethod MX10_beside.1 ∈ gT := wt (i := 1709) (by decide +kernel) rfl
theorem se_X10_beside : Cond.selects MX10_beside.1.cls MX10_beside.1 MX10_beside.1 ∈ gT := wt (i := 1710) (by decide +kernel) rfl
theorem mv_L_148 : MwV RL 148 MX10_beside 6 := ⟨wt (i := 1708) (by decide +kernel) rfl, cw_X10_beside, im_X10_beside, se_X10_beside, in_X10, mk_X10_beside⟩
set_option maxRecDepth 60000 in
theorem cw_X9_swaps : Cond.code MX9_swaps.1 MX9_swaps.2.1 MX9_swaps.2.2.1 MX9_swaps.2.2.2.1 ∈ gT := wt (i := 1041) rfl rfl
theorem mk_X9_swaps : mok MX9_swaps 2 := ⟨by decide, by decide, by decide +kernel⟩
theorem im_X9_swaps : Cond.instanceMethod MX9_swaps.1 ∈ gT := wt (i := 1039) (by decide +kernel) rfl
theorem se_X9_swaps : Cond.selects MX9_swaps.1.cls MX9_swaps.1 MX9_swaps.1 ∈ gT := wt (i := 1040) (by decide +kernel) rfl
theorem mv_L_149 : MwV RL 149 MX9_swaps 2 := ⟨wt (i := 1038) (by decide +kernel) rfl, cw_X9_swaps, im_X9_swaps, se_X9_swaps, in_X9, mk_X9_swaps⟩
set_option maxRecDepth 60000 in
theorem cw_X10_swaps : Cond.code MX10_swaps.1 MX10_swaps.2.1 MX10_swaps.2.2.1 MX10_swaps.2.2.2.1 ∈ gT := wt (i := 1715) rfl rfl
theorem mk_X10_swaps : mok MX10_swaps 2 := ⟨by decide, by decide, by decide +kernel⟩
theorem im_X10_swaps : Cond.instanceMethod MX10_swaps.1 ∈ gT := wt (i := 1713) (by decide +kernel) rfl
theorem se_X10_swaps : Cond.selects MX10_swaps.1.cls MX10_swaps.1 MX10_swaps.1 ∈ gT := wt (i := 1714) (by decide +kernel) rfl
theorem mv_L_152 : MwV RL 152 MX10_swaps 2 := ⟨wt (i := 1712) (by decide +kernel) rfl, cw_X10_swaps, im_X10_swaps, se_X10_swaps, in_X10, mk_X10_swaps⟩
set_option maxRecDepth 60000 in
theorem cw_X9_swap : Cond.code MX9_swap.1 MX9_swap.2.1 MX9_swap.2.2.1 MX9_swap.2.2.2.1 ∈ gT := wt (i := 1068) rfl rfl
theorem mk_X9_swap : mok MX9_swap 4 := ⟨by decide, by decide, by decide +kernel⟩
theorem im_X9_swap : Cond.instanceMethod MX9_swap.1 ∈ gT := wt (i := 1066) (by decide +kernel) rfl
theorem se_X9_swap : Cond.selects MX9_swap.1.cls MX9_swap.1 MX9_swap.1 ∈ gT := wt (i := 1067) (by decide +kernel) rfl
theorem mv_L_153 : MwV RL 153 MX9_swap 4 := ⟨wt (i := 1065) (by decide +kernel) rfl, cw_X9_swap, im_X9_swap, se_X9_swap, in_X9, mk_X9_swap⟩
set_option maxRecDepth 60000 in
theorem cw_X10_swap : Cond.code MX10_swap.1 MX10_swap.2.1 MX10_swap.2.2.1 MX10_swap.2.2.2.1 ∈ gT := wt (i := 1731) rfl rfl
theorem mk_X10_swap : mok MX10_swap 4 := ⟨by decide, by decide, by decide +kernel⟩
theorem im_X10_swap : Cond.instanceMethod MX10_swap.1 ∈ gT := wt (i := 1729) (by decide +kernel) rfl
theorem se_X10_swap : Cond.selects MX10_swap.1.cls MX10_swap.1 MX10_swap.1 ∈ gT := wt (i := 1730) (by decide +kernel) rfl
theorem mv_L_156 : MwV RL 156 MX10_swap 4 := ⟨wt (i := 1728) (by decide +kernel) rfl, cw_X10_swap, im_X10_swap, se_X10_swap, in_X10, mk_X10_swap⟩
set_option maxRecDepth 60000 in
theorem cw_X9_ring : Cond.code MX9_ring.1 MX9_ring.2.1 MX9_ring.2.2.1 MX9_ring.2.2.2.1 ∈ gT := wt (i := 1072) rfl rfl
theorem mk_X9_ring : mok MX9_ring 4 := ⟨by decide, by decide, by decide +kernel⟩
theorem im_X9_ring : Cond.instanceMethod MX9_ring.1 ∈ gT := wt (i := 1070) (by decide +kernel) rfl
theorem se_X9_ring : Cond.selects MX9_ring.1.cls MX9_ring.1 MX9_ring.1 ∈ gT := wt (i := 1071) (by decide +kernel) rfl
theorem mv_L_157 : MwV RL 157 MX9_ring 4 := ⟨wt (i := 1069) (by decide +kernel) rfl, cw_X9_ring, im_X9_ring, se_X9_ring, in_X9, mk_X9_ring⟩
set_option maxRecDepth 60000 in
theorem cw_X10_ring : Cond.code MX10_ring.1 MX10_ring.2.1 MX10_ring.2.2.1 MX10_ring.2.2.2.1 ∈ gT := wt (i := 1735) rfl rfl
theorem mk_X10_ring : mok MX10_ring 4 := ⟨by decide, by decide, by decide +kernel⟩
theorem im_X10_ring : Cond.instanceMethod MX10_ring.1 ∈ gT := wt (i := 1733) (by decide +kernel) rfl
theorem se_X10_ring : Cond.selects MX10_ring.1.cls MX10_ring.1 MX10_ring.1 ∈ gT := wt (i := 1734) (by decide +kernel) rfl
theorem mv_L_160 : MwV RL 160 MX10_ring 4 := ⟨wt (i := 1732) (by decide +kernel) rfl, cw_X10_ring, im_X10_ring, se_X10_ring, in_X10, mk_X10_ring⟩
set_option maxRecDepth 60000 in
theorem cw_X9_settle : Cond.code MX9_settle.1 MX9_settle.2.1 MX9_settle.2.2.1 MX9_settle.2.2.2.1 ∈ gT := wt (i := 1084) rfl rfl
theorem mk_X9_settle : mok MX9_settle 0 := ⟨by decide, by decide, by decide +kernel⟩
theorem im_X9_settle : Cond.instanceMethod MX9_settle.1 ∈ gT := wt (i := 1082) (by decide +kernel) rfl
theorem se_X9_settle : Cond.selects MX9_settle.1.cls MX9_settle.1 MX9_settle.1 ∈ gT := wt (i := 1083) (by decide +kernel) rfl
theorem mv_L_161 : MwV RL 161 MX9_settle 0 := ⟨wt (i := 1081) (by decide +kernel) rfl, cw_X9_settle, im_X9_settle, se_X9_settle, in_X9, mk_X9_settle⟩
set_option maxRecDepth 60000 in
theorem cw_X10_settle : Cond.code MX10_settle.1 MX10_settle.2.1 MX10_settle.2.2.1 MX10_settle.2.2.2.1 ∈ gT := wt (i := 1739) rfl rfl
theorem mk_X10_settle : mok MX10_settle 0 := ⟨by decide, by decide, by decide +kernel⟩
theorem im_X10_settle : Cond.instanceMethod MX10_settle.1 ∈ gT := wt (i := 1737) (by decide +kernel) rfl
theorem se_X10_settle : Cond.selects MX10_settle.1.cls MX10_settle.1 MX10_settle.1 ∈ gT := wt (i := 1738) (by decide +kernel) rfl
theorem mv_L_164 : MwV RL 164 MX10_settle 0 := ⟨wt (i := 1736) (by decide +kernel) rfl, cw_X10_settle, im_X10_settle, se_X10_settle, in_X10, mk_X10_settle⟩
set_option maxRecDepth 60000 in
theorem cw_X9_give : Cond.code MX9_give.1 MX9_give.2.1 MX9_give.2.2.1 MX9_give.2.2.2.1 ∈ gT := wt (i := 1093) rfl rfl
theorem mk_X9_give : mok MX9_give 1 := ⟨by decide, by decide, by decide +kernel⟩
theorem im_X9_give : Cond.instanceMethod MX9_give.1 ∈ gT := wt (i := 1091) (by decide +kernel) rfl
theorem se_X9_give : Cond.selects MX9_give.1.cls MX9_give.1 MX9_give.1 ∈ gT := wt (i := 1092) (by decide +kernel) rfl
theorem mv_L_165 : MwV RL 165 MX9_give 1 := ⟨wt (i := 1090) (by decide +kernel) rfl, cw_X9_give, im_X9_give, se_X9_give, in_X9, mk_X9_give⟩
set_option maxRecDepth 60000 in
theorem cw_X10_give : Cond.code MX10_give.1 MX10_give.2.1 MX10_give.2.2.1 MX10_give.2.2.2.1 ∈ gT := wt (i := 1747) rfl rfl
theorem mk_X10_give : mok MX10_give 1 := ⟨by decide, by decide, by decide +kernel⟩
theorem im_X10_give : Cond.instanceMethod MX10_give.1 ∈ gT := wt (i := 1745) (by decide +kernel) rfl
theorem se_X10_give : Cond.selects MX10_give.1.cls MX10_give.1 MX10_give.1 ∈ gT := wt (i := 1746) (by decide +kernel) rfl
theorem mv_L_169 : MwV RL 169 MX10_give 1 := ⟨wt (i := 1744) (by decide +kernel) rfl, cw_X10_give, im_X10_give, se_X10_give, in_X10, mk_X10_give⟩
set_option maxRecDepth 60000 in
theorem cw_X9_given : Cond.code MX9_given.1 MX9_given.2.1 MX9_given.2.2.1 MX9_given.2.2.2.1 ∈ gT := wt (i := 1131) rfl rfl
theorem mk_X9_given : mok MX9_given 1 := ⟨by decide, by decide, by decide +kernel⟩
theorem im_X9_given : Cond.instanceMethod MX9_given.1 ∈ gT := wt (i := 1129) (by decide +kernel) rfl
theorem se_X9_given : Cond.selects MX9_given.1.cls MX9_given.1 MX9_given.1 ∈ gT := wt (i := 1130) (by decide +kernel) rfl
theorem mv_L_170 : MwV RL 170 MX9_given 1 := ⟨wt (i := 1128) (by decide +kernel) rfl, cw_X9_given, im_X9_given, se_X9_given, in_X9, mk_X9_given⟩
set_option maxRecDepth 60000 in
theorem cw_X10_given : Cond.code MX10_given.1 MX10_given.2.1 MX10_given.2.2.1 MX10_given.2.2.2.1 ∈ gT := wt (i := 1762) rfl rfl
theorem mk_X10_given : mok MX10_given 1 := ⟨by decide, by decide, by decide +kernel⟩
theorem im_X10_given : Cond.instanceMethod MX10_given.1 ∈ gT := wt (i := 1760) (by decide +kernel) rfl
theorem se_X10_given : Cond.selects MX10_given.1.cls MX10_given.1 MX10_given.1 ∈ gT := wt (i := 1761) (by decide +kernel) rfl
theorem mv_L_173 : MwV RL 173 MX10_given 1 := ⟨wt (i := 1759) (by decide +kernel) rfl, cw_X10_given, im_X10_given, se_X10_given, in_X10, mk_X10_given⟩
set_option maxRecDepth 60000 in
theorem cw_X9_narrow : Cond.code MX9_narrow.1 MX9_narrow.2.1 MX9_narrow.2.2.1 MX9_narrow.2.2.2.1 ∈ gT := wt (i := 1135) rfl rfl
theorem mk_X9_narrow : mok MX9_narrow 2 := ⟨by decide, by decide, by decide +kernel⟩
theorem im_X9_narrow : Cond.instanceMethod MX9_narrow.1 ∈ gT := wt (i := 1133) (by decide +kernel) rfl
theorem se_X9_narrow : Cond.selects MX9_narrow.1.cls MX9_narrow.1 MX9_narrow.1 ∈ gT := wt (i := 1134) (by decide +kernel) rfl
theorem mv_L_174 : MwV RL 174 MX9_narrow 2 := ⟨wt (i := 1132) (by decide +kernel) rfl, cw_X9_narrow, im_X9_narrow, se_X9_narrow, in_X9, mk_X9_narrow⟩
set_option maxRecDepth 60000 in
theorem cw_X10_narrow : Cond.code MX10_narrow.1 MX10_narrow.2.1 MX10_narrow.2.2.1 MX10_narrow.2.2.2.1 ∈ gT := wt (i := 1766) rfl rfl
theorem mk_X10_narrow : mok MX10_narrow 2 := ⟨by decide, by decide, by decide +kernel⟩
theorem im_X10_narrow : Cond.instanceMethod MX10_narrow.1 ∈ gT := wt (i := 1764) (by decide +kernel) rfl
theorem se_X10_narrow : Cond.selects MX10_narrow.1.cls MX10_narrow.1 MX10_narrow.1 ∈ gT := wt (i := 1765) (by decide +kernel) rfl
theorem mv_L_177 : MwV RL 177 MX10_narrow 2 := ⟨wt (i := 1763) (by decide +kernel) rfl, cw_X10_narrow, im_X10_narrow, se_X10_narrow, in_X10, mk_X10_narrow⟩
set_option maxRecDepth 60000 in
theorem cw_X9_together : Cond.code MX9_together.1 MX9_together.2.1 MX9_together.2.2.1 MX9_together.2.2.2.1 ∈ gT := wt (i := 1147) rfl rfl
theorem mk_X9_together : mok MX9_together 0 := ⟨by decide, by decide, by decide +kernel⟩
theorem im_X9_together : Cond.instanceMethod MX9_together.1 ∈ gT := wt (i := 1145) (by decide +kernel) rfl
theorem se_X9_together : Cond.selects MX9_together.1.cls MX9_together.1 MX9_together.1 ∈ gT := wt (i := 1146) (by decide +kernel) rfl
theorem mv_L_178 : MwV RL 178 MX9_together 0 := ⟨wt (i := 1144) (by decide +kernel) rfl, cw_X9_together, im_X9_together, se_X9_together, in_X9, mk_X9_together⟩
set_option maxRecDepth 60000 in
theorem cw_X10_together : Cond.code MX10_together.1 MX10_together.2.1 MX10_together.2.2.1 MX10_together.2.2.2.1 ∈ gT := wt (i := 1770) rfl rfl
theorem mk_X10_together : mok MX10_together 0 := ⟨by decide, by decide, by decide +kernel⟩
theorem im_X10_together : Cond.instanceMethod MX10_together.1 ∈ gT := wt (i := 1768) (by decide +kernel) rfl
theorem se_X10_together : Cond.selects MX10_together.1.cls MX10_together.1 MX10_together.1 ∈ gT := wt (i := 1769) (by decide +kernel) rfl
theorem mv_L_181 : MwV RL 181 MX10_together 0 := ⟨wt (i := 1767) (by decide +kernel) rfl, cw_X10_together, im_X10_together, se_X10_together, in_X10, mk_X10_together⟩
set_option maxRecDepth 60000 in
theorem cw_X9_starved : Cond.code MX9_starved.1 MX9_starved.2.1 MX9_starved.2.2.1 MX9_starved.2.2.2.1 ∈ gT := wt (i := 1179) rfl rfl
theorem mk_X9_starved : mok MX9_starved 3 := ⟨by decide, by decide, by decide +kernel⟩
theorem im_X9_starved : Cond.instanceMethod MX9_starved.1 ∈ gT := wt (i := 1177) (by decide +kernel) rfl
theorem se_X9_starved : Cond.selects MX9_starved.1.cls MX9_starved.1 MX9_starved.1 ∈ gT := wt (i := 1178) (by decide +kernel) rfl
theorem mv_L_182 : MwV RL 182 MX9_starved 3 := ⟨wt (i := 1176) (by decide +kernel) rfl, cw_X9_starved, im_X9_starved, se_X9_starved, in_X9, mk_X9_starved⟩
set_option maxRecDepth 60000 in
theorem cw_X10_starved : Cond.code MX10_starved.1 MX10_starved.2.1 MX10_starved.2.2.1 MX10_starved.2.2.2.1 ∈ gT := wt (i := 1786) rfl rfl
theorem mk_X10_starved : mok MX10_starved 3 := ⟨by decide, by decide, by decide +kernel⟩
theorem im_X10_starved : Cond.instanceMethod MX10_starved.1 ∈ gT := wt (i := 1784) (by decide +kernel) rfl
theorem se_X10_starved : Cond.selects MX10_starved.1.cls MX10_starved.1 MX10_starved.1 ∈ gT := wt (i := 1785) (by decide +kernel) rfl
theorem mv_L_185 : MwV RL 185 MX10_starved 3 := ⟨wt (i := 1783) (by decide +kernel) rfl, cw_X10_starved, im_X10_starved, se_X10_starved, in_X10, mk_X10_starved⟩
set_option maxRecDepth 60000 in
theorem cw_X9_luck : Cond.code MX9_luck.1 MX9_luck.2.1 MX9_luck.2.2.1 MX9_luck.2.2.2.1 ∈ gT := wt (i := 1193) rfl rfl
theorem mk_X9_luck : mok MX9_luck 5 := ⟨by decide, by decide, by decide +kernel⟩
theorem im_X9_luck : Cond.instanceMethod MX9_luck.1 ∈ gT := wt (i := 1191) (by decide +kernel) rfl
theorem se_X9_luck : Cond.selects MX9_luck.1.cls MX9_luck.1 MX9_luck.1 ∈ gT := wt (i := 1192) (by decide +kernel) rfl
theorem mv_L_186 : MwV RL 186 MX9_luck 5 := ⟨wt (i := 1190) (by decide +kernel) rfl, cw_X9_luck, im_X9_luck, se_X9_luck, in_X9, mk_X9_luck⟩
set_option maxRecDepth 60000 in
theorem cw_X10_luck : Cond.code MX10_luck.1 MX10_luck.2.1 MX10_luck.2.2.1 MX10_luck.2.2.2.1 ∈ gT := wt (i := 1798) rfl rfl
theorem mk_X10_luck : mok MX10_luck 5 := ⟨by decide, by decide, by decide +kernel⟩
theorem im_X10_luck : Cond.instanceMethod MX10_luck.1 ∈ gT := wt (i := 1796) (by decide +kernel) rfl
theorem se_X10_luck : Cond.selects MX10_luck.1.cls MX10_luck.1 MX10_luck.1 ∈ gT := wt (i := 1797) (by decide +kernel) rfl
theorem mv_L_189 : MwV RL 189 MX10_luck 5 := ⟨wt (i := 1795) (by decide +kernel) rfl, cw_X10_luck, im_X10_luck, se_X10_luck, in_X10, mk_X10_luck⟩
set_option maxRecDepth 60000 in
theorem cw_X9_mark : Cond.code MX9_mark.1 MX9_mark.2.1 MX9_mark.2.2.1 MX9_mark.2.2.2.1 ∈ gT := wt (i := 1215) rfl rfl
theorem mk_X9_mark : mok MX9_mark 0 := ⟨by decide, by decide, by decide +kernel⟩
theorem im_X9_mark : Cond.instanceMethod MX9_mark.1 ∈ gT := wt (i := 1213) (by decide +kernel) rfl
theorem se_X9_mark : Cond.selects MX9_mark.1.cls MX9_mark.1 MX9_mark.1 ∈ gT := wt (i := 1214) (by decide +kernel) rfl
theorem mv_L_190 : MwV RL 190 MX9_mark 0 := ⟨wt (i := 1212) (by decide +kernel) rfl, cw_X9_mark, im_X9_mark, se_X9_mark, in_X9, mk_X9_mark⟩
set_option maxRecDepth 60000 in
theorem cw_X10_mark : Cond.code MX10_mark.1 MX10_mark.2.1 MX10_mark.2.2.1 MX10_mark.2.2.2.1 ∈ gT := wt (i := 1803) rfl rfl
theorem mk_X10_mark : mok MX10_mark 0 := ⟨by decide, by decide, by decide +kernel⟩
theorem im_X10_mark : Cond.instanceMethod MX10_mark.1 ∈ gT := wt (i := 1801) (by decide +kernel) rfl
theorem se_X10_mark : Cond.selects MX10_mark.1.cls MX10_mark.1 MX10_mark.1 ∈ gT := wt (i := 1802) (by decide +kernel) rfl
theorem mv_L_193 : MwV RL 193 MX10_mark 0 := ⟨wt (i := 1800) (by decide +kernel) rfl, cw_X10_mark, im_X10_mark, se_X10_mark, in_X10, mk_X10_mark⟩
set_option maxRecDepth 60000 in
theorem cw_X9_back : Cond.code MX9_back.1 MX9_back.2.1 MX9_back.2.2.1 MX9_back.2.2.2.1 ∈ gT := wt (i := 1224) rfl rfl
theorem mk_X9_back : mok MX9_back 0 := ⟨by decide, by decide, by decide +kernel⟩
theorem im_X9_back : Cond.instanceMethod MX9_back.1 ∈ gT := wt (i := 1222) (by decide +kernel) rfl
theorem se_X9_back : Cond.selects MX9_back.1.cls MX9_back.1 MX9_back.1 ∈ gT := wt (i := 1223) (by decide +kernel) rfl
theorem mv_L_194 : MwV RL 194 MX9_back 0 := ⟨wt (i := 1221) (by decide +kernel) rfl, cw_X9_back, im_X9_back, se_X9_back, in_X9, mk_X9_back⟩
set_option maxRecDepth 60000 in
theorem cw_X10_back : Cond.code MX10_back.1 MX10_back.2.1 MX10_back.2.2.1 MX10_back.2.2.2.1 ∈ gT := wt (i := 1807) rfl rfl
theorem mk_X10_back : mok MX10_back 0 := ⟨by decide, by decide, by decide +kernel⟩
theorem im_X10_back : Cond.instanceMethod MX10_back.1 ∈ gT := wt (i := 1805) (by decide +kernel) rfl
theorem se_X10_back : Cond.selects MX10_back.1.cls MX10_back.1 MX10_back.1 ∈ gT := wt (i := 1806) (by decide +kernel) rfl
theorem mv_L_197 : MwV RL 197 MX10_back 0 := ⟨wt (i := 1804) (by decide +kernel) rfl, cw_X10_back, im_X10_back, se_X10_back, in_X10, mk_X10_back⟩
