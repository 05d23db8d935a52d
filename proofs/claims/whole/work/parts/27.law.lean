theorem cd_X11_back : am_code YX11_back ∈ am_gt := am_gt_in (List.mem_of_getElem? (i := 1015) (by decide +kernel)) rfl
theorem cd_X11_box : am_code YX11_box ∈ am_gt := am_gt_in (List.mem_of_getElem? (i := 970) (by decide +kernel)) rfl
theorem cd_X11_bridge : am_code YX11_bridge ∈ am_gt := am_gt_in (List.mem_of_getElem? (i := 986) (by decide +kernel)) rfl
theorem cd_X11_cell : am_code YX11_cell ∈ am_gt := am_gt_in (List.mem_of_getElem? (i := 1066) (by decide +kernel)) rfl
theorem cd_X11_copy : am_code YX11_copy ∈ am_gt := am_gt_in (List.mem_of_getElem? (i := 1074) (by decide +kernel)) rfl
theorem cd_X11_count : am_code YX11_count ∈ am_gt := am_gt_in (List.mem_of_getElem? (i := 1037) (by decide +kernel)) rfl
theorem cd_X11_crossing : am_code YX11_crossing ∈ am_gt := am_gt_in (List.mem_of_getElem? (i := 448) (by decide +kernel)) rfl
theorem cd_X11_feed : am_code YX11_feed ∈ am_gt := am_gt_in (List.mem_of_getElem? (i := 770) (by decide +kernel)) rfl
theorem cd_X11_fog : am_code YX11_fog ∈ am_gt := am_gt_in (List.mem_of_getElem? (i := 957) (by decide +kernel)) rfl
theorem cd_X11_foot : am_code YX11_foot ∈ am_gt := am_gt_in (List.mem_of_getElem? (i := 926) (by decide +kernel)) rfl
theorem cd_X11_force : am_code YX11_force ∈ am_gt := am_gt_in (List.mem_of_getElem? (i := 779) (by decide +kernel)) rfl
theorem cd_X11_heir : am_code YX11_heir ∈ am_gt := am_gt_in (List.mem_of_getElem? (i := 891) (by decide +kernel)) rfl
theorem cd_X11_ill : am_code YX11_ill ∈ am_gt := am_gt_in (List.mem_of_getElem? (i := 648) (by decide +kernel)) rfl
theorem cd_X11_image : am_code YX11_image ∈ am_gt := am_gt_in (List.mem_of_getElem? (i := 990) (by decide +kernel)) rfl
theorem cd_X11_judge : am_code YX11_judge ∈ am_gt := am_gt_in (List.mem_of_getElem? (i := 882) (by decide +kernel)) rfl
theorem cd_X11_load : am_code YX11_load ∈ am_gt := am_gt_in (List.mem_of_getElem? (i := 783) (by decide +kernel)) rfl
theorem cd_X11_lost : am_code YX11_lost ∈ am_gt := am_gt_in (List.mem_of_getElem? (i := 941) (by decide +kernel)) rfl
theorem cd_X11_open : am_code YX11_open ∈ am_gt := am_gt_in (List.mem_of_getElem? (i := 907) (by decide +kernel)) rfl
theorem cd_X11_path : am_code YX11_path ∈ am_gt := am_gt_in (List.mem_of_getElem? (i := 915) (by decide +kernel)) rfl
theorem cd_X11_rowed : am_code YX11_rowed ∈ am_gt := am_gt_in (List.mem_of_getElem? (i := 873) (by decide +kernel)) rfl
theorem cd_X11_rowers : am_code YX11_rowers ∈ am_gt := am_gt_in (List.mem_of_getElem? (i := 1080) (by decide +kernel)) rfl
theorem cd_X11_set : am_code YX11_set ∈ am_gt := am_gt_in (List.mem_of_getElem? (i := 487) (by decide +kernel)) rfl
theorem cd_X11_shares : am_code YX11_shares ∈ am_gt := am_gt_in (List.mem_of_getElem? (i := 979) (by decide +kernel)) rfl
theorem cd_X11_sheet : am_code YX11_sheet ∈ am_gt := am_gt_in (List.mem_of_getElem? (i := 1053) (by decide +kernel)) rfl
theorem cd_X11_taken : am_code YX11_taken ∈ am_gt := am_gt_in (List.mem_of_getElem? (i := 1085) (by decide +kernel)) rfl
theorem cd_X11_takes : am_code YX11_takes ∈ am_gt := am_gt_in (List.mem_of_getElem? (i := 797) (by decide +kernel)) rfl
theorem cd_X11_text : am_code YX11_text ∈ am_gt := am_gt_in (List.mem_of_getElem? (i := 775) (by decide +kernel)) rfl
theorem cd_X11_told : am_code YX11_told ∈ am_gt := am_gt_in (List.mem_of_getElem? (i := 652) (by decide +kernel)) rfl
theorem cd_X11_waits : am_code YX11_waits ∈ am_gt := am_gt_in (List.mem_of_getElem? (i := 801) (by decide +kernel)) rfl
theorem cd_X12_back : am_code YX12_back ∈ am_gt := am_gt_in (List.mem_of_getElem? (i := 1565) (by decide +kernel)) rfl
theorem cd_X12_box : am_code YX12_box ∈ am_gt := am_gt_in (List.mem_of_getElem? (i := 1543) (by decide +kernel)) rfl
theorem cd_X12_bridge : am_code YX12_bridge ∈ am_gt := am_gt_in (List.mem_of_getElem? (i := 1556) (by decide +kernel)) rfl
theorem cd_X12_cell : am_code YX12_cell ∈ am_gt := am_gt_in (List.mem_of_getElem? (i := 1577) (by decide +kernel)) rfl
theorem cd_X12_copy : am_code YX12_copy ∈ am_gt := am_gt_in (List.mem_of_getElem? (i := 1581) (by decide +kernel)) rfl
theorem cd_X12_count : am_code YX12_count ∈ am_gt := am_gt_in (List.mem_of_getElem? (i := 1569) (by decide +kernel)) rfl
theorem cd_X12_crossing : am_code YX12_crossing ∈ am_gt := am_gt_in (List.mem_of_getElem? (i := 1285) (by decide +kernel)) rfl
theorem cd_X12_feed : am_code YX12_feed ∈ am_gt := am_gt_in (List.mem_of_getElem? (i := 1431) (by decide +kernel)) rfl
theorem cd_X12_fog : am_code YX12_fog ∈ am_gt := am_gt_in (List.mem_of_getElem? (i := 1529) (by decide +kernel)) rfl
theorem cd_X12_foot : am_code YX12_foot ∈ am_gt := am_gt_in (List.mem_of_getElem? (i := 1517) (by decide +kernel)) rfl
theorem cd_X12_force : am_code YX12_force ∈ am_gt := am_gt_in (List.mem_of_getElem? (i := 1440) (by decide +kernel)) rfl
theorem cd_X12_heir : am_code YX12_heir ∈ am_gt := am_gt_in (List.mem_of_getElem? (i := 1499) (by decide +kernel)) rfl
theorem cd_X12_ill : am_code YX12_ill ∈ am_gt := am_gt_in (List.mem_of_getElem? (i := 1318) (by decide +kernel)) rfl
theorem cd_X12_image : am_code YX12_image ∈ am_gt := am_gt_in (List.mem_of_getElem? (i := 1561) (by decide +kernel)) rfl
theorem cd_X12_judge : am_code YX12_judge ∈ am_gt := am_gt_in (List.mem_of_getElem? (i := 1493) (by decide +kernel)) rfl
theorem cd_X12_load : am_code YX12_load ∈ am_gt := am_gt_in (List.mem_of_getElem? (i := 1444) (by decide +kernel)) rfl
theorem cd_X12_lost : am_code YX12_lost ∈ am_gt := am_gt_in (List.mem_of_getElem? (i := 1525) (by decide +kernel)) rfl
theorem cd_X12_open : am_code YX12_open ∈ am_gt := am_gt_in (List.mem_of_getElem? (i := 1507) (by decide +kernel)) rfl
theorem cd_X12_path : am_code YX12_path ∈ am_gt := am_gt_in (List.mem_of_getElem? (i := 1513) (by decide +kernel)) rfl
theorem cd_X12_rowers : am_code YX12_rowers ∈ am_gt := am_gt_in (List.mem_of_getElem? (i := 1585) (by decide +kernel)) rfl
theorem cd_X12_set : am_code YX12_set ∈ am_gt := am_gt_in (List.mem_of_getElem? (i := 1297) (by decide +kernel)) rfl
theorem cd_X12_shares : am_code YX12_shares ∈ am_gt := am_gt_in (List.mem_of_getElem? (i := 1552) (by decide +kernel)) rfl
theorem cd_X12_sheet : am_code YX12_sheet ∈ am_gt := am_gt_in (List.mem_of_getElem? (i := 1573) (by decide +kernel)) rfl
theorem cd_X12_taken : am_code YX12_taken ∈ am_gt := am_gt_in (List.mem_of_getElem? (i := 1591) (by decide +kernel)) rfl
theorem cd_X12_takes : am_code YX12_takes ∈ am_gt := am_gt_in (List.mem_of_getElem? (i := 1455) (by decide +kernel)) rfl
theorem cd_X12_text : am_code YX12_text ∈ am_gt := am_gt_in (List.mem_of_getElem? (i := 1436) (by decide +kernel)) rfl
theorem cd_X12_told : am_code YX12_told ∈ am_gt := am_gt_in (List.mem_of_getElem? (i := 1322) (by decide +kernel)) rfl
theorem cd_X12_turn : am_code YX12_turn ∈ am_gt := am_gt_in (List.mem_of_getElem? (i := 1477) (by decide +kernel)) rfl
theorem cd_X12_waits : am_code YX12_waits ∈ am_gt := am_gt_in (List.mem_of_getElem? (i := 1459) (by decide +kernel)) rfl
theorem im_X11_back : Cond.instanceMethod yX11_back ∈ am_gt := am_gt_in (List.mem_of_getElem? (i := 1013) (by decide +kernel)) (by decide +kernel)
theorem im_X11_box : Cond.instanceMethod yX11_box ∈ am_gt := am_gt_in (List.mem_of_getElem? (i := 968) (by decide +kernel)) (by decide +kernel)
theorem im_X11_bridge : Cond.instanceMethod yX11_bridge ∈ am_gt := am_gt_in (List.mem_of_getElem? (i := 984) (by decide +kernel)) (by decide +kernel)
theorem im_X11_cell : Cond.instanceMethod yX11_cell ∈ am_gt := am_gt_in (List.mem_of_getElem? (i := 1064) (by decide +kernel)) (by decide +kernel)
theorem im_X11_copy : Cond.instanceMethod yX11_copy ∈ am_gt := am_gt_in (List.mem_of_getElem? (i := 1072) (by decide +kernel)) (by decide +kernel)
theorem im_X11_count : Cond.instanceMethod yX11_count ∈ am_gt := am_gt_in (List.mem_of_getElem? (i := 1035) (by decide +kernel)) (by decide +kernel)
theorem im_X11_crossing : Cond.instanceMethod yX11_crossing ∈ am_gt := am_gt_in (List.mem_of_getElem? (i := 446) (by decide +kernel)) (by decide +kernel)
theorem im_X11_feed : Cond.instanceMethod yX11_feed ∈ am_gt := am_gt_in (List.mem_of_getElem? (i := 768) (by decide +kernel)) (by decide +kernel)
theorem im_X11_fog : Cond.instanceMethod yX11_fog ∈ am_gt := am_gt_in (List.mem_of_getElem? (i := 955) (by decide +kernel)) (by decide +kernel)
theorem im_X11_foot : Cond.instanceMethod yX11_foot ∈ am_gt := am_gt_in (List.mem_of_getElem? (i := 924) (by decide +kernel)) (by decide +kernel)
theorem im_X11_force : Cond.instanceMethod yX11_force ∈ am_gt := am_gt_in (List.mem_of_getElem? (i := 777) (by decide +kernel)) (by decide +kernel)
theorem im_X11_heir : Cond.instanceMethod yX11_heir ∈ am_gt := am_gt_in (List.mem_of_getElem? (i := 889) (by decide +kernel)) (by decide +kernel)
theorem im_X11_ill : Cond.instanceMethod yX11_ill ∈ am_gt := am_gt_in (List.mem_of_getElem? (i := 646) (by decide +kernel)) (by decide +kernel)
theorem im_X11_image : Cond.instanceMethod yX11_image ∈ am_gt := am_gt_in (List.mem_of_getElem? (i := 988) (by decide +kernel)) (by decide +kernel)
theorem im_X11_judge : Cond.instanceMethod yX11_judge ∈ am_gt := am_gt_in (List.mem_of_getElem? (i := 880) (by decide +kernel)) (by decide +kernel)
theorem im_X11_load : Cond.instanceMethod yX11_load ∈ am_gt := am_gt_in (List.mem_of_getElem? (i := 781) (by decide +kernel)) (by decide +kernel)
theorem im_X11_lost : Cond.instanceMethod yX11_lost ∈ am_gt := am_gt_in (List.mem_of_getElem? (i := 939) (by decide +kernel)) (by decide +kernel)
theorem im_X11_open : Cond.instanceMethod yX11_open ∈ am_gt := am_gt_in (List.mem_of_getElem? (i := 905) (by decide +kernel)) (by decide +kernel)
theorem im_X11_path : Cond.instanceMethod yX11_path ∈ am_gt := am_gt_in (List.mem_of_getElem? (i := 913) (by decide +kernel)) (by decide +kernel)
theorem im_X11_rowed : Cond.instanceMethod yX11_rowed ∈ am_gt := am_gt_in (List.mem_of_getElem? (i := 871) (by decide +kernel)) (by decide +kernel)
theorem im_X11_rowers : Cond.instanceMethod yX11_rowers ∈ am_gt := am_gt_in (List.mem_of_getElem? (i := 1078) (by decide +kernel)) (by decide +kernel)
theorem im_X11_set : Cond.instanceMethod yX11_set ∈ am_gt := am_gt_in (List.mem_of_getElem? (i := 485) (by decide +kernel)) (by decide +kernel)
theorem im_X11_shares : Cond.instanceMethod yX11_shares ∈ am_gt := am_gt_in (List.mem_of_getElem? (i := 977) (by decide +kernel)) (by decide +kernel)
theorem im_X11_sheet : Cond.instanceMethod yX11_sheet ∈ am_gt := am_gt_in (List.mem_of_getElem? (i := 1051) (by decide +kernel)) (by decide +kernel)
theorem im_X11_taken : Cond.instanceMethod yX11_taken ∈ am_gt := am_gt_in (List.mem_of_getElem? (i := 1083) (by decide +kernel)) (by decide +kernel)
theorem im_X11_takes : Cond.instanceMethod yX11_takes ∈ am_gt := am_gt_in (List.mem_of_getElem? (i := 795) (by decide +kernel)) (by decide +kernel)
theorem im_X11_text : Cond.instanceMethod yX11_text ∈ am_gt := am_gt_in (List.mem_of_getElem? (i := 773) (by decide +kernel)) (by decide +kernel)
theorem im_X11_told : Cond.instanceMethod yX11_told ∈ am_gt := am_gt_in (List.mem_of_getElem? (i := 650) (by decide +kernel)) (by decide +kernel)
theorem im_X11_waits : Cond.instanceMethod yX11_waits ∈ am_gt := am_gt_in (List.mem_of_getElem? (i := 799) (by decide +kernel)) (by decide +kernel)
theorem im_X12_back : Cond.instanceMethod yX12_back ∈ am_gt := am_gt_in (List.mem_of_getElem? (i := 1563) (by decide +kernel)) (by decide +kernel)
theorem im_X12_box : Cond.instanceMethod yX12_box ∈ am_gt := am_gt_in (List.mem_of_getElem? (i := 1541) (by decide +kernel)) (by decide +kernel)
theorem im_X12_bridge : Cond.instanceMethod yX12_bridge ∈ am_gt := am_gt_in (List.mem_of_getElem? (i := 1554) (by decide +kernel)) (by decide +kernel)
theorem im_X12_cell : Cond.instanceMethod yX12_cell ∈ am_gt := am_gt_in (List.mem_of_getElem? (i := 1575) (by decide +kernel)) (by decide +kernel)
theorem im_X12_copy : Cond.instanceMethod yX12_copy ∈ am_gt := am_gt_in (List.mem_of_getElem? (i := 1579) (by decide +kernel)) (by decide +kernel)
theorem im_X12_count : Cond.instanceMethod yX12_count ∈ am_gt := am_gt_in (List.mem_of_getElem? (i := 1567) (by decide +kernel)) (by decide +kernel)
theorem im_X12_crossing : Cond.instanceMethod yX12_crossing ∈ am_gt := am_gt_in (List.mem_of_getElem? (i := 1283) (by decide +kernel)) (by decide +kernel)
theorem im_X12_feed : Cond.instanceMethod yX12_feed ∈ am_gt := am_gt_in (List.mem_of_getElem? (i := 1429) (by decide +kernel)) (by decide +kernel)
theorem im_X12_fog : Cond.instanceMethod yX12_fog ∈ am_gt := am_gt_in (List.mem_of_getElem? (i := 1527) (by decide +kernel)) (by decide +kernel)
theorem im_X12_foot : Cond.instanceMethod yX12_foot ∈ am_gt := am_gt_in (List.mem_of_getElem? (i := 1515) (by decide +kernel)) (by decide +kernel)
theorem im_X12_force : Cond.instanceMethod yX12_force ∈ am_gt := am_gt_in (List.mem_of_getElem? (i := 1438) (by decide +kernel)) (by decide +kernel)
theorem im_X12_heir : Cond.instanceMethod yX12_heir ∈ am_gt := am_gt_in (List.mem_of_getElem? (i := 1497) (by decide +kernel)) (by decide +kernel)
theorem im_X12_ill : Cond.instanceMethod yX12_ill ∈ am_gt := am_gt_in (List.mem_of_getElem? (i := 1316) (by decide +kernel)) (by decide +kernel)
theorem im_X12_image : Cond.instanceMethod yX12_image ∈ am_gt := am_gt_in (List.mem_of_getElem? (i := 1559) (by decide +kernel)) (by decide +kernel)
theorem im_X12_judge : Cond.instanceMethod yX12_judge ∈ am_gt := am_gt_in (List.mem_of_getElem? (i := 1491) (by decide +kernel)) (by decide +kernel)
theorem im_X12_load : Cond.instanceMethod yX12_load ∈ am_gt := am_gt_in (List.mem_of_getElem? (i := 1442) (by decide +kernel)) (by decide +kernel)
theorem im_X12_lost : Cond.instanceMethod yX12_lost ∈ am_gt := am_gt_in (List.mem_of_getElem? (i := 1523) (by decide +kernel)) (by decide +kernel)
theorem im_X12_open : Cond.instanceMethod yX12_open ∈ am_gt := am_gt_in (List.mem_of_getElem? (i := 1505) (by decide +kernel)) (by decide +kernel)
theorem im_X12_path : Cond.instanceMethod yX12_path ∈ am_gt := am_gt_in (List.mem_of_getElem? (i := 1511) (by decide +kernel)) (by decide +kernel)
theorem im_X12_rowers : Cond.instanceMethod yX12_rowers ∈ am_gt := am_gt_in (List.mem_of_getElem? (i := 1583) (by decide +kernel)) (by decide +kernel)
theorem im_X12_set : Cond.instanceMethod yX12_set ∈ am_gt := am_gt_in (List.mem_of_getElem? (i := 1295) (by decide +kernel)) (by decide +kernel)
theorem im_X12_shares : Cond.instanceMethod yX12_shares ∈ am_gt := am_gt_in (List.mem_of_getElem? (i := 1550) (by decide +kernel)) (by decide +kernel)
theorem im_X12_sheet : Cond.instanceMethod yX12_sheet ∈ am_gt := am_gt_in (List.mem_of_getElem? (i := 1571) (by decide +kernel)) (by decide +kernel)
theorem im_X12_taken : Cond.instanceMethod yX12_taken ∈ am_gt := am_gt_in (List.mem_of_getElem? (i := 1589) (by decide +kernel)) (by decide +kernel)
theorem im_X12_takes : Cond.instanceMethod yX12_takes ∈ am_gt := am_gt_in (List.mem_of_getElem? (i := 1453) (by decide +kernel)) (by decide +kernel)
theorem im_X12_text : Cond.instanceMethod yX12_text ∈ am_gt := am_gt_in (List.mem_of_getElem? (i := 1434) (by decide +kernel)) (by decide +kernel)
theorem im_X12_told : Cond.instanceMethod yX12_told ∈ am_gt := am_gt_in (List.mem_of_getElem? (i := 1320) (by decide +kernel)) (by decide +kernel)
theorem im_X12_turn : Cond.instanceMethod yX12_turn ∈ am_gt := am_gt_in (List.mem_of_getElem? (i := 1475) (by decide +kernel)) (by decide +kernel)
theorem im_X12_waits : Cond.instanceMethod yX12_waits ∈ am_gt := am_gt_in (List.mem_of_getElem? (i := 1457) (by decide +kernel)) (by decide +kernel)
theorem kl_RL_35 : Cond.constantLong RL 35 (4294967295 : Int64) ∈ am_gt := am_gt_in (List.mem_of_getElem? (i := 1595) (by decide +kernel)) (by decide +kernel)
theorem ml_RL_100 : Cond.methodLink RL 100 yX12_fog ∈ am_gt := am_gt_in (List.mem_of_getElem? (i := 1526) (by decide +kernel)) (by decide +kernel)
theorem ml_RL_101 : Cond.methodLink RL 101 yX11_box ∈ am_gt := am_gt_in (List.mem_of_getElem? (i := 967) (by decide +kernel)) (by decide +kernel)
theorem ml_RL_104 : Cond.methodLink RL 104 yX12_box ∈ am_gt := am_gt_in (List.mem_of_getElem? (i := 1540) (by decide +kernel)) (by decide +kernel)
theorem ml_RL_105 : Cond.methodLink RL 105 yX11_shares ∈ am_gt := am_gt_in (List.mem_of_getElem? (i := 976) (by decide +kernel)) (by decide +kernel)
theorem ml_RL_108 : Cond.methodLink RL 108 yX12_shares ∈ am_gt := am_gt_in (List.mem_of_getElem? (i := 1549) (by decide +kernel)) (by decide +kernel)
theorem ml_RL_109 : Cond.methodLink RL 109 yX11_bridge ∈ am_gt := am_gt_in (List.mem_of_getElem? (i := 983) (by decide +kernel)) (by decide +kernel)
theorem ml_RL_112 : Cond.methodLink RL 112 yX12_bridge ∈ am_gt := am_gt_in (List.mem_of_getElem? (i := 1553) (by decide +kernel)) (by decide +kernel)
theorem ml_RL_113 : Cond.methodLink RL 113 yX11_image ∈ am_gt := am_gt_in (List.mem_of_getElem? (i := 987) (by decide +kernel)) (by decide +kernel)
theorem ml_RL_116 : Cond.methodLink RL 116 yX12_image ∈ am_gt := am_gt_in (List.mem_of_getElem? (i := 1558) (by decide +kernel)) (by decide +kernel)
theorem ml_RL_117 : Cond.methodLink RL 117 yX11_back ∈ am_gt := am_gt_in (List.mem_of_getElem? (i := 1012) (by decide +kernel)) (by decide +kernel)
theorem ml_RL_120 : Cond.methodLink RL 120 yX12_back ∈ am_gt := am_gt_in (List.mem_of_getElem? (i := 1562) (by decide +kernel)) (by decide +kernel)
theorem ml_RL_121 : Cond.methodLink RL 121 yX11_count ∈ am_gt := am_gt_in (List.mem_of_getElem? (i := 1034) (by decide +kernel)) (by decide +kernel)
theorem ml_RL_124 : Cond.methodLink RL 124 yX12_count ∈ am_gt := am_gt_in (List.mem_of_getElem? (i := 1566) (by decide +kernel)) (by decide +kernel)
theorem ml_RL_125 : Cond.methodLink RL 125 yX11_sheet ∈ am_gt := am_gt_in (List.mem_of_getElem? (i := 1050) (by decide +kernel)) (by decide +kernel)
theorem ml_RL_128 : Cond.methodLink RL 128 yX12_sheet ∈ am_gt := am_gt_in (List.mem_of_getElem? (i := 1570) (by decide +kernel)) (by decide +kernel)
theorem ml_RL_129 : Cond.methodLink RL 129 yX11_cell ∈ am_gt := am_gt_in (List.mem_of_getElem? (i := 1063) (by decide +kernel)) (by decide +kernel)
theorem ml_RL_13 : Cond.methodLink RL 13 yX11_crossing ∈ am_gt := am_gt_in (List.mem_of_getElem? (i := 445) (by decide +kernel)) (by decide +kernel)
theorem ml_RL_132 : Cond.methodLink RL 132 yX12_cell ∈ am_gt := am_gt_in (List.mem_of_getElem? (i := 1574) (by decide +kernel)) (by decide +kernel)
theorem ml_RL_133 : Cond.methodLink RL 133 yX11_copy ∈ am_gt := am_gt_in (List.mem_of_getElem? (i := 1071) (by decide +kernel)) (by decide +kernel)
theorem ml_RL_137 : Cond.methodLink RL 137 yX12_copy ∈ am_gt := am_gt_in (List.mem_of_getElem? (i := 1578) (by decide +kernel)) (by decide +kernel)
theorem ml_RL_138 : Cond.methodLink RL 138 yX11_rowers ∈ am_gt := am_gt_in (List.mem_of_getElem? (i := 1077) (by decide +kernel)) (by decide +kernel)
theorem ml_RL_141 : Cond.methodLink RL 141 yX12_rowers ∈ am_gt := am_gt_in (List.mem_of_getElem? (i := 1582) (by decide +kernel)) (by decide +kernel)
theorem ml_RL_142 : Cond.methodLink RL 142 yX11_taken ∈ am_gt := am_gt_in (List.mem_of_getElem? (i := 1082) (by decide +kernel)) (by decide +kernel)
theorem ml_RL_145 : Cond.methodLink RL 145 yX12_taken ∈ am_gt := am_gt_in (List.mem_of_getElem? (i := 1588) (by decide +kernel)) (by decide +kernel)
theorem ml_RL_17 : Cond.methodLink RL 17 yX12_crossing ∈ am_gt := am_gt_in (List.mem_of_getElem? (i := 1282) (by decide +kernel)) (by decide +kernel)
theorem ml_RL_18 : Cond.methodLink RL 18 yX11_set ∈ am_gt := am_gt_in (List.mem_of_getElem? (i := 484) (by decide +kernel)) (by decide +kernel)
theorem ml_RL_21 : Cond.methodLink RL 21 yX12_set ∈ am_gt := am_gt_in (List.mem_of_getElem? (i := 1294) (by decide +kernel)) (by decide +kernel)
theorem ml_RL_22 : Cond.methodLink RL 22 yX11_rower ∈ am_gt := am_gt_in (List.mem_of_getElem? (i := 506) (by decide +kernel)) (by decide +kernel)
theorem ml_RL_26 : Cond.methodLink RL 26 yX12_rower ∈ am_gt := am_gt_in (List.mem_of_getElem? (i := 1304) (by decide +kernel)) (by decide +kernel)
theorem ml_RL_27 : Cond.methodLink RL 27 yX11_ill ∈ am_gt := am_gt_in (List.mem_of_getElem? (i := 645) (by decide +kernel)) (by decide +kernel)
theorem ml_RL_30 : Cond.methodLink RL 30 yX12_ill ∈ am_gt := am_gt_in (List.mem_of_getElem? (i := 1315) (by decide +kernel)) (by decide +kernel)
theorem ml_RL_31 : Cond.methodLink RL 31 yX11_told ∈ am_gt := am_gt_in (List.mem_of_getElem? (i := 649) (by decide +kernel)) (by decide +kernel)
theorem ml_RL_34 : Cond.methodLink RL 34 yX12_told ∈ am_gt := am_gt_in (List.mem_of_getElem? (i := 1319) (by decide +kernel)) (by decide +kernel)
theorem ml_RL_37 : Cond.methodLink RL 37 yX11_feed ∈ am_gt := am_gt_in (List.mem_of_getElem? (i := 767) (by decide +kernel)) (by decide +kernel)
theorem ml_RL_41 : Cond.methodLink RL 41 yX12_feed ∈ am_gt := am_gt_in (List.mem_of_getElem? (i := 1428) (by decide +kernel)) (by decide +kernel)
theorem ml_RL_42 : Cond.methodLink RL 42 yX11_text ∈ am_gt := am_gt_in (List.mem_of_getElem? (i := 772) (by decide +kernel)) (by decide +kernel)
theorem ml_RL_46 : Cond.methodLink RL 46 yX12_text ∈ am_gt := am_gt_in (List.mem_of_getElem? (i := 1433) (by decide +kernel)) (by decide +kernel)
theorem ml_RL_47 : Cond.methodLink RL 47 yX11_force ∈ am_gt := am_gt_in (List.mem_of_getElem? (i := 776) (by decide +kernel)) (by decide +kernel)
theorem ml_RL_51 : Cond.methodLink RL 51 yX12_force ∈ am_gt := am_gt_in (List.mem_of_getElem? (i := 1437) (by decide +kernel)) (by decide +kernel)
theorem ml_RL_52 : Cond.methodLink RL 52 yX11_load ∈ am_gt := am_gt_in (List.mem_of_getElem? (i := 780) (by decide +kernel)) (by decide +kernel)
theorem ml_RL_55 : Cond.methodLink RL 55 yX12_load ∈ am_gt := am_gt_in (List.mem_of_getElem? (i := 1441) (by decide +kernel)) (by decide +kernel)
theorem ml_RL_56 : Cond.methodLink RL 56 yX11_takes ∈ am_gt := am_gt_in (List.mem_of_getElem? (i := 794) (by decide +kernel)) (by decide +kernel)
theorem ml_RL_59 : Cond.methodLink RL 59 yX12_takes ∈ am_gt := am_gt_in (List.mem_of_getElem? (i := 1452) (by decide +kernel)) (by decide +kernel)
theorem ml_RL_60 : Cond.methodLink RL 60 yX11_waits ∈ am_gt := am_gt_in (List.mem_of_getElem? (i := 798) (by decide +kernel)) (by decide +kernel)
theorem ml_RL_64 : Cond.methodLink RL 64 yX12_waits ∈ am_gt := am_gt_in (List.mem_of_getElem? (i := 1456) (by decide +kernel)) (by decide +kernel)
theorem ml_RL_65 : Cond.methodLink RL 65 yX11_turn ∈ am_gt := am_gt_in (List.mem_of_getElem? (i := 850) (by decide +kernel)) (by decide +kernel)
theorem ml_RL_68 : Cond.methodLink RL 68 yX12_turn ∈ am_gt := am_gt_in (List.mem_of_getElem? (i := 1474) (by decide +kernel)) (by decide +kernel)
theorem ml_RL_69 : Cond.methodLink RL 69 yX11_rowed ∈ am_gt := am_gt_in (List.mem_of_getElem? (i := 870) (by decide +kernel)) (by decide +kernel)
theorem ml_RL_72 : Cond.methodLink RL 72 yX12_rowed ∈ am_gt := am_gt_in (List.mem_of_getElem? (i := 1486) (by decide +kernel)) (by decide +kernel)
theorem ml_RL_73 : Cond.methodLink RL 73 yX11_judge ∈ am_gt := am_gt_in (List.mem_of_getElem? (i := 879) (by decide +kernel)) (by decide +kernel)
theorem ml_RL_76 : Cond.methodLink RL 76 yX12_judge ∈ am_gt := am_gt_in (List.mem_of_getElem? (i := 1490) (by decide +kernel)) (by decide +kernel)
theorem ml_RL_77 : Cond.methodLink RL 77 yX11_heir ∈ am_gt := am_gt_in (List.mem_of_getElem? (i := 888) (by decide +kernel)) (by decide +kernel)
theorem ml_RL_80 : Cond.methodLink RL 80 yX12_heir ∈ am_gt := am_gt_in (List.mem_of_getElem? (i := 1496) (by decide +kernel)) (by decide +kernel)
theorem ml_RL_81 : Cond.methodLink RL 81 yX11_open ∈ am_gt := am_gt_in (List.mem_of_getElem? (i := 904) (by decide +kernel)) (by decide +kernel)
theorem ml_RL_84 : Cond.methodLink RL 84 yX12_open ∈ am_gt := am_gt_in (List.mem_of_getElem? (i := 1504) (by decide +kernel)) (by decide +kernel)
theorem ml_RL_85 : Cond.methodLink RL 85 yX11_path ∈ am_gt := am_gt_in (List.mem_of_getElem? (i := 912) (by decide +kernel)) (by decide +kernel)
theorem ml_RL_88 : Cond.methodLink RL 88 yX12_path ∈ am_gt := am_gt_in (List.mem_of_getElem? (i := 1510) (by decide +kernel)) (by decide +kernel)
theorem ml_RL_89 : Cond.methodLink RL 89 yX11_foot ∈ am_gt := am_gt_in (List.mem_of_getElem? (i := 923) (by decide +kernel)) (by decide +kernel)
theorem ml_RL_92 : Cond.methodLink RL 92 yX12_foot ∈ am_gt := am_gt_in (List.mem_of_getElem? (i := 1514) (by decide +kernel)) (by decide +kernel)
theorem ml_RL_93 : Cond.methodLink RL 93 yX11_lost ∈ am_gt := am_gt_in (List.mem_of_getElem? (i := 938) (by decide +kernel)) (by decide +kernel)
theorem ml_RL_96 : Cond.methodLink RL 96 yX12_lost ∈ am_gt := am_gt_in (List.mem_of_getElem? (i := 1522) (by decide +kernel)) (by decide +kernel)
theorem ml_RL_97 : Cond.methodLink RL 97 yX11_fog ∈ am_gt := am_gt_in (List.mem_of_getElem? (i := 954) (by decide +kernel)) (by decide +kernel)
theorem np_X11_back : am_np yX11_back.desc 0 := by decide +kernel
theorem np_X11_box : am_np yX11_box.desc 4 := by decide +kernel
theorem np_X11_bridge : am_np yX11_bridge.desc 2 := by decide +kernel
theorem np_X11_cell : am_np yX11_cell.desc 3 := by decide +kernel
theorem np_X11_copy : am_np yX11_copy.desc 5 := by decide +kernel
theorem np_X11_count : am_np yX11_count.desc 1 := by decide +kernel
theorem np_X11_crossing : am_np yX11_crossing.desc 2 := by decide +kernel
theorem np_X11_feed : am_np yX11_feed.desc 2 := by decide +kernel
theorem np_X11_fog : am_np yX11_fog.desc 4 := by decide +kernel
theorem np_X11_foot : am_np yX11_foot.desc 1 := by decide +kernel
theorem np_X11_force : am_np yX11_force.desc 1 := by decide +kernel
theorem np_X11_heir : am_np yX11_heir.desc 2 := by decide +kernel
theorem np_X11_ill : am_np yX11_ill.desc 2 := by decide +kernel
theorem np_X11_image : am_np yX11_image.desc 0 := by decide +kernel
theorem np_X11_judge : am_np yX11_judge.desc 2 := by decide +kernel
theorem np_X11_load : am_np yX11_load.desc 3 := by decide +kernel
theorem np_X11_lost : am_np yX11_lost.desc 1 := by decide +kernel
theorem np_X11_open : am_np yX11_open.desc 2 := by decide +kernel
theorem np_X11_path : am_np yX11_path.desc 2 := by decide +kernel
theorem np_X11_rowed : am_np yX11_rowed.desc 2 := by decide +kernel
theorem np_X11_rowers : am_np yX11_rowers.desc 4 := by decide +kernel
theorem np_X11_set : am_np yX11_set.desc 2 := by decide +kernel
theorem np_X11_shares : am_np yX11_shares.desc 3 := by decide +kernel
theorem np_X11_sheet : am_np yX11_sheet.desc 3 := by decide +kernel
theorem np_X11_taken : am_np yX11_taken.desc 2 := by decide +kernel
theorem np_X11_takes : am_np yX11_takes.desc 2 := by decide +kernel
theorem np_X11_text : am_np yX11_text.desc 0 := by decide +kernel
theorem np_X11_told : am_np yX11_told.desc 3 := by decide +kernel
theorem np_X11_waits : am_np yX11_waits.desc 4 := by decide +kernel
theorem np_X12_back : am_np yX12_back.desc 0 := by decide +kernel
theorem np_X12_box : am_np yX12_box.desc 4 := by decide +kernel
theorem np_X12_bridge : am_np yX12_bridge.desc 2 := by decide +kernel
theorem np_X12_cell : am_np yX12_cell.desc 3 := by decide +kernel
theorem np_X12_copy : am_np yX12_copy.desc 5 := by decide +kernel
theorem np_X12_count : am_np yX12_count.desc 1 := by decide +kernel
theorem np_X12_crossing : am_np yX12_crossing.desc 2 := by decide +kernel
theorem np_X12_feed : am_np yX12_feed.desc 2 := by decide +kernel
theorem np_X12_fog : am_np yX12_fog.desc 4 := by decide +kernel
theorem np_X12_foot : am_np yX12_foot.desc 1 := by decide +kernel
theorem np_X12_force : am_np yX12_force.desc 1 := by decide +kernel
theorem np_X12_heir : am_np yX12_heir.desc 2 := by decide +kernel
theorem np_X12_ill : am_np yX12_ill.desc 2 := by decide +kernel
theorem np_X12_image : am_np yX12_image.desc 0 := by decide +kernel
theorem np_X12_judge : am_np yX12_judge.desc 2 := by decide +kernel
theorem np_X12_load : am_np yX12_load.desc 3 := by decide +kernel
theorem np_X12_lost : am_np yX12_lost.desc 1 := by decide +kernel
theorem np_X12_open : am_np yX12_open.desc 2 := by decide +kernel
theorem np_X12_path : am_np yX12_path.desc 2 := by decide +kernel
theorem np_X12_rowers : am_np yX12_rowers.desc 4 := by decide +kernel
theorem np_X12_set : am_np yX12_set.desc 2 := by decide +kernel
theorem np_X12_shares : am_np yX12_shares.desc 3 := by decide +kernel
theorem np_X12_sheet : am_np yX12_sheet.desc 3 := by decide +kernel
theorem np_X12_taken : am_np yX12_taken.desc 2 := by decide +kernel
theorem np_X12_takes : am_np yX12_takes.desc 2 := by decide +kernel
theorem np_X12_text : am_np yX12_text.desc 0 := by decide +kernel
theorem np_X12_told : am_np yX12_told.desc 3 := by decide +kernel
theorem np_X12_turn : am_np yX12_turn.desc 2 := by decide +kernel
theorem np_X12_waits : am_np yX12_waits.desc 4 := by decide +kernel
theorem se_RX11_X11_back_X11_back : Cond.selects RX11 yX11_back yX11_back ∈ am_gt := am_gt_in (List.mem_of_getElem? (i := 1014) (by decide +kernel)) (by decide +kernel)
theorem se_RX11_X11_box_X11_box : Cond.selects RX11 yX11_box yX11_box ∈ am_gt := am_gt_in (List.mem_of_getElem? (i := 969) (by decide +kernel)) (by decide +kernel)
theorem se_RX11_X11_bridge_X11_bridge : Cond.selects RX11 yX11_bridge yX11_bridge ∈ am_gt := am_gt_in (List.mem_of_getElem? (i := 985) (by decide +kernel)) (by decide +kernel)
theorem se_RX11_X11_cell_X11_cell : Cond.selects RX11 yX11_cell yX11_cell ∈ am_gt := am_gt_in (List.mem_of_getElem? (i := 1065) (by decide +kernel)) (by decide +kernel)
theorem se_RX11_X11_copy_X11_copy : Cond.selects RX11 yX11_copy yX11_copy ∈ am_gt := am_gt_in (List.mem_of_getElem? (i := 1073) (by decide +kernel)) (by decide +kernel)
theorem se_RX11_X11_count_X11_count : Cond.selects RX11 yX11_count yX11_count ∈ am_gt := am_gt_in (List.mem_of_getElem? (i := 1036) (by decide +kernel)) (by decide +kernel)
theorem se_RX11_X11_crossing_X11_crossing : Cond.selects RX11 yX11_crossing yX11_crossing ∈ am_gt := am_gt_in (List.mem_of_getElem? (i := 447) (by decide +kernel)) (by decide +kernel)
theorem se_RX11_X11_feed_X11_feed : Cond.selects RX11 yX11_feed yX11_feed ∈ am_gt := am_gt_in (List.mem_of_getElem? (i := 769) (by decide +kernel)) (by decide +kernel)
theorem se_RX11_X11_fog_X11_fog : Cond.selects RX11 yX11_fog yX11_fog ∈ am_gt := am_gt_in (List.mem_of_getElem? (i := 956) (by decide +kernel)) (by decide +kernel)
theorem se_RX11_X11_foot_X11_foot : Cond.selects RX11 yX11_foot yX11_foot ∈ am_gt := am_gt_in (List.mem_of_getElem? (i := 925) (by decide +kernel)) (by decide +kernel)
theorem se_RX11_X11_force_X11_force : Cond.selects RX11 yX11_force yX11_force ∈ am_gt := am_gt_in (List.mem_of_getElem? (i := 778) (by decide +kernel)) (by decide +kernel)
theorem se_RX11_X11_heir_X11_heir : Cond.selects RX11 yX11_heir yX11_heir ∈ am_gt := am_gt_in (List.mem_of_getElem? (i := 890) (by decide +kernel)) (by decide +kernel)
theorem se_RX11_X11_ill_X11_ill : Cond.selects RX11 yX11_ill yX11_ill ∈ am_gt := am_gt_in (List.mem_of_getElem? (i := 647) (by decide +kernel)) (by decide +kernel)
theorem se_RX11_X11_image_X11_image : Cond.selects RX11 yX11_image yX11_image ∈ am_gt := am_gt_in (List.mem_of_getElem? (i := 989) (by decide +kernel)) (by decide +kernel)
theorem se_RX11_X11_judge_X11_judge : Cond.selects RX11 yX11_judge yX11_judge ∈ am_gt := am_gt_in (List.mem_of_getElem? (i := 881) (by decide +kernel)) (by decide +kernel)
theorem se_RX11_X11_load_X11_load : Cond.selects RX11 yX11_load yX11_load ∈ am_gt := am_gt_in (List.mem_of_getElem? (i := 782) (by decide +kernel)) (by decide +kernel)
theorem se_RX11_X11_lost_X11_lost : Cond.selects RX11 yX11_lost yX11_lost ∈ am_gt := am_gt_in (List.mem_of_getElem? (i := 940) (by decide +kernel)) (by decide +kernel)
theorem se_RX11_X11_open_X11_open : Cond.selects RX11 yX11_open yX11_open ∈ am_gt := am_gt_in (List.mem_of_getElem? (i := 906) (by decide +kernel)) (by decide +kernel)
theorem se_RX11_X11_path_X11_path : Cond.selects RX11 yX11_path yX11_path ∈ am_gt := am_gt_in (List.mem_of_getElem? (i := 914) (by decide +kernel)) (by decide +kernel)
theorem se_RX11_X11_rowed_X11_rowed : Cond.selects RX11 yX11_rowed yX11_rowed ∈ am_gt := am_gt_in (List.mem_of_getElem? (i := 872) (by decide +kernel)) (by decide +kernel)
theorem se_RX11_X11_rowers_X11_rowers : Cond.selects RX11 yX11_rowers yX11_rowers ∈ am_gt := am_gt_in (List.mem_of_getElem? (i := 1079) (by decide +kernel)) (by decide +kernel)
theorem se_RX11_X11_set_X11_set : Cond.selects RX11 yX11_set yX11_set ∈ am_gt := am_gt_in (List.mem_of_getElem? (i := 486) (by decide +kernel)) (by decide +kernel)
theorem se_RX11_X11_shares_X11_shares : Cond.selects RX11 yX11_shares yX11_shares ∈ am_gt := am_gt_in (List.mem_of_getElem? (i := 978) (by decide +kernel)) (by decide +kernel)
theorem se_RX11_X11_sheet_X11_sheet : Cond.selects RX11 yX11_sheet yX11_sheet ∈ am_gt := am_gt_in (List.mem_of_getElem? (i := 1052) (by decide +kernel)) (by decide +kernel)
theorem se_RX11_X11_taken_X11_taken : Cond.selects RX11 yX11_taken yX11_taken ∈ am_gt := am_gt_in (List.mem_of_getElem? (i := 1084) (by decide +kernel)) (by decide +kernel)
theorem se_RX11_X11_takes_X11_takes : Cond.selects RX11 yX11_takes yX11_takes ∈ am_gt := am_gt_in (List.mem_of_getElem? (i := 796) (by decide +kernel)) (by decide +kernel)
theorem se_RX11_X11_text_X11_text : Cond.selects RX11 yX11_text yX11_text ∈ am_gt := am_gt_in (List.mem_of_getElem? (i := 774) (by decide +kernel)) (by decide +kernel)
theorem se_RX11_X11_told_X11_told : Cond.selects RX11 yX11_told yX11_told ∈ am_gt := am_gt_in (List.mem_of_getElem? (i := 651) (by decide +kernel)) (by decide +kernel)
theorem se_RX11_X11_waits_X11_waits : Cond.selects RX11 yX11_waits yX11_waits ∈ am_gt := am_gt_in (List.mem_of_getElem? (i := 800) (by decide +kernel)) (by decide +kernel)
theorem se_RX12_X12_back_X12_back : Cond.selects RX12 yX12_back yX12_back ∈ am_gt := am_gt_in (List.mem_of_getElem? (i := 1564) (by decide +kernel)) (by decide +kernel)
theorem se_RX12_X12_box_X12_box : Cond.selects RX12 yX12_box yX12_box ∈ am_gt := am_gt_in (List.mem_of_getElem? (i := 1542) (by decide +kernel)) (by decide +kernel)
theorem se_RX12_X12_bridge_X12_bridge : Cond.selects RX12 yX12_bridge yX12_bridge ∈ am_gt := am_gt_in (List.mem_of_getElem? (i := 1555) (by decide +kernel)) (by decide +kernel)
theorem se_RX12_X12_cell_X12_cell : Cond.selects RX12 yX12_cell yX12_cell ∈ am_gt := am_gt_in (List.mem_of_getElem? (i := 1576) (by decide +kernel)) (by decide +kernel)
theorem se_RX12_X12_copy_X12_copy : Cond.selects RX12 yX12_copy yX12_copy ∈ am_gt := am_gt_in (List.mem_of_getElem? (i := 1580) (by decide +kernel)) (by decide +kernel)
theorem se_RX12_X12_count_X12_count : Cond.selects RX12 yX12_count yX12_count ∈ am_gt := am_gt_in (List.mem_of_getElem? (i := 1568) (by decide +kernel)) (by decide +kernel)
theorem se_RX12_X12_crossing_X12_crossing : Cond.selects RX12 yX12_crossing yX12_crossing ∈ am_gt := am_gt_in (List.mem_of_getElem? (i := 1284) (by decide +kernel)) (by decide +kernel)
theorem se_RX12_X12_feed_X12_feed : Cond.selects RX12 yX12_feed yX12_feed ∈ am_gt := am_gt_in (List.mem_of_getElem? (i := 1430) (by decide +kernel)) (by decide +kernel)
theorem se_RX12_X12_fog_X12_fog : Cond.selects RX12 yX12_fog yX12_fog ∈ am_gt := am_gt_in (List.mem_of_getElem? (i := 1528) (by decide +kernel)) (by decide +kernel)
theorem se_RX12_X12_foot_X12_foot : Cond.selects RX12 yX12_foot yX12_foot ∈ am_gt := am_gt_in (List.mem_of_getElem? (i := 1516) (by decide +kernel)) (by decide +kernel)
theorem se_RX12_X12_force_X12_force : Cond.selects RX12 yX12_force yX12_force ∈ am_gt := am_gt_in (List.mem_of_getElem? (i := 1439) (by decide +kernel)) (by decide +kernel)
theorem se_RX12_X12_heir_X12_heir : Cond.selects RX12 yX12_heir yX12_heir ∈ am_gt := am_gt_in (List.mem_of_getElem? (i := 1498) (by decide +kernel)) (by decide +kernel)
theorem se_RX12_X12_ill_X12_ill : Cond.selects RX12 yX12_ill yX12_ill ∈ am_gt := am_gt_in (List.mem_of_getElem? (i := 1317) (by decide +kernel)) (by decide +kernel)
theorem se_RX12_X12_image_X12_image : Cond.selects RX12 yX12_image yX12_image ∈ am_gt := am_gt_in (List.mem_of_getElem? (i := 1560) (by decide +kernel)) (by decide +kernel)
theorem se_RX12_X12_judge_X12_judge : Cond.selects RX12 yX12_judge yX12_judge ∈ am_gt := am_gt_in (List.mem_of_getElem? (i := 1492) (by decide +kernel)) (by decide +kernel)
theorem se_RX12_X12_load_X12_load : Cond.selects RX12 yX12_load yX12_load ∈ am_gt := am_gt_in (List.mem_of_getElem? (i := 1443) (by decide +kernel)) (by decide +kernel)
theorem se_RX12_X12_lost_X12_lost : Cond.selects RX12 yX12_lost yX12_lost ∈ am_gt := am_gt_in (List.mem_of_getElem? (i := 1524) (by decide +kernel)) (by decide +kernel)
theorem se_RX12_X12_open_X12_open : Cond.selects RX12 yX12_open yX12_open ∈ am_gt := am_gt_in (List.mem_of_getElem? (i := 1506) (by decide +kernel)) (by decide +kernel)
theorem se_RX12_X12_path_X12_path : Cond.selects RX12 yX12_path yX12_path ∈ am_gt := am_gt_in (List.mem_of_getElem? (i := 1512) (by decide +kernel)) (by decide +kernel)
theorem se_RX12_X12_rowers_X12_rowers : Cond.selects RX12 yX12_rowers yX12_rowers ∈ am_gt := am_gt_in (List.mem_of_getElem? (i := 1584) (by decide +kernel)) (by decide +kernel)
theorem se_RX12_X12_set_X12_set : Cond.selects RX12 yX12_set yX12_set ∈ am_gt := am_gt_in (List.mem_of_getElem? (i := 1296) (by decide +kernel)) (by decide +kernel)
theorem se_RX12_X12_shares_X12_shares : Cond.selects RX12 yX12_shares yX12_shares ∈ am_gt := am_gt_in (List.mem_of_getElem? (i := 1551) (by decide +kernel)) (by decide +kernel)
theorem se_RX12_X12_sheet_X12_sheet : Cond.selects RX12 yX12_sheet yX12_sheet ∈ am_gt := am_gt_in (List.mem_of_getElem? (i := 1572) (by decide +kernel)) (by decide +kernel)
theorem se_RX12_X12_taken_X12_taken : Cond.selects RX12 yX12_taken yX12_taken ∈ am_gt := am_gt_in (List.mem_of_getElem? (i := 1590) (by decide +kernel)) (by decide +kernel)
theorem se_RX12_X12_takes_X12_takes : Cond.selects RX12 yX12_takes yX12_takes ∈ am_gt := am_gt_in (List.mem_of_getElem? (i := 1454) (by decide +kernel)) (by decide +kernel)
theorem se_RX12_X12_text_X12_text : Cond.selects RX12 yX12_text yX12_text ∈ am_gt := am_gt_in (List.mem_of_getElem? (i := 1435) (by decide +kernel)) (by decide +kernel)
theorem se_RX12_X12_told_X12_told : Cond.selects RX12 yX12_told yX12_told ∈ am_gt := am_gt_in (List.mem_of_getElem? (i := 1321) (by decide +kernel)) (by decide +kernel)
theorem se_RX12_X12_turn_X12_turn : Cond.selects RX12 yX12_turn yX12_turn ∈ am_gt := am_gt_in (List.mem_of_getElem? (i := 1476) (by decide +kernel)) (by decide +kernel)
theorem se_RX12_X12_waits_X12_waits : Cond.selects RX12 yX12_waits yX12_waits ∈ am_gt := am_gt_in (List.mem_of_getElem? (i := 1458) (by decide +kernel)) (by decide +kernel)
abbrev YL_law : am_Y := (yL_law, code, 4, some .boolean)
theorem kp_CM : am_kp msC msM := by
  have e : msM = msC ++ msM.drop 36 := rfl
  intro k m h
  refine ⟨m, ?_, am_le.rf m⟩
  rw [e, List.getElem?_append_left (List.getElem?_eq_some_iff.mp h).1]
  exact h
theorem am_law6 {x : Int32} {L : Nat} (hL : L ≤ 3072) (h0 : 0 ≤ x) (h : ¬ Int32.ofNat L - (6 : Int32) < x) : 0 ≤ x + (6 : Int32) ∧ x.toNatClampNeg + 6 ≤ 3072 ∧ (x + (6 : Int32)).toNatClampNeg ≤ 4000 ∧ (x + (6 : Int32)).toNatClampNeg = x.toNatClampNeg + 6 := by
  obtain ⟨j, hj, rfl⟩ := nI_of (Int32.not_lt.mpr h0)
  have h1 : (Int32.ofNat L - (6 : Int32)).toInt = (L : Int) - 6 := pk_sub_toInt (a := L) (b := 6) (by omega) (by omega)
  have h2 := Int32.le_iff_toInt_le.mp (Int32.not_lt.mp h)
  rw [h1, nI_toInt hj] at h2
  have e : nI j + (6 : Int32) = nI (j + 6) := nI_add j 6
  rw [e, nI_clamp hj, nI_clamp (by omega)]
  exact ⟨nI_pos' (by omega), by omega, by omega, rfl⟩
def fL_law_L18 (E : am_E) (N : Nat) : Nat → Int32 → am_S → Option (Bool × am_S)
  | 0, _, _ => none
  | n + 1, x3, σ => if (Int32.ofNat (eL E)) - (6 : Int32) < x3 then (some (true, σ)) else (if am_in x3 (eL E) = true then (if (eS E x3.toNatClampNeg) &&& (31 : Int32) = (0 : Int32) then (if am_in (x3 + (1 : Int32)) (eL E) = true then (if am_in (x3 + (2 : Int32)) (eL E) = true then ((f11_crossing σ (eS E (x3 + (1 : Int32)).toNatClampNeg) (eS E (x3 + (2 : Int32)).toNatClampNeg)).bind fun (v6, s7) => (if am_in (x3 + (1 : Int32)) (eL E) = true then (if am_in (x3 + (2 : Int32)) (eL E) = true then ((f12_crossing s7 (eS E (x3 + (1 : Int32)).toNatClampNeg) (eS E (x3 + (2 : Int32)).toNatClampNeg)).bind fun (v11, s12) => (if v6 = v11 then (fL_law_L18 E N n (x3 + (6 : Int32)) s12) else (some (false, s12)))) else none) else none)) else none) else none) else (if (eS E x3.toNatClampNeg) &&& (31 : Int32) = (1 : Int32) then (if am_in (x3 + (1 : Int32)) (eL E) = true then (if am_in (x3 + (2 : Int32)) (eL E) = true then ((f11_set σ (eS E (x3 + (1 : Int32)).toNatClampNeg) (eS E (x3 + (2 : Int32)).toNatClampNeg)).bind fun (v18, s19) => (if am_in (x3 + (1 : Int32)) (eL E) = true then (if am_in (x3 + (2 : Int32)) (eL E) = true then ((f12_set s19 (eS E (x3 + (1 : Int32)).toNatClampNeg) (eS E (x3 + (2 : Int32)).toNatClampNeg)).bind fun (v23, s24) => (if v18 = v23 then (fL_law_L18 E N n (x3 + (6 : Int32)) s24) else (some (false, s24)))) else none) else none)) else none) else none) else (if (eS E x3.toNatClampNeg) &&& (31 : Int32) = (2 : Int32) then (if am_in (x3 + (1 : Int32)) (eL E) = true then (if am_in (x3 + (2 : Int32)) (eL E) = true then (if am_in (x3 + (3 : Int32)) (eL E) = true then ((f11_rower σ (eS E (x3 + (1 : Int32)).toNatClampNeg) (eS E (x3 + (2 : Int32)).toNatClampNeg) (eS E (x3 + (3 : Int32)).toNatClampNeg)).bind fun (v31, s32) => (if am_in (x3 + (1 : Int32)) (eL E) = true then (if am_in (x3 + (2 : Int32)) (eL E) = true then (if am_in (x3 + (3 : Int32)) (eL E) = true then ((f12_rower s32 (eS E (x3 + (1 : Int32)).toNatClampNeg) (eS E (x3 + (2 : Int32)).toNatClampNeg) (eS E (x3 + (3 : Int32)).toNatClampNeg)).bind fun (v37, s38) => (if v31 = v37 then (fL_law_L18 E N n (x3 + (6 : Int32)) s38) else (some (false, s38)))) else none) else none) else none)) else none) else none) else none) else (if (eS E x3.toNatClampNeg) &&& (31 : Int32) = (3 : Int32) then (if am_in (x3 + (1 : Int32)) (eL E) = true then (if am_in (x3 + (2 : Int32)) (eL E) = true then ((f11_ill σ (eS E (x3 + (1 : Int32)).toNatClampNeg) (eS E (x3 + (2 : Int32)).toNatClampNeg)).bind fun (v44, s45) => (if am_in (x3 + (1 : Int32)) (eL E) = true then (if am_in (x3 + (2 : Int32)) (eL E) = true then ((f12_ill s45 (eS E (x3 + (1 : Int32)).toNatClampNeg) (eS E (x3 + (2 : Int32)).toNatClampNeg)).bind fun (v49, s50) => (if v44 = v49 then (fL_law_L18 E N n (x3 + (6 : Int32)) s50) else (some (false, s50)))) else none) else none)) else none) else none) else (if (eS E x3.toNatClampNeg) &&& (31 : Int32) = (4 : Int32) then (if am_in (x3 + (1 : Int32)) (eL E) = true then (if am_in (x3 + (2 : Int32)) (eL E) = true then (if am_in (x3 + (3 : Int32)) (eL E) = true then ((f11_told N σ (eS E (x3 + (1 : Int32)).toNatClampNeg) (eS E (x3 + (2 : Int32)).toNatClampNeg) (eS E (x3 + (3 : Int32)).toNatClampNeg)).bind fun (v57, s58) => (if am_in (x3 + (1 : Int32)) (eL E) = true then (if am_in (x3 + (2 : Int32)) (eL E) = true then (if am_in (x3 + (3 : Int32)) (eL E) = true then ((f12_told N s58 (eS E (x3 + (1 : Int32)).toNatClampNeg) (eS E (x3 + (2 : Int32)).toNatClampNeg) (eS E (x3 + (3 : Int32)).toNatClampNeg)).bind fun (v63, s64) => (if v57 = v63 then (fL_law_L18 E N n (x3 + (6 : Int32)) s64) else (some (false, s64)))) else none) else none) else none)) else none) else none) else none) else (if (eS E x3.toNatClampNeg) &&& (31 : Int32) = (5 : Int32) then (if am_in (x3 + (1 : Int32)) (eL E) = true then (if am_in (x3 + (2 : Int32)) (eL E) = true then (if am_in (x3 + (3 : Int32)) (eL E) = true then ((f11_feed N σ (eS E (x3 + (1 : Int32)).toNatClampNeg) ((((eS E (x3 + (2 : Int32)).toNatClampNeg).toInt64) <<< ((32 : Int32).toInt64 &&& 63)) ||| (((eS E (x3 + (3 : Int32)).toNatClampNeg).toInt64) &&& (4294967295 : Int64)))).bind fun (v71, s72) => (if am_in (x3 + (1 : Int32)) (eL E) = true then (if am_in (x3 + (2 : Int32)) (eL E) = true then (if am_in (x3 + (3 : Int32)) (eL E) = true then ((f12_feed N s72 (eS E (x3 + (1 : Int32)).toNatClampNeg) ((((eS E (x3 + (2 : Int32)).toNatClampNeg).toInt64) <<< ((32 : Int32).toInt64 &&& 63)) ||| (((eS E (x3 + (3 : Int32)).toNatClampNeg).toInt64) &&& (4294967295 : Int64)))).bind fun (v77, s78) => (if v71 = v77 then (fL_law_L18 E N n (x3 + (6 : Int32)) s78) else (some (false, s78)))) else none) else none) else none)) else none) else none) else none) else (if (eS E x3.toNatClampNeg) &&& (31 : Int32) = (6 : Int32) then ((f11_text N σ).bind fun (v82, s83) => ((f12_text N s83).bind fun (v85, s86) => (if v82 = v85 then (fL_law_L18 E N n (x3 + (6 : Int32)) s86) else (some (false, s86))))) else (if (eS E x3.toNatClampNeg) &&& (31 : Int32) = (7 : Int32) then (if am_in (x3 + (1 : Int32)) (eL E) = true then ((f11_force σ (eS E (x3 + (1 : Int32)).toNatClampNeg)).bind fun (v91, s92) => (if am_in (x3 + (1 : Int32)) (eL E) = true then ((f12_force s92 (eS E (x3 + (1 : Int32)).toNatClampNeg)).bind fun (v95, s96) => (if v91 = v95 then (fL_law_L18 E N n (x3 + (6 : Int32)) s96) else (some (false, s96)))) else none)) else none) else (if (eS E x3.toNatClampNeg) &&& (31 : Int32) = (8 : Int32) then (if am_in (x3 + (1 : Int32)) (eL E) = true then (if am_in (x3 + (2 : Int32)) (eL E) = true then (if am_in (x3 + (3 : Int32)) (eL E) = true then ((f11_load N σ (eS E (x3 + (1 : Int32)).toNatClampNeg) (eS E (x3 + (2 : Int32)).toNatClampNeg) (eS E (x3 + (3 : Int32)).toNatClampNeg)).bind fun (v103, s104) => (if am_in (x3 + (1 : Int32)) (eL E) = true then (if am_in (x3 + (2 : Int32)) (eL E) = true then (if am_in (x3 + (3 : Int32)) (eL E) = true then ((f12_load N s104 (eS E (x3 + (1 : Int32)).toNatClampNeg) (eS E (x3 + (2 : Int32)).toNatClampNeg) (eS E (x3 + (3 : Int32)).toNatClampNeg)).bind fun (v109, s110) => (if v103 = v109 then (fL_law_L18 E N n (x3 + (6 : Int32)) s110) else (some (false, s110)))) else none) else none) else none)) else none) else none) else none) else (if (eS E x3.toNatClampNeg) &&& (31 : Int32) = (9 : Int32) then (if am_in (x3 + (1 : Int32)) (eL E) = true then (if am_in (x3 + (2 : Int32)) (eL E) = true then ((f11_takes σ (eS E (x3 + (1 : Int32)).toNatClampNeg) (eS E (x3 + (2 : Int32)).toNatClampNeg)).bind fun v116 => (if am_in (x3 + (1 : Int32)) (eL E) = true then (if am_in (x3 + (2 : Int32)) (eL E) = true then ((f12_takes σ (eS E (x3 + (1 : Int32)).toNatClampNeg) (eS E (x3 + (2 : Int32)).toNatClampNeg)).bind fun v121 => (if v116 = v121 then (fL_law_L18 E N n (x3 + (6 : Int32)) σ) else (some (false, σ)))) else none) else none)) else none) else none) else (if (eS E x3.toNatClampNeg) &&& (31 : Int32) = (10 : Int32) then (if am_in (x3 + (1 : Int32)) (eL E) = true then (if am_in (x3 + (2 : Int32)) (eL E) = true then (if am_in (x3 + (3 : Int32)) (eL E) = true then (if am_in (x3 + (4 : Int32)) (eL E) = true then ((f11_waits N σ (eS E (x3 + (1 : Int32)).toNatClampNeg) (eS E (x3 + (2 : Int32)).toNatClampNeg) (eS E (x3 + (3 : Int32)).toNatClampNeg) (eS E (x3 + (4 : Int32)).toNatClampNeg)).bind fun (v130, s131) => (if am_in (x3 + (1 : Int32)) (eL E) = true then (if am_in (x3 + (2 : Int32)) (eL E) = true then (if am_in (x3 + (3 : Int32)) (eL E) = true then (if am_in (x3 + (4 : Int32)) (eL E) = true then ((f12_waits N s131 (eS E (x3 + (1 : Int32)).toNatClampNeg) (eS E (x3 + (2 : Int32)).toNatClampNeg) (eS E (x3 + (3 : Int32)).toNatClampNeg) (eS E (x3 + (4 : Int32)).toNatClampNeg)).bind fun (v137, s138) => (if v130 = v137 then (fL_law_L18 E N n (x3 + (6 : Int32)) s138) else (some (false, s138)))) else none) else none) else none) else none)) else none) else none) else none) else none) else (if (eS E x3.toNatClampNeg) &&& (31 : Int32) = (11 : Int32) then (if am_in (x3 + (1 : Int32)) (eL E) = true then (if am_in (x3 + (2 : Int32)) (eL E) = true then ((f11_turn N σ (eS E (x3 + (1 : Int32)).toNatClampNeg) (eS E (x3 + (2 : Int32)).toNatClampNeg)).bind fun (v144, s145) => (if am_in (x3 + (1 : Int32)) (eL E) = true then (if am_in (x3 + (2 : Int32)) (eL E) = true then ((f12_turn N s145 (eS E (x3 + (1 : Int32)).toNatClampNeg) (eS E (x3 + (2 : Int32)).toNatClampNeg)).bind fun (v149, s150) => (if v144 = v149 then (fL_law_L18 E N n (x3 + (6 : Int32)) s150) else (some (false, s150)))) else none) else none)) else none) else none) else (if (eS E x3.toNatClampNeg) &&& (31 : Int32) = (12 : Int32) then (if am_in (x3 + (1 : Int32)) (eL E) = true then (if am_in (x3 + (2 : Int32)) (eL E) = true then ((f11_rowed N σ (eS E (x3 + (1 : Int32)).toNatClampNeg) (eS E (x3 + (2 : Int32)).toNatClampNeg)).bind fun (v156, s157) => (if am_in (x3 + (1 : Int32)) (eL E) = true then (if am_in (x3 + (2 : Int32)) (eL E) = true then ((f12_rowed N s157 (eS E (x3 + (1 : Int32)).toNatClampNeg) (eS E (x3 + (2 : Int32)).toNatClampNeg)).bind fun (v161, s162) => (if v156 = v161 then (fL_law_L18 E N n (x3 + (6 : Int32)) s162) else (some (false, s162)))) else none) else none)) else none) else none) else (if (eS E x3.toNatClampNeg) &&& (31 : Int32) = (13 : Int32) then (if am_in (x3 + (1 : Int32)) (eL E) = true then (if am_in (x3 + (2 : Int32)) (eL E) = true then ((f11_judge N σ (eS E (x3 + (1 : Int32)).toNatClampNeg) (eS E (x3 + (2 : Int32)).toNatClampNeg)).bind fun (v168, s169) => (if am_in (x3 + (1 : Int32)) (eL E) = true then (if am_in (x3 + (2 : Int32)) (eL E) = true then ((f12_judge N s169 (eS E (x3 + (1 : Int32)).toNatClampNeg) (eS E (x3 + (2 : Int32)).toNatClampNeg)).bind fun (v173, s174) => (if v168 = v173 then (fL_law_L18 E N n (x3 + (6 : Int32)) s174) else (some (false, s174)))) else none) else none)) else none) else none) else (if (eS E x3.toNatClampNeg) &&& (31 : Int32) = (14 : Int32) then (if am_in (x3 + (1 : Int32)) (eL E) = true then (if am_in (x3 + (2 : Int32)) (eL E) = true then ((f11_heir N σ (eS E (x3 + (1 : Int32)).toNatClampNeg) (eS E (x3 + (2 : Int32)).toNatClampNeg)).bind fun v180 => (if am_in (x3 + (1 : Int32)) (eL E) = true then (if am_in (x3 + (2 : Int32)) (eL E) = true then ((f12_heir N σ (eS E (x3 + (1 : Int32)).toNatClampNeg) (eS E (x3 + (2 : Int32)).toNatClampNeg)).bind fun v185 => (if v180 = v185 then (fL_law_L18 E N n (x3 + (6 : Int32)) σ) else (some (false, σ)))) else none) else none)) else none) else none) else (if (eS E x3.toNatClampNeg) &&& (31 : Int32) = (15 : Int32) then (if am_in (x3 + (1 : Int32)) (eL E) = true then (if am_in (x3 + (2 : Int32)) (eL E) = true then ((f11_open N σ (eS E (x3 + (1 : Int32)).toNatClampNeg) (eS E (x3 + (2 : Int32)).toNatClampNeg)).bind fun v192 => (if am_in (x3 + (1 : Int32)) (eL E) = true then (if am_in (x3 + (2 : Int32)) (eL E) = true then ((f12_open N σ (eS E (x3 + (1 : Int32)).toNatClampNeg) (eS E (x3 + (2 : Int32)).toNatClampNeg)).bind fun v197 => (if v192 = v197 then (fL_law_L18 E N n (x3 + (6 : Int32)) σ) else (some (false, σ)))) else none) else none)) else none) else none) else (if (eS E x3.toNatClampNeg) &&& (31 : Int32) = (16 : Int32) then (if am_in (x3 + (1 : Int32)) (eL E) = true then (if am_in (x3 + (2 : Int32)) (eL E) = true then ((f11_path σ (eS E (x3 + (1 : Int32)).toNatClampNeg) (eS E (x3 + (2 : Int32)).toNatClampNeg)).bind fun (v204, s205) => (if am_in (x3 + (1 : Int32)) (eL E) = true then (if am_in (x3 + (2 : Int32)) (eL E) = true then ((f12_path s205 (eS E (x3 + (1 : Int32)).toNatClampNeg) (eS E (x3 + (2 : Int32)).toNatClampNeg)).bind fun (v209, s210) => (if v204 = v209 then (fL_law_L18 E N n (x3 + (6 : Int32)) s210) else (some (false, s210)))) else none) else none)) else none) else none) else (if (eS E x3.toNatClampNeg) &&& (31 : Int32) = (17 : Int32) then (if am_in (x3 + (1 : Int32)) (eL E) = true then ((f11_foot N σ (eS E (x3 + (1 : Int32)).toNatClampNeg)).bind fun (v215, s216) => (if am_in (x3 + (1 : Int32)) (eL E) = true then ((f12_foot N s216 (eS E (x3 + (1 : Int32)).toNatClampNeg)).bind fun (v219, s220) => (if v215 = v219 then (fL_law_L18 E N n (x3 + (6 : Int32)) s220) else (some (false, s220)))) else none)) else none) else (if (eS E x3.toNatClampNeg) &&& (31 : Int32) = (18 : Int32) then (if am_in (x3 + (1 : Int32)) (eL E) = true then ((f11_lost N σ (eS E (x3 + (1 : Int32)).toNatClampNeg)).bind fun (v225, s226) => (if am_in (x3 + (1 : Int32)) (eL E) = true then ((f12_lost N s226 (eS E (x3 + (1 : Int32)).toNatClampNeg)).bind fun (v229, s230) => (if v225 = v229 then (fL_law_L18 E N n (x3 + (6 : Int32)) s230) else (some (false, s230)))) else none)) else none) else (if (eS E x3.toNatClampNeg) &&& (31 : Int32) = (19 : Int32) then (if am_in (x3 + (1 : Int32)) (eL E) = true then (if am_in (x3 + (2 : Int32)) (eL E) = true then (if am_in (x3 + (3 : Int32)) (eL E) = true then (if am_in (x3 + (4 : Int32)) (eL E) = true then ((f11_fog N (eS E (x3 + (1 : Int32)).toNatClampNeg) (eS E (x3 + (2 : Int32)).toNatClampNeg) (eS E (x3 + (3 : Int32)).toNatClampNeg) (eS E (x3 + (4 : Int32)).toNatClampNeg)).bind fun v238 => (if am_in (x3 + (1 : Int32)) (eL E) = true then (if am_in (x3 + (2 : Int32)) (eL E) = true then (if am_in (x3 + (3 : Int32)) (eL E) = true then (if am_in (x3 + (4 : Int32)) (eL E) = true then ((f12_fog N (eS E (x3 + (1 : Int32)).toNatClampNeg) (eS E (x3 + (2 : Int32)).toNatClampNeg) (eS E (x3 + (3 : Int32)).toNatClampNeg) (eS E (x3 + (4 : Int32)).toNatClampNeg)).bind fun v245 => (if v238 = v245 then (fL_law_L18 E N n (x3 + (6 : Int32)) σ) else (some (false, σ)))) else none) else none) else none) else none)) else none) else none) else none) else none) else (if (eS E x3.toNatClampNeg) &&& (31 : Int32) = (20 : Int32) then (if am_in (x3 + (1 : Int32)) (eL E) = true then (if am_in (x3 + (2 : Int32)) (eL E) = true then (if am_in (x3 + (3 : Int32)) (eL E) = true then (if am_in (x3 + (4 : Int32)) (eL E) = true then ((f11_box N σ (eS E (x3 + (1 : Int32)).toNatClampNeg) (eS E (x3 + (2 : Int32)).toNatClampNeg) (eS E (x3 + (3 : Int32)).toNatClampNeg) (eS E (x3 + (4 : Int32)).toNatClampNeg)).bind fun (v254, s255) => (if am_in (x3 + (1 : Int32)) (eL E) = true then (if am_in (x3 + (2 : Int32)) (eL E) = true then (if am_in (x3 + (3 : Int32)) (eL E) = true then (if am_in (x3 + (4 : Int32)) (eL E) = true then ((f12_box N s255 (eS E (x3 + (1 : Int32)).toNatClampNeg) (eS E (x3 + (2 : Int32)).toNatClampNeg) (eS E (x3 + (3 : Int32)).toNatClampNeg) (eS E (x3 + (4 : Int32)).toNatClampNeg)).bind fun (v261, s262) => (if v254 = v261 then (fL_law_L18 E N n (x3 + (6 : Int32)) s262) else (some (false, s262)))) else none) else none) else none) else none)) else none) else none) else none) else none) else (if (eS E x3.toNatClampNeg) &&& (31 : Int32) = (21 : Int32) then (if am_in (x3 + (1 : Int32)) (eL E) = true then (if am_in (x3 + (2 : Int32)) (eL E) = true then (if am_in (x3 + (3 : Int32)) (eL E) = true then ((f11_shares N σ (eS E (x3 + (1 : Int32)).toNatClampNeg) (eS E (x3 + (2 : Int32)).toNatClampNeg) (eS E (x3 + (3 : Int32)).toNatClampNeg)).bind fun v269 => (if am_in (x3 + (1 : Int32)) (eL E) = true then (if am_in (x3 + (2 : Int32)) (eL E) = true then (if am_in (x3 + (3 : Int32)) (eL E) = true then ((f12_shares N σ (eS E (x3 + (1 : Int32)).toNatClampNeg) (eS E (x3 + (2 : Int32)).toNatClampNeg) (eS E (x3 + (3 : Int32)).toNatClampNeg)).bind fun v275 => (if v269 = v275 then (fL_law_L18 E N n (x3 + (6 : Int32)) σ) else (some (false, σ)))) else none) else none) else none)) else none) else none) else none) else (if (eS E x3.toNatClampNeg) &&& (31 : Int32) = (22 : Int32) then (if am_in (x3 + (1 : Int32)) (eL E) = true then (if am_in (x3 + (2 : Int32)) (eL E) = true then ((f11_bridge σ (eS E (x3 + (1 : Int32)).toNatClampNeg) (eS E (x3 + (2 : Int32)).toNatClampNeg)).bind fun v282 => (if am_in (x3 + (1 : Int32)) (eL E) = true then (if am_in (x3 + (2 : Int32)) (eL E) = true then ((f12_bridge σ (eS E (x3 + (1 : Int32)).toNatClampNeg) (eS E (x3 + (2 : Int32)).toNatClampNeg)).bind fun v287 => (if v282 = v287 then (fL_law_L18 E N n (x3 + (6 : Int32)) σ) else (some (false, σ)))) else none) else none)) else none) else none) else (if (eS E x3.toNatClampNeg) &&& (31 : Int32) = (23 : Int32) then ((f11_image N σ).bind fun (v292, s293) => ((f12_image N s293).bind fun (v295, s296) => (if v292 = v295 then (fL_law_L18 E N n (x3 + (6 : Int32)) s296) else (some (false, s296))))) else (if (eS E x3.toNatClampNeg) &&& (31 : Int32) = (24 : Int32) then ((f11_back N σ).bind fun (v300, s301) => ((f12_back N s301).bind fun (v303, s304) => (if v300 = v303 then (fL_law_L18 E N n (x3 + (6 : Int32)) s304) else (some (false, s304))))) else (if (eS E x3.toNatClampNeg) &&& (31 : Int32) = (25 : Int32) then (if am_in (x3 + (1 : Int32)) (eL E) = true then ((f11_count N σ (eS E (x3 + (1 : Int32)).toNatClampNeg)).bind fun v309 => (if am_in (x3 + (1 : Int32)) (eL E) = true then ((f12_count N σ (eS E (x3 + (1 : Int32)).toNatClampNeg)).bind fun v313 => (if v309 = v313 then (fL_law_L18 E N n (x3 + (6 : Int32)) σ) else (some (false, σ)))) else none)) else none) else (if (eS E x3.toNatClampNeg) &&& (31 : Int32) = (26 : Int32) then (if am_in (x3 + (1 : Int32)) (eL E) = true then (if am_in (x3 + (2 : Int32)) (eL E) = true then (if am_in (x3 + (3 : Int32)) (eL E) = true then ((f11_sheet N σ (eS E (x3 + (1 : Int32)).toNatClampNeg) (eS E (x3 + (2 : Int32)).toNatClampNeg) (eS E (x3 + (3 : Int32)).toNatClampNeg)).bind fun (v321, s322) => (if am_in (x3 + (1 : Int32)) (eL E) = true then (if am_in (x3 + (2 : Int32)) (eL E) = true then (if am_in (x3 + (3 : Int32)) (eL E) = true then ((f12_sheet N s322 (eS E (x3 + (1 : Int32)).toNatClampNeg) (eS E (x3 + (2 : Int32)).toNatClampNeg) (eS E (x3 + (3 : Int32)).toNatClampNeg)).bind fun (v327, s328) => (if v321 = v327 then (fL_law_L18 E N n (x3 + (6 : Int32)) s328) else (some (false, s328)))) else none) else none) else none)) else none) else none) else none) else (if (eS E x3.toNatClampNeg) &&& (31 : Int32) = (27 : Int32) then (if am_in (x3 + (1 : Int32)) (eL E) = true then (if am_in (x3 + (2 : Int32)) (eL E) = true then (if am_in (x3 + (3 : Int32)) (eL E) = true then ((f11_cell σ (eS E (x3 + (1 : Int32)).toNatClampNeg) (eS E (x3 + (2 : Int32)).toNatClampNeg) (eS E (x3 + (3 : Int32)).toNatClampNeg)).bind fun (v335, s336) => (if am_in (x3 + (1 : Int32)) (eL E) = true then (if am_in (x3 + (2 : Int32)) (eL E) = true then (if am_in (x3 + (3 : Int32)) (eL E) = true then ((f12_cell s336 (eS E (x3 + (1 : Int32)).toNatClampNeg) (eS E (x3 + (2 : Int32)).toNatClampNeg) (eS E (x3 + (3 : Int32)).toNatClampNeg)).bind fun (v341, s342) => (if v335 = v341 then (fL_law_L18 E N n (x3 + (6 : Int32)) s342) else (some (false, s342)))) else none) else none) else none)) else none) else none) else none) else (if (eS E x3.toNatClampNeg) &&& (31 : Int32) = (28 : Int32) then (if am_in (x3 + (1 : Int32)) (eL E) = true then (if am_in (x3 + (2 : Int32)) (eL E) = true then (if am_in (x3 + (3 : Int32)) (eL E) = true then (if am_in (x3 + (4 : Int32)) (eL E) = true then (if am_in (x3 + (5 : Int32)) (eL E) = true then ((f11_copy σ (eS E (x3 + (1 : Int32)).toNatClampNeg) (eS E (x3 + (2 : Int32)).toNatClampNeg) (eS E (x3 + (3 : Int32)).toNatClampNeg) (eS E (x3 + (4 : Int32)).toNatClampNeg) (eS E (x3 + (5 : Int32)).toNatClampNeg)).bind fun (v351, s352) => (if am_in (x3 + (1 : Int32)) (eL E) = true then (if am_in (x3 + (2 : Int32)) (eL E) = true then (if am_in (x3 + (3 : Int32)) (eL E) = true then (if am_in (x3 + (4 : Int32)) (eL E) = true then (if am_in (x3 + (5 : Int32)) (eL E) = true then ((f12_copy N s352 (eS E (x3 + (1 : Int32)).toNatClampNeg) (eS E (x3 + (2 : Int32)).toNatClampNeg) (eS E (x3 + (3 : Int32)).toNatClampNeg) (eS E (x3 + (4 : Int32)).toNatClampNeg) (eS E (x3 + (5 : Int32)).toNatClampNeg)).bind fun (v359, s360) => (if v351 = v359 then (fL_law_L18 E N n (x3 + (6 : Int32)) s360) else (some (false, s360)))) else none) else none) else none) else none) else none)) else none) else none) else none) else none) else none) else (if (eS E x3.toNatClampNeg) &&& (31 : Int32) = (29 : Int32) then (if am_in (x3 + (1 : Int32)) (eL E) = true then (if am_in (x3 + (2 : Int32)) (eL E) = true then (if am_in (x3 + (3 : Int32)) (eL E) = true then (if am_in (x3 + (4 : Int32)) (eL E) = true then ((f11_rowers N σ (eS E (x3 + (1 : Int32)).toNatClampNeg) (eS E (x3 + (2 : Int32)).toNatClampNeg) (eS E (x3 + (3 : Int32)).toNatClampNeg) (eS E (x3 + (4 : Int32)).toNatClampNeg)).bind fun (v368, s369) => (if am_in (x3 + (1 : Int32)) (eL E) = true then (if am_in (x3 + (2 : Int32)) (eL E) = true then (if am_in (x3 + (3 : Int32)) (eL E) = true then (if am_in (x3 + (4 : Int32)) (eL E) = true then ((f12_rowers N s369 (eS E (x3 + (1 : Int32)).toNatClampNeg) (eS E (x3 + (2 : Int32)).toNatClampNeg) (eS E (x3 + (3 : Int32)).toNatClampNeg) (eS E (x3 + (4 : Int32)).toNatClampNeg)).bind fun (v375, s376) => (if v368 = v375 then (fL_law_L18 E N n (x3 + (6 : Int32)) s376) else (some (false, s376)))) else none) else none) else none) else none)) else none) else none) else none) else none) else (if (eS E x3.toNatClampNeg) &&& (31 : Int32) = (30 : Int32) then (if am_in (x3 + (1 : Int32)) (eL E) = true then (if am_in (x3 + (2 : Int32)) (eL E) = true then ((f11_taken σ (eS E (x3 + (1 : Int32)).toNatClampNeg) (eS E (x3 + (2 : Int32)).toNatClampNeg)).bind fun v382 => (if am_in (x3 + (1 : Int32)) (eL E) = true then (if am_in (x3 + (2 : Int32)) (eL E) = true then ((f12_taken N σ (eS E (x3 + (1 : Int32)).toNatClampNeg) (eS E (x3 + (2 : Int32)).toNatClampNeg)).bind fun v387 => (if v382 = v387 then (fL_law_L18 E N n (x3 + (6 : Int32)) σ) else (some (false, σ)))) else none) else none)) else none) else none) else (fL_law_L18 E N n (x3 + (6 : Int32)) σ)))))))))))))))))))))))))))))))) else none)
theorem zL_law_L18 {l : Launch} {E : am_E} {d : Nat} {σ0 : am_S} {N : Nat} (hL : eL E ≤ 3072) (hd : 114 ≤ d) : ∀ (n : Nat) (x3 : Int32) (σ : am_S), 0 ≤ x3 → x3.toNatClampNeg ≤ 4000 → Z l E msM σ0 YL_law d 600000 7302250 18 [(0, .ref 0), (1, .ref 8), (2, .ref 36), (3, .int x3)] [] (100 + 2 * x3.toNatClampNeg) (50000 + 18 * x3.toNatClampNeg) σ (fL_law_L18 E N n x3 σ) (fun u r s => r = some (.int (bI u.1)) ∧ s = u.2) := by
  intro n
  induction n with
  | zero => intros; exact z_none
  | succ n ih =>
    intro x3 σ hx0 hx1
    unfold fL_law_L18
    refine z_iload_n (pc := 18) 3 dL_law_18 rfl rfl ?_
    refine z_aload_n (pc := 19) 0 dL_law_19 rfl rfl ?_
    refine z_slen (pc := 20) dL_law_20 ?_
    refine z_bipush (pc := 21) (v := (6 : Int32)) dL_law_21 (by decide) ?_
    refine z_isub (pc := 23) dL_law_23 ?_
    refine z_ic_gt (pc := 24) (tgt := 1301) dL_law_24 (by decide) (fun h1 => ?_) (fun h1 => ?_)
    · refine z_iconst (pc := 1301) (v := (1 : Int32)) dL_law_1301 (by decide) ?_
      exact z_rBs (b := true) rfl dL_law_1302 rfl ⟨by omega, by omega⟩
    · obtain ⟨hb1, hb2, hb3, hb4⟩ := am_law6 hL hx0 h1
      refine z_aload_n (pc := 27) 0 dL_law_27 rfl rfl ?_
      refine z_iload_n (pc := 28) 3 dL_law_28 rfl rfl ?_
      refine z_sld (pc := 29) dL_law_29 (fun h2 => ?_)
      refine z_bipush (pc := 30) (v := (31 : Int32)) dL_law_30 (by decide) ?_
      refine z_iand (pc := 32) dL_law_32 ?_
      refine z_ite (fun h3 => ?_) (fun h3 => ?_)
      · refine z_tsEq (pc := 33) (0) (off := 139) (tgt := 172) dL_law_33 h3 (by decide) (by decide) (by decide) (by decide) ?_
        refine z_aload_n (pc := 172) 1 dL_law_172 rfl rfl ?_
        refine z_aload_n (pc := 173) 0 dL_law_173 rfl rfl ?_
        refine z_iload_n (pc := 174) 3 dL_law_174 rfl rfl ?_
        refine z_iconst (pc := 175) (v := (1 : Int32)) dL_law_175 (by decide) ?_
        refine z_iadd (pc := 176) dL_law_176 ?_
        refine z_sld (pc := 177) dL_law_177 (fun h4 => ?_)
        refine z_aload_n (pc := 178) 0 dL_law_178 rfl rfl ?_
        refine z_iload_n (pc := 179) 3 dL_law_179 rfl rfl ?_
        refine z_iconst (pc := 180) (v := (2 : Int32)) dL_law_180 (by decide) ?_
        refine z_iadd (pc := 181) dL_law_181 ?_
        refine z_sld (pc := 182) dL_law_182 (fun h5 => ?_)
        refine z_callIs (pc := 183) [.ref 8, .int (eS E (x3 + (1 : Int32)).toNatClampNeg), .int (eS E (x3 + (2 : Int32)).toNatClampNeg)] [] rfl (lk_V (Yc := YX11_crossing) (n := 2) dL_law_183 rfl rfl (am_ob.s kM8) rfl rfl np_X11_crossing mh_RX11 (by decide) ml_RL_13 im_X11_crossing se_RX11_X11_crossing_X11_crossing in_RX11 cd_X11_crossing) (Nat.le_trans (by decide) hd) ⟨by omega, by omega⟩ (Nat.le_of_ble_eq_true rfl) (kp_CM) (fun v6 s7 h8 => c11_crossing h8) (fun v6 s7 h8 => ?_)
        refine z_aload_n (pc := 186) 2 dL_law_186 rfl rfl ?_
        refine z_aload_n (pc := 187) 0 dL_law_187 rfl rfl ?_
        refine z_iload_n (pc := 188) 3 dL_law_188 rfl rfl ?_
        refine z_iconst (pc := 189) (v := (1 : Int32)) dL_law_189 (by decide) ?_
        refine z_iadd (pc := 190) dL_law_190 ?_
        refine z_sld (pc := 191) dL_law_191 (fun h9 => ?_)
        refine z_aload_n (pc := 192) 0 dL_law_192 rfl rfl ?_
        refine z_iload_n (pc := 193) 3 dL_law_193 rfl rfl ?_
        refine z_iconst (pc := 194) (v := (2 : Int32)) dL_law_194 (by decide) ?_
        refine z_iadd (pc := 195) dL_law_195 ?_
        refine z_sld (pc := 196) dL_law_196 (fun h10 => ?_)
        refine z_callIs (pc := 197) [.ref 36, .int (eS E (x3 + (1 : Int32)).toNatClampNeg), .int (eS E (x3 + (2 : Int32)).toNatClampNeg)] [.int v6] rfl (lk_V (Yc := YX12_crossing) (n := 2) dL_law_197 rfl rfl (am_ob.s kM36) rfl rfl np_X12_crossing mh_RX12 (by decide) ml_RL_17 im_X12_crossing se_RX12_X12_crossing_X12_crossing in_RX12 cd_X12_crossing) (Nat.le_trans (by decide) hd) ⟨by omega, by omega⟩ (Nat.le_of_ble_eq_true rfl) (am_kp.rf _) (fun v11 s12 h13 => c12_crossing h13) (fun v11 s12 h13 => ?_)
        refine z_ic_eq (pc := 200) (tgt := 1295) dL_law_200 (by decide) (fun h14 => ?_) (fun h14 => ?_)
        · refine z_iinc (pc := 1295) (v := x3 + (6 : Int32)) (lv' := [(3, .int (x3 + (6 : Int32))), (0, .ref 0), (1, .ref 8), (2, .ref 36)]) 3 dL_law_1295 rfl rfl (by decide) rfl ?_
          refine z_goto (pc := 1298) (tgt := 18) dL_law_1298 (by decide) ?_
          refine z_lv (lv' := [(0, .ref 0), (1, .ref 8), (2, .ref 36), (3, .int (x3 + (6 : Int32)))]) [1, 2, 3, 0] rfl ?_
          exact z_cule ⟨by omega, by omega⟩ (ih (x3 + (6 : Int32)) s12 hb1 hb3)
        · refine z_iconst (pc := 203) (v := (0 : Int32)) dL_law_203 (by decide) ?_
          exact z_rBs (b := false) rfl dL_law_204 rfl ⟨by omega, by omega⟩
      · refine z_ite (fun h15 => ?_) (fun h15 => ?_)
        · refine z_tsEq (pc := 33) (1) (off := 172) (tgt := 205) dL_law_33 h15 (by decide) (by decide) (by decide) (by decide) ?_
          refine z_aload_n (pc := 205) 1 dL_law_205 rfl rfl ?_
          refine z_aload_n (pc := 206) 0 dL_law_206 rfl rfl ?_
          refine z_iload_n (pc := 207) 3 dL_law_207 rfl rfl ?_
          refine z_iconst (pc := 208) (v := (1 : Int32)) dL_law_208 (by decide) ?_
          refine z_iadd (pc := 209) dL_law_209 ?_
          refine z_sld (pc := 210) dL_law_210 (fun h16 => ?_)
          refine z_aload_n (pc := 211) 0 dL_law_211 rfl rfl ?_
          refine z_iload_n (pc := 212) 3 dL_law_212 rfl rfl ?_
          refine z_iconst (pc := 213) (v := (2 : Int32)) dL_law_213 (by decide) ?_
          refine z_iadd (pc := 214) dL_law_214 ?_
          refine z_sld (pc := 215) dL_law_215 (fun h17 => ?_)
          refine z_callIs (pc := 216) [.ref 8, .int (eS E (x3 + (1 : Int32)).toNatClampNeg), .int (eS E (x3 + (2 : Int32)).toNatClampNeg)] [] rfl (lk_V (Yc := YX11_set) (n := 2) dL_law_216 rfl rfl (am_ob.s kM8) rfl rfl np_X11_set mh_RX11 (by decide) ml_RL_18 im_X11_set se_RX11_X11_set_X11_set in_RX11 cd_X11_set) (Nat.le_trans (by decide) hd) ⟨by omega, by omega⟩ (Nat.le_of_ble_eq_true rfl) (kp_CM) (fun v18 s19 h20 => c11_set h20) (fun v18 s19 h20 => ?_)
          refine z_aload_n (pc := 219) 2 dL_law_219 rfl rfl ?_
          refine z_aload_n (pc := 220) 0 dL_law_220 rfl rfl ?_
          refine z_iload_n (pc := 221) 3 dL_law_221 rfl rfl ?_
          refine z_iconst (pc := 222) (v := (1 : Int32)) dL_law_222 (by decide) ?_
          refine z_iadd (pc := 223) dL_law_223 ?_
          refine z_sld (pc := 224) dL_law_224 (fun h21 => ?_)
          refine z_aload_n (pc := 225) 0 dL_law_225 rfl rfl ?_
          refine z_iload_n (pc := 226) 3 dL_law_226 rfl rfl ?_
          refine z_iconst (pc := 227) (v := (2 : Int32)) dL_law_227 (by decide) ?_
          refine z_iadd (pc := 228) dL_law_228 ?_
          refine z_sld (pc := 229) dL_law_229 (fun h22 => ?_)
          refine z_callIs (pc := 230) [.ref 36, .int (eS E (x3 + (1 : Int32)).toNatClampNeg), .int (eS E (x3 + (2 : Int32)).toNatClampNeg)] [.int v18] rfl (lk_V (Yc := YX12_set) (n := 2) dL_law_230 rfl rfl (am_ob.s kM36) rfl rfl np_X12_set mh_RX12 (by decide) ml_RL_21 im_X12_set se_RX12_X12_set_X12_set in_RX12 cd_X12_set) (Nat.le_trans (by decide) hd) ⟨by omega, by omega⟩ (Nat.le_of_ble_eq_true rfl) (am_kp.rf _) (fun v23 s24 h25 => c12_set h25) (fun v23 s24 h25 => ?_)
          refine z_ic_eq (pc := 233) (tgt := 1295) dL_law_233 (by decide) (fun h26 => ?_) (fun h26 => ?_)
          · refine z_iinc (pc := 1295) (v := x3 + (6 : Int32)) (lv' := [(3, .int (x3 + (6 : Int32))), (0, .ref 0), (1, .ref 8), (2, .ref 36)]) 3 dL_law_1295 rfl rfl (by decide) rfl ?_
            refine z_goto (pc := 1298) (tgt := 18) dL_law_1298 (by decide) ?_
            refine z_lv (lv' := [(0, .ref 0), (1, .ref 8), (2, .ref 36), (3, .int (x3 + (6 : Int32)))]) [1, 2, 3, 0] rfl ?_
            exact z_cule ⟨by omega, by omega⟩ (ih (x3 + (6 : Int32)) s24 hb1 hb3)
          · refine z_iconst (pc := 236) (v := (0 : Int32)) dL_law_236 (by decide) ?_
            exact z_rBs (b := false) rfl dL_law_237 rfl ⟨by omega, by omega⟩
        · refine z_ite (fun h27 => ?_) (fun h27 => ?_)
          · refine z_tsEq (pc := 33) (2) (off := 205) (tgt := 238) dL_law_33 h27 (by decide) (by decide) (by decide) (by decide) ?_
            refine z_aload_n (pc := 238) 1 dL_law_238 rfl rfl ?_
            refine z_aload_n (pc := 239) 0 dL_law_239 rfl rfl ?_
            refine z_iload_n (pc := 240) 3 dL_law_240 rfl rfl ?_
            refine z_iconst (pc := 241) (v := (1 : Int32)) dL_law_241 (by decide) ?_
            refine z_iadd (pc := 242) dL_law_242 ?_
            refine z_sld (pc := 243) dL_law_243 (fun h28 => ?_)
            refine z_aload_n (pc := 244) 0 dL_law_244 rfl rfl ?_
            refine z_iload_n (pc := 245) 3 dL_law_245 rfl rfl ?_
            refine z_iconst (pc := 246) (v := (2 : Int32)) dL_law_246 (by decide) ?_
            refine z_iadd (pc := 247) dL_law_247 ?_
            refine z_sld (pc := 248) dL_law_248 (fun h29 => ?_)
            refine z_aload_n (pc := 249) 0 dL_law_249 rfl rfl ?_
            refine z_iload_n (pc := 250) 3 dL_law_250 rfl rfl ?_
            refine z_iconst (pc := 251) (v := (3 : Int32)) dL_law_251 (by decide) ?_
            refine z_iadd (pc := 252) dL_law_252 ?_
            refine z_sld (pc := 253) dL_law_253 (fun h30 => ?_)
            refine z_callIs (pc := 254) [.ref 8, .int (eS E (x3 + (1 : Int32)).toNatClampNeg), .int (eS E (x3 + (2 : Int32)).toNatClampNeg), .int (eS E (x3 + (3 : Int32)).toNatClampNeg)] [] rfl (lk_V (Yc := YX11_rower) (n := 3) dL_law_254 rfl rfl (am_ob.s kM8) rfl rfl np_X11_rower mh_RX11 (by decide) ml_RL_22 im_X11_rower se_RX11_X11_rower_X11_rower in_RX11 cd_X11_rower) (Nat.le_trans (by decide) hd) ⟨by omega, by omega⟩ (Nat.le_of_ble_eq_true rfl) (kp_CM) (fun v31 s32 h33 => c11_rower h33) (fun v31 s32 h33 => ?_)
            refine z_aload_n (pc := 257) 2 dL_law_257 rfl rfl ?_
            refine z_aload_n (pc := 258) 0 dL_law_258 rfl rfl ?_
            refine z_iload_n (pc := 259) 3 dL_law_259 rfl rfl ?_
            refine z_iconst (pc := 260) (v := (1 : Int32)) dL_law_260 (by decide) ?_
            refine z_iadd (pc := 261) dL_law_261 ?_
            refine z_sld (pc := 262) dL_law_262 (fun h34 => ?_)
            refine z_aload_n (pc := 263) 0 dL_law_263 rfl rfl ?_
            refine z_iload_n (pc := 264) 3 dL_law_264 rfl rfl ?_
            refine z_iconst (pc := 265) (v := (2 : Int32)) dL_law_265 (by decide) ?_
            refine z_iadd (pc := 266) dL_law_266 ?_
            refine z_sld (pc := 267) dL_law_267 (fun h35 => ?_)
            refine z_aload_n (pc := 268) 0 dL_law_268 rfl rfl ?_
            refine z_iload_n (pc := 269) 3 dL_law_269 rfl rfl ?_
            refine z_iconst (pc := 270) (v := (3 : Int32)) dL_law_270 (by decide) ?_
            refine z_iadd (pc := 271) dL_law_271 ?_
            refine z_sld (pc := 272) dL_law_272 (fun h36 => ?_)
            refine z_callIs (pc := 273) [.ref 36, .int (eS E (x3 + (1 : Int32)).toNatClampNeg), .int (eS E (x3 + (2 : Int32)).toNatClampNeg), .int (eS E (x3 + (3 : Int32)).toNatClampNeg)] [.int v31] rfl (lk_V (Yc := YX12_rower) (n := 3) dL_law_273 rfl rfl (am_ob.s kM36) rfl rfl np_X12_rower mh_RX12 (by decide) ml_RL_26 im_X12_rower se_RX12_X12_rower_X12_rower in_RX12 cd_X12_rower) (Nat.le_trans (by decide) hd) ⟨by omega, by omega⟩ (Nat.le_of_ble_eq_true rfl) (am_kp.rf _) (fun v37 s38 h39 => c12_rower h39) (fun v37 s38 h39 => ?_)
            refine z_ic_eq (pc := 276) (tgt := 1295) dL_law_276 (by decide) (fun h40 => ?_) (fun h40 => ?_)
            · refine z_iinc (pc := 1295) (v := x3 + (6 : Int32)) (lv' := [(3, .int (x3 + (6 : Int32))), (0, .ref 0), (1, .ref 8), (2, .ref 36)]) 3 dL_law_1295 rfl rfl (by decide) rfl ?_
              refine z_goto (pc := 1298) (tgt := 18) dL_law_1298 (by decide) ?_
              refine z_lv (lv' := [(0, .ref 0), (1, .ref 8), (2, .ref 36), (3, .int (x3 + (6 : Int32)))]) [1, 2, 3, 0] rfl ?_
              exact z_cule ⟨by omega, by omega⟩ (ih (x3 + (6 : Int32)) s38 hb1 hb3)
            · refine z_iconst (pc := 279) (v := (0 : Int32)) dL_law_279 (by decide) ?_
              exact z_rBs (b := false) rfl dL_law_280 rfl ⟨by omega, by omega⟩
          · refine z_ite (fun h41 => ?_) (fun h41 => ?_)
            · refine z_tsEq (pc := 33) (3) (off := 248) (tgt := 281) dL_law_33 h41 (by decide) (by decide) (by decide) (by decide) ?_
              refine z_aload_n (pc := 281) 1 dL_law_281 rfl rfl ?_
              refine z_aload_n (pc := 282) 0 dL_law_282 rfl rfl ?_
              refine z_iload_n (pc := 283) 3 dL_law_283 rfl rfl ?_
              refine z_iconst (pc := 284) (v := (1 : Int32)) dL_law_284 (by decide) ?_
              refine z_iadd (pc := 285) dL_law_285 ?_
              refine z_sld (pc := 286) dL_law_286 (fun h42 => ?_)
              refine z_aload_n (pc := 287) 0 dL_law_287 rfl rfl ?_
              refine z_iload_n (pc := 288) 3 dL_law_288 rfl rfl ?_
              refine z_iconst (pc := 289) (v := (2 : Int32)) dL_law_289 (by decide) ?_
              refine z_iadd (pc := 290) dL_law_290 ?_
              refine z_sld (pc := 291) dL_law_291 (fun h43 => ?_)
              refine z_callIs (pc := 292) [.ref 8, .int (eS E (x3 + (1 : Int32)).toNatClampNeg), .int (eS E (x3 + (2 : Int32)).toNatClampNeg)] [] rfl (lk_V (Yc := YX11_ill) (n := 2) dL_law_292 rfl rfl (am_ob.s kM8) rfl rfl np_X11_ill mh_RX11 (by decide) ml_RL_27 im_X11_ill se_RX11_X11_ill_X11_ill in_RX11 cd_X11_ill) (Nat.le_trans (by decide) hd) ⟨by omega, by omega⟩ (Nat.le_of_ble_eq_true rfl) (kp_CM) (fun v44 s45 h46 => c11_ill h46) (fun v44 s45 h46 => ?_)
              refine z_aload_n (pc := 295) 2 dL_law_295 rfl rfl ?_
              refine z_aload_n (pc := 296) 0 dL_law_296 rfl rfl ?_
              refine z_iload_n (pc := 297) 3 dL_law_297 rfl rfl ?_
              refine z_iconst (pc := 298) (v := (1 : Int32)) dL_law_298 (by decide) ?_
              refine z_iadd (pc := 299) dL_law_299 ?_
              refine z_sld (pc := 300) dL_law_300 (fun h47 => ?_)
              refine z_aload_n (pc := 301) 0 dL_law_301 rfl rfl ?_
              refine z_iload_n (pc := 302) 3 dL_law_302 rfl rfl ?_
              refine z_iconst (pc := 303) (v := (2 : Int32)) dL_law_303 (by decide) ?_
              refine z_iadd (pc := 304) dL_law_304 ?_
              refine z_sld (pc := 305) dL_law_305 (fun h48 => ?_)
              refine z_callIs (pc := 306) [.ref 36, .int (eS E (x3 + (1 : Int32)).toNatClampNeg), .int (eS E (x3 + (2 : Int32)).toNatClampNeg)] [.int v44] rfl (lk_V (Yc := YX12_ill) (n := 2) dL_law_306 rfl rfl (am_ob.s kM36) rfl rfl np_X12_ill mh_RX12 (by decide) ml_RL_30 im_X12_ill se_RX12_X12_ill_X12_ill in_RX12 cd_X12_ill) (Nat.le_trans (by decide) hd) ⟨by omega, by omega⟩ (Nat.le_of_ble_eq_true rfl) (am_kp.rf _) (fun v49 s50 h51 => c12_ill h51) (fun v49 s50 h51 => ?_)
              refine z_ic_eq (pc := 309) (tgt := 1295) dL_law_309 (by decide) (fun h52 => ?_) (fun h52 => ?_)
              · refine z_iinc (pc := 1295) (v := x3 + (6 : Int32)) (lv' := [(3, .int (x3 + (6 : Int32))), (0, .ref 0), (1, .ref 8), (2, .ref 36)]) 3 dL_law_1295 rfl rfl (by decide) rfl ?_
                refine z_goto (pc := 1298) (tgt := 18) dL_law_1298 (by decide) ?_
                refine z_lv (lv' := [(0, .ref 0), (1, .ref 8), (2, .ref 36), (3, .int (x3 + (6 : Int32)))]) [1, 2, 3, 0] rfl ?_
                exact z_cule ⟨by omega, by omega⟩ (ih (x3 + (6 : Int32)) s50 hb1 hb3)
              · refine z_iconst (pc := 312) (v := (0 : Int32)) dL_law_312 (by decide) ?_
                exact z_rBs (b := false) rfl dL_law_313 rfl ⟨by omega, by omega⟩
            · refine z_ite (fun h53 => ?_) (fun h53 => ?_)
              · refine z_tsEq (pc := 33) (4) (off := 281) (tgt := 314) dL_law_33 h53 (by decide) (by decide) (by decide) (by decide) ?_
                refine z_aload_n (pc := 314) 1 dL_law_314 rfl rfl ?_
                refine z_aload_n (pc := 315) 0 dL_law_315 rfl rfl ?_
                refine z_iload_n (pc := 316) 3 dL_law_316 rfl rfl ?_
                refine z_iconst (pc := 317) (v := (1 : Int32)) dL_law_317 (by decide) ?_
                refine z_iadd (pc := 318) dL_law_318 ?_
                refine z_sld (pc := 319) dL_law_319 (fun h54 => ?_)
                refine z_aload_n (pc := 320) 0 dL_law_320 rfl rfl ?_
                refine z_iload_n (pc := 321) 3 dL_law_321 rfl rfl ?_
                refine z_iconst (pc := 322) (v := (2 : Int32)) dL_law_322 (by decide) ?_
                refine z_iadd (pc := 323) dL_law_323 ?_
                refine z_sld (pc := 324) dL_law_324 (fun h55 => ?_)
                refine z_aload_n (pc := 325) 0 dL_law_325 rfl rfl ?_
                refine z_iload_n (pc := 326) 3 dL_law_326 rfl rfl ?_
                refine z_iconst (pc := 327) (v := (3 : Int32)) dL_law_327 (by decide) ?_
                refine z_iadd (pc := 328) dL_law_328 ?_
                refine z_sld (pc := 329) dL_law_329 (fun h56 => ?_)
                refine z_callIs (pc := 330) [.ref 8, .int (eS E (x3 + (1 : Int32)).toNatClampNeg), .int (eS E (x3 + (2 : Int32)).toNatClampNeg), .int (eS E (x3 + (3 : Int32)).toNatClampNeg)] [] rfl (lk_V (Yc := YX11_told) (n := 3) dL_law_330 rfl rfl (am_ob.s kM8) rfl rfl np_X11_told mh_RX11 (by decide) ml_RL_31 im_X11_told se_RX11_X11_told_X11_told in_RX11 cd_X11_told) (Nat.le_trans (by decide) hd) ⟨by omega, by omega⟩ (Nat.le_of_ble_eq_true rfl) (kp_CM) (fun v57 s58 h59 => c11_told h59) (fun v57 s58 h59 => ?_)
                refine z_aload_n (pc := 333) 2 dL_law_333 rfl rfl ?_
                refine z_aload_n (pc := 334) 0 dL_law_334 rfl rfl ?_
                refine z_iload_n (pc := 335) 3 dL_law_335 rfl rfl ?_
                refine z_iconst (pc := 336) (v := (1 : Int32)) dL_law_336 (by decide) ?_
                refine z_iadd (pc := 337) dL_law_337 ?_
                refine z_sld (pc := 338) dL_law_338 (fun h60 => ?_)
                refine z_aload_n (pc := 339) 0 dL_law_339 rfl rfl ?_
                refine z_iload_n (pc := 340) 3 dL_law_340 rfl rfl ?_
                refine z_iconst (pc := 341) (v := (2 : Int32)) dL_law_341 (by decide) ?_
                refine z_iadd (pc := 342) dL_law_342 ?_
                refine z_sld (pc := 343) dL_law_343 (fun h61 => ?_)
                refine z_aload_n (pc := 344) 0 dL_law_344 rfl rfl ?_
                refine z_iload_n (pc := 345) 3 dL_law_345 rfl rfl ?_
                refine z_iconst (pc := 346) (v := (3 : Int32)) dL_law_346 (by decide) ?_
                refine z_iadd (pc := 347) dL_law_347 ?_
                refine z_sld (pc := 348) dL_law_348 (fun h62 => ?_)
                refine z_callIs (pc := 349) [.ref 36, .int (eS E (x3 + (1 : Int32)).toNatClampNeg), .int (eS E (x3 + (2 : Int32)).toNatClampNeg), .int (eS E (x3 + (3 : Int32)).toNatClampNeg)] [.int v57] rfl (lk_V (Yc := YX12_told) (n := 3) dL_law_349 rfl rfl (am_ob.s kM36) rfl rfl np_X12_told mh_RX12 (by decide) ml_RL_34 im_X12_told se_RX12_X12_told_X12_told in_RX12 cd_X12_told) (Nat.le_trans (by decide) hd) ⟨by omega, by omega⟩ (Nat.le_of_ble_eq_true rfl) (am_kp.rf _) (fun v63 s64 h65 => c12_told h65) (fun v63 s64 h65 => ?_)
                refine z_ic_eq (pc := 352) (tgt := 1295) dL_law_352 (by decide) (fun h66 => ?_) (fun h66 => ?_)
                · refine z_iinc (pc := 1295) (v := x3 + (6 : Int32)) (lv' := [(3, .int (x3 + (6 : Int32))), (0, .ref 0), (1, .ref 8), (2, .ref 36)]) 3 dL_law_1295 rfl rfl (by decide) rfl ?_
                  refine z_goto (pc := 1298) (tgt := 18) dL_law_1298 (by decide) ?_
                  refine z_lv (lv' := [(0, .ref 0), (1, .ref 8), (2, .ref 36), (3, .int (x3 + (6 : Int32)))]) [1, 2, 3, 0] rfl ?_
                  exact z_cule ⟨by omega, by omega⟩ (ih (x3 + (6 : Int32)) s64 hb1 hb3)
                · refine z_iconst (pc := 355) (v := (0 : Int32)) dL_law_355 (by decide) ?_
                  exact z_rBs (b := false) rfl dL_law_356 rfl ⟨by omega, by omega⟩
              · refine z_ite (fun h67 => ?_) (fun h67 => ?_)
                · refine z_tsEq (pc := 33) (5) (off := 324) (tgt := 357) dL_law_33 h67 (by decide) (by decide) (by decide) (by decide) ?_
                  refine z_aload_n (pc := 357) 1 dL_law_357 rfl rfl ?_
                  refine z_aload_n (pc := 358) 0 dL_law_358 rfl rfl ?_
                  refine z_iload_n (pc := 359) 3 dL_law_359 rfl rfl ?_
                  refine z_iconst (pc := 360) (v := (1 : Int32)) dL_law_360 (by decide) ?_
                  refine z_iadd (pc := 361) dL_law_361 ?_
                  refine z_sld (pc := 362) dL_law_362 (fun h68 => ?_)
                  refine z_aload_n (pc := 363) 0 dL_law_363 rfl rfl ?_
                  refine z_iload_n (pc := 364) 3 dL_law_364 rfl rfl ?_
                  refine z_iconst (pc := 365) (v := (2 : Int32)) dL_law_365 (by decide) ?_
                  refine z_iadd (pc := 366) dL_law_366 ?_
                  refine z_sld (pc := 367) dL_law_367 (fun h69 => ?_)
                  refine z_i2l (pc := 368) dL_law_368 ?_
                  refine z_bipush (pc := 369) (v := (32 : Int32)) dL_law_369 (by decide) ?_
                  refine z_lshl (pc := 371) dL_law_371 ?_
                  refine z_aload_n (pc := 372) 0 dL_law_372 rfl rfl ?_
                  refine z_iload_n (pc := 373) 3 dL_law_373 rfl rfl ?_
                  refine z_iconst (pc := 374) (v := (3 : Int32)) dL_law_374 (by decide) ?_
                  refine z_iadd (pc := 375) dL_law_375 ?_
                  refine z_sld (pc := 376) dL_law_376 (fun h70 => ?_)
                  refine z_i2l (pc := 377) dL_law_377 ?_
                  refine z_ldc2 (pc := 378) (v := (4294967295 : Int64)) dL_law_378 kl_RL_35 ?_
                  refine z_land (pc := 381) dL_law_381 ?_
                  refine z_lor (pc := 382) dL_law_382 ?_
                  refine z_callIs (pc := 383) [.ref 8, .int (eS E (x3 + (1 : Int32)).toNatClampNeg), .long ((((eS E (x3 + (2 : Int32)).toNatClampNeg).toInt64) <<< ((32 : Int32).toInt64 &&& 63)) ||| (((eS E (x3 + (3 : Int32)).toNatClampNeg).toInt64) &&& (4294967295 : Int64)))] [] rfl (lk_V (Yc := YX11_feed) (n := 2) dL_law_383 rfl rfl (am_ob.s kM8) rfl rfl np_X11_feed mh_RX11 (by decide) ml_RL_37 im_X11_feed se_RX11_X11_feed_X11_feed in_RX11 cd_X11_feed) (Nat.le_trans (by decide) hd) ⟨by omega, by omega⟩ (Nat.le_of_ble_eq_true rfl) (kp_CM) (fun v71 s72 h73 => c11_feed h73) (fun v71 s72 h73 => ?_)
                  refine z_aload_n (pc := 386) 2 dL_law_386 rfl rfl ?_
                  refine z_aload_n (pc := 387) 0 dL_law_387 rfl rfl ?_
                  refine z_iload_n (pc := 388) 3 dL_law_388 rfl rfl ?_
                  refine z_iconst (pc := 389) (v := (1 : Int32)) dL_law_389 (by decide) ?_
                  refine z_iadd (pc := 390) dL_law_390 ?_
                  refine z_sld (pc := 391) dL_law_391 (fun h74 => ?_)
                  refine z_aload_n (pc := 392) 0 dL_law_392 rfl rfl ?_
                  refine z_iload_n (pc := 393) 3 dL_law_393 rfl rfl ?_
                  refine z_iconst (pc := 394) (v := (2 : Int32)) dL_law_394 (by decide) ?_
                  refine z_iadd (pc := 395) dL_law_395 ?_
                  refine z_sld (pc := 396) dL_law_396 (fun h75 => ?_)
                  refine z_i2l (pc := 397) dL_law_397 ?_
                  refine z_bipush (pc := 398) (v := (32 : Int32)) dL_law_398 (by decide) ?_
                  refine z_lshl (pc := 400) dL_law_400 ?_
                  refine z_aload_n (pc := 401) 0 dL_law_401 rfl rfl ?_
                  refine z_iload_n (pc := 402) 3 dL_law_402 rfl rfl ?_
                  refine z_iconst (pc := 403) (v := (3 : Int32)) dL_law_403 (by decide) ?_
                  refine z_iadd (pc := 404) dL_law_404 ?_
                  refine z_sld (pc := 405) dL_law_405 (fun h76 => ?_)
                  refine z_i2l (pc := 406) dL_law_406 ?_
                  refine z_ldc2 (pc := 407) (v := (4294967295 : Int64)) dL_law_407 kl_RL_35 ?_
                  refine z_land (pc := 410) dL_law_410 ?_
                  refine z_lor (pc := 411) dL_law_411 ?_
                  refine z_callIs (pc := 412) [.ref 36, .int (eS E (x3 + (1 : Int32)).toNatClampNeg), .long ((((eS E (x3 + (2 : Int32)).toNatClampNeg).toInt64) <<< ((32 : Int32).toInt64 &&& 63)) ||| (((eS E (x3 + (3 : Int32)).toNatClampNeg).toInt64) &&& (4294967295 : Int64)))] [.int v71] rfl (lk_V (Yc := YX12_feed) (n := 2) dL_law_412 rfl rfl (am_ob.s kM36) rfl rfl np_X12_feed mh_RX12 (by decide) ml_RL_41 im_X12_feed se_RX12_X12_feed_X12_feed in_RX12 cd_X12_feed) (Nat.le_trans (by decide) hd) ⟨by omega, by omega⟩ (Nat.le_of_ble_eq_true rfl) (am_kp.rf _) (fun v77 s78 h79 => c12_feed h79) (fun v77 s78 h79 => ?_)
                  refine z_ic_eq (pc := 415) (tgt := 1295) dL_law_415 (by decide) (fun h80 => ?_) (fun h80 => ?_)
                  · refine z_iinc (pc := 1295) (v := x3 + (6 : Int32)) (lv' := [(3, .int (x3 + (6 : Int32))), (0, .ref 0), (1, .ref 8), (2, .ref 36)]) 3 dL_law_1295 rfl rfl (by decide) rfl ?_
                    refine z_goto (pc := 1298) (tgt := 18) dL_law_1298 (by decide) ?_
                    refine z_lv (lv' := [(0, .ref 0), (1, .ref 8), (2, .ref 36), (3, .int (x3 + (6 : Int32)))]) [1, 2, 3, 0] rfl ?_
                    exact z_cule ⟨by omega, by omega⟩ (ih (x3 + (6 : Int32)) s78 hb1 hb3)
                  · refine z_iconst (pc := 418) (v := (0 : Int32)) dL_law_418 (by decide) ?_
                    exact z_rBs (b := false) rfl dL_law_419 rfl ⟨by omega, by omega⟩
                · refine z_ite (fun h81 => ?_) (fun h81 => ?_)
                  · refine z_tsEq (pc := 33) (6) (off := 387) (tgt := 420) dL_law_33 h81 (by decide) (by decide) (by decide) (by decide) ?_
                    refine z_aload_n (pc := 420) 1 dL_law_420 rfl rfl ?_
                    refine z_callIs (pc := 421) [.ref 8] [] rfl (lk_V (Yc := YX11_text) (n := 0) dL_law_421 rfl rfl (am_ob.s kM8) rfl rfl np_X11_text mh_RX11 (by decide) ml_RL_42 im_X11_text se_RX11_X11_text_X11_text in_RX11 cd_X11_text) (Nat.le_trans (by decide) hd) ⟨by omega, by omega⟩ (Nat.le_of_ble_eq_true rfl) (kp_CM) (fun v82 s83 h84 => c11_text h84) (fun v82 s83 h84 => ?_)
                    refine z_aload_n (pc := 424) 2 dL_law_424 rfl rfl ?_
                    refine z_callIs (pc := 425) [.ref 36] [.int v82] rfl (lk_V (Yc := YX12_text) (n := 0) dL_law_425 rfl rfl (am_ob.s kM36) rfl rfl np_X12_text mh_RX12 (by decide) ml_RL_46 im_X12_text se_RX12_X12_text_X12_text in_RX12 cd_X12_text) (Nat.le_trans (by decide) hd) ⟨by omega, by omega⟩ (Nat.le_of_ble_eq_true rfl) (am_kp.rf _) (fun v85 s86 h87 => c12_text h87) (fun v85 s86 h87 => ?_)
                    refine z_ic_eq (pc := 428) (tgt := 1295) dL_law_428 (by decide) (fun h88 => ?_) (fun h88 => ?_)
                    · refine z_iinc (pc := 1295) (v := x3 + (6 : Int32)) (lv' := [(3, .int (x3 + (6 : Int32))), (0, .ref 0), (1, .ref 8), (2, .ref 36)]) 3 dL_law_1295 rfl rfl (by decide) rfl ?_
                      refine z_goto (pc := 1298) (tgt := 18) dL_law_1298 (by decide) ?_
                      refine z_lv (lv' := [(0, .ref 0), (1, .ref 8), (2, .ref 36), (3, .int (x3 + (6 : Int32)))]) [1, 2, 3, 0] rfl ?_
                      exact z_cule ⟨by omega, by omega⟩ (ih (x3 + (6 : Int32)) s86 hb1 hb3)
                    · refine z_iconst (pc := 431) (v := (0 : Int32)) dL_law_431 (by decide) ?_
                      exact z_rBs (b := false) rfl dL_law_432 rfl ⟨by omega, by omega⟩
                  · refine z_ite (fun h89 => ?_) (fun h89 => ?_)
                    · refine z_tsEq (pc := 33) (7) (off := 400) (tgt := 433) dL_law_33 h89 (by decide) (by decide) (by decide) (by decide) ?_
                      refine z_aload_n (pc := 433) 1 dL_law_433 rfl rfl ?_
                      refine z_aload_n (pc := 434) 0 dL_law_434 rfl rfl ?_
                      refine z_iload_n (pc := 435) 3 dL_law_435 rfl rfl ?_
                      refine z_iconst (pc := 436) (v := (1 : Int32)) dL_law_436 (by decide) ?_
                      refine z_iadd (pc := 437) dL_law_437 ?_
                      refine z_sld (pc := 438) dL_law_438 (fun h90 => ?_)
                      refine z_callIs (pc := 439) [.ref 8, .int (eS E (x3 + (1 : Int32)).toNatClampNeg)] [] rfl (lk_V (Yc := YX11_force) (n := 1) dL_law_439 rfl rfl (am_ob.s kM8) rfl rfl np_X11_force mh_RX11 (by decide) ml_RL_47 im_X11_force se_RX11_X11_force_X11_force in_RX11 cd_X11_force) (Nat.le_trans (by decide) hd) ⟨by omega, by omega⟩ (Nat.le_of_ble_eq_true rfl) (kp_CM) (fun v91 s92 h93 => c11_force h93) (fun v91 s92 h93 => ?_)
                      refine z_aload_n (pc := 442) 2 dL_law_442 rfl rfl ?_
                      refine z_aload_n (pc := 443) 0 dL_law_443 rfl rfl ?_
                      refine z_iload_n (pc := 444) 3 dL_law_444 rfl rfl ?_
                      refine z_iconst (pc := 445) (v := (1 : Int32)) dL_law_445 (by decide) ?_
                      refine z_iadd (pc := 446) dL_law_446 ?_
                      refine z_sld (pc := 447) dL_law_447 (fun h94 => ?_)
                      refine z_callIs (pc := 448) [.ref 36, .int (eS E (x3 + (1 : Int32)).toNatClampNeg)] [.int v91] rfl (lk_V (Yc := YX12_force) (n := 1) dL_law_448 rfl rfl (am_ob.s kM36) rfl rfl np_X12_force mh_RX12 (by decide) ml_RL_51 im_X12_force se_RX12_X12_force_X12_force in_RX12 cd_X12_force) (Nat.le_trans (by decide) hd) ⟨by omega, by omega⟩ (Nat.le_of_ble_eq_true rfl) (am_kp.rf _) (fun v95 s96 h97 => c12_force h97) (fun v95 s96 h97 => ?_)
                      refine z_ic_eq (pc := 451) (tgt := 1295) dL_law_451 (by decide) (fun h98 => ?_) (fun h98 => ?_)
                      · refine z_iinc (pc := 1295) (v := x3 + (6 : Int32)) (lv' := [(3, .int (x3 + (6 : Int32))), (0, .ref 0), (1, .ref 8), (2, .ref 36)]) 3 dL_law_1295 rfl rfl (by decide) rfl ?_
                        refine z_goto (pc := 1298) (tgt := 18) dL_law_1298 (by decide) ?_
                        refine z_lv (lv' := [(0, .ref 0), (1, .ref 8), (2, .ref 36), (3, .int (x3 + (6 : Int32)))]) [1, 2, 3, 0] rfl ?_
                        exact z_cule ⟨by omega, by omega⟩ (ih (x3 + (6 : Int32)) s96 hb1 hb3)
                      · refine z_iconst (pc := 454) (v := (0 : Int32)) dL_law_454 (by decide) ?_
                        exact z_rBs (b := false) rfl dL_law_455 rfl ⟨by omega, by omega⟩
                    · refine z_ite (fun h99 => ?_) (fun h99 => ?_)
                      · refine z_tsEq (pc := 33) (8) (off := 423) (tgt := 456) dL_law_33 h99 (by decide) (by decide) (by decide) (by decide) ?_
                        refine z_aload_n (pc := 456) 1 dL_law_456 rfl rfl ?_
                        refine z_aload_n (pc := 457) 0 dL_law_457 rfl rfl ?_
                        refine z_iload_n (pc := 458) 3 dL_law_458 rfl rfl ?_
                        refine z_iconst (pc := 459) (v := (1 : Int32)) dL_law_459 (by decide) ?_
                        refine z_iadd (pc := 460) dL_law_460 ?_
                        refine z_sld (pc := 461) dL_law_461 (fun h100 => ?_)
                        refine z_aload_n (pc := 462) 0 dL_law_462 rfl rfl ?_
                        refine z_iload_n (pc := 463) 3 dL_law_463 rfl rfl ?_
                        refine z_iconst (pc := 464) (v := (2 : Int32)) dL_law_464 (by decide) ?_
                        refine z_iadd (pc := 465) dL_law_465 ?_
                        refine z_sld (pc := 466) dL_law_466 (fun h101 => ?_)
                        refine z_aload_n (pc := 467) 0 dL_law_467 rfl rfl ?_
                        refine z_iload_n (pc := 468) 3 dL_law_468 rfl rfl ?_
                        refine z_iconst (pc := 469) (v := (3 : Int32)) dL_law_469 (by decide) ?_
                        refine z_iadd (pc := 470) dL_law_470 ?_
                        refine z_sld (pc := 471) dL_law_471 (fun h102 => ?_)
                        refine z_callIs (pc := 472) [.ref 8, .int (eS E (x3 + (1 : Int32)).toNatClampNeg), .int (eS E (x3 + (2 : Int32)).toNatClampNeg), .int (eS E (x3 + (3 : Int32)).toNatClampNeg)] [] rfl (lk_V (Yc := YX11_load) (n := 3) dL_law_472 rfl rfl (am_ob.s kM8) rfl rfl np_X11_load mh_RX11 (by decide) ml_RL_52 im_X11_load se_RX11_X11_load_X11_load in_RX11 cd_X11_load) (Nat.le_trans (by decide) hd) ⟨by omega, by omega⟩ (Nat.le_of_ble_eq_true rfl) (kp_CM) (fun v103 s104 h105 => c11_load h105) (fun v103 s104 h105 => ?_)
                        refine z_aload_n (pc := 475) 2 dL_law_475 rfl rfl ?_
                        refine z_aload_n (pc := 476) 0 dL_law_476 rfl rfl ?_
                        refine z_iload_n (pc := 477) 3 dL_law_477 rfl rfl ?_
                        refine z_iconst (pc := 478) (v := (1 : Int32)) dL_law_478 (by decide) ?_
                        refine z_iadd (pc := 479) dL_law_479 ?_
                        refine z_sld (pc := 480) dL_law_480 (fun h106 => ?_)
                        refine z_aload_n (pc := 481) 0 dL_law_481 rfl rfl ?_
                        refine z_iload_n (pc := 482) 3 dL_law_482 rfl rfl ?_
                        refine z_iconst (pc := 483) (v := (2 : Int32)) dL_law_483 (by decide) ?_
                        refine z_iadd (pc := 484) dL_law_484 ?_
                        refine z_sld (pc := 485) dL_law_485 (fun h107 => ?_)
                        refine z_aload_n (pc := 486) 0 dL_law_486 rfl rfl ?_
                        refine z_iload_n (pc := 487) 3 dL_law_487 rfl rfl ?_
                        refine z_iconst (pc := 488) (v := (3 : Int32)) dL_law_488 (by decide) ?_
                        refine z_iadd (pc := 489) dL_law_489 ?_
                        refine z_sld (pc := 490) dL_law_490 (fun h108 => ?_)
                        refine z_callIs (pc := 491) [.ref 36, .int (eS E (x3 + (1 : Int32)).toNatClampNeg), .int (eS E (x3 + (2 : Int32)).toNatClampNeg), .int (eS E (x3 + (3 : Int32)).toNatClampNeg)] [.int v103] rfl (lk_V (Yc := YX12_load) (n := 3) dL_law_491 rfl rfl (am_ob.s kM36) rfl rfl np_X12_load mh_RX12 (by decide) ml_RL_55 im_X12_load se_RX12_X12_load_X12_load in_RX12 cd_X12_load) (Nat.le_trans (by decide) hd) ⟨by omega, by omega⟩ (Nat.le_of_ble_eq_true rfl) (am_kp.rf _) (fun v109 s110 h111 => c12_load h111) (fun v109 s110 h111 => ?_)
                        refine z_ic_eq (pc := 494) (tgt := 1295) dL_law_494 (by decide) (fun h112 => ?_) (fun h112 => ?_)
                        · refine z_iinc (pc := 1295) (v := x3 + (6 : Int32)) (lv' := [(3, .int (x3 + (6 : Int32))), (0, .ref 0), (1, .ref 8), (2, .ref 36)]) 3 dL_law_1295 rfl rfl (by decide) rfl ?_
                          refine z_goto (pc := 1298) (tgt := 18) dL_law_1298 (by decide) ?_
                          refine z_lv (lv' := [(0, .ref 0), (1, .ref 8), (2, .ref 36), (3, .int (x3 + (6 : Int32)))]) [1, 2, 3, 0] rfl ?_
                          exact z_cule ⟨by omega, by omega⟩ (ih (x3 + (6 : Int32)) s110 hb1 hb3)
                        · refine z_iconst (pc := 497) (v := (0 : Int32)) dL_law_497 (by decide) ?_
                          exact z_rBs (b := false) rfl dL_law_498 rfl ⟨by omega, by omega⟩
                      · refine z_ite (fun h113 => ?_) (fun h113 => ?_)
                        · refine z_tsEq (pc := 33) (9) (off := 466) (tgt := 499) dL_law_33 h113 (by decide) (by decide) (by decide) (by decide) ?_
                          refine z_aload_n (pc := 499) 1 dL_law_499 rfl rfl ?_
                          refine z_aload_n (pc := 500) 0 dL_law_500 rfl rfl ?_
                          refine z_iload_n (pc := 501) 3 dL_law_501 rfl rfl ?_
                          refine z_iconst (pc := 502) (v := (1 : Int32)) dL_law_502 (by decide) ?_
                          refine z_iadd (pc := 503) dL_law_503 ?_
                          refine z_sld (pc := 504) dL_law_504 (fun h114 => ?_)
                          refine z_aload_n (pc := 505) 0 dL_law_505 rfl rfl ?_
                          refine z_iload_n (pc := 506) 3 dL_law_506 rfl rfl ?_
                          refine z_iconst (pc := 507) (v := (2 : Int32)) dL_law_507 (by decide) ?_
                          refine z_iadd (pc := 508) dL_law_508 ?_
                          refine z_sld (pc := 509) dL_law_509 (fun h115 => ?_)
                          refine z_callI (pc := 510) [.ref 8, .int (eS E (x3 + (1 : Int32)).toNatClampNeg), .int (eS E (x3 + (2 : Int32)).toNatClampNeg)] [] rfl (lk_V (Yc := YX11_takes) (n := 2) dL_law_510 rfl rfl (am_ob.s kM8) rfl rfl np_X11_takes mh_RX11 (by decide) ml_RL_56 im_X11_takes se_RX11_X11_takes_X11_takes in_RX11 cd_X11_takes) (Nat.le_trans (by decide) hd) ⟨by omega, by omega⟩ (Nat.le_of_ble_eq_true rfl) (kp_CM) (fun v116 h118 => c11_takes h118) (fun v116 h118 => ?_)
                          refine z_aload_n (pc := 513) 2 dL_law_513 rfl rfl ?_
                          refine z_aload_n (pc := 514) 0 dL_law_514 rfl rfl ?_
                          refine z_iload_n (pc := 515) 3 dL_law_515 rfl rfl ?_
                          refine z_iconst (pc := 516) (v := (1 : Int32)) dL_law_516 (by decide) ?_
                          refine z_iadd (pc := 517) dL_law_517 ?_
                          refine z_sld (pc := 518) dL_law_518 (fun h119 => ?_)
                          refine z_aload_n (pc := 519) 0 dL_law_519 rfl rfl ?_
                          refine z_iload_n (pc := 520) 3 dL_law_520 rfl rfl ?_
                          refine z_iconst (pc := 521) (v := (2 : Int32)) dL_law_521 (by decide) ?_
                          refine z_iadd (pc := 522) dL_law_522 ?_
                          refine z_sld (pc := 523) dL_law_523 (fun h120 => ?_)
                          refine z_callI (pc := 524) [.ref 36, .int (eS E (x3 + (1 : Int32)).toNatClampNeg), .int (eS E (x3 + (2 : Int32)).toNatClampNeg)] [.int v116] rfl (lk_V (Yc := YX12_takes) (n := 2) dL_law_524 rfl rfl (am_ob.s kM36) rfl rfl np_X12_takes mh_RX12 (by decide) ml_RL_59 im_X12_takes se_RX12_X12_takes_X12_takes in_RX12 cd_X12_takes) (Nat.le_trans (by decide) hd) ⟨by omega, by omega⟩ (Nat.le_of_ble_eq_true rfl) (am_kp.rf _) (fun v121 h123 => c12_takes h123) (fun v121 h123 => ?_)
                          refine z_ic_eq (pc := 527) (tgt := 1295) dL_law_527 (by decide) (fun h124 => ?_) (fun h124 => ?_)
                          · refine z_iinc (pc := 1295) (v := x3 + (6 : Int32)) (lv' := [(3, .int (x3 + (6 : Int32))), (0, .ref 0), (1, .ref 8), (2, .ref 36)]) 3 dL_law_1295 rfl rfl (by decide) rfl ?_
                            refine z_goto (pc := 1298) (tgt := 18) dL_law_1298 (by decide) ?_
                            refine z_lv (lv' := [(0, .ref 0), (1, .ref 8), (2, .ref 36), (3, .int (x3 + (6 : Int32)))]) [1, 2, 3, 0] rfl ?_
                            exact z_cule ⟨by omega, by omega⟩ (ih (x3 + (6 : Int32)) σ hb1 hb3)
                          · refine z_iconst (pc := 530) (v := (0 : Int32)) dL_law_530 (by decide) ?_
                            exact z_rBs (b := false) rfl dL_law_531 rfl ⟨by omega, by omega⟩
                        · refine z_ite (fun h125 => ?_) (fun h125 => ?_)
                          · refine z_tsEq (pc := 33) (10) (off := 499) (tgt := 532) dL_law_33 h125 (by decide) (by decide) (by decide) (by decide) ?_
                            refine z_aload_n (pc := 532) 1 dL_law_532 rfl rfl ?_
                            refine z_aload_n (pc := 533) 0 dL_law_533 rfl rfl ?_
                            refine z_iload_n (pc := 534) 3 dL_law_534 rfl rfl ?_
                            refine z_iconst (pc := 535) (v := (1 : Int32)) dL_law_535 (by decide) ?_
                            refine z_iadd (pc := 536) dL_law_536 ?_
                            refine z_sld (pc := 537) dL_law_537 (fun h126 => ?_)
                            refine z_aload_n (pc := 538) 0 dL_law_538 rfl rfl ?_
                            refine z_iload_n (pc := 539) 3 dL_law_539 rfl rfl ?_
                            refine z_iconst (pc := 540) (v := (2 : Int32)) dL_law_540 (by decide) ?_
                            refine z_iadd (pc := 541) dL_law_541 ?_
                            refine z_sld (pc := 542) dL_law_542 (fun h127 => ?_)
                            refine z_aload_n (pc := 543) 0 dL_law_543 rfl rfl ?_
                            refine z_iload_n (pc := 544) 3 dL_law_544 rfl rfl ?_
                            refine z_iconst (pc := 545) (v := (3 : Int32)) dL_law_545 (by decide) ?_
                            refine z_iadd (pc := 546) dL_law_546 ?_
                            refine z_sld (pc := 547) dL_law_547 (fun h128 => ?_)
                            refine z_aload_n (pc := 548) 0 dL_law_548 rfl rfl ?_
                            refine z_iload_n (pc := 549) 3 dL_law_549 rfl rfl ?_
                            refine z_iconst (pc := 550) (v := (4 : Int32)) dL_law_550 (by decide) ?_
                            refine z_iadd (pc := 551) dL_law_551 ?_
                            refine z_sld (pc := 552) dL_law_552 (fun h129 => ?_)
                            refine z_callIs (pc := 553) [.ref 8, .int (eS E (x3 + (1 : Int32)).toNatClampNeg), .int (eS E (x3 + (2 : Int32)).toNatClampNeg), .int (eS E (x3 + (3 : Int32)).toNatClampNeg), .int (eS E (x3 + (4 : Int32)).toNatClampNeg)] [] rfl (lk_V (Yc := YX11_waits) (n := 4) dL_law_553 rfl rfl (am_ob.s kM8) rfl rfl np_X11_waits mh_RX11 (by decide) ml_RL_60 im_X11_waits se_RX11_X11_waits_X11_waits in_RX11 cd_X11_waits) (Nat.le_trans (by decide) hd) ⟨by omega, by omega⟩ (Nat.le_of_ble_eq_true rfl) (kp_CM) (fun v130 s131 h132 => c11_waits h132) (fun v130 s131 h132 => ?_)
                            refine z_aload_n (pc := 556) 2 dL_law_556 rfl rfl ?_
                            refine z_aload_n (pc := 557) 0 dL_law_557 rfl rfl ?_
                            refine z_iload_n (pc := 558) 3 dL_law_558 rfl rfl ?_
                            refine z_iconst (pc := 559) (v := (1 : Int32)) dL_law_559 (by decide) ?_
                            refine z_iadd (pc := 560) dL_law_560 ?_
                            refine z_sld (pc := 561) dL_law_561 (fun h133 => ?_)
                            refine z_aload_n (pc := 562) 0 dL_law_562 rfl rfl ?_
                            refine z_iload_n (pc := 563) 3 dL_law_563 rfl rfl ?_
                            refine z_iconst (pc := 564) (v := (2 : Int32)) dL_law_564 (by decide) ?_
                            refine z_iadd (pc := 565) dL_law_565 ?_
                            refine z_sld (pc := 566) dL_law_566 (fun h134 => ?_)
                            refine z_aload_n (pc := 567) 0 dL_law_567 rfl rfl ?_
                            refine z_iload_n (pc := 568) 3 dL_law_568 rfl rfl ?_
                            refine z_iconst (pc := 569) (v := (3 : Int32)) dL_law_569 (by decide) ?_
                            refine z_iadd (pc := 570) dL_law_570 ?_
                            refine z_sld (pc := 571) dL_law_571 (fun h135 => ?_)
                            refine z_aload_n (pc := 572) 0 dL_law_572 rfl rfl ?_
                            refine z_iload_n (pc := 573) 3 dL_law_573 rfl rfl ?_
                            refine z_iconst (pc := 574) (v := (4 : Int32)) dL_law_574 (by decide) ?_
                            refine z_iadd (pc := 575) dL_law_575 ?_
                            refine z_sld (pc := 576) dL_law_576 (fun h136 => ?_)
                            refine z_callIs (pc := 577) [.ref 36, .int (eS E (x3 + (1 : Int32)).toNatClampNeg), .int (eS E (x3 + (2 : Int32)).toNatClampNeg), .int (eS E (x3 + (3 : Int32)).toNatClampNeg), .int (eS E (x3 + (4 : Int32)).toNatClampNeg)] [.int v130] rfl (lk_V (Yc := YX12_waits) (n := 4) dL_law_577 rfl rfl (am_ob.s kM36) rfl rfl np_X12_waits mh_RX12 (by decide) ml_RL_64 im_X12_waits se_RX12_X12_waits_X12_waits in_RX12 cd_X12_waits) (Nat.le_trans (by decide) hd) ⟨by omega, by omega⟩ (Nat.le_of_ble_eq_true rfl) (am_kp.rf _) (fun v137 s138 h139 => c12_waits h139) (fun v137 s138 h139 => ?_)
                            refine z_ic_eq (pc := 580) (tgt := 1295) dL_law_580 (by decide) (fun h140 => ?_) (fun h140 => ?_)
                            · refine z_iinc (pc := 1295) (v := x3 + (6 : Int32)) (lv' := [(3, .int (x3 + (6 : Int32))), (0, .ref 0), (1, .ref 8), (2, .ref 36)]) 3 dL_law_1295 rfl rfl (by decide) rfl ?_
                              refine z_goto (pc := 1298) (tgt := 18) dL_law_1298 (by decide) ?_
                              refine z_lv (lv' := [(0, .ref 0), (1, .ref 8), (2, .ref 36), (3, .int (x3 + (6 : Int32)))]) [1, 2, 3, 0] rfl ?_
                              exact z_cule ⟨by omega, by omega⟩ (ih (x3 + (6 : Int32)) s138 hb1 hb3)
                            · refine z_iconst (pc := 583) (v := (0 : Int32)) dL_law_583 (by decide) ?_
                              exact z_rBs (b := false) rfl dL_law_584 rfl ⟨by omega, by omega⟩
                          · refine z_ite (fun h141 => ?_) (fun h141 => ?_)
                            · refine z_tsEq (pc := 33) (11) (off := 552) (tgt := 585) dL_law_33 h141 (by decide) (by decide) (by decide) (by decide) ?_
                              refine z_aload_n (pc := 585) 1 dL_law_585 rfl rfl ?_
                              refine z_aload_n (pc := 586) 0 dL_law_586 rfl rfl ?_
                              refine z_iload_n (pc := 587) 3 dL_law_587 rfl rfl ?_
                              refine z_iconst (pc := 588) (v := (1 : Int32)) dL_law_588 (by decide) ?_
                              refine z_iadd (pc := 589) dL_law_589 ?_
                              refine z_sld (pc := 590) dL_law_590 (fun h142 => ?_)
                              refine z_aload_n (pc := 591) 0 dL_law_591 rfl rfl ?_
                              refine z_iload_n (pc := 592) 3 dL_law_592 rfl rfl ?_
                              refine z_iconst (pc := 593) (v := (2 : Int32)) dL_law_593 (by decide) ?_
                              refine z_iadd (pc := 594) dL_law_594 ?_
                              refine z_sld (pc := 595) dL_law_595 (fun h143 => ?_)
                              refine z_callIs (pc := 596) [.ref 8, .int (eS E (x3 + (1 : Int32)).toNatClampNeg), .int (eS E (x3 + (2 : Int32)).toNatClampNeg)] [] rfl (lk_V (Yc := YX11_turn) (n := 2) dL_law_596 rfl rfl (am_ob.s kM8) rfl rfl np_X11_turn mh_RX11 (by decide) ml_RL_65 im_X11_turn se_RX11_X11_turn_X11_turn in_RX11 cd_X11_turn) (Nat.le_trans (by decide) hd) ⟨by omega, by omega⟩ (Nat.le_of_ble_eq_true rfl) (kp_CM) (fun v144 s145 h146 => c11_turn h146) (fun v144 s145 h146 => ?_)
                              refine z_aload_n (pc := 599) 2 dL_law_599 rfl rfl ?_
                              refine z_aload_n (pc := 600) 0 dL_law_600 rfl rfl ?_
                              refine z_iload_n (pc := 601) 3 dL_law_601 rfl rfl ?_
                              refine z_iconst (pc := 602) (v := (1 : Int32)) dL_law_602 (by decide) ?_
                              refine z_iadd (pc := 603) dL_law_603 ?_
                              refine z_sld (pc := 604) dL_law_604 (fun h147 => ?_)
                              refine z_aload_n (pc := 605) 0 dL_law_605 rfl rfl ?_
                              refine z_iload_n (pc := 606) 3 dL_law_606 rfl rfl ?_
                              refine z_iconst (pc := 607) (v := (2 : Int32)) dL_law_607 (by decide) ?_
                              refine z_iadd (pc := 608) dL_law_608 ?_
                              refine z_sld (pc := 609) dL_law_609 (fun h148 => ?_)
                              refine z_callIs (pc := 610) [.ref 36, .int (eS E (x3 + (1 : Int32)).toNatClampNeg), .int (eS E (x3 + (2 : Int32)).toNatClampNeg)] [.int v144] rfl (lk_V (Yc := YX12_turn) (n := 2) dL_law_610 rfl rfl (am_ob.s kM36) rfl rfl np_X12_turn mh_RX12 (by decide) ml_RL_68 im_X12_turn se_RX12_X12_turn_X12_turn in_RX12 cd_X12_turn) (Nat.le_trans (by decide) hd) ⟨by omega, by omega⟩ (Nat.le_of_ble_eq_true rfl) (am_kp.rf _) (fun v149 s150 h151 => c12_turn h151) (fun v149 s150 h151 => ?_)
                              refine z_ic_eq (pc := 613) (tgt := 1295) dL_law_613 (by decide) (fun h152 => ?_) (fun h152 => ?_)
                              · refine z_iinc (pc := 1295) (v := x3 + (6 : Int32)) (lv' := [(3, .int (x3 + (6 : Int32))), (0, .ref 0), (1, .ref 8), (2, .ref 36)]) 3 dL_law_1295 rfl rfl (by decide) rfl ?_
                                refine z_goto (pc := 1298) (tgt := 18) dL_law_1298 (by decide) ?_
                                refine z_lv (lv' := [(0, .ref 0), (1, .ref 8), (2, .ref 36), (3, .int (x3 + (6 : Int32)))]) [1, 2, 3, 0] rfl ?_
                                exact z_cule ⟨by omega, by omega⟩ (ih (x3 + (6 : Int32)) s150 hb1 hb3)
                              · refine z_iconst (pc := 616) (v := (0 : Int32)) dL_law_616 (by decide) ?_
                                exact z_rBs (b := false) rfl dL_law_617 rfl ⟨by omega, by omega⟩
                            · refine z_ite (fun h153 => ?_) (fun h153 => ?_)
                              · refine z_tsEq (pc := 33) (12) (off := 585) (tgt := 618) dL_law_33 h153 (by decide) (by decide) (by decide) (by decide) ?_
                                refine z_aload_n (pc := 618) 1 dL_law_618 rfl rfl ?_
                                refine z_aload_n (pc := 619) 0 dL_law_619 rfl rfl ?_
                                refine z_iload_n (pc := 620) 3 dL_law_620 rfl rfl ?_
                                refine z_iconst (pc := 621) (v := (1 : Int32)) dL_law_621 (by decide) ?_
                                refine z_iadd (pc := 622) dL_law_622 ?_
                                refine z_sld (pc := 623) dL_law_623 (fun h154 => ?_)
                                refine z_aload_n (pc := 624) 0 dL_law_624 rfl rfl ?_
                                refine z_iload_n (pc := 625) 3 dL_law_625 rfl rfl ?_
                                refine z_iconst (pc := 626) (v := (2 : Int32)) dL_law_626 (by decide) ?_
                                refine z_iadd (pc := 627) dL_law_627 ?_
                                refine z_sld (pc := 628) dL_law_628 (fun h155 => ?_)
                                refine z_callIs (pc := 629) [.ref 8, .int (eS E (x3 + (1 : Int32)).toNatClampNeg), .int (eS E (x3 + (2 : Int32)).toNatClampNeg)] [] rfl (lk_V (Yc := YX11_rowed) (n := 2) dL_law_629 rfl rfl (am_ob.s kM8) rfl rfl np_X11_rowed mh_RX11 (by decide) ml_RL_69 im_X11_rowed se_RX11_X11_rowed_X11_rowed in_RX11 cd_X11_rowed) (Nat.le_trans (by decide) hd) ⟨by omega, by omega⟩ (Nat.le_of_ble_eq_true rfl) (kp_CM) (fun v156 s157 h158 => c11_rowed h158) (fun v156 s157 h158 => ?_)
                                refine z_aload_n (pc := 632) 2 dL_law_632 rfl rfl ?_
                                refine z_aload_n (pc := 633) 0 dL_law_633 rfl rfl ?_
                                refine z_iload_n (pc := 634) 3 dL_law_634 rfl rfl ?_
                                refine z_iconst (pc := 635) (v := (1 : Int32)) dL_law_635 (by decide) ?_
                                refine z_iadd (pc := 636) dL_law_636 ?_
                                refine z_sld (pc := 637) dL_law_637 (fun h159 => ?_)
                                refine z_aload_n (pc := 638) 0 dL_law_638 rfl rfl ?_
                                refine z_iload_n (pc := 639) 3 dL_law_639 rfl rfl ?_
                                refine z_iconst (pc := 640) (v := (2 : Int32)) dL_law_640 (by decide) ?_
                                refine z_iadd (pc := 641) dL_law_641 ?_
                                refine z_sld (pc := 642) dL_law_642 (fun h160 => ?_)
                                refine z_callIs (pc := 643) [.ref 36, .int (eS E (x3 + (1 : Int32)).toNatClampNeg), .int (eS E (x3 + (2 : Int32)).toNatClampNeg)] [.int v156] rfl (lk_V (Yc := YX12_rowed) (n := 2) dL_law_643 rfl rfl (am_ob.s kM36) rfl rfl np_X12_rowed mh_RX12 (by decide) ml_RL_72 im_X12_rowed se_RX12_X12_rowed_X12_rowed in_RX12 cd_X12_rowed) (Nat.le_trans (by decide) hd) ⟨by omega, by omega⟩ (Nat.le_of_ble_eq_true rfl) (am_kp.rf _) (fun v161 s162 h163 => c12_rowed h163) (fun v161 s162 h163 => ?_)
                                refine z_ic_eq (pc := 646) (tgt := 1295) dL_law_646 (by decide) (fun h164 => ?_) (fun h164 => ?_)
                                · refine z_iinc (pc := 1295) (v := x3 + (6 : Int32)) (lv' := [(3, .int (x3 + (6 : Int32))), (0, .ref 0), (1, .ref 8), (2, .ref 36)]) 3 dL_law_1295 rfl rfl (by decide) rfl ?_
                                  refine z_goto (pc := 1298) (tgt := 18) dL_law_1298 (by decide) ?_
                                  refine z_lv (lv' := [(0, .ref 0), (1, .ref 8), (2, .ref 36), (3, .int (x3 + (6 : Int32)))]) [1, 2, 3, 0] rfl ?_
                                  exact z_cule ⟨by omega, by omega⟩ (ih (x3 + (6 : Int32)) s162 hb1 hb3)
                                · refine z_iconst (pc := 649) (v := (0 : Int32)) dL_law_649 (by decide) ?_
                                  exact z_rBs (b := false) rfl dL_law_650 rfl ⟨by omega, by omega⟩
                              · refine z_ite (fun h165 => ?_) (fun h165 => ?_)
                                · refine z_tsEq (pc := 33) (13) (off := 618) (tgt := 651) dL_law_33 h165 (by decide) (by decide) (by decide) (by decide) ?_
                                  refine z_aload_n (pc := 651) 1 dL_law_651 rfl rfl ?_
                                  refine z_aload_n (pc := 652) 0 dL_law_652 rfl rfl ?_
                                  refine z_iload_n (pc := 653) 3 dL_law_653 rfl rfl ?_
                                  refine z_iconst (pc := 654) (v := (1 : Int32)) dL_law_654 (by decide) ?_
                                  refine z_iadd (pc := 655) dL_law_655 ?_
                                  refine z_sld (pc := 656) dL_law_656 (fun h166 => ?_)
                                  refine z_aload_n (pc := 657) 0 dL_law_657 rfl rfl ?_
                                  refine z_iload_n (pc := 658) 3 dL_law_658 rfl rfl ?_
                                  refine z_iconst (pc := 659) (v := (2 : Int32)) dL_law_659 (by decide) ?_
                                  refine z_iadd (pc := 660) dL_law_660 ?_
                                  refine z_sld (pc := 661) dL_law_661 (fun h167 => ?_)
                                  refine z_callIs (pc := 662) [.ref 8, .int (eS E (x3 + (1 : Int32)).toNatClampNeg), .int (eS E (x3 + (2 : Int32)).toNatClampNeg)] [] rfl (lk_V (Yc := YX11_judge) (n := 2) dL_law_662 rfl rfl (am_ob.s kM8) rfl rfl np_X11_judge mh_RX11 (by decide) ml_RL_73 im_X11_judge se_RX11_X11_judge_X11_judge in_RX11 cd_X11_judge) (Nat.le_trans (by decide) hd) ⟨by omega, by omega⟩ (Nat.le_of_ble_eq_true rfl) (kp_CM) (fun v168 s169 h170 => c11_judge h170) (fun v168 s169 h170 => ?_)
                                  refine z_aload_n (pc := 665) 2 dL_law_665 rfl rfl ?_
                                  refine z_aload_n (pc := 666) 0 dL_law_666 rfl rfl ?_
                                  refine z_iload_n (pc := 667) 3 dL_law_667 rfl rfl ?_
                                  refine z_iconst (pc := 668) (v := (1 : Int32)) dL_law_668 (by decide) ?_
                                  refine z_iadd (pc := 669) dL_law_669 ?_
                                  refine z_sld (pc := 670) dL_law_670 (fun h171 => ?_)
                                  refine z_aload_n (pc := 671) 0 dL_law_671 rfl rfl ?_
                                  refine z_iload_n (pc := 672) 3 dL_law_672 rfl rfl ?_
                                  refine z_iconst (pc := 673) (v := (2 : Int32)) dL_law_673 (by decide) ?_
                                  refine z_iadd (pc := 674) dL_law_674 ?_
                                  refine z_sld (pc := 675) dL_law_675 (fun h172 => ?_)
                                  refine z_callIs (pc := 676) [.ref 36, .int (eS E (x3 + (1 : Int32)).toNatClampNeg), .int (eS E (x3 + (2 : Int32)).toNatClampNeg)] [.int v168] rfl (lk_V (Yc := YX12_judge) (n := 2) dL_law_676 rfl rfl (am_ob.s kM36) rfl rfl np_X12_judge mh_RX12 (by decide) ml_RL_76 im_X12_judge se_RX12_X12_judge_X12_judge in_RX12 cd_X12_judge) (Nat.le_trans (by decide) hd) ⟨by omega, by omega⟩ (Nat.le_of_ble_eq_true rfl) (am_kp.rf _) (fun v173 s174 h175 => c12_judge h175) (fun v173 s174 h175 => ?_)
                                  refine z_ic_eq (pc := 679) (tgt := 1295) dL_law_679 (by decide) (fun h176 => ?_) (fun h176 => ?_)
                                  · refine z_iinc (pc := 1295) (v := x3 + (6 : Int32)) (lv' := [(3, .int (x3 + (6 : Int32))), (0, .ref 0), (1, .ref 8), (2, .ref 36)]) 3 dL_law_1295 rfl rfl (by decide) rfl ?_
                                    refine z_goto (pc := 1298) (tgt := 18) dL_law_1298 (by decide) ?_
                                    refine z_lv (lv' := [(0, .ref 0), (1, .ref 8), (2, .ref 36), (3, .int (x3 + (6 : Int32)))]) [1, 2, 3, 0] rfl ?_
                                    exact z_cule ⟨by omega, by omega⟩ (ih (x3 + (6 : Int32)) s174 hb1 hb3)
                                  · refine z_iconst (pc := 682) (v := (0 : Int32)) dL_law_682 (by decide) ?_
                                    exact z_rBs (b := false) rfl dL_law_683 rfl ⟨by omega, by omega⟩
                                · refine z_ite (fun h177 => ?_) (fun h177 => ?_)
                                  · refine z_tsEq (pc := 33) (14) (off := 651) (tgt := 684) dL_law_33 h177 (by decide) (by decide) (by decide) (by decide) ?_
                                    refine z_aload_n (pc := 684) 1 dL_law_684 rfl rfl ?_
                                    refine z_aload_n (pc := 685) 0 dL_law_685 rfl rfl ?_
                                    refine z_iload_n (pc := 686) 3 dL_law_686 rfl rfl ?_
                                    refine z_iconst (pc := 687) (v := (1 : Int32)) dL_law_687 (by decide) ?_
                                    refine z_iadd (pc := 688) dL_law_688 ?_
                                    refine z_sld (pc := 689) dL_law_689 (fun h178 => ?_)
                                    refine z_aload_n (pc := 690) 0 dL_law_690 rfl rfl ?_
                                    refine z_iload_n (pc := 691) 3 dL_law_691 rfl rfl ?_
                                    refine z_iconst (pc := 692) (v := (2 : Int32)) dL_law_692 (by decide) ?_
                                    refine z_iadd (pc := 693) dL_law_693 ?_
                                    refine z_sld (pc := 694) dL_law_694 (fun h179 => ?_)
                                    refine z_callI (pc := 695) [.ref 8, .int (eS E (x3 + (1 : Int32)).toNatClampNeg), .int (eS E (x3 + (2 : Int32)).toNatClampNeg)] [] rfl (lk_V (Yc := YX11_heir) (n := 2) dL_law_695 rfl rfl (am_ob.s kM8) rfl rfl np_X11_heir mh_RX11 (by decide) ml_RL_77 im_X11_heir se_RX11_X11_heir_X11_heir in_RX11 cd_X11_heir) (Nat.le_trans (by decide) hd) ⟨by omega, by omega⟩ (Nat.le_of_ble_eq_true rfl) (kp_CM) (fun v180 h182 => c11_heir h182) (fun v180 h182 => ?_)
                                    refine z_aload_n (pc := 698) 2 dL_law_698 rfl rfl ?_
                                    refine z_aload_n (pc := 699) 0 dL_law_699 rfl rfl ?_
                                    refine z_iload_n (pc := 700) 3 dL_law_700 rfl rfl ?_
                                    refine z_iconst (pc := 701) (v := (1 : Int32)) dL_law_701 (by decide) ?_
                                    refine z_iadd (pc := 702) dL_law_702 ?_
                                    refine z_sld (pc := 703) dL_law_703 (fun h183 => ?_)
                                    refine z_aload_n (pc := 704) 0 dL_law_704 rfl rfl ?_
                                    refine z_iload_n (pc := 705) 3 dL_law_705 rfl rfl ?_
                                    refine z_iconst (pc := 706) (v := (2 : Int32)) dL_law_706 (by decide) ?_
                                    refine z_iadd (pc := 707) dL_law_707 ?_
                                    refine z_sld (pc := 708) dL_law_708 (fun h184 => ?_)
                                    refine z_callI (pc := 709) [.ref 36, .int (eS E (x3 + (1 : Int32)).toNatClampNeg), .int (eS E (x3 + (2 : Int32)).toNatClampNeg)] [.int v180] rfl (lk_V (Yc := YX12_heir) (n := 2) dL_law_709 rfl rfl (am_ob.s kM36) rfl rfl np_X12_heir mh_RX12 (by decide) ml_RL_80 im_X12_heir se_RX12_X12_heir_X12_heir in_RX12 cd_X12_heir) (Nat.le_trans (by decide) hd) ⟨by omega, by omega⟩ (Nat.le_of_ble_eq_true rfl) (am_kp.rf _) (fun v185 h187 => c12_heir h187) (fun v185 h187 => ?_)
                                    refine z_ic_eq (pc := 712) (tgt := 1295) dL_law_712 (by decide) (fun h188 => ?_) (fun h188 => ?_)
                                    · refine z_iinc (pc := 1295) (v := x3 + (6 : Int32)) (lv' := [(3, .int (x3 + (6 : Int32))), (0, .ref 0), (1, .ref 8), (2, .ref 36)]) 3 dL_law_1295 rfl rfl (by decide) rfl ?_
                                      refine z_goto (pc := 1298) (tgt := 18) dL_law_1298 (by decide) ?_
                                      refine z_lv (lv' := [(0, .ref 0), (1, .ref 8), (2, .ref 36), (3, .int (x3 + (6 : Int32)))]) [1, 2, 3, 0] rfl ?_
                                      exact z_cule ⟨by omega, by omega⟩ (ih (x3 + (6 : Int32)) σ hb1 hb3)
                                    · refine z_iconst (pc := 715) (v := (0 : Int32)) dL_law_715 (by decide) ?_
                                      exact z_rBs (b := false) rfl dL_law_716 rfl ⟨by omega, by omega⟩
                                  · refine z_ite (fun h189 => ?_) (fun h189 => ?_)
                                    · refine z_tsEq (pc := 33) (15) (off := 684) (tgt := 717) dL_law_33 h189 (by decide) (by decide) (by decide) (by decide) ?_
                                      refine z_aload_n (pc := 717) 1 dL_law_717 rfl rfl ?_
                                      refine z_aload_n (pc := 718) 0 dL_law_718 rfl rfl ?_
                                      refine z_iload_n (pc := 719) 3 dL_law_719 rfl rfl ?_
                                      refine z_iconst (pc := 720) (v := (1 : Int32)) dL_law_720 (by decide) ?_
                                      refine z_iadd (pc := 721) dL_law_721 ?_
                                      refine z_sld (pc := 722) dL_law_722 (fun h190 => ?_)
                                      refine z_aload_n (pc := 723) 0 dL_law_723 rfl rfl ?_
                                      refine z_iload_n (pc := 724) 3 dL_law_724 rfl rfl ?_
                                      refine z_iconst (pc := 725) (v := (2 : Int32)) dL_law_725 (by decide) ?_
                                      refine z_iadd (pc := 726) dL_law_726 ?_
                                      refine z_sld (pc := 727) dL_law_727 (fun h191 => ?_)
                                      refine z_callI (pc := 728) [.ref 8, .int (eS E (x3 + (1 : Int32)).toNatClampNeg), .int (eS E (x3 + (2 : Int32)).toNatClampNeg)] [] rfl (lk_V (Yc := YX11_open) (n := 2) dL_law_728 rfl rfl (am_ob.s kM8) rfl rfl np_X11_open mh_RX11 (by decide) ml_RL_81 im_X11_open se_RX11_X11_open_X11_open in_RX11 cd_X11_open) (Nat.le_trans (by decide) hd) ⟨by omega, by omega⟩ (Nat.le_of_ble_eq_true rfl) (kp_CM) (fun v192 h194 => c11_open h194) (fun v192 h194 => ?_)
                                      refine z_aload_n (pc := 731) 2 dL_law_731 rfl rfl ?_
                                      refine z_aload_n (pc := 732) 0 dL_law_732 rfl rfl ?_
                                      refine z_iload_n (pc := 733) 3 dL_law_733 rfl rfl ?_
                                      refine z_iconst (pc := 734) (v := (1 : Int32)) dL_law_734 (by decide) ?_
                                      refine z_iadd (pc := 735) dL_law_735 ?_
                                      refine z_sld (pc := 736) dL_law_736 (fun h195 => ?_)
                                      refine z_aload_n (pc := 737) 0 dL_law_737 rfl rfl ?_
                                      refine z_iload_n (pc := 738) 3 dL_law_738 rfl rfl ?_
                                      refine z_iconst (pc := 739) (v := (2 : Int32)) dL_law_739 (by decide) ?_
                                      refine z_iadd (pc := 740) dL_law_740 ?_
                                      refine z_sld (pc := 741) dL_law_741 (fun h196 => ?_)
                                      refine z_callI (pc := 742) [.ref 36, .int (eS E (x3 + (1 : Int32)).toNatClampNeg), .int (eS E (x3 + (2 : Int32)).toNatClampNeg)] [.int v192] rfl (lk_V (Yc := YX12_open) (n := 2) dL_law_742 rfl rfl (am_ob.s kM36) rfl rfl np_X12_open mh_RX12 (by decide) ml_RL_84 im_X12_open se_RX12_X12_open_X12_open in_RX12 cd_X12_open) (Nat.le_trans (by decide) hd) ⟨by omega, by omega⟩ (Nat.le_of_ble_eq_true rfl) (am_kp.rf _) (fun v197 h199 => c12_open h199) (fun v197 h199 => ?_)
                                      refine z_ic_eq (pc := 745) (tgt := 1295) dL_law_745 (by decide) (fun h200 => ?_) (fun h200 => ?_)
                                      · refine z_iinc (pc := 1295) (v := x3 + (6 : Int32)) (lv' := [(3, .int (x3 + (6 : Int32))), (0, .ref 0), (1, .ref 8), (2, .ref 36)]) 3 dL_law_1295 rfl rfl (by decide) rfl ?_
                                        refine z_goto (pc := 1298) (tgt := 18) dL_law_1298 (by decide) ?_
                                        refine z_lv (lv' := [(0, .ref 0), (1, .ref 8), (2, .ref 36), (3, .int (x3 + (6 : Int32)))]) [1, 2, 3, 0] rfl ?_
                                        exact z_cule ⟨by omega, by omega⟩ (ih (x3 + (6 : Int32)) σ hb1 hb3)
                                      · refine z_iconst (pc := 748) (v := (0 : Int32)) dL_law_748 (by decide) ?_
                                        exact z_rBs (b := false) rfl dL_law_749 rfl ⟨by omega, by omega⟩
                                    · refine z_ite (fun h201 => ?_) (fun h201 => ?_)
                                      · refine z_tsEq (pc := 33) (16) (off := 717) (tgt := 750) dL_law_33 h201 (by decide) (by decide) (by decide) (by decide) ?_
                                        refine z_aload_n (pc := 750) 1 dL_law_750 rfl rfl ?_
                                        refine z_aload_n (pc := 751) 0 dL_law_751 rfl rfl ?_
                                        refine z_iload_n (pc := 752) 3 dL_law_752 rfl rfl ?_
                                        refine z_iconst (pc := 753) (v := (1 : Int32)) dL_law_753 (by decide) ?_
                                        refine z_iadd (pc := 754) dL_law_754 ?_
                                        refine z_sld (pc := 755) dL_law_755 (fun h202 => ?_)
                                        refine z_aload_n (pc := 756) 0 dL_law_756 rfl rfl ?_
                                        refine z_iload_n (pc := 757) 3 dL_law_757 rfl rfl ?_
                                        refine z_iconst (pc := 758) (v := (2 : Int32)) dL_law_758 (by decide) ?_
                                        refine z_iadd (pc := 759) dL_law_759 ?_
                                        refine z_sld (pc := 760) dL_law_760 (fun h203 => ?_)
                                        refine z_callIs (pc := 761) [.ref 8, .int (eS E (x3 + (1 : Int32)).toNatClampNeg), .int (eS E (x3 + (2 : Int32)).toNatClampNeg)] [] rfl (lk_V (Yc := YX11_path) (n := 2) dL_law_761 rfl rfl (am_ob.s kM8) rfl rfl np_X11_path mh_RX11 (by decide) ml_RL_85 im_X11_path se_RX11_X11_path_X11_path in_RX11 cd_X11_path) (Nat.le_trans (by decide) hd) ⟨by omega, by omega⟩ (Nat.le_of_ble_eq_true rfl) (kp_CM) (fun v204 s205 h206 => c11_path h206) (fun v204 s205 h206 => ?_)
                                        refine z_aload_n (pc := 764) 2 dL_law_764 rfl rfl ?_
                                        refine z_aload_n (pc := 765) 0 dL_law_765 rfl rfl ?_
                                        refine z_iload_n (pc := 766) 3 dL_law_766 rfl rfl ?_
                                        refine z_iconst (pc := 767) (v := (1 : Int32)) dL_law_767 (by decide) ?_
                                        refine z_iadd (pc := 768) dL_law_768 ?_
                                        refine z_sld (pc := 769) dL_law_769 (fun h207 => ?_)
                                        refine z_aload_n (pc := 770) 0 dL_law_770 rfl rfl ?_
                                        refine z_iload_n (pc := 771) 3 dL_law_771 rfl rfl ?_
                                        refine z_iconst (pc := 772) (v := (2 : Int32)) dL_law_772 (by decide) ?_
                                        refine z_iadd (pc := 773) dL_law_773 ?_
                                        refine z_sld (pc := 774) dL_law_774 (fun h208 => ?_)
                                        refine z_callIs (pc := 775) [.ref 36, .int (eS E (x3 + (1 : Int32)).toNatClampNeg), .int (eS E (x3 + (2 : Int32)).toNatClampNeg)] [.int v204] rfl (lk_V (Yc := YX12_path) (n := 2) dL_law_775 rfl rfl (am_ob.s kM36) rfl rfl np_X12_path mh_RX12 (by decide) ml_RL_88 im_X12_path se_RX12_X12_path_X12_path in_RX12 cd_X12_path) (Nat.le_trans (by decide) hd) ⟨by omega, by omega⟩ (Nat.le_of_ble_eq_true rfl) (am_kp.rf _) (fun v209 s210 h211 => c12_path h211) (fun v209 s210 h211 => ?_)
                                        refine z_ic_eq (pc := 778) (tgt := 1295) dL_law_778 (by decide) (fun h212 => ?_) (fun h212 => ?_)
                                        · refine z_iinc (pc := 1295) (v := x3 + (6 : Int32)) (lv' := [(3, .int (x3 + (6 : Int32))), (0, .ref 0), (1, .ref 8), (2, .ref 36)]) 3 dL_law_1295 rfl rfl (by decide) rfl ?_
                                          refine z_goto (pc := 1298) (tgt := 18) dL_law_1298 (by decide) ?_
                                          refine z_lv (lv' := [(0, .ref 0), (1, .ref 8), (2, .ref 36), (3, .int (x3 + (6 : Int32)))]) [1, 2, 3, 0] rfl ?_
                                          exact z_cule ⟨by omega, by omega⟩ (ih (x3 + (6 : Int32)) s210 hb1 hb3)
                                        · refine z_iconst (pc := 781) (v := (0 : Int32)) dL_law_781 (by decide) ?_
                                          exact z_rBs (b := false) rfl dL_law_782 rfl ⟨by omega, by omega⟩
                                      · refine z_ite (fun h213 => ?_) (fun h213 => ?_)
                                        · refine z_tsEq (pc := 33) (17) (off := 750) (tgt := 783) dL_law_33 h213 (by decide) (by decide) (by decide) (by decide) ?_
                                          refine z_aload_n (pc := 783) 1 dL_law_783 rfl rfl ?_
                                          refine z_aload_n (pc := 784) 0 dL_law_784 rfl rfl ?_
                                          refine z_iload_n (pc := 785) 3 dL_law_785 rfl rfl ?_
                                          refine z_iconst (pc := 786) (v := (1 : Int32)) dL_law_786 (by decide) ?_
                                          refine z_iadd (pc := 787) dL_law_787 ?_
                                          refine z_sld (pc := 788) dL_law_788 (fun h214 => ?_)
                                          refine z_callIs (pc := 789) [.ref 8, .int (eS E (x3 + (1 : Int32)).toNatClampNeg)] [] rfl (lk_V (Yc := YX11_foot) (n := 1) dL_law_789 rfl rfl (am_ob.s kM8) rfl rfl np_X11_foot mh_RX11 (by decide) ml_RL_89 im_X11_foot se_RX11_X11_foot_X11_foot in_RX11 cd_X11_foot) (Nat.le_trans (by decide) hd) ⟨by omega, by omega⟩ (Nat.le_of_ble_eq_true rfl) (kp_CM) (fun v215 s216 h217 => c11_foot h217) (fun v215 s216 h217 => ?_)
                                          refine z_aload_n (pc := 792) 2 dL_law_792 rfl rfl ?_
                                          refine z_aload_n (pc := 793) 0 dL_law_793 rfl rfl ?_
                                          refine z_iload_n (pc := 794) 3 dL_law_794 rfl rfl ?_
                                          refine z_iconst (pc := 795) (v := (1 : Int32)) dL_law_795 (by decide) ?_
                                          refine z_iadd (pc := 796) dL_law_796 ?_
                                          refine z_sld (pc := 797) dL_law_797 (fun h218 => ?_)
                                          refine z_callIs (pc := 798) [.ref 36, .int (eS E (x3 + (1 : Int32)).toNatClampNeg)] [.int v215] rfl (lk_V (Yc := YX12_foot) (n := 1) dL_law_798 rfl rfl (am_ob.s kM36) rfl rfl np_X12_foot mh_RX12 (by decide) ml_RL_92 im_X12_foot se_RX12_X12_foot_X12_foot in_RX12 cd_X12_foot) (Nat.le_trans (by decide) hd) ⟨by omega, by omega⟩ (Nat.le_of_ble_eq_true rfl) (am_kp.rf _) (fun v219 s220 h221 => c12_foot h221) (fun v219 s220 h221 => ?_)
                                          refine z_ic_eq (pc := 801) (tgt := 1295) dL_law_801 (by decide) (fun h222 => ?_) (fun h222 => ?_)
                                          · refine z_iinc (pc := 1295) (v := x3 + (6 : Int32)) (lv' := [(3, .int (x3 + (6 : Int32))), (0, .ref 0), (1, .ref 8), (2, .ref 36)]) 3 dL_law_1295 rfl rfl (by decide) rfl ?_
                                            refine z_goto (pc := 1298) (tgt := 18) dL_law_1298 (by decide) ?_
                                            refine z_lv (lv' := [(0, .ref 0), (1, .ref 8), (2, .ref 36), (3, .int (x3 + (6 : Int32)))]) [1, 2, 3, 0] rfl ?_
                                            exact z_cule ⟨by omega, by omega⟩ (ih (x3 + (6 : Int32)) s220 hb1 hb3)
                                          · refine z_iconst (pc := 804) (v := (0 : Int32)) dL_law_804 (by decide) ?_
                                            exact z_rBs (b := false) rfl dL_law_805 rfl ⟨by omega, by omega⟩
                                        · refine z_ite (fun h223 => ?_) (fun h223 => ?_)
                                          · refine z_tsEq (pc := 33) (18) (off := 773) (tgt := 806) dL_law_33 h223 (by decide) (by decide) (by decide) (by decide) ?_
                                            refine z_aload_n (pc := 806) 1 dL_law_806 rfl rfl ?_
                                            refine z_aload_n (pc := 807) 0 dL_law_807 rfl rfl ?_
                                            refine z_iload_n (pc := 808) 3 dL_law_808 rfl rfl ?_
                                            refine z_iconst (pc := 809) (v := (1 : Int32)) dL_law_809 (by decide) ?_
                                            refine z_iadd (pc := 810) dL_law_810 ?_
                                            refine z_sld (pc := 811) dL_law_811 (fun h224 => ?_)
                                            refine z_callIs (pc := 812) [.ref 8, .int (eS E (x3 + (1 : Int32)).toNatClampNeg)] [] rfl (lk_V (Yc := YX11_lost) (n := 1) dL_law_812 rfl rfl (am_ob.s kM8) rfl rfl np_X11_lost mh_RX11 (by decide) ml_RL_93 im_X11_lost se_RX11_X11_lost_X11_lost in_RX11 cd_X11_lost) (Nat.le_trans (by decide) hd) ⟨by omega, by omega⟩ (Nat.le_of_ble_eq_true rfl) (kp_CM) (fun v225 s226 h227 => c11_lost h227) (fun v225 s226 h227 => ?_)
                                            refine z_aload_n (pc := 815) 2 dL_law_815 rfl rfl ?_
                                            refine z_aload_n (pc := 816) 0 dL_law_816 rfl rfl ?_
                                            refine z_iload_n (pc := 817) 3 dL_law_817 rfl rfl ?_
                                            refine z_iconst (pc := 818) (v := (1 : Int32)) dL_law_818 (by decide) ?_
                                            refine z_iadd (pc := 819) dL_law_819 ?_
                                            refine z_sld (pc := 820) dL_law_820 (fun h228 => ?_)
                                            refine z_callIs (pc := 821) [.ref 36, .int (eS E (x3 + (1 : Int32)).toNatClampNeg)] [.int v225] rfl (lk_V (Yc := YX12_lost) (n := 1) dL_law_821 rfl rfl (am_ob.s kM36) rfl rfl np_X12_lost mh_RX12 (by decide) ml_RL_96 im_X12_lost se_RX12_X12_lost_X12_lost in_RX12 cd_X12_lost) (Nat.le_trans (by decide) hd) ⟨by omega, by omega⟩ (Nat.le_of_ble_eq_true rfl) (am_kp.rf _) (fun v229 s230 h231 => c12_lost h231) (fun v229 s230 h231 => ?_)
                                            refine z_ic_eq (pc := 824) (tgt := 1295) dL_law_824 (by decide) (fun h232 => ?_) (fun h232 => ?_)
                                            · refine z_iinc (pc := 1295) (v := x3 + (6 : Int32)) (lv' := [(3, .int (x3 + (6 : Int32))), (0, .ref 0), (1, .ref 8), (2, .ref 36)]) 3 dL_law_1295 rfl rfl (by decide) rfl ?_
                                              refine z_goto (pc := 1298) (tgt := 18) dL_law_1298 (by decide) ?_
                                              refine z_lv (lv' := [(0, .ref 0), (1, .ref 8), (2, .ref 36), (3, .int (x3 + (6 : Int32)))]) [1, 2, 3, 0] rfl ?_
                                              exact z_cule ⟨by omega, by omega⟩ (ih (x3 + (6 : Int32)) s230 hb1 hb3)
                                            · refine z_iconst (pc := 827) (v := (0 : Int32)) dL_law_827 (by decide) ?_
                                              exact z_rBs (b := false) rfl dL_law_828 rfl ⟨by omega, by omega⟩
                                          · refine z_ite (fun h233 => ?_) (fun h233 => ?_)
                                            · refine z_tsEq (pc := 33) (19) (off := 796) (tgt := 829) dL_law_33 h233 (by decide) (by decide) (by decide) (by decide) ?_
                                              refine z_aload_n (pc := 829) 1 dL_law_829 rfl rfl ?_
                                              refine z_aload_n (pc := 830) 0 dL_law_830 rfl rfl ?_
                                              refine z_iload_n (pc := 831) 3 dL_law_831 rfl rfl ?_
                                              refine z_iconst (pc := 832) (v := (1 : Int32)) dL_law_832 (by decide) ?_
                                              refine z_iadd (pc := 833) dL_law_833 ?_
                                              refine z_sld (pc := 834) dL_law_834 (fun h234 => ?_)
                                              refine z_aload_n (pc := 835) 0 dL_law_835 rfl rfl ?_
                                              refine z_iload_n (pc := 836) 3 dL_law_836 rfl rfl ?_
                                              refine z_iconst (pc := 837) (v := (2 : Int32)) dL_law_837 (by decide) ?_
                                              refine z_iadd (pc := 838) dL_law_838 ?_
                                              refine z_sld (pc := 839) dL_law_839 (fun h235 => ?_)
                                              refine z_aload_n (pc := 840) 0 dL_law_840 rfl rfl ?_
                                              refine z_iload_n (pc := 841) 3 dL_law_841 rfl rfl ?_
                                              refine z_iconst (pc := 842) (v := (3 : Int32)) dL_law_842 (by decide) ?_
                                              refine z_iadd (pc := 843) dL_law_843 ?_
                                              refine z_sld (pc := 844) dL_law_844 (fun h236 => ?_)
                                              refine z_aload_n (pc := 845) 0 dL_law_845 rfl rfl ?_
                                              refine z_iload_n (pc := 846) 3 dL_law_846 rfl rfl ?_
                                              refine z_iconst (pc := 847) (v := (4 : Int32)) dL_law_847 (by decide) ?_
                                              refine z_iadd (pc := 848) dL_law_848 ?_
                                              refine z_sld (pc := 849) dL_law_849 (fun h237 => ?_)
                                              refine z_callI (pc := 850) [.ref 8, .int (eS E (x3 + (1 : Int32)).toNatClampNeg), .int (eS E (x3 + (2 : Int32)).toNatClampNeg), .int (eS E (x3 + (3 : Int32)).toNatClampNeg), .int (eS E (x3 + (4 : Int32)).toNatClampNeg)] [] rfl (lk_V (Yc := YX11_fog) (n := 4) dL_law_850 rfl rfl (am_ob.s kM8) rfl rfl np_X11_fog mh_RX11 (by decide) ml_RL_97 im_X11_fog se_RX11_X11_fog_X11_fog in_RX11 cd_X11_fog) (Nat.le_trans (by decide) hd) ⟨by omega, by omega⟩ (Nat.le_of_ble_eq_true rfl) (kp_CM) (fun v238 h240 => c11_fog h240) (fun v238 h240 => ?_)
                                              refine z_aload_n (pc := 853) 2 dL_law_853 rfl rfl ?_
                                              refine z_aload_n (pc := 854) 0 dL_law_854 rfl rfl ?_
                                              refine z_iload_n (pc := 855) 3 dL_law_855 rfl rfl ?_
                                              refine z_iconst (pc := 856) (v := (1 : Int32)) dL_law_856 (by decide) ?_
                                              refine z_iadd (pc := 857) dL_law_857 ?_
                                              refine z_sld (pc := 858) dL_law_858 (fun h241 => ?_)
                                              refine z_aload_n (pc := 859) 0 dL_law_859 rfl rfl ?_
                                              refine z_iload_n (pc := 860) 3 dL_law_860 rfl rfl ?_
                                              refine z_iconst (pc := 861) (v := (2 : Int32)) dL_law_861 (by decide) ?_
                                              refine z_iadd (pc := 862) dL_law_862 ?_
                                              refine z_sld (pc := 863) dL_law_863 (fun h242 => ?_)
                                              refine z_aload_n (pc := 864) 0 dL_law_864 rfl rfl ?_
                                              refine z_iload_n (pc := 865) 3 dL_law_865 rfl rfl ?_
                                              refine z_iconst (pc := 866) (v := (3 : Int32)) dL_law_866 (by decide) ?_
                                              refine z_iadd (pc := 867) dL_law_867 ?_
                                              refine z_sld (pc := 868) dL_law_868 (fun h243 => ?_)
                                              refine z_aload_n (pc := 869) 0 dL_law_869 rfl rfl ?_
                                              refine z_iload_n (pc := 870) 3 dL_law_870 rfl rfl ?_
                                              refine z_iconst (pc := 871) (v := (4 : Int32)) dL_law_871 (by decide) ?_
                                              refine z_iadd (pc := 872) dL_law_872 ?_
                                              refine z_sld (pc := 873) dL_law_873 (fun h244 => ?_)
                                              refine z_callI (pc := 874) [.ref 36, .int (eS E (x3 + (1 : Int32)).toNatClampNeg), .int (eS E (x3 + (2 : Int32)).toNatClampNeg), .int (eS E (x3 + (3 : Int32)).toNatClampNeg), .int (eS E (x3 + (4 : Int32)).toNatClampNeg)] [.int v238] rfl (lk_V (Yc := YX12_fog) (n := 4) dL_law_874 rfl rfl (am_ob.s kM36) rfl rfl np_X12_fog mh_RX12 (by decide) ml_RL_100 im_X12_fog se_RX12_X12_fog_X12_fog in_RX12 cd_X12_fog) (Nat.le_trans (by decide) hd) ⟨by omega, by omega⟩ (Nat.le_of_ble_eq_true rfl) (am_kp.rf _) (fun v245 h247 => c12_fog h247) (fun v245 h247 => ?_)
                                              refine z_ic_eq (pc := 877) (tgt := 1295) dL_law_877 (by decide) (fun h248 => ?_) (fun h248 => ?_)
                                              · refine z_iinc (pc := 1295) (v := x3 + (6 : Int32)) (lv' := [(3, .int (x3 + (6 : Int32))), (0, .ref 0), (1, .ref 8), (2, .ref 36)]) 3 dL_law_1295 rfl rfl (by decide) rfl ?_
                                                refine z_goto (pc := 1298) (tgt := 18) dL_law_1298 (by decide) ?_
                                                refine z_lv (lv' := [(0, .ref 0), (1, .ref 8), (2, .ref 36), (3, .int (x3 + (6 : Int32)))]) [1, 2, 3, 0] rfl ?_
                                                exact z_cule ⟨by omega, by omega⟩ (ih (x3 + (6 : Int32)) σ hb1 hb3)
                                              · refine z_iconst (pc := 880) (v := (0 : Int32)) dL_law_880 (by decide) ?_
                                                exact z_rBs (b := false) rfl dL_law_881 rfl ⟨by omega, by omega⟩
                                            · refine z_ite (fun h249 => ?_) (fun h249 => ?_)
                                              · refine z_tsEq (pc := 33) (20) (off := 849) (tgt := 882) dL_law_33 h249 (by decide) (by decide) (by decide) (by decide) ?_
                                                refine z_aload_n (pc := 882) 1 dL_law_882 rfl rfl ?_
                                                refine z_aload_n (pc := 883) 0 dL_law_883 rfl rfl ?_
                                                refine z_iload_n (pc := 884) 3 dL_law_884 rfl rfl ?_
                                                refine z_iconst (pc := 885) (v := (1 : Int32)) dL_law_885 (by decide) ?_
                                                refine z_iadd (pc := 886) dL_law_886 ?_
                                                refine z_sld (pc := 887) dL_law_887 (fun h250 => ?_)
                                                refine z_aload_n (pc := 888) 0 dL_law_888 rfl rfl ?_
                                                refine z_iload_n (pc := 889) 3 dL_law_889 rfl rfl ?_
                                                refine z_iconst (pc := 890) (v := (2 : Int32)) dL_law_890 (by decide) ?_
                                                refine z_iadd (pc := 891) dL_law_891 ?_
                                                refine z_sld (pc := 892) dL_law_892 (fun h251 => ?_)
                                                refine z_aload_n (pc := 893) 0 dL_law_893 rfl rfl ?_
                                                refine z_iload_n (pc := 894) 3 dL_law_894 rfl rfl ?_
                                                refine z_iconst (pc := 895) (v := (3 : Int32)) dL_law_895 (by decide) ?_
                                                refine z_iadd (pc := 896) dL_law_896 ?_
                                                refine z_sld (pc := 897) dL_law_897 (fun h252 => ?_)
                                                refine z_aload_n (pc := 898) 0 dL_law_898 rfl rfl ?_
                                                refine z_iload_n (pc := 899) 3 dL_law_899 rfl rfl ?_
                                                refine z_iconst (pc := 900) (v := (4 : Int32)) dL_law_900 (by decide) ?_
                                                refine z_iadd (pc := 901) dL_law_901 ?_
                                                refine z_sld (pc := 902) dL_law_902 (fun h253 => ?_)
                                                refine z_callIs (pc := 903) [.ref 8, .int (eS E (x3 + (1 : Int32)).toNatClampNeg), .int (eS E (x3 + (2 : Int32)).toNatClampNeg), .int (eS E (x3 + (3 : Int32)).toNatClampNeg), .int (eS E (x3 + (4 : Int32)).toNatClampNeg)] [] rfl (lk_V (Yc := YX11_box) (n := 4) dL_law_903 rfl rfl (am_ob.s kM8) rfl rfl np_X11_box mh_RX11 (by decide) ml_RL_101 im_X11_box se_RX11_X11_box_X11_box in_RX11 cd_X11_box) (Nat.le_trans (by decide) hd) ⟨by omega, by omega⟩ (Nat.le_of_ble_eq_true rfl) (kp_CM) (fun v254 s255 h256 => c11_box h256) (fun v254 s255 h256 => ?_)
                                                refine z_aload_n (pc := 906) 2 dL_law_906 rfl rfl ?_
                                                refine z_aload_n (pc := 907) 0 dL_law_907 rfl rfl ?_
                                                refine z_iload_n (pc := 908) 3 dL_law_908 rfl rfl ?_
                                                refine z_iconst (pc := 909) (v := (1 : Int32)) dL_law_909 (by decide) ?_
                                                refine z_iadd (pc := 910) dL_law_910 ?_
                                                refine z_sld (pc := 911) dL_law_911 (fun h257 => ?_)
                                                refine z_aload_n (pc := 912) 0 dL_law_912 rfl rfl ?_
                                                refine z_iload_n (pc := 913) 3 dL_law_913 rfl rfl ?_
                                                refine z_iconst (pc := 914) (v := (2 : Int32)) dL_law_914 (by decide) ?_
                                                refine z_iadd (pc := 915) dL_law_915 ?_
                                                refine z_sld (pc := 916) dL_law_916 (fun h258 => ?_)
                                                refine z_aload_n (pc := 917) 0 dL_law_917 rfl rfl ?_
                                                refine z_iload_n (pc := 918) 3 dL_law_918 rfl rfl ?_
                                                refine z_iconst (pc := 919) (v := (3 : Int32)) dL_law_919 (by decide) ?_
                                                refine z_iadd (pc := 920) dL_law_920 ?_
                                                refine z_sld (pc := 921) dL_law_921 (fun h259 => ?_)
                                                refine z_aload_n (pc := 922) 0 dL_law_922 rfl rfl ?_
                                                refine z_iload_n (pc := 923) 3 dL_law_923 rfl rfl ?_
                                                refine z_iconst (pc := 924) (v := (4 : Int32)) dL_law_924 (by decide) ?_
                                                refine z_iadd (pc := 925) dL_law_925 ?_
                                                refine z_sld (pc := 926) dL_law_926 (fun h260 => ?_)
                                                refine z_callIs (pc := 927) [.ref 36, .int (eS E (x3 + (1 : Int32)).toNatClampNeg), .int (eS E (x3 + (2 : Int32)).toNatClampNeg), .int (eS E (x3 + (3 : Int32)).toNatClampNeg), .int (eS E (x3 + (4 : Int32)).toNatClampNeg)] [.int v254] rfl (lk_V (Yc := YX12_box) (n := 4) dL_law_927 rfl rfl (am_ob.s kM36) rfl rfl np_X12_box mh_RX12 (by decide) ml_RL_104 im_X12_box se_RX12_X12_box_X12_box in_RX12 cd_X12_box) (Nat.le_trans (by decide) hd) ⟨by omega, by omega⟩ (Nat.le_of_ble_eq_true rfl) (am_kp.rf _) (fun v261 s262 h263 => c12_box h263) (fun v261 s262 h263 => ?_)
                                                refine z_ic_eq (pc := 930) (tgt := 1295) dL_law_930 (by decide) (fun h264 => ?_) (fun h264 => ?_)
                                                · refine z_iinc (pc := 1295) (v := x3 + (6 : Int32)) (lv' := [(3, .int (x3 + (6 : Int32))), (0, .ref 0), (1, .ref 8), (2, .ref 36)]) 3 dL_law_1295 rfl rfl (by decide) rfl ?_
                                                  refine z_goto (pc := 1298) (tgt := 18) dL_law_1298 (by decide) ?_
                                                  refine z_lv (lv' := [(0, .ref 0), (1, .ref 8), (2, .ref 36), (3, .int (x3 + (6 : Int32)))]) [1, 2, 3, 0] rfl ?_
                                                  exact z_cule ⟨by omega, by omega⟩ (ih (x3 + (6 : Int32)) s262 hb1 hb3)
                                                · refine z_iconst (pc := 933) (v := (0 : Int32)) dL_law_933 (by decide) ?_
                                                  exact z_rBs (b := false) rfl dL_law_934 rfl ⟨by omega, by omega⟩
                                              · refine z_ite (fun h265 => ?_) (fun h265 => ?_)
                                                · refine z_tsEq (pc := 33) (21) (off := 902) (tgt := 935) dL_law_33 h265 (by decide) (by decide) (by decide) (by decide) ?_
                                                  refine z_aload_n (pc := 935) 1 dL_law_935 rfl rfl ?_
                                                  refine z_aload_n (pc := 936) 0 dL_law_936 rfl rfl ?_
                                                  refine z_iload_n (pc := 937) 3 dL_law_937 rfl rfl ?_
                                                  refine z_iconst (pc := 938) (v := (1 : Int32)) dL_law_938 (by decide) ?_
                                                  refine z_iadd (pc := 939) dL_law_939 ?_
                                                  refine z_sld (pc := 940) dL_law_940 (fun h266 => ?_)
                                                  refine z_aload_n (pc := 941) 0 dL_law_941 rfl rfl ?_
                                                  refine z_iload_n (pc := 942) 3 dL_law_942 rfl rfl ?_
                                                  refine z_iconst (pc := 943) (v := (2 : Int32)) dL_law_943 (by decide) ?_
                                                  refine z_iadd (pc := 944) dL_law_944 ?_
                                                  refine z_sld (pc := 945) dL_law_945 (fun h267 => ?_)
                                                  refine z_aload_n (pc := 946) 0 dL_law_946 rfl rfl ?_
                                                  refine z_iload_n (pc := 947) 3 dL_law_947 rfl rfl ?_
                                                  refine z_iconst (pc := 948) (v := (3 : Int32)) dL_law_948 (by decide) ?_
                                                  refine z_iadd (pc := 949) dL_law_949 ?_
                                                  refine z_sld (pc := 950) dL_law_950 (fun h268 => ?_)
                                                  refine z_callI (pc := 951) [.ref 8, .int (eS E (x3 + (1 : Int32)).toNatClampNeg), .int (eS E (x3 + (2 : Int32)).toNatClampNeg), .int (eS E (x3 + (3 : Int32)).toNatClampNeg)] [] rfl (lk_V (Yc := YX11_shares) (n := 3) dL_law_951 rfl rfl (am_ob.s kM8) rfl rfl np_X11_shares mh_RX11 (by decide) ml_RL_105 im_X11_shares se_RX11_X11_shares_X11_shares in_RX11 cd_X11_shares) (Nat.le_trans (by decide) hd) ⟨by omega, by omega⟩ (Nat.le_of_ble_eq_true rfl) (kp_CM) (fun v269 h271 => c11_shares h271) (fun v269 h271 => ?_)
                                                  refine z_aload_n (pc := 954) 2 dL_law_954 rfl rfl ?_
                                                  refine z_aload_n (pc := 955) 0 dL_law_955 rfl rfl ?_
                                                  refine z_iload_n (pc := 956) 3 dL_law_956 rfl rfl ?_
                                                  refine z_iconst (pc := 957) (v := (1 : Int32)) dL_law_957 (by decide) ?_
                                                  refine z_iadd (pc := 958) dL_law_958 ?_
                                                  refine z_sld (pc := 959) dL_law_959 (fun h272 => ?_)
                                                  refine z_aload_n (pc := 960) 0 dL_law_960 rfl rfl ?_
                                                  refine z_iload_n (pc := 961) 3 dL_law_961 rfl rfl ?_
                                                  refine z_iconst (pc := 962) (v := (2 : Int32)) dL_law_962 (by decide) ?_
                                                  refine z_iadd (pc := 963) dL_law_963 ?_
                                                  refine z_sld (pc := 964) dL_law_964 (fun h273 => ?_)
                                                  refine z_aload_n (pc := 965) 0 dL_law_965 rfl rfl ?_
                                                  refine z_iload_n (pc := 966) 3 dL_law_966 rfl rfl ?_
                                                  refine z_iconst (pc := 967) (v := (3 : Int32)) dL_law_967 (by decide) ?_
                                                  refine z_iadd (pc := 968) dL_law_968 ?_
                                                  refine z_sld (pc := 969) dL_law_969 (fun h274 => ?_)
                                                  refine z_callI (pc := 970) [.ref 36, .int (eS E (x3 + (1 : Int32)).toNatClampNeg), .int (eS E (x3 + (2 : Int32)).toNatClampNeg), .int (eS E (x3 + (3 : Int32)).toNatClampNeg)] [.int v269] rfl (lk_V (Yc := YX12_shares) (n := 3) dL_law_970 rfl rfl (am_ob.s kM36) rfl rfl np_X12_shares mh_RX12 (by decide) ml_RL_108 im_X12_shares se_RX12_X12_shares_X12_shares in_RX12 cd_X12_shares) (Nat.le_trans (by decide) hd) ⟨by omega, by omega⟩ (Nat.le_of_ble_eq_true rfl) (am_kp.rf _) (fun v275 h277 => c12_shares h277) (fun v275 h277 => ?_)
                                                  refine z_ic_eq (pc := 973) (tgt := 1295) dL_law_973 (by decide) (fun h278 => ?_) (fun h278 => ?_)
                                                  · refine z_iinc (pc := 1295) (v := x3 + (6 : Int32)) (lv' := [(3, .int (x3 + (6 : Int32))), (0, .ref 0), (1, .ref 8), (2, .ref 36)]) 3 dL_law_1295 rfl rfl (by decide) rfl ?_
                                                    refine z_goto (pc := 1298) (tgt := 18) dL_law_1298 (by decide) ?_
                                                    refine z_lv (lv' := [(0, .ref 0), (1, .ref 8), (2, .ref 36), (3, .int (x3 + (6 : Int32)))]) [1, 2, 3, 0] rfl ?_
                                                    exact z_cule ⟨by omega, by omega⟩ (ih (x3 + (6 : Int32)) σ hb1 hb3)
                                                  · refine z_iconst (pc := 976) (v := (0 : Int32)) dL_law_976 (by decide) ?_
                                                    exact z_rBs (b := false) rfl dL_law_977 rfl ⟨by omega, by omega⟩
                                                · refine z_ite (fun h279 => ?_) (fun h279 => ?_)
                                                  · refine z_tsEq (pc := 33) (22) (off := 945) (tgt := 978) dL_law_33 h279 (by decide) (by decide) (by decide) (by decide) ?_
                                                    refine z_aload_n (pc := 978) 1 dL_law_978 rfl rfl ?_
                                                    refine z_aload_n (pc := 979) 0 dL_law_979 rfl rfl ?_
                                                    refine z_iload_n (pc := 980) 3 dL_law_980 rfl rfl ?_
                                                    refine z_iconst (pc := 981) (v := (1 : Int32)) dL_law_981 (by decide) ?_
                                                    refine z_iadd (pc := 982) dL_law_982 ?_
                                                    refine z_sld (pc := 983) dL_law_983 (fun h280 => ?_)
                                                    refine z_aload_n (pc := 984) 0 dL_law_984 rfl rfl ?_
                                                    refine z_iload_n (pc := 985) 3 dL_law_985 rfl rfl ?_
                                                    refine z_iconst (pc := 986) (v := (2 : Int32)) dL_law_986 (by decide) ?_
                                                    refine z_iadd (pc := 987) dL_law_987 ?_
                                                    refine z_sld (pc := 988) dL_law_988 (fun h281 => ?_)
                                                    refine z_callI (pc := 989) [.ref 8, .int (eS E (x3 + (1 : Int32)).toNatClampNeg), .int (eS E (x3 + (2 : Int32)).toNatClampNeg)] [] rfl (lk_V (Yc := YX11_bridge) (n := 2) dL_law_989 rfl rfl (am_ob.s kM8) rfl rfl np_X11_bridge mh_RX11 (by decide) ml_RL_109 im_X11_bridge se_RX11_X11_bridge_X11_bridge in_RX11 cd_X11_bridge) (Nat.le_trans (by decide) hd) ⟨by omega, by omega⟩ (Nat.le_of_ble_eq_true rfl) (kp_CM) (fun v282 h284 => c11_bridge h284) (fun v282 h284 => ?_)
                                                    refine z_aload_n (pc := 992) 2 dL_law_992 rfl rfl ?_
                                                    refine z_aload_n (pc := 993) 0 dL_law_993 rfl rfl ?_
                                                    refine z_iload_n (pc := 994) 3 dL_law_994 rfl rfl ?_
                                                    refine z_iconst (pc := 995) (v := (1 : Int32)) dL_law_995 (by decide) ?_
                                                    refine z_iadd (pc := 996) dL_law_996 ?_
                                                    refine z_sld (pc := 997) dL_law_997 (fun h285 => ?_)
                                                    refine z_aload_n (pc := 998) 0 dL_law_998 rfl rfl ?_
                                                    refine z_iload_n (pc := 999) 3 dL_law_999 rfl rfl ?_
                                                    refine z_iconst (pc := 1000) (v := (2 : Int32)) dL_law_1000 (by decide) ?_
                                                    refine z_iadd (pc := 1001) dL_law_1001 ?_
                                                    refine z_sld (pc := 1002) dL_law_1002 (fun h286 => ?_)
                                                    refine z_callI (pc := 1003) [.ref 36, .int (eS E (x3 + (1 : Int32)).toNatClampNeg), .int (eS E (x3 + (2 : Int32)).toNatClampNeg)] [.int v282] rfl (lk_V (Yc := YX12_bridge) (n := 2) dL_law_1003 rfl rfl (am_ob.s kM36) rfl rfl np_X12_bridge mh_RX12 (by decide) ml_RL_112 im_X12_bridge se_RX12_X12_bridge_X12_bridge in_RX12 cd_X12_bridge) (Nat.le_trans (by decide) hd) ⟨by omega, by omega⟩ (Nat.le_of_ble_eq_true rfl) (am_kp.rf _) (fun v287 h289 => c12_bridge h289) (fun v287 h289 => ?_)
                                                    refine z_ic_eq (pc := 1006) (tgt := 1295) dL_law_1006 (by decide) (fun h290 => ?_) (fun h290 => ?_)
                                                    · refine z_iinc (pc := 1295) (v := x3 + (6 : Int32)) (lv' := [(3, .int (x3 + (6 : Int32))), (0, .ref 0), (1, .ref 8), (2, .ref 36)]) 3 dL_law_1295 rfl rfl (by decide) rfl ?_
                                                      refine z_goto (pc := 1298) (tgt := 18) dL_law_1298 (by decide) ?_
                                                      refine z_lv (lv' := [(0, .ref 0), (1, .ref 8), (2, .ref 36), (3, .int (x3 + (6 : Int32)))]) [1, 2, 3, 0] rfl ?_
                                                      exact z_cule ⟨by omega, by omega⟩ (ih (x3 + (6 : Int32)) σ hb1 hb3)
                                                    · refine z_iconst (pc := 1009) (v := (0 : Int32)) dL_law_1009 (by decide) ?_
                                                      exact z_rBs (b := false) rfl dL_law_1010 rfl ⟨by omega, by omega⟩
                                                  · refine z_ite (fun h291 => ?_) (fun h291 => ?_)
                                                    · refine z_tsEq (pc := 33) (23) (off := 978) (tgt := 1011) dL_law_33 h291 (by decide) (by decide) (by decide) (by decide) ?_
                                                      refine z_aload_n (pc := 1011) 1 dL_law_1011 rfl rfl ?_
                                                      refine z_callIs (pc := 1012) [.ref 8] [] rfl (lk_V (Yc := YX11_image) (n := 0) dL_law_1012 rfl rfl (am_ob.s kM8) rfl rfl np_X11_image mh_RX11 (by decide) ml_RL_113 im_X11_image se_RX11_X11_image_X11_image in_RX11 cd_X11_image) (Nat.le_trans (by decide) hd) ⟨by omega, by omega⟩ (Nat.le_of_ble_eq_true rfl) (kp_CM) (fun v292 s293 h294 => c11_image h294) (fun v292 s293 h294 => ?_)
                                                      refine z_aload_n (pc := 1015) 2 dL_law_1015 rfl rfl ?_
                                                      refine z_callIs (pc := 1016) [.ref 36] [.int v292] rfl (lk_V (Yc := YX12_image) (n := 0) dL_law_1016 rfl rfl (am_ob.s kM36) rfl rfl np_X12_image mh_RX12 (by decide) ml_RL_116 im_X12_image se_RX12_X12_image_X12_image in_RX12 cd_X12_image) (Nat.le_trans (by decide) hd) ⟨by omega, by omega⟩ (Nat.le_of_ble_eq_true rfl) (am_kp.rf _) (fun v295 s296 h297 => c12_image h297) (fun v295 s296 h297 => ?_)
                                                      refine z_ic_eq (pc := 1019) (tgt := 1295) dL_law_1019 (by decide) (fun h298 => ?_) (fun h298 => ?_)
                                                      · refine z_iinc (pc := 1295) (v := x3 + (6 : Int32)) (lv' := [(3, .int (x3 + (6 : Int32))), (0, .ref 0), (1, .ref 8), (2, .ref 36)]) 3 dL_law_1295 rfl rfl (by decide) rfl ?_
                                                        refine z_goto (pc := 1298) (tgt := 18) dL_law_1298 (by decide) ?_
                                                        refine z_lv (lv' := [(0, .ref 0), (1, .ref 8), (2, .ref 36), (3, .int (x3 + (6 : Int32)))]) [1, 2, 3, 0] rfl ?_
                                                        exact z_cule ⟨by omega, by omega⟩ (ih (x3 + (6 : Int32)) s296 hb1 hb3)
                                                      · refine z_iconst (pc := 1022) (v := (0 : Int32)) dL_law_1022 (by decide) ?_
                                                        exact z_rBs (b := false) rfl dL_law_1023 rfl ⟨by omega, by omega⟩
                                                    · refine z_ite (fun h299 => ?_) (fun h299 => ?_)
                                                      · refine z_tsEq (pc := 33) (24) (off := 991) (tgt := 1024) dL_law_33 h299 (by decide) (by decide) (by decide) (by decide) ?_
                                                        refine z_aload_n (pc := 1024) 1 dL_law_1024 rfl rfl ?_
                                                        refine z_callIs (pc := 1025) [.ref 8] [] rfl (lk_V (Yc := YX11_back) (n := 0) dL_law_1025 rfl rfl (am_ob.s kM8) rfl rfl np_X11_back mh_RX11 (by decide) ml_RL_117 im_X11_back se_RX11_X11_back_X11_back in_RX11 cd_X11_back) (Nat.le_trans (by decide) hd) ⟨by omega, by omega⟩ (Nat.le_of_ble_eq_true rfl) (kp_CM) (fun v300 s301 h302 => c11_back h302) (fun v300 s301 h302 => ?_)
                                                        refine z_aload_n (pc := 1028) 2 dL_law_1028 rfl rfl ?_
                                                        refine z_callIs (pc := 1029) [.ref 36] [.int v300] rfl (lk_V (Yc := YX12_back) (n := 0) dL_law_1029 rfl rfl (am_ob.s kM36) rfl rfl np_X12_back mh_RX12 (by decide) ml_RL_120 im_X12_back se_RX12_X12_back_X12_back in_RX12 cd_X12_back) (Nat.le_trans (by decide) hd) ⟨by omega, by omega⟩ (Nat.le_of_ble_eq_true rfl) (am_kp.rf _) (fun v303 s304 h305 => c12_back h305) (fun v303 s304 h305 => ?_)
                                                        refine z_ic_eq (pc := 1032) (tgt := 1295) dL_law_1032 (by decide) (fun h306 => ?_) (fun h306 => ?_)
                                                        · refine z_iinc (pc := 1295) (v := x3 + (6 : Int32)) (lv' := [(3, .int (x3 + (6 : Int32))), (0, .ref 0), (1, .ref 8), (2, .ref 36)]) 3 dL_law_1295 rfl rfl (by decide) rfl ?_
                                                          refine z_goto (pc := 1298) (tgt := 18) dL_law_1298 (by decide) ?_
                                                          refine z_lv (lv' := [(0, .ref 0), (1, .ref 8), (2, .ref 36), (3, .int (x3 + (6 : Int32)))]) [1, 2, 3, 0] rfl ?_
                                                          exact z_cule ⟨by omega, by omega⟩ (ih (x3 + (6 : Int32)) s304 hb1 hb3)
                                                        · refine z_iconst (pc := 1035) (v := (0 : Int32)) dL_law_1035 (by decide) ?_
                                                          exact z_rBs (b := false) rfl dL_law_1036 rfl ⟨by omega, by omega⟩
                                                      · refine z_ite (fun h307 => ?_) (fun h307 => ?_)
                                                        · refine z_tsEq (pc := 33) (25) (off := 1004) (tgt := 1037) dL_law_33 h307 (by decide) (by decide) (by decide) (by decide) ?_
                                                          refine z_aload_n (pc := 1037) 1 dL_law_1037 rfl rfl ?_
                                                          refine z_aload_n (pc := 1038) 0 dL_law_1038 rfl rfl ?_
                                                          refine z_iload_n (pc := 1039) 3 dL_law_1039 rfl rfl ?_
                                                          refine z_iconst (pc := 1040) (v := (1 : Int32)) dL_law_1040 (by decide) ?_
                                                          refine z_iadd (pc := 1041) dL_law_1041 ?_
                                                          refine z_sld (pc := 1042) dL_law_1042 (fun h308 => ?_)
                                                          refine z_callI (pc := 1043) [.ref 8, .int (eS E (x3 + (1 : Int32)).toNatClampNeg)] [] rfl (lk_V (Yc := YX11_count) (n := 1) dL_law_1043 rfl rfl (am_ob.s kM8) rfl rfl np_X11_count mh_RX11 (by decide) ml_RL_121 im_X11_count se_RX11_X11_count_X11_count in_RX11 cd_X11_count) (Nat.le_trans (by decide) hd) ⟨by omega, by omega⟩ (Nat.le_of_ble_eq_true rfl) (kp_CM) (fun v309 h311 => c11_count h311) (fun v309 h311 => ?_)
                                                          refine z_aload_n (pc := 1046) 2 dL_law_1046 rfl rfl ?_
                                                          refine z_aload_n (pc := 1047) 0 dL_law_1047 rfl rfl ?_
                                                          refine z_iload_n (pc := 1048) 3 dL_law_1048 rfl rfl ?_
                                                          refine z_iconst (pc := 1049) (v := (1 : Int32)) dL_law_1049 (by decide) ?_
                                                          refine z_iadd (pc := 1050) dL_law_1050 ?_
                                                          refine z_sld (pc := 1051) dL_law_1051 (fun h312 => ?_)
                                                          refine z_callI (pc := 1052) [.ref 36, .int (eS E (x3 + (1 : Int32)).toNatClampNeg)] [.int v309] rfl (lk_V (Yc := YX12_count) (n := 1) dL_law_1052 rfl rfl (am_ob.s kM36) rfl rfl np_X12_count mh_RX12 (by decide) ml_RL_124 im_X12_count se_RX12_X12_count_X12_count in_RX12 cd_X12_count) (Nat.le_trans (by decide) hd) ⟨by omega, by omega⟩ (Nat.le_of_ble_eq_true rfl) (am_kp.rf _) (fun v313 h315 => c12_count h315) (fun v313 h315 => ?_)
                                                          refine z_ic_eq (pc := 1055) (tgt := 1295) dL_law_1055 (by decide) (fun h316 => ?_) (fun h316 => ?_)
                                                          · refine z_iinc (pc := 1295) (v := x3 + (6 : Int32)) (lv' := [(3, .int (x3 + (6 : Int32))), (0, .ref 0), (1, .ref 8), (2, .ref 36)]) 3 dL_law_1295 rfl rfl (by decide) rfl ?_
                                                            refine z_goto (pc := 1298) (tgt := 18) dL_law_1298 (by decide) ?_
                                                            refine z_lv (lv' := [(0, .ref 0), (1, .ref 8), (2, .ref 36), (3, .int (x3 + (6 : Int32)))]) [1, 2, 3, 0] rfl ?_
                                                            exact z_cule ⟨by omega, by omega⟩ (ih (x3 + (6 : Int32)) σ hb1 hb3)
                                                          · refine z_iconst (pc := 1058) (v := (0 : Int32)) dL_law_1058 (by decide) ?_
                                                            exact z_rBs (b := false) rfl dL_law_1059 rfl ⟨by omega, by omega⟩
                                                        · refine z_ite (fun h317 => ?_) (fun h317 => ?_)
                                                          · refine z_tsEq (pc := 33) (26) (off := 1027) (tgt := 1060) dL_law_33 h317 (by decide) (by decide) (by decide) (by decide) ?_
                                                            refine z_aload_n (pc := 1060) 1 dL_law_1060 rfl rfl ?_
                                                            refine z_aload_n (pc := 1061) 0 dL_law_1061 rfl rfl ?_
                                                            refine z_iload_n (pc := 1062) 3 dL_law_1062 rfl rfl ?_
                                                            refine z_iconst (pc := 1063) (v := (1 : Int32)) dL_law_1063 (by decide) ?_
                                                            refine z_iadd (pc := 1064) dL_law_1064 ?_
                                                            refine z_sld (pc := 1065) dL_law_1065 (fun h318 => ?_)
                                                            refine z_aload_n (pc := 1066) 0 dL_law_1066 rfl rfl ?_
                                                            refine z_iload_n (pc := 1067) 3 dL_law_1067 rfl rfl ?_
                                                            refine z_iconst (pc := 1068) (v := (2 : Int32)) dL_law_1068 (by decide) ?_
                                                            refine z_iadd (pc := 1069) dL_law_1069 ?_
                                                            refine z_sld (pc := 1070) dL_law_1070 (fun h319 => ?_)
                                                            refine z_aload_n (pc := 1071) 0 dL_law_1071 rfl rfl ?_
                                                            refine z_iload_n (pc := 1072) 3 dL_law_1072 rfl rfl ?_
                                                            refine z_iconst (pc := 1073) (v := (3 : Int32)) dL_law_1073 (by decide) ?_
                                                            refine z_iadd (pc := 1074) dL_law_1074 ?_
                                                            refine z_sld (pc := 1075) dL_law_1075 (fun h320 => ?_)
                                                            refine z_callIs (pc := 1076) [.ref 8, .int (eS E (x3 + (1 : Int32)).toNatClampNeg), .int (eS E (x3 + (2 : Int32)).toNatClampNeg), .int (eS E (x3 + (3 : Int32)).toNatClampNeg)] [] rfl (lk_V (Yc := YX11_sheet) (n := 3) dL_law_1076 rfl rfl (am_ob.s kM8) rfl rfl np_X11_sheet mh_RX11 (by decide) ml_RL_125 im_X11_sheet se_RX11_X11_sheet_X11_sheet in_RX11 cd_X11_sheet) (Nat.le_trans (by decide) hd) ⟨by omega, by omega⟩ (Nat.le_of_ble_eq_true rfl) (kp_CM) (fun v321 s322 h323 => c11_sheet h323) (fun v321 s322 h323 => ?_)
                                                            refine z_aload_n (pc := 1079) 2 dL_law_1079 rfl rfl ?_
                                                            refine z_aload_n (pc := 1080) 0 dL_law_1080 rfl rfl ?_
                                                            refine z_iload_n (pc := 1081) 3 dL_law_1081 rfl rfl ?_
                                                            refine z_iconst (pc := 1082) (v := (1 : Int32)) dL_law_1082 (by decide) ?_
                                                            refine z_iadd (pc := 1083) dL_law_1083 ?_
                                                            refine z_sld (pc := 1084) dL_law_1084 (fun h324 => ?_)
                                                            refine z_aload_n (pc := 1085) 0 dL_law_1085 rfl rfl ?_
                                                            refine z_iload_n (pc := 1086) 3 dL_law_1086 rfl rfl ?_
                                                            refine z_iconst (pc := 1087) (v := (2 : Int32)) dL_law_1087 (by decide) ?_
                                                            refine z_iadd (pc := 1088) dL_law_1088 ?_
                                                            refine z_sld (pc := 1089) dL_law_1089 (fun h325 => ?_)
                                                            refine z_aload_n (pc := 1090) 0 dL_law_1090 rfl rfl ?_
                                                            refine z_iload_n (pc := 1091) 3 dL_law_1091 rfl rfl ?_
                                                            refine z_iconst (pc := 1092) (v := (3 : Int32)) dL_law_1092 (by decide) ?_
                                                            refine z_iadd (pc := 1093) dL_law_1093 ?_
                                                            refine z_sld (pc := 1094) dL_law_1094 (fun h326 => ?_)
                                                            refine z_callIs (pc := 1095) [.ref 36, .int (eS E (x3 + (1 : Int32)).toNatClampNeg), .int (eS E (x3 + (2 : Int32)).toNatClampNeg), .int (eS E (x3 + (3 : Int32)).toNatClampNeg)] [.int v321] rfl (lk_V (Yc := YX12_sheet) (n := 3) dL_law_1095 rfl rfl (am_ob.s kM36) rfl rfl np_X12_sheet mh_RX12 (by decide) ml_RL_128 im_X12_sheet se_RX12_X12_sheet_X12_sheet in_RX12 cd_X12_sheet) (Nat.le_trans (by decide) hd) ⟨by omega, by omega⟩ (Nat.le_of_ble_eq_true rfl) (am_kp.rf _) (fun v327 s328 h329 => c12_sheet h329) (fun v327 s328 h329 => ?_)
                                                            refine z_ic_eq (pc := 1098) (tgt := 1295) dL_law_1098 (by decide) (fun h330 => ?_) (fun h330 => ?_)
                                                            · refine z_iinc (pc := 1295) (v := x3 + (6 : Int32)) (lv' := [(3, .int (x3 + (6 : Int32))), (0, .ref 0), (1, .ref 8), (2, .ref 36)]) 3 dL_law_1295 rfl rfl (by decide) rfl ?_
                                                              refine z_goto (pc := 1298) (tgt := 18) dL_law_1298 (by decide) ?_
                                                              refine z_lv (lv' := [(0, .ref 0), (1, .ref 8), (2, .ref 36), (3, .int (x3 + (6 : Int32)))]) [1, 2, 3, 0] rfl ?_
                                                              exact z_cule ⟨by omega, by omega⟩ (ih (x3 + (6 : Int32)) s328 hb1 hb3)
                                                            · refine z_iconst (pc := 1101) (v := (0 : Int32)) dL_law_1101 (by decide) ?_
                                                              exact z_rBs (b := false) rfl dL_law_1102 rfl ⟨by omega, by omega⟩
                                                          · refine z_ite (fun h331 => ?_) (fun h331 => ?_)
                                                            · refine z_tsEq (pc := 33) (27) (off := 1070) (tgt := 1103) dL_law_33 h331 (by decide) (by decide) (by decide) (by decide) ?_
                                                              refine z_aload_n (pc := 1103) 1 dL_law_1103 rfl rfl ?_
                                                              refine z_aload_n (pc := 1104) 0 dL_law_1104 rfl rfl ?_
                                                              refine z_iload_n (pc := 1105) 3 dL_law_1105 rfl rfl ?_
                                                              refine z_iconst (pc := 1106) (v := (1 : Int32)) dL_law_1106 (by decide) ?_
                                                              refine z_iadd (pc := 1107) dL_law_1107 ?_
                                                              refine z_sld (pc := 1108) dL_law_1108 (fun h332 => ?_)
                                                              refine z_aload_n (pc := 1109) 0 dL_law_1109 rfl rfl ?_
                                                              refine z_iload_n (pc := 1110) 3 dL_law_1110 rfl rfl ?_
                                                              refine z_iconst (pc := 1111) (v := (2 : Int32)) dL_law_1111 (by decide) ?_
                                                              refine z_iadd (pc := 1112) dL_law_1112 ?_
                                                              refine z_sld (pc := 1113) dL_law_1113 (fun h333 => ?_)
                                                              refine z_aload_n (pc := 1114) 0 dL_law_1114 rfl rfl ?_
                                                              refine z_iload_n (pc := 1115) 3 dL_law_1115 rfl rfl ?_
                                                              refine z_iconst (pc := 1116) (v := (3 : Int32)) dL_law_1116 (by decide) ?_
                                                              refine z_iadd (pc := 1117) dL_law_1117 ?_
                                                              refine z_sld (pc := 1118) dL_law_1118 (fun h334 => ?_)
                                                              refine z_callIs (pc := 1119) [.ref 8, .int (eS E (x3 + (1 : Int32)).toNatClampNeg), .int (eS E (x3 + (2 : Int32)).toNatClampNeg), .int (eS E (x3 + (3 : Int32)).toNatClampNeg)] [] rfl (lk_V (Yc := YX11_cell) (n := 3) dL_law_1119 rfl rfl (am_ob.s kM8) rfl rfl np_X11_cell mh_RX11 (by decide) ml_RL_129 im_X11_cell se_RX11_X11_cell_X11_cell in_RX11 cd_X11_cell) (Nat.le_trans (by decide) hd) ⟨by omega, by omega⟩ (Nat.le_of_ble_eq_true rfl) (kp_CM) (fun v335 s336 h337 => c11_cell h337) (fun v335 s336 h337 => ?_)
                                                              refine z_aload_n (pc := 1122) 2 dL_law_1122 rfl rfl ?_
                                                              refine z_aload_n (pc := 1123) 0 dL_law_1123 rfl rfl ?_
                                                              refine z_iload_n (pc := 1124) 3 dL_law_1124 rfl rfl ?_
                                                              refine z_iconst (pc := 1125) (v := (1 : Int32)) dL_law_1125 (by decide) ?_
                                                              refine z_iadd (pc := 1126) dL_law_1126 ?_
                                                              refine z_sld (pc := 1127) dL_law_1127 (fun h338 => ?_)
                                                              refine z_aload_n (pc := 1128) 0 dL_law_1128 rfl rfl ?_
                                                              refine z_iload_n (pc := 1129) 3 dL_law_1129 rfl rfl ?_
                                                              refine z_iconst (pc := 1130) (v := (2 : Int32)) dL_law_1130 (by decide) ?_
                                                              refine z_iadd (pc := 1131) dL_law_1131 ?_
                                                              refine z_sld (pc := 1132) dL_law_1132 (fun h339 => ?_)
                                                              refine z_aload_n (pc := 1133) 0 dL_law_1133 rfl rfl ?_
                                                              refine z_iload_n (pc := 1134) 3 dL_law_1134 rfl rfl ?_
                                                              refine z_iconst (pc := 1135) (v := (3 : Int32)) dL_law_1135 (by decide) ?_
                                                              refine z_iadd (pc := 1136) dL_law_1136 ?_
                                                              refine z_sld (pc := 1137) dL_law_1137 (fun h340 => ?_)
                                                              refine z_callIs (pc := 1138) [.ref 36, .int (eS E (x3 + (1 : Int32)).toNatClampNeg), .int (eS E (x3 + (2 : Int32)).toNatClampNeg), .int (eS E (x3 + (3 : Int32)).toNatClampNeg)] [.int v335] rfl (lk_V (Yc := YX12_cell) (n := 3) dL_law_1138 rfl rfl (am_ob.s kM36) rfl rfl np_X12_cell mh_RX12 (by decide) ml_RL_132 im_X12_cell se_RX12_X12_cell_X12_cell in_RX12 cd_X12_cell) (Nat.le_trans (by decide) hd) ⟨by omega, by omega⟩ (Nat.le_of_ble_eq_true rfl) (am_kp.rf _) (fun v341 s342 h343 => c12_cell h343) (fun v341 s342 h343 => ?_)
                                                              refine z_ic_eq (pc := 1141) (tgt := 1295) dL_law_1141 (by decide) (fun h344 => ?_) (fun h344 => ?_)
                                                              · refine z_iinc (pc := 1295) (v := x3 + (6 : Int32)) (lv' := [(3, .int (x3 + (6 : Int32))), (0, .ref 0), (1, .ref 8), (2, .ref 36)]) 3 dL_law_1295 rfl rfl (by decide) rfl ?_
                                                                refine z_goto (pc := 1298) (tgt := 18) dL_law_1298 (by decide) ?_
                                                                refine z_lv (lv' := [(0, .ref 0), (1, .ref 8), (2, .ref 36), (3, .int (x3 + (6 : Int32)))]) [1, 2, 3, 0] rfl ?_
                                                                exact z_cule ⟨by omega, by omega⟩ (ih (x3 + (6 : Int32)) s342 hb1 hb3)
                                                              · refine z_iconst (pc := 1144) (v := (0 : Int32)) dL_law_1144 (by decide) ?_
                                                                exact z_rBs (b := false) rfl dL_law_1145 rfl ⟨by omega, by omega⟩
                                                            · refine z_ite (fun h345 => ?_) (fun h345 => ?_)
                                                              · refine z_tsEq (pc := 33) (28) (off := 1113) (tgt := 1146) dL_law_33 h345 (by decide) (by decide) (by decide) (by decide) ?_
                                                                refine z_aload_n (pc := 1146) 1 dL_law_1146 rfl rfl ?_
                                                                refine z_aload_n (pc := 1147) 0 dL_law_1147 rfl rfl ?_
                                                                refine z_iload_n (pc := 1148) 3 dL_law_1148 rfl rfl ?_
                                                                refine z_iconst (pc := 1149) (v := (1 : Int32)) dL_law_1149 (by decide) ?_
                                                                refine z_iadd (pc := 1150) dL_law_1150 ?_
                                                                refine z_sld (pc := 1151) dL_law_1151 (fun h346 => ?_)
                                                                refine z_aload_n (pc := 1152) 0 dL_law_1152 rfl rfl ?_
                                                                refine z_iload_n (pc := 1153) 3 dL_law_1153 rfl rfl ?_
                                                                refine z_iconst (pc := 1154) (v := (2 : Int32)) dL_law_1154 (by decide) ?_
                                                                refine z_iadd (pc := 1155) dL_law_1155 ?_
                                                                refine z_sld (pc := 1156) dL_law_1156 (fun h347 => ?_)
                                                                refine z_aload_n (pc := 1157) 0 dL_law_1157 rfl rfl ?_
                                                                refine z_iload_n (pc := 1158) 3 dL_law_1158 rfl rfl ?_
                                                                refine z_iconst (pc := 1159) (v := (3 : Int32)) dL_law_1159 (by decide) ?_
                                                                refine z_iadd (pc := 1160) dL_law_1160 ?_
                                                                refine z_sld (pc := 1161) dL_law_1161 (fun h348 => ?_)
                                                                refine z_aload_n (pc := 1162) 0 dL_law_1162 rfl rfl ?_
                                                                refine z_iload_n (pc := 1163) 3 dL_law_1163 rfl rfl ?_
                                                                refine z_iconst (pc := 1164) (v := (4 : Int32)) dL_law_1164 (by decide) ?_
                                                                refine z_iadd (pc := 1165) dL_law_1165 ?_
                                                                refine z_sld (pc := 1166) dL_law_1166 (fun h349 => ?_)
                                                                refine z_aload_n (pc := 1167) 0 dL_law_1167 rfl rfl ?_
                                                                refine z_iload_n (pc := 1168) 3 dL_law_1168 rfl rfl ?_
                                                                refine z_iconst (pc := 1169) (v := (5 : Int32)) dL_law_1169 (by decide) ?_
                                                                refine z_iadd (pc := 1170) dL_law_1170 ?_
                                                                refine z_sld (pc := 1171) dL_law_1171 (fun h350 => ?_)
                                                                refine z_callIs (pc := 1172) [.ref 8, .int (eS E (x3 + (1 : Int32)).toNatClampNeg), .int (eS E (x3 + (2 : Int32)).toNatClampNeg), .int (eS E (x3 + (3 : Int32)).toNatClampNeg), .int (eS E (x3 + (4 : Int32)).toNatClampNeg), .int (eS E (x3 + (5 : Int32)).toNatClampNeg)] [] rfl (lk_V (Yc := YX11_copy) (n := 5) dL_law_1172 rfl rfl (am_ob.s kM8) rfl rfl np_X11_copy mh_RX11 (by decide) ml_RL_133 im_X11_copy se_RX11_X11_copy_X11_copy in_RX11 cd_X11_copy) (Nat.le_trans (by decide) hd) ⟨by omega, by omega⟩ (Nat.le_of_ble_eq_true rfl) (kp_CM) (fun v351 s352 h353 => c11_copy h353) (fun v351 s352 h353 => ?_)
                                                                refine z_aload_n (pc := 1175) 2 dL_law_1175 rfl rfl ?_
                                                                refine z_aload_n (pc := 1176) 0 dL_law_1176 rfl rfl ?_
                                                                refine z_iload_n (pc := 1177) 3 dL_law_1177 rfl rfl ?_
                                                                refine z_iconst (pc := 1178) (v := (1 : Int32)) dL_law_1178 (by decide) ?_
                                                                refine z_iadd (pc := 1179) dL_law_1179 ?_
                                                                refine z_sld (pc := 1180) dL_law_1180 (fun h354 => ?_)
                                                                refine z_aload_n (pc := 1181) 0 dL_law_1181 rfl rfl ?_
                                                                refine z_iload_n (pc := 1182) 3 dL_law_1182 rfl rfl ?_
                                                                refine z_iconst (pc := 1183) (v := (2 : Int32)) dL_law_1183 (by decide) ?_
                                                                refine z_iadd (pc := 1184) dL_law_1184 ?_
                                                                refine z_sld (pc := 1185) dL_law_1185 (fun h355 => ?_)
                                                                refine z_aload_n (pc := 1186) 0 dL_law_1186 rfl rfl ?_
                                                                refine z_iload_n (pc := 1187) 3 dL_law_1187 rfl rfl ?_
                                                                refine z_iconst (pc := 1188) (v := (3 : Int32)) dL_law_1188 (by decide) ?_
                                                                refine z_iadd (pc := 1189) dL_law_1189 ?_
                                                                refine z_sld (pc := 1190) dL_law_1190 (fun h356 => ?_)
                                                                refine z_aload_n (pc := 1191) 0 dL_law_1191 rfl rfl ?_
                                                                refine z_iload_n (pc := 1192) 3 dL_law_1192 rfl rfl ?_
                                                                refine z_iconst (pc := 1193) (v := (4 : Int32)) dL_law_1193 (by decide) ?_
                                                                refine z_iadd (pc := 1194) dL_law_1194 ?_
                                                                refine z_sld (pc := 1195) dL_law_1195 (fun h357 => ?_)
                                                                refine z_aload_n (pc := 1196) 0 dL_law_1196 rfl rfl ?_
                                                                refine z_iload_n (pc := 1197) 3 dL_law_1197 rfl rfl ?_
                                                                refine z_iconst (pc := 1198) (v := (5 : Int32)) dL_law_1198 (by decide) ?_
                                                                refine z_iadd (pc := 1199) dL_law_1199 ?_
                                                                refine z_sld (pc := 1200) dL_law_1200 (fun h358 => ?_)
                                                                refine z_callIs (pc := 1201) [.ref 36, .int (eS E (x3 + (1 : Int32)).toNatClampNeg), .int (eS E (x3 + (2 : Int32)).toNatClampNeg), .int (eS E (x3 + (3 : Int32)).toNatClampNeg), .int (eS E (x3 + (4 : Int32)).toNatClampNeg), .int (eS E (x3 + (5 : Int32)).toNatClampNeg)] [.int v351] rfl (lk_V (Yc := YX12_copy) (n := 5) dL_law_1201 rfl rfl (am_ob.s kM36) rfl rfl np_X12_copy mh_RX12 (by decide) ml_RL_137 im_X12_copy se_RX12_X12_copy_X12_copy in_RX12 cd_X12_copy) (Nat.le_trans (by decide) hd) ⟨by omega, by omega⟩ (Nat.le_of_ble_eq_true rfl) (am_kp.rf _) (fun v359 s360 h361 => c12_copy h361) (fun v359 s360 h361 => ?_)
                                                                refine z_ic_eq (pc := 1204) (tgt := 1295) dL_law_1204 (by decide) (fun h362 => ?_) (fun h362 => ?_)
                                                                · refine z_iinc (pc := 1295) (v := x3 + (6 : Int32)) (lv' := [(3, .int (x3 + (6 : Int32))), (0, .ref 0), (1, .ref 8), (2, .ref 36)]) 3 dL_law_1295 rfl rfl (by decide) rfl ?_
                                                                  refine z_goto (pc := 1298) (tgt := 18) dL_law_1298 (by decide) ?_
                                                                  refine z_lv (lv' := [(0, .ref 0), (1, .ref 8), (2, .ref 36), (3, .int (x3 + (6 : Int32)))]) [1, 2, 3, 0] rfl ?_
                                                                  exact z_cule ⟨by omega, by omega⟩ (ih (x3 + (6 : Int32)) s360 hb1 hb3)
                                                                · refine z_iconst (pc := 1207) (v := (0 : Int32)) dL_law_1207 (by decide) ?_
                                                                  exact z_rBs (b := false) rfl dL_law_1208 rfl ⟨by omega, by omega⟩
                                                              · refine z_ite (fun h363 => ?_) (fun h363 => ?_)
                                                                · refine z_tsEq (pc := 33) (29) (off := 1176) (tgt := 1209) dL_law_33 h363 (by decide) (by decide) (by decide) (by decide) ?_
                                                                  refine z_aload_n (pc := 1209) 1 dL_law_1209 rfl rfl ?_
                                                                  refine z_aload_n (pc := 1210) 0 dL_law_1210 rfl rfl ?_
                                                                  refine z_iload_n (pc := 1211) 3 dL_law_1211 rfl rfl ?_
                                                                  refine z_iconst (pc := 1212) (v := (1 : Int32)) dL_law_1212 (by decide) ?_
                                                                  refine z_iadd (pc := 1213) dL_law_1213 ?_
                                                                  refine z_sld (pc := 1214) dL_law_1214 (fun h364 => ?_)
                                                                  refine z_aload_n (pc := 1215) 0 dL_law_1215 rfl rfl ?_
                                                                  refine z_iload_n (pc := 1216) 3 dL_law_1216 rfl rfl ?_
                                                                  refine z_iconst (pc := 1217) (v := (2 : Int32)) dL_law_1217 (by decide) ?_
                                                                  refine z_iadd (pc := 1218) dL_law_1218 ?_
                                                                  refine z_sld (pc := 1219) dL_law_1219 (fun h365 => ?_)
                                                                  refine z_aload_n (pc := 1220) 0 dL_law_1220 rfl rfl ?_
                                                                  refine z_iload_n (pc := 1221) 3 dL_law_1221 rfl rfl ?_
                                                                  refine z_iconst (pc := 1222) (v := (3 : Int32)) dL_law_1222 (by decide) ?_
                                                                  refine z_iadd (pc := 1223) dL_law_1223 ?_
                                                                  refine z_sld (pc := 1224) dL_law_1224 (fun h366 => ?_)
                                                                  refine z_aload_n (pc := 1225) 0 dL_law_1225 rfl rfl ?_
                                                                  refine z_iload_n (pc := 1226) 3 dL_law_1226 rfl rfl ?_
                                                                  refine z_iconst (pc := 1227) (v := (4 : Int32)) dL_law_1227 (by decide) ?_
                                                                  refine z_iadd (pc := 1228) dL_law_1228 ?_
                                                                  refine z_sld (pc := 1229) dL_law_1229 (fun h367 => ?_)
                                                                  refine z_callIs (pc := 1230) [.ref 8, .int (eS E (x3 + (1 : Int32)).toNatClampNeg), .int (eS E (x3 + (2 : Int32)).toNatClampNeg), .int (eS E (x3 + (3 : Int32)).toNatClampNeg), .int (eS E (x3 + (4 : Int32)).toNatClampNeg)] [] rfl (lk_V (Yc := YX11_rowers) (n := 4) dL_law_1230 rfl rfl (am_ob.s kM8) rfl rfl np_X11_rowers mh_RX11 (by decide) ml_RL_138 im_X11_rowers se_RX11_X11_rowers_X11_rowers in_RX11 cd_X11_rowers) (Nat.le_trans (by decide) hd) ⟨by omega, by omega⟩ (Nat.le_of_ble_eq_true rfl) (kp_CM) (fun v368 s369 h370 => c11_rowers h370) (fun v368 s369 h370 => ?_)
                                                                  refine z_aload_n (pc := 1233) 2 dL_law_1233 rfl rfl ?_
                                                                  refine z_aload_n (pc := 1234) 0 dL_law_1234 rfl rfl ?_
                                                                  refine z_iload_n (pc := 1235) 3 dL_law_1235 rfl rfl ?_
                                                                  refine z_iconst (pc := 1236) (v := (1 : Int32)) dL_law_1236 (by decide) ?_
                                                                  refine z_iadd (pc := 1237) dL_law_1237 ?_
                                                                  refine z_sld (pc := 1238) dL_law_1238 (fun h371 => ?_)
                                                                  refine z_aload_n (pc := 1239) 0 dL_law_1239 rfl rfl ?_
                                                                  refine z_iload_n (pc := 1240) 3 dL_law_1240 rfl rfl ?_
                                                                  refine z_iconst (pc := 1241) (v := (2 : Int32)) dL_law_1241 (by decide) ?_
                                                                  refine z_iadd (pc := 1242) dL_law_1242 ?_
                                                                  refine z_sld (pc := 1243) dL_law_1243 (fun h372 => ?_)
                                                                  refine z_aload_n (pc := 1244) 0 dL_law_1244 rfl rfl ?_
                                                                  refine z_iload_n (pc := 1245) 3 dL_law_1245 rfl rfl ?_
                                                                  refine z_iconst (pc := 1246) (v := (3 : Int32)) dL_law_1246 (by decide) ?_
                                                                  refine z_iadd (pc := 1247) dL_law_1247 ?_
                                                                  refine z_sld (pc := 1248) dL_law_1248 (fun h373 => ?_)
                                                                  refine z_aload_n (pc := 1249) 0 dL_law_1249 rfl rfl ?_
                                                                  refine z_iload_n (pc := 1250) 3 dL_law_1250 rfl rfl ?_
                                                                  refine z_iconst (pc := 1251) (v := (4 : Int32)) dL_law_1251 (by decide) ?_
                                                                  refine z_iadd (pc := 1252) dL_law_1252 ?_
                                                                  refine z_sld (pc := 1253) dL_law_1253 (fun h374 => ?_)
                                                                  refine z_callIs (pc := 1254) [.ref 36, .int (eS E (x3 + (1 : Int32)).toNatClampNeg), .int (eS E (x3 + (2 : Int32)).toNatClampNeg), .int (eS E (x3 + (3 : Int32)).toNatClampNeg), .int (eS E (x3 + (4 : Int32)).toNatClampNeg)] [.int v368] rfl (lk_V (Yc := YX12_rowers) (n := 4) dL_law_1254 rfl rfl (am_ob.s kM36) rfl rfl np_X12_rowers mh_RX12 (by decide) ml_RL_141 im_X12_rowers se_RX12_X12_rowers_X12_rowers in_RX12 cd_X12_rowers) (Nat.le_trans (by decide) hd) ⟨by omega, by omega⟩ (Nat.le_of_ble_eq_true rfl) (am_kp.rf _) (fun v375 s376 h377 => c12_rowers h377) (fun v375 s376 h377 => ?_)
                                                                  refine z_ic_eq (pc := 1257) (tgt := 1295) dL_law_1257 (by decide) (fun h378 => ?_) (fun h378 => ?_)
                                                                  · refine z_iinc (pc := 1295) (v := x3 + (6 : Int32)) (lv' := [(3, .int (x3 + (6 : Int32))), (0, .ref 0), (1, .ref 8), (2, .ref 36)]) 3 dL_law_1295 rfl rfl (by decide) rfl ?_
                                                                    refine z_goto (pc := 1298) (tgt := 18) dL_law_1298 (by decide) ?_
                                                                    refine z_lv (lv' := [(0, .ref 0), (1, .ref 8), (2, .ref 36), (3, .int (x3 + (6 : Int32)))]) [1, 2, 3, 0] rfl ?_
                                                                    exact z_cule ⟨by omega, by omega⟩ (ih (x3 + (6 : Int32)) s376 hb1 hb3)
                                                                  · refine z_iconst (pc := 1260) (v := (0 : Int32)) dL_law_1260 (by decide) ?_
                                                                    exact z_rBs (b := false) rfl dL_law_1261 rfl ⟨by omega, by omega⟩
                                                                · refine z_ite (fun h379 => ?_) (fun h379 => ?_)
                                                                  · refine z_tsEq (pc := 33) (30) (off := 1229) (tgt := 1262) dL_law_33 h379 (by decide) (by decide) (by decide) (by decide) ?_
                                                                    refine z_aload_n (pc := 1262) 1 dL_law_1262 rfl rfl ?_
                                                                    refine z_aload_n (pc := 1263) 0 dL_law_1263 rfl rfl ?_
                                                                    refine z_iload_n (pc := 1264) 3 dL_law_1264 rfl rfl ?_
                                                                    refine z_iconst (pc := 1265) (v := (1 : Int32)) dL_law_1265 (by decide) ?_
                                                                    refine z_iadd (pc := 1266) dL_law_1266 ?_
                                                                    refine z_sld (pc := 1267) dL_law_1267 (fun h380 => ?_)
                                                                    refine z_aload_n (pc := 1268) 0 dL_law_1268 rfl rfl ?_
                                                                    refine z_iload_n (pc := 1269) 3 dL_law_1269 rfl rfl ?_
                                                                    refine z_iconst (pc := 1270) (v := (2 : Int32)) dL_law_1270 (by decide) ?_
                                                                    refine z_iadd (pc := 1271) dL_law_1271 ?_
                                                                    refine z_sld (pc := 1272) dL_law_1272 (fun h381 => ?_)
                                                                    refine z_callI (pc := 1273) [.ref 8, .int (eS E (x3 + (1 : Int32)).toNatClampNeg), .int (eS E (x3 + (2 : Int32)).toNatClampNeg)] [] rfl (lk_V (Yc := YX11_taken) (n := 2) dL_law_1273 rfl rfl (am_ob.s kM8) rfl rfl np_X11_taken mh_RX11 (by decide) ml_RL_142 im_X11_taken se_RX11_X11_taken_X11_taken in_RX11 cd_X11_taken) (Nat.le_trans (by decide) hd) ⟨by omega, by omega⟩ (Nat.le_of_ble_eq_true rfl) (kp_CM) (fun v382 h384 => c11_taken h384) (fun v382 h384 => ?_)
                                                                    refine z_aload_n (pc := 1276) 2 dL_law_1276 rfl rfl ?_
                                                                    refine z_aload_n (pc := 1277) 0 dL_law_1277 rfl rfl ?_
                                                                    refine z_iload_n (pc := 1278) 3 dL_law_1278 rfl rfl ?_
                                                                    refine z_iconst (pc := 1279) (v := (1 : Int32)) dL_law_1279 (by decide) ?_
                                                                    refine z_iadd (pc := 1280) dL_law_1280 ?_
                                                                    refine z_sld (pc := 1281) dL_law_1281 (fun h385 => ?_)
                                                                    refine z_aload_n (pc := 1282) 0 dL_law_1282 rfl rfl ?_
                                                                    refine z_iload_n (pc := 1283) 3 dL_law_1283 rfl rfl ?_
                                                                    refine z_iconst (pc := 1284) (v := (2 : Int32)) dL_law_1284 (by decide) ?_
                                                                    refine z_iadd (pc := 1285) dL_law_1285 ?_
                                                                    refine z_sld (pc := 1286) dL_law_1286 (fun h386 => ?_)
                                                                    refine z_callI (pc := 1287) [.ref 36, .int (eS E (x3 + (1 : Int32)).toNatClampNeg), .int (eS E (x3 + (2 : Int32)).toNatClampNeg)] [.int v382] rfl (lk_V (Yc := YX12_taken) (n := 2) dL_law_1287 rfl rfl (am_ob.s kM36) rfl rfl np_X12_taken mh_RX12 (by decide) ml_RL_145 im_X12_taken se_RX12_X12_taken_X12_taken in_RX12 cd_X12_taken) (Nat.le_trans (by decide) hd) ⟨by omega, by omega⟩ (Nat.le_of_ble_eq_true rfl) (am_kp.rf _) (fun v387 h389 => c12_taken h389) (fun v387 h389 => ?_)
                                                                    refine z_ic_eq (pc := 1290) (tgt := 1295) dL_law_1290 (by decide) (fun h390 => ?_) (fun h390 => ?_)
                                                                    · refine z_iinc (pc := 1295) (v := x3 + (6 : Int32)) (lv' := [(3, .int (x3 + (6 : Int32))), (0, .ref 0), (1, .ref 8), (2, .ref 36)]) 3 dL_law_1295 rfl rfl (by decide) rfl ?_
                                                                      refine z_goto (pc := 1298) (tgt := 18) dL_law_1298 (by decide) ?_
                                                                      refine z_lv (lv' := [(0, .ref 0), (1, .ref 8), (2, .ref 36), (3, .int (x3 + (6 : Int32)))]) [1, 2, 3, 0] rfl ?_
                                                                      exact z_cule ⟨by omega, by omega⟩ (ih (x3 + (6 : Int32)) σ hb1 hb3)
                                                                    · refine z_iconst (pc := 1293) (v := (0 : Int32)) dL_law_1293 (by decide) ?_
                                                                      exact z_rBs (b := false) rfl dL_law_1294 rfl ⟨by omega, by omega⟩
                                                                  · refine z_tsNe (pc := 33) (tgt := 1295) [0, 1, 2, 3, 4, 5, 6, 7, 8, 9, 10, 11, 12, 13, 14, 15, 16, 17, 18, 19, 20, 21, 22, 23, 24, 25, 26, 27, 28, 29, 30] 31 dL_law_33 (by decide) (by decide) (List.forall_mem_cons.mpr ⟨h3, List.forall_mem_cons.mpr ⟨h15, List.forall_mem_cons.mpr ⟨h27, List.forall_mem_cons.mpr ⟨h41, List.forall_mem_cons.mpr ⟨h53, List.forall_mem_cons.mpr ⟨h67, List.forall_mem_cons.mpr ⟨h81, List.forall_mem_cons.mpr ⟨h89, List.forall_mem_cons.mpr ⟨h99, List.forall_mem_cons.mpr ⟨h113, List.forall_mem_cons.mpr ⟨h125, List.forall_mem_cons.mpr ⟨h141, List.forall_mem_cons.mpr ⟨h153, List.forall_mem_cons.mpr ⟨h165, List.forall_mem_cons.mpr ⟨h177, List.forall_mem_cons.mpr ⟨h189, List.forall_mem_cons.mpr ⟨h201, List.forall_mem_cons.mpr ⟨h213, List.forall_mem_cons.mpr ⟨h223, List.forall_mem_cons.mpr ⟨h233, List.forall_mem_cons.mpr ⟨h249, List.forall_mem_cons.mpr ⟨h265, List.forall_mem_cons.mpr ⟨h279, List.forall_mem_cons.mpr ⟨h291, List.forall_mem_cons.mpr ⟨h299, List.forall_mem_cons.mpr ⟨h307, List.forall_mem_cons.mpr ⟨h317, List.forall_mem_cons.mpr ⟨h331, List.forall_mem_cons.mpr ⟨h345, List.forall_mem_cons.mpr ⟨h363, List.forall_mem_cons.mpr ⟨h379, List.forall_mem_nil _⟩⟩⟩⟩⟩⟩⟩⟩⟩⟩⟩⟩⟩⟩⟩⟩⟩⟩⟩⟩⟩⟩⟩⟩⟩⟩⟩⟩⟩⟩⟩) (by decide) ?_
                                                                    refine z_iinc (pc := 1295) (v := x3 + (6 : Int32)) (lv' := [(3, .int (x3 + (6 : Int32))), (0, .ref 0), (1, .ref 8), (2, .ref 36)]) 3 dL_law_1295 rfl rfl (by decide) rfl ?_
                                                                    refine z_goto (pc := 1298) (tgt := 18) dL_law_1298 (by decide) ?_
                                                                    refine z_lv (lv' := [(0, .ref 0), (1, .ref 8), (2, .ref 36), (3, .int (x3 + (6 : Int32)))]) [1, 2, 3, 0] rfl ?_
                                                                    exact z_cule ⟨by omega, by omega⟩ (ih (x3 + (6 : Int32)) σ hb1 hb3)
