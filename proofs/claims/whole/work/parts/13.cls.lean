theorem am_in_r {ws : List Cond} (ps : List Nat) (hp : ws = ps.filterMap (fun i => lw_tbl[i]?)) (h : ws.all goodWord = true) : ∀ w ∈ ws, w ∈ am_gt := by
  intro w hw
  have h1 := List.all_eq_true.mp h w hw
  rw [hp] at hw
  obtain ⟨i, -, hi⟩ := List.mem_filterMap.mp hw
  exact am_gt_in (List.mem_of_getElem? hi) h1
theorem am_cls0 : am_clsOk 0 (RX0, TX0, 6) := ⟨am_in_r [160, 162, 164, 166, 168, 170] (by decide +kernel) (by decide +kernel), tyX0_ok, nmX0, by decide +kernel⟩
theorem am_cls1 : am_clsOk 1 (RX1, TX1, 6) := ⟨am_in_r [471, 473, 475, 477, 479, 481] (by decide +kernel) (by decide +kernel), tyX1_ok, nmX1, by decide +kernel⟩
theorem am_cls2 : am_clsOk 2 (RX2, TX2, 9) := ⟨am_in_r [623, 624, 625, 626, 627, 628, 629, 630, 631] (by decide +kernel) (by decide +kernel), tyX2_ok, nmX2, by decide +kernel⟩
theorem am_cls3 : am_clsOk 3 (RX3, TX3, 9) := ⟨am_in_r [550, 552, 554, 556, 558, 560, 562, 564, 566] (by decide +kernel) (by decide +kernel), tyX3_ok, nmX3, by decide +kernel⟩
theorem am_cls4 : am_clsOk 4 (RX4, TX4, 4) := ⟨am_in_r [184, 186, 188, 190] (by decide +kernel) (by decide +kernel), tyX4_ok, nmX4, by decide +kernel⟩
theorem am_cls5 : am_clsOk 5 (RX5, TX5, 9) := ⟨am_in_r [591, 592, 593, 594, 595, 596, 597, 598, 599] (by decide +kernel) (by decide +kernel), tyX5_ok, nmX5, by decide +kernel⟩
theorem am_cls6 : am_clsOk 6 (RX6, TX6, 9) := ⟨am_in_r [575, 576, 577, 578, 579, 580, 581, 582, 583] (by decide +kernel) (by decide +kernel), tyX6_ok, nmX6, by decide +kernel⟩
theorem am_cls7 : am_clsOk 7 (RX7, TX7, 9) := ⟨am_in_r [635, 636, 637, 638, 639, 640, 641, 642, 643] (by decide +kernel) (by decide +kernel), tyX7_ok, nmX7, by decide +kernel⟩
theorem am_cls8 : am_clsOk 8 (RX8, TX8, 3) := ⟨am_in_r [207, 209, 211] (by decide +kernel) (by decide +kernel), tyX8_ok, nmX8, by decide +kernel⟩
theorem am_cls9 : am_clsOk 9 (RX9, TX9, 9) := ⟨am_in_r [607, 608, 609, 610, 611, 612, 613, 614, 615] (by decide +kernel) (by decide +kernel), tyX9_ok, nmX9, by decide +kernel⟩
theorem am_cls10 : am_clsOk 10 (RX10, TX10, 13) := ⟨am_in_r [119, 121, 123, 125, 127, 129, 131, 133, 135, 137, 139, 141, 143] (by decide +kernel) (by decide +kernel), tyX10_ok, nmX10, by decide +kernel⟩
theorem am_cls11 : am_clsOk 11 (RX11, TX11, 18) := ⟨am_in_r [408, 410, 412, 414, 416, 418, 420, 422, 424, 426, 428, 430, 432, 434, 436, 438, 440, 442] (by decide +kernel) (by decide +kernel), tyX11_ok, nmX11, by decide +kernel⟩
theorem am_cls12 : am_clsOk 12 (RX12, TX12, 58) := ⟨am_in_r [1164, 1166, 1168, 1170, 1172, 1174, 1176, 1178, 1180, 1182, 1184, 1186, 1188, 1190, 1192, 1194, 1196, 1198, 1200, 1202, 1204, 1206, 1208, 1210, 1212, 1214, 1216, 1218, 1220, 1222, 1224, 1226, 1228, 1230, 1232, 1234, 1236, 1238, 1240, 1242, 1244, 1246, 1248, 1250, 1252, 1254, 1256, 1258, 1260, 1262, 1264, 1266, 1268, 1270, 1272, 1274, 1276, 1278] (by decide +kernel) (by decide +kernel), tyX12_ok, nmX12, by decide +kernel⟩
theorem am_cls_ok : ∀ (ci : Nat) (q : vw_C), am_cls[ci]? = some q → am_clsOk ci q := by
  intro ci q h
  match ci, h with
  | 0, h => cases h; exact am_cls0
  | 1, h => cases h; exact am_cls1
  | 2, h => cases h; exact am_cls2
  | 3, h => cases h; exact am_cls3
  | 4, h => cases h; exact am_cls4
  | 5, h => cases h; exact am_cls5
  | 6, h => cases h; exact am_cls6
  | 7, h => cases h; exact am_cls7
  | 8, h => cases h; exact am_cls8
  | 9, h => cases h; exact am_cls9
  | 10, h => cases h; exact am_cls10
  | 11, h => cases h; exact am_cls11
  | 12, h => cases h; exact am_cls12
  | k + 13, h => simp [am_cls] at h
