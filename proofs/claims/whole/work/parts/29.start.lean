theorem cd_X11_init : am_code YX11_init ∈ am_gt := am_gt_in (List.mem_of_getElem? (i := 89) (by decide +kernel)) rfl
theorem cd_X12_init : am_code YX12_init ∈ am_gt := am_gt_in (List.mem_of_getElem? (i := 1093) (by decide +kernel)) rfl
theorem cl_RL_10 : Cond.classLink RL 10 RX12 ∈ am_gt := am_gt_in (List.mem_of_getElem? (i := 1089) (by decide +kernel)) (by decide +kernel)
theorem cl_RL_7 : Cond.classLink RL 7 RX11 ∈ am_gt := am_gt_in (List.mem_of_getElem? (i := 85) (by decide +kernel)) (by decide +kernel)
theorem im_X11_init : Cond.instanceMethod yX11_init ∈ am_gt := am_gt_in (List.mem_of_getElem? (i := 88) (by decide +kernel)) (by decide +kernel)
theorem im_X12_init : Cond.instanceMethod yX12_init ∈ am_gt := am_gt_in (List.mem_of_getElem? (i := 1092) (by decide +kernel)) (by decide +kernel)
theorem ml_RL_12 : Cond.methodLink RL 12 yX12_init ∈ am_gt := am_gt_in (List.mem_of_getElem? (i := 1091) (by decide +kernel)) (by decide +kernel)
theorem ml_RL_9 : Cond.methodLink RL 9 yX11_init ∈ am_gt := am_gt_in (List.mem_of_getElem? (i := 87) (by decide +kernel)) (by decide +kernel)
theorem ni_RX11 : Cond.instantiable RX11 18 ∈ am_gt := am_gt_in (List.mem_of_getElem? (i := 86) (by decide +kernel)) (by decide +kernel)
theorem ni_RX12 : Cond.instantiable RX12 58 ∈ am_gt := am_gt_in (List.mem_of_getElem? (i := 1090) (by decide +kernel)) (by decide +kernel)
theorem np_X11_init : am_np yX11_init.desc 0 := by decide +kernel
theorem np_X12_init : am_np yX12_init.desc 0 := by decide +kernel
abbrev st11 (x : am_D) : am_S := ([.inr (9, 0), .inr (9, 0), .inr (9, 0), .inr (9, 0), .inr (9, 0), .inr (9, 0), .inr (9, 0), .inr (9, 0), .inl (11, [none, none, some 9, none, some 10, none, some 11, some 16, some 17, some 21, some 26, some 27]), .inr (4, 7), .inr (5, 14), .inl (10, [some 12, none, some 13, some 14, none, none, some 15]), .inr (2, 160), .inr (0, 960), .inr (0, 18), .inr (0, 64), .inr (0, 6), .inl (0, [none, none, none, some 18, some 19, some 20]), .inr (0, 42), .inr (0, 43), .inr (1, 3720), .inl (4, [some 22, some 23, some 24, some 25]), .inr (0, 100), .inr (0, 100), .inr (0, 100), .inr (0, 100), .inr (6, 4), .inr (0, 14), .inl (8, [none, none, some 29]), .inr (0, 40), .inl (8, [none, none, some 31]), .inr (0, 40), .inl (8, [none, none, some 33]), .inr (0, 40), .inl (8, [none, none, some 35]), .inr (0, 40)], xQ (xF (xQ (xF (xQ (xF (xQ (xF x 28 0 (-1 : Int32)) 26 0 (some 28)) 30 0 (-1 : Int32)) 26 1 (some 30)) 32 0 (-1 : Int32)) 26 2 (some 32)) 34 0 (-1 : Int32)) 26 3 (some 34))
abbrev st12 (x : am_D) : am_S := ([.inr (9, 0), .inr (9, 0), .inr (9, 0), .inr (9, 0), .inr (9, 0), .inr (9, 0), .inr (9, 0), .inr (9, 0), .inl (11, [none, none, some 9, none, some 10, none, some 11, some 16, some 17, some 21, some 26, some 27]), .inr (4, 7), .inr (5, 14), .inl (10, [some 12, none, some 13, some 14, none, none, some 15]), .inr (2, 160), .inr (0, 960), .inr (0, 18), .inr (0, 64), .inr (0, 6), .inl (0, [none, none, none, some 18, some 19, some 20]), .inr (0, 42), .inr (0, 43), .inr (1, 3720), .inl (4, [some 22, some 23, some 24, some 25]), .inr (0, 100), .inr (0, 100), .inr (0, 100), .inr (0, 100), .inr (6, 4), .inr (0, 14), .inl (8, [none, none, some 29]), .inr (0, 40), .inl (8, [none, none, some 31]), .inr (0, 40), .inl (8, [none, none, some 33]), .inr (0, 40), .inl (8, [none, none, some 35]), .inr (0, 40), .inl (12, [none, some 37, some 38, none, none, some 39, none, some 40, some 41, some 42, some 43, none, none, none, some 44, some 45, some 46, some 47, some 48, some 49, some 50, none, none, none, none, none, none, none, none, none, none, none, none, none, none, some 51, some 52, some 53, some 54, some 55, some 56, some 57, some 58, some 59, some 60, some 61, some 62, some 63, none, none, none, none, none, none, some 64, some 65, some 66, some 67]), .inr (0, 960), .inr (0, 6), .inr (0, 160), .inr (0, 7), .inr (0, 7), .inr (0, 7), .inr (0, 7), .inr (0, 14), .inr (0, 14), .inr (0, 14), .inr (0, 14), .inr (0, 14), .inr (0, 14), .inr (0, 14), .inr (0, 8658), .inr (0, 8658), .inr (0, 8658), .inr (0, 8658), .inr (0, 14), .inr (0, 100), .inr (0, 100), .inr (0, 100), .inr (0, 7), .inr (0, 7), .inr (0, 14), .inr (0, 14), .inr (0, 100), .inr (3, 4), .inr (0, 4), .inr (0, 4), .inr (0, 160)], x)
theorem z_start {l : Launch} {E : am_E} {σ0 : am_S} {d N : Nat} (hL : eL E ≤ 3072) (hd : 114 ≤ d) {x0 : am_D} (hz : am_zr x0 8) {σ1 σ2 : am_S} (h1 : f11_fin N (st11 x0) = some σ1) (e1 : σ1.1 = msC) (z1 : am_zr σ1.2 36) (h2 : f12_fin N (st12 σ1.2) = some σ2) (hm : am_kp msM σ2.1) :
    Z l E [] σ0 YL_law d 600000 7302250 0 [(0, .ref 0)] [] 0 0 (List.replicate 8 (.inr (9, 0)), x0) (fL_law_L18 E N N 0 σ2) (fun u r s => r = some (.int (bI u.1)) ∧ s = u.2) := by
  refine z_newL (pc := 0) (ci := 11) (m := 8) dL_law_0 rfl cl_RL_7 ni_RX11 in_RX11 ⟨by decide, by decide⟩ rfl hz rfl ?_
  refine z_dup (pc := 3) dL_law_3 rfl ?_
  refine z_callK (pc := 4) [.ref 8] [.ref 8] rfl (lk_I (Yc := YX11_init) (n := 0) dL_law_4 rfl rfl rfl rfl np_X11_init mh_RX11 (by decide) ml_RL_9 im_X11_init in_RX11 cd_X11_init) hd ⟨by decide, by decide⟩ (Nat.le_of_ble_eq_true rfl) (am_kp.rf _) (c11_fin (hz.up (by decide)) h1) ?_
  refine z_astore_n (pc := 7) (lv' := [(1, .ref 8), (0, .ref 0)]) dL_law_7 rfl (by decide) rfl ?_
  obtain ⟨K1, x1⟩ := σ1
  have e1' : K1 = msC := e1
  subst e1'
  refine z_newL (pc := 8) (ci := 12) (m := 36) dL_law_8 rfl cl_RL_10 ni_RX12 in_RX12 ⟨by decide, by decide⟩ rfl z1 rfl ?_
  refine z_dup (pc := 11) dL_law_11 rfl ?_
  refine z_callK (pc := 12) [.ref 36] [.ref 36] rfl (lk_I (Yc := YX12_init) (n := 0) dL_law_12 rfl rfl rfl rfl np_X12_init mh_RX12 (by decide) ml_RL_12 im_X12_init in_RX12 cd_X12_init) (Nat.le_trans (by decide) hd) ⟨by decide, by decide⟩ (Nat.le_of_ble_eq_true rfl) (am_kp.rf _) (c12_fin (z1.up (by decide)) h2) ?_
  refine z_astore_n (pc := 15) (lv' := [(2, .ref 36), (1, .ref 8), (0, .ref 0)]) dL_law_15 rfl (by decide) rfl ?_
  refine z_iconst (pc := 16) (v := (0 : Int32)) dL_law_16 (by decide) ?_
  refine z_istore_n (pc := 17) (lv' := [(3, .int (0 : Int32)), (2, .ref 36), (1, .ref 8), (0, .ref 0)]) dL_law_17 rfl (by decide) rfl ?_
  refine z_lv (lv' := [(0, .ref 0), (1, .ref 8), (2, .ref 36), (3, .int (0 : Int32))]) [3, 2, 1, 0] rfl ?_
  refine z_ms (ms' := msM) hm ?_
  have kk := zL_law_L18 (l := l) (E := E) (σ0 := σ0) (d := d) (N := N) hL hd N 0 σ2 (by decide +kernel) (by decide +kernel)
  rw [show (0 : Int32).toNatClampNeg = 0 by decide +kernel] at kk
  exact z_cule ⟨Nat.le_of_ble_eq_true rfl, Nat.le_of_ble_eq_true rfl⟩ kk
