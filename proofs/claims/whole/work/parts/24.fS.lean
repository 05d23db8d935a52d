def f11_back_J87 (N : Nat) (σ : am_S) : Option (Int32 × am_S) := (f4_comeBack σ).bind fun s5 => (some (fF s5 8 5, s5))
theorem z11_back_J87 {l : Launch} {E : am_E} {d : Nat} {σ0 : am_S} {N : Nat} (hd : 2 ≤ d) (σ : am_S) : Z l E msC σ0 YX11_back d 0 0 87 [(0, .ref 8)] [] 0 0 σ (f11_back_J87 N σ) (fun u r s => r = some (.int u.1) ∧ s = u.2) := by
  unfold f11_back_J87
  refine z_aload_n (pc := 87) 0 dX11_back_87 rfl rfl ?_
  refine z_getQ (pc := 88) (b := 21) dX11_back_88 kC8 fr_RX11_42_11 (by decide) rfl ?_
  refine z_callVs (pc := 91) [.ref 21] [] rfl (lk_V (Yc := YX4_comeBack) (n := 0) dX11_back_91 rfl rfl (am_ob.s kC21) rfl rfl np_X4_comeBack mh_RX4 (by decide) ml_RX11_328 im_X4_comeBack se_RX4_X4_comeBack_X4_comeBack in_RX4 cd_X4_comeBack) (Nat.le_trans (by decide) hd) ⟨by decide, by decide⟩ (Nat.le_of_ble_eq_true rfl) (am_kp.rf _) (fun s5 h6 => c4_comeBack h6) (fun s5 h6 => ?_)
  refine z_aload_n (pc := 94) 0 dX11_back_94 rfl rfl ?_
  refine z_getI (pc := 95) dX11_back_95 (am_ob.s kC8) fr_RX11_110_11 (by decide) ?_
  exact z_rIs dX11_back_98 rfl ⟨by decide, by decide⟩
def f11_back_L64 (N : Nat) : Nat → Int32 → am_S → Option (Int32 × am_S)
  | 0, _, _ => none
  | n + 1, x1, σ => if fF σ 8 17 ≤ x1 then (f11_back_J87 N σ) else (if am_in x1 14 = true then ((fQ σ 10 x1.toNatClampNeg).elim (none) (fun a8 => if [2, 3, 5, 6, 7, 9].contains (am_ci σ a8) = true then ((f7_comeBack σ a8).bind fun s12 => (f11_back_L64 N n (x1 + (1 : Int32)) s12)) else none)) else none)
theorem z11_back_L64 {l : Launch} {E : am_E} {d : Nat} {σ0 : am_S} {N : Nat} (hd : 2 ≤ d) : ∀ (n : Nat) (x1 : Int32) (σ : am_S), Z l E msC σ0 YX11_back d 0 0 64 [(0, .ref 8), (1, .int x1)] [] 0 0 σ (f11_back_L64 N n x1 σ) (fun u r s => r = some (.int u.1) ∧ s = u.2) := by
  intro n
  induction n with
  | zero => intros; exact z_none
  | succ n ih =>
    intro x1 σ
    unfold f11_back_L64
    refine z_iload_n (pc := 64) 1 dX11_back_64 rfl rfl ?_
    refine z_aload_n (pc := 65) 0 dX11_back_65 rfl rfl ?_
    refine z_getI (pc := 66) dX11_back_66 (am_ob.s kC8) fr_RX11_312_11 (by decide) ?_
    refine z_ic_ge (pc := 69) (tgt := 87) dX11_back_69 (by decide) (fun h3 => ?_) (fun h3 => ?_)
    · refine z_lv (lv' := [(0, .ref 8)]) [0] rfl ?_
      exact z11_back_J87 hd σ
    · refine z_aload_n (pc := 72) 0 dX11_back_72 rfl rfl ?_
      refine z_getQ (pc := 73) (b := 10) dX11_back_73 kC8 fr_RX11_17_11 (by decide) rfl ?_
      refine z_iload_n (pc := 76) 1 dX11_back_76 rfl rfl ?_
      refine z_qald (pc := 77) dX11_back_77 ⟨by decide, by decide⟩ (am_ar.s kC10) (fun h7 => ?_)
      refine z_elim (fun e9 => ?_) (fun a8 e9 => ?_)
      · exact z_none
      · refine z_guard (fun g10 => ?_)
        refine z_callDV (pc := 78) [.ref a8] [] rfl ⟨by decide, by decide⟩ (Nat.le_of_ble_eq_true rfl) (fun v hv => by
    rcases am_cs6 g10 with hc | hc | hc | hc | hc | hc
    · exact ⟨_, _, lk_U (Yc := YX7_comeBack) (n := 0) (x := yX7_comeBack) RX7 dX11_back_78 rfl rfl (am_ob.d hc (by decide)) rfl rfl np_X7_comeBack mh_RX7 (by decide) ml_RX11_327 sm_X7_comeBack_RX7 se_RX2_X7_comeBack_X7_comeBack im_X7_comeBack in_RX7 cd_X7_comeBack, (Nat.le_trans (by decide) hd), c7_comeBack hv⟩
    · exact ⟨_, _, lk_U (Yc := YX7_comeBack) (n := 0) (x := yX7_comeBack) RX7 dX11_back_78 rfl rfl (am_ob.d hc (by decide)) rfl rfl np_X7_comeBack mh_RX7 (by decide) ml_RX11_327 sm_X7_comeBack_RX7 se_RX3_X7_comeBack_X7_comeBack im_X7_comeBack in_RX7 cd_X7_comeBack, (Nat.le_trans (by decide) hd), c7_comeBack hv⟩
    · exact ⟨_, _, lk_U (Yc := YX7_comeBack) (n := 0) (x := yX7_comeBack) RX7 dX11_back_78 rfl rfl (am_ob.d hc (by decide)) rfl rfl np_X7_comeBack mh_RX7 (by decide) ml_RX11_327 sm_X7_comeBack_RX7 se_RX5_X7_comeBack_X7_comeBack im_X7_comeBack in_RX7 cd_X7_comeBack, (Nat.le_trans (by decide) hd), c7_comeBack hv⟩
    · exact ⟨_, _, lk_U (Yc := YX7_comeBack) (n := 0) (x := yX7_comeBack) RX7 dX11_back_78 rfl rfl (am_ob.d hc (by decide)) rfl rfl np_X7_comeBack mh_RX7 (by decide) ml_RX11_327 sm_X7_comeBack_RX7 se_RX6_X7_comeBack_X7_comeBack im_X7_comeBack in_RX7 cd_X7_comeBack, (Nat.le_trans (by decide) hd), c7_comeBack hv⟩
    · exact ⟨_, _, lk_V (Yc := YX7_comeBack) (n := 0) dX11_back_78 rfl rfl (am_ob.d hc (by decide)) rfl rfl np_X7_comeBack mh_RX7 (by decide) ml_RX11_327 im_X7_comeBack se_RX7_X7_comeBack_X7_comeBack in_RX7 cd_X7_comeBack, (Nat.le_trans (by decide) hd), c7_comeBack hv⟩
    · exact ⟨_, _, lk_U (Yc := YX7_comeBack) (n := 0) (x := yX7_comeBack) RX7 dX11_back_78 rfl rfl (am_ob.d hc (by decide)) rfl rfl np_X7_comeBack mh_RX7 (by decide) ml_RX11_327 sm_X7_comeBack_RX7 se_RX9_X7_comeBack_X7_comeBack im_X7_comeBack in_RX7 cd_X7_comeBack, (Nat.le_trans (by decide) hd), c7_comeBack hv⟩) (fun s12 h13 => ?_)
        refine z_iinc (pc := 81) (v := x1 + (1 : Int32)) (lv' := [(1, .int (x1 + (1 : Int32))), (0, .ref 8)]) 1 dX11_back_81 rfl rfl (by decide) rfl ?_
        refine z_goto (pc := 84) (tgt := 64) dX11_back_84 (by decide) ?_
        refine z_lv (lv' := [(0, .ref 8), (1, .int (x1 + (1 : Int32)))]) [1, 0] rfl ?_
        exact ih (x1 + (1 : Int32)) s12
def f11_back_J62 (N : Nat) (σ : am_S) : Option (Int32 × am_S) := f11_back_L64 N N (0 : Int32) σ
theorem z11_back_J62 {l : Launch} {E : am_E} {d : Nat} {σ0 : am_S} {N : Nat} (hd : 2 ≤ d) (σ : am_S) : Z l E msC σ0 YX11_back d 0 0 62 [(0, .ref 8)] [] 0 0 σ (f11_back_J62 N σ) (fun u r s => r = some (.int u.1) ∧ s = u.2) := by
  unfold f11_back_J62
  refine z_iconst (pc := 62) (v := (0 : Int32)) dX11_back_62 (by decide) ?_
  refine z_istore_n (pc := 63) (lv' := [(1, .int (0 : Int32)), (0, .ref 8)]) dX11_back_63 rfl (by decide) rfl ?_
  refine z_lv (lv' := [(0, .ref 8), (1, .int (0 : Int32))]) [1, 0] rfl ?_
  exact z11_back_L64 hd N (0 : Int32) σ
def f11_back_L39 (N : Nat) : Nat → Int32 → am_S → Option (Int32 × am_S)
  | 0, _, _ => none
  | n + 1, x1, σ => if fF σ 8 16 ≤ x1 then (f11_back_J62 N σ) else (if am_in x1 7 = true then ((fQ σ 9 x1.toNatClampNeg).elim (none) (fun a15 => if [1].contains (am_ci σ a15) = true then ((f1_comeBack σ a15).bind fun s19 => (f11_back_L39 N n (x1 + (1 : Int32)) s19)) else none)) else none)
theorem z11_back_L39 {l : Launch} {E : am_E} {d : Nat} {σ0 : am_S} {N : Nat} (hd : 2 ≤ d) : ∀ (n : Nat) (x1 : Int32) (σ : am_S), Z l E msC σ0 YX11_back d 0 0 39 [(0, .ref 8), (1, .int x1)] [] 0 0 σ (f11_back_L39 N n x1 σ) (fun u r s => r = some (.int u.1) ∧ s = u.2) := by
  intro n
  induction n with
  | zero => intros; exact z_none
  | succ n ih =>
    intro x1 σ
    unfold f11_back_L39
    refine z_iload_n (pc := 39) 1 dX11_back_39 rfl rfl ?_
    refine z_aload_n (pc := 40) 0 dX11_back_40 rfl rfl ?_
    refine z_getI (pc := 41) dX11_back_41 (am_ob.s kC8) fr_RX11_309_11 (by decide) ?_
    refine z_ic_ge (pc := 44) (tgt := 62) dX11_back_44 (by decide) (fun h2 => ?_) (fun h2 => ?_)
    · refine z_lv (lv' := [(0, .ref 8)]) [0] rfl ?_
      exact z11_back_J62 hd σ
    · refine z_aload_n (pc := 47) 0 dX11_back_47 rfl rfl ?_
      refine z_getQ (pc := 48) (b := 9) dX11_back_48 kC8 fr_RX11_11_11 (by decide) rfl ?_
      refine z_iload_n (pc := 51) 1 dX11_back_51 rfl rfl ?_
      refine z_qald (pc := 52) dX11_back_52 ⟨by decide, by decide⟩ (am_ar.s kC9) (fun h14 => ?_)
      refine z_elim (fun e16 => ?_) (fun a15 e16 => ?_)
      · exact z_none
      · refine z_guard (fun g17 => ?_)
        refine z_callVs (pc := 53) [.ref a15] [] rfl (lk_V (Yc := YX1_comeBack) (n := 0) dX11_back_53 rfl rfl (am_ob.d (am_c1 g17) (by decide)) rfl rfl np_X1_comeBack mh_RX1 (by decide) ml_RX11_324 im_X1_comeBack se_RX1_X1_comeBack_X1_comeBack in_RX1 cd_X1_comeBack) (Nat.le_trans (by decide) hd) ⟨by decide, by decide⟩ (Nat.le_of_ble_eq_true rfl) (am_kp.rf _) (fun s19 h20 => c1_comeBack h20) (fun s19 h20 => ?_)
        refine z_iinc (pc := 56) (v := x1 + (1 : Int32)) (lv' := [(1, .int (x1 + (1 : Int32))), (0, .ref 8)]) 1 dX11_back_56 rfl rfl (by decide) rfl ?_
        refine z_goto (pc := 59) (tgt := 39) dX11_back_59 (by decide) ?_
        refine z_lv (lv' := [(0, .ref 8), (1, .int (x1 + (1 : Int32)))]) [1, 0] rfl ?_
        exact ih (x1 + (1 : Int32)) s19
def f11_back (N : Nat) (σ : am_S) : Option (Int32 × am_S) := if fF σ 8 12 = 0 then (some ((-3 : Int32), σ)) else (f11_back_L39 N N (0 : Int32) (sF (sF (sF σ 8 0 (fF σ 8 13)) 8 1 (fF (sF σ 8 0 (fF σ 8 13)) 8 14)) 11 5 (fF (sF (sF σ 8 0 (fF σ 8 13)) 8 1 (fF (sF σ 8 0 (fF σ 8 13)) 8 14)) 8 15)))
theorem c11_back {l : Launch} {E : am_E} {N : Nat} {σ : am_S} {v : Int32} {σ1 : am_S} (hf : f11_back N σ = some (v, σ1)) : Ctr l E msC YX11_back (2) 0 0 [.ref 8] σ (some (.int v)) σ1 := by
  refine ctr_of (G := fun u r s => r = some (.int u.1) ∧ s = u.2) (by decide +kernel) (Nat.le_of_ble_eq_true rfl) hf ⟨rfl, rfl⟩ (fun d hd => ?_)
  refine z_eqlv (lv' := [(0, .ref 8)]) rfl ?_
  unfold f11_back
  refine z_aload_n (pc := 0) 0 dX11_back_0 rfl rfl ?_
  refine z_getI (pc := 1) dX11_back_1 (am_ob.s kC8) fr_RX11_320_11 (by decide) ?_
  refine z_if_ne (pc := 4) (tgt := 10) dX11_back_4 (by decide) (fun h1 => ?_) (fun h1 => ?_)
  · refine z_bipush (pc := 7) (v := (-3 : Int32)) dX11_back_7 (by decide) ?_
    exact z_rIs dX11_back_9 rfl ⟨by decide, by decide⟩
  · refine z_aload_n (pc := 10) 0 dX11_back_10 rfl rfl ?_
    refine z_aload_n (pc := 11) 0 dX11_back_11 rfl rfl ?_
    refine z_getI (pc := 12) dX11_back_12 (am_ob.s kC8) fr_RX11_300_11 (by decide) ?_
    refine z_putI (pc := 15) dX11_back_15 (am_ob.s kC8) fw_RX11_100_11 (by decide) ?_
    refine z_aload_n (pc := 18) 0 dX11_back_18 rfl rfl ?_
    refine z_aload_n (pc := 19) 0 dX11_back_19 rfl rfl ?_
    refine z_getI (pc := 20) dX11_back_20 (am_ob.s kC8) fr_RX11_303_11 (by decide) ?_
    refine z_putI (pc := 23) dX11_back_23 (am_ob.s kC8) fw_RX11_103_11 (by decide) ?_
    refine z_aload_n (pc := 26) 0 dX11_back_26 rfl rfl ?_
    refine z_getQ (pc := 27) (b := 11) dX11_back_27 kC8 fr_RX11_24_11 (by decide) rfl ?_
    refine z_aload_n (pc := 30) 0 dX11_back_30 rfl rfl ?_
    refine z_getI (pc := 31) dX11_back_31 (am_ob.s kC8) fr_RX11_306_11 (by decide) ?_
    refine z_putI (pc := 34) dX11_back_34 (am_ob.s kC11) fw_RX11_180_10 (by decide) ?_
    refine z_iconst (pc := 37) (v := (0 : Int32)) dX11_back_37 (by decide) ?_
    refine z_istore_n (pc := 38) (lv' := [(1, .int (0 : Int32)), (0, .ref 8)]) dX11_back_38 rfl (by decide) rfl ?_
    refine z_lv (lv' := [(0, .ref 8), (1, .int (0 : Int32))]) [1, 0] rfl ?_
    exact z11_back_L39 hd N (0 : Int32) (sF (sF (sF σ 8 0 (fF σ 8 13)) 8 1 (fF (sF σ 8 0 (fF σ 8 13)) 8 14)) 11 5 (fF (sF (sF σ 8 0 (fF σ 8 13)) 8 1 (fF (sF σ 8 0 (fF σ 8 13)) 8 14)) 8 15))
def f11_within (x0 : Int32) (x1 : Int32) (x2 : Int32) : Option Bool := if x0 < x1 then (some (false)) else (if x2 < x0 then (some (false)) else (some (true)))
theorem c11_within {l : Launch} {E : am_E} {σ : am_S} {x0 : Int32} {x1 : Int32} {x2 : Int32} {v : Bool} (hf : f11_within x0 x1 x2 = some v) : Ctr l E msC YX11_within (0) 0 0 [.int x0, .int x1, .int x2] σ (some (.int (bI v))) σ := by
  refine ctr_of (G := fun u r s => r = some (.int (bI u)) ∧ s = σ) (by decide +kernel) (Nat.le_of_ble_eq_true rfl) hf ⟨rfl, rfl⟩ (fun d hd => ?_)
  refine z_eqlv (lv' := [(0, .int x0), (1, .int x1), (2, .int x2)]) rfl ?_
  unfold f11_within
  refine z_iload_n (pc := 0) 0 dX11_within_0 rfl rfl ?_
  refine z_iload_n (pc := 1) 1 dX11_within_1 rfl rfl ?_
  refine z_ic_lt (pc := 2) (tgt := 14) dX11_within_2 (by decide) (fun h1 => ?_) (fun h1 => ?_)
  · refine z_iconst (pc := 14) (v := (0 : Int32)) dX11_within_14 (by decide) ?_
    exact z_rB (b := false) rfl dX11_within_15 rfl ⟨by decide, by decide⟩
  · refine z_iload_n (pc := 5) 0 dX11_within_5 rfl rfl ?_
    refine z_iload_n (pc := 6) 2 dX11_within_6 rfl rfl ?_
    refine z_ic_gt (pc := 7) (tgt := 14) dX11_within_7 (by decide) (fun h2 => ?_) (fun h2 => ?_)
    · refine z_iconst (pc := 14) (v := (0 : Int32)) dX11_within_14 (by decide) ?_
      exact z_rB (b := false) rfl dX11_within_15 rfl ⟨by decide, by decide⟩
    · refine z_iconst (pc := 10) (v := (1 : Int32)) dX11_within_10 (by decide) ?_
      refine z_goto (pc := 11) (tgt := 15) dX11_within_11 (by decide) ?_
      exact z_rB (b := true) rfl dX11_within_15 rfl ⟨by decide, by decide⟩
def f11_isHour (x0 : Int32) : Option Bool := (f11_within x0 (0 : Int32) (23 : Int32)).bind fun v1 => (some (v1))
theorem c11_isHour {l : Launch} {E : am_E} {σ : am_S} {x0 : Int32} {v : Bool} (hf : f11_isHour x0 = some v) : Ctr l E msC YX11_isHour (1) 0 0 [.int x0] σ (some (.int (bI v))) σ := by
  refine ctr_of (G := fun u r s => r = some (.int (bI u)) ∧ s = σ) (by decide +kernel) (Nat.le_of_ble_eq_true rfl) hf ⟨rfl, rfl⟩ (fun d hd => ?_)
  refine z_eqlv (lv' := [(0, .int x0)]) rfl ?_
  unfold f11_isHour
  refine z_iload_n (pc := 0) 0 dX11_isHour_0 rfl rfl ?_
  refine z_iconst (pc := 1) (v := (0 : Int32)) dX11_isHour_1 (by decide) ?_
  refine z_bipush (pc := 2) (v := (23 : Int32)) dX11_isHour_2 (by decide) ?_
  refine z_callB (pc := 4) [.int x0, .int (0 : Int32), .int (23 : Int32)] [] rfl (lk_S (Yc := YX11_within) (n := 3) dX11_isHour_4 rfl np_X11_within mh_RX11 (by decide) ml_RX11_66 st_X11_within in_RX11 cd_X11_within) (Nat.le_trans (by decide) hd) ⟨by decide, by decide⟩ (Nat.le_of_ble_eq_true rfl) (am_kp.rf _) (fun v1 h3 => c11_within h3) (fun v1 h3 => ?_)
  exact z_rB (b := v1) rfl dX11_isHour_7 rfl ⟨by decide, by decide⟩
def f11_byRule (N : Nat) (σ : am_S) (x1 : Int32) (x2 : Int32) (x3 : Int32) (x4 : Int32) (x5 : Int32) : Option (Int32 × am_S) := if am_in (0 : Int32) 6 = true then (if am_in (1 : Int32) 6 = true then (if am_in (2 : Int32) 6 = true then (if am_in (3 : Int32) 6 = true then (if am_in (4 : Int32) 6 = true then (if am_in (5 : Int32) 6 = true then ((f10_value N (sF (sF (sF (sF (sF (sF σ 16 (0 : Int32).toNatClampNeg x2) 16 (1 : Int32).toNatClampNeg (fF (sF σ 16 (0 : Int32).toNatClampNeg x2) 8 0)) 16 (2 : Int32).toNatClampNeg (fF (sF (sF σ 16 (0 : Int32).toNatClampNeg x2) 16 (1 : Int32).toNatClampNeg (fF (sF σ 16 (0 : Int32).toNatClampNeg x2) 8 0)) 8 1)) 16 (3 : Int32).toNatClampNeg x3) 16 (4 : Int32).toNatClampNeg x4) 16 (5 : Int32).toNatClampNeg x5) (x1 - (6 : Int32))).bind fun (v7, s8) => (some (v7, s8))) else none) else none) else none) else none) else none) else none
theorem c11_byRule {l : Launch} {E : am_E} {N : Nat} {σ : am_S} {x1 : Int32} {x2 : Int32} {x3 : Int32} {x4 : Int32} {x5 : Int32} {v : Int32} {σ1 : am_S} (hf : f11_byRule N σ x1 x2 x3 x4 x5 = some (v, σ1)) : Ctr l E msC YX11_byRule (3) 0 0 [.ref 8, .int x1, .int x2, .int x3, .int x4, .int x5] σ (some (.int v)) σ1 := by
  refine ctr_of (G := fun u r s => r = some (.int u.1) ∧ s = u.2) (by decide +kernel) (Nat.le_of_ble_eq_true rfl) hf ⟨rfl, rfl⟩ (fun d hd => ?_)
  refine z_eqlv (lv' := [(0, .ref 8), (1, .int x1), (2, .int x2), (3, .int x3), (4, .int x4), (5, .int x5)]) rfl ?_
  unfold f11_byRule
  refine z_aload_n (pc := 0) 0 dX11_byRule_0 rfl rfl ?_
  refine z_getQ (pc := 1) (b := 16) dX11_byRule_1 kC8 fr_RX11_28_11 (by decide) rfl ?_
  refine z_iconst (pc := 4) (v := (0 : Int32)) dX11_byRule_4 (by decide) ?_
  refine z_iload_n (pc := 5) 2 dX11_byRule_5 rfl rfl ?_
  refine z_iast (pc := 6) dX11_byRule_6 (am_ar.s kC16) (fun h1 => ?_)
  refine z_aload_n (pc := 7) 0 dX11_byRule_7 rfl rfl ?_
  refine z_getQ (pc := 8) (b := 16) dX11_byRule_8 kC8 fr_RX11_28_11 (by decide) rfl ?_
  refine z_iconst (pc := 11) (v := (1 : Int32)) dX11_byRule_11 (by decide) ?_
  refine z_aload_n (pc := 12) 0 dX11_byRule_12 rfl rfl ?_
  refine z_getI (pc := 13) dX11_byRule_13 (am_ob.s kC8) fr_RX11_100_11 (by decide) ?_
  refine z_iast (pc := 16) dX11_byRule_16 (am_ar.s kC16) (fun h2 => ?_)
  refine z_aload_n (pc := 17) 0 dX11_byRule_17 rfl rfl ?_
  refine z_getQ (pc := 18) (b := 16) dX11_byRule_18 kC8 fr_RX11_28_11 (by decide) rfl ?_
  refine z_iconst (pc := 21) (v := (2 : Int32)) dX11_byRule_21 (by decide) ?_
  refine z_aload_n (pc := 22) 0 dX11_byRule_22 rfl rfl ?_
  refine z_getI (pc := 23) dX11_byRule_23 (am_ob.s kC8) fr_RX11_103_11 (by decide) ?_
  refine z_iast (pc := 26) dX11_byRule_26 (am_ar.s kC16) (fun h3 => ?_)
  refine z_aload_n (pc := 27) 0 dX11_byRule_27 rfl rfl ?_
  refine z_getQ (pc := 28) (b := 16) dX11_byRule_28 kC8 fr_RX11_28_11 (by decide) rfl ?_
  refine z_iconst (pc := 31) (v := (3 : Int32)) dX11_byRule_31 (by decide) ?_
  refine z_iload_n (pc := 32) 3 dX11_byRule_32 rfl rfl ?_
  refine z_iast (pc := 33) dX11_byRule_33 (am_ar.s kC16) (fun h4 => ?_)
  refine z_aload_n (pc := 34) 0 dX11_byRule_34 rfl rfl ?_
  refine z_getQ (pc := 35) (b := 16) dX11_byRule_35 kC8 fr_RX11_28_11 (by decide) rfl ?_
  refine z_iconst (pc := 38) (v := (4 : Int32)) dX11_byRule_38 (by decide) ?_
  refine z_iload (pc := 39) 4 dX11_byRule_39 rfl ?_
  refine z_iast (pc := 41) dX11_byRule_41 (am_ar.s kC16) (fun h5 => ?_)
  refine z_aload_n (pc := 42) 0 dX11_byRule_42 rfl rfl ?_
  refine z_getQ (pc := 43) (b := 16) dX11_byRule_43 kC8 fr_RX11_28_11 (by decide) rfl ?_
  refine z_iconst (pc := 46) (v := (5 : Int32)) dX11_byRule_46 (by decide) ?_
  refine z_iload (pc := 47) 5 dX11_byRule_47 rfl ?_
  refine z_iast (pc := 49) dX11_byRule_49 (am_ar.s kC16) (fun h6 => ?_)
  refine z_aload_n (pc := 50) 0 dX11_byRule_50 rfl rfl ?_
  refine z_getQ (pc := 51) (b := 11) dX11_byRule_51 kC8 fr_RX11_24_11 (by decide) rfl ?_
  refine z_iload_n (pc := 54) 1 dX11_byRule_54 rfl rfl ?_
  refine z_bipush (pc := 55) (v := (6 : Int32)) dX11_byRule_55 (by decide) ?_
  refine z_isub (pc := 57) dX11_byRule_57 ?_
  refine z_aload_n (pc := 58) 0 dX11_byRule_58 rfl rfl ?_
  refine z_getQ (pc := 59) (b := 16) dX11_byRule_59 kC8 fr_RX11_28_11 (by decide) rfl ?_
  refine z_callIs (pc := 62) [.ref 11, .int (x1 - (6 : Int32)), .ref 16] [] rfl (lk_V (Yc := YX10_value) (n := 2) dX11_byRule_62 rfl rfl (am_ob.s kC11) rfl rfl np_X10_value mh_RX10 (by decide) ml_RX11_200 im_X10_value se_RX10_X10_value_X10_value in_RX10 cd_X10_value) (Nat.le_trans (by decide) hd) ⟨by decide, by decide⟩ (Nat.le_of_ble_eq_true rfl) (am_kp.rf _) (fun v7 s8 h9 => c10_value h9) (fun v7 s8 h9 => ?_)
  exact z_rIs dX11_byRule_65 rfl ⟨by decide, by decide⟩
def f11_priceOf (N : Nat) (σ : am_S) (x1 : Int32) (x2 : Int32) : Option (Int32 × am_S) := (f11_byRule N σ (7 : Int32) x1 (0 : Int32) x2 (0 : Int32)).bind fun (v1, s2) => (some ((if (0 : Int32) < (if v1 < (99 : Int32) then v1 else (99 : Int32)) then (if v1 < (99 : Int32) then v1 else (99 : Int32)) else (0 : Int32)), s2))
theorem c11_priceOf {l : Launch} {E : am_E} {N : Nat} {σ : am_S} {x1 : Int32} {x2 : Int32} {v : Int32} {σ1 : am_S} (hf : f11_priceOf N σ x1 x2 = some (v, σ1)) : Ctr l E msC YX11_priceOf (4) 0 0 [.ref 8, .int x1, .int x2] σ (some (.int v)) σ1 := by
  refine ctr_of (G := fun u r s => r = some (.int u.1) ∧ s = u.2) (by decide +kernel) (Nat.le_of_ble_eq_true rfl) hf ⟨rfl, rfl⟩ (fun d hd => ?_)
  refine z_eqlv (lv' := [(0, .ref 8), (1, .int x1), (2, .int x2)]) rfl ?_
  unfold f11_priceOf
  refine z_iconst (pc := 0) (v := (0 : Int32)) dX11_priceOf_0 (by decide) ?_
  refine z_bipush (pc := 1) (v := (99 : Int32)) dX11_priceOf_1 (by decide) ?_
  refine z_aload_n (pc := 3) 0 dX11_priceOf_3 rfl rfl ?_
  refine z_bipush (pc := 4) (v := (7 : Int32)) dX11_priceOf_4 (by decide) ?_
  refine z_iload_n (pc := 6) 1 dX11_priceOf_6 rfl rfl ?_
  refine z_iconst (pc := 7) (v := (0 : Int32)) dX11_priceOf_7 (by decide) ?_
  refine z_iload_n (pc := 8) 2 dX11_priceOf_8 rfl rfl ?_
  refine z_iconst (pc := 9) (v := (0 : Int32)) dX11_priceOf_9 (by decide) ?_
  refine z_callIs (pc := 10) [.ref 8, .int (7 : Int32), .int x1, .int (0 : Int32), .int x2, .int (0 : Int32)] [.int (99 : Int32), .int (0 : Int32)] rfl (lk_V (Yc := YX11_byRule) (n := 5) dX11_priceOf_10 rfl rfl (am_ob.s kC8) rfl rfl np_X11_byRule mh_RX11 (by decide) ml_RX11_169 im_X11_byRule se_RX11_X11_byRule_X11_byRule in_RX11 cd_X11_byRule) (Nat.le_trans (by decide) hd) ⟨by decide, by decide⟩ (Nat.le_of_ble_eq_true rfl) (am_kp.rf _) (fun v1 s2 h3 => c11_byRule h3) (fun v1 s2 h3 => ?_)
  refine z_min (pc := 13) dX11_priceOf_13 ml_RX11_194 st_math_min in_math cd_math_min (Nat.le_trans (by decide) hd) (Nat.le_of_ble_eq_true rfl) ⟨by decide, by decide⟩ ?_
  refine z_max (pc := 16) dX11_priceOf_16 ml_RX11_189 st_math_max in_math cd_math_max (Nat.le_trans (by decide) hd) (Nat.le_of_ble_eq_true rfl) ⟨by decide, by decide⟩ ?_
  exact z_rIs dX11_priceOf_19 rfl ⟨by decide, by decide⟩
def f11_box_J177 (k116 : Int32 → Int32 → Int32 → Int32 → Int32 → Int32 → Int32 → am_S → Option (Int32 × am_S)) (N : Nat) (x3 : Int32) (x5 : Int32) (x6 : Int32) (x7 : Int32) (x8 : Int32) (x9 : Int32) (x10 : Int32) (σ : am_S) : Option (Int32 × am_S) := k116 x3 x5 x6 x7 x8 x9 (x10 + (1 : Int32)) σ
theorem z11_box_J177 {l : Launch} {E : am_E} {d : Nat} {σ0 : am_S} {N : Nat} (hd : 5 ≤ d) {k116 : Int32 → Int32 → Int32 → Int32 → Int32 → Int32 → Int32 → am_S → Option (Int32 × am_S)} (hk116 : ∀ (x3 : Int32) (x5 : Int32) (x6 : Int32) (x7 : Int32) (x8 : Int32) (x9 : Int32) (x10 : Int32) (σ : am_S), Z l E msC σ0 YX11_box d 0 0 116 [(3, .int x3), (5, .int x5), (6, .int x6), (7, .int x7), (8, .int x8), (9, .int x9), (10, .int x10)] [] 0 0 σ (k116 x3 x5 x6 x7 x8 x9 x10 σ) (fun u r s => r = some (.int u.1) ∧ s = u.2)) (x3 : Int32) (x5 : Int32) (x6 : Int32) (x7 : Int32) (x8 : Int32) (x9 : Int32) (x10 : Int32) (σ : am_S) : Z l E msC σ0 YX11_box d 0 0 177 [(3, .int x3), (5, .int x5), (6, .int x6), (7, .int x7), (8, .int x8), (9, .int x9), (10, .int x10)] [] 0 0 σ (f11_box_J177 k116 N x3 x5 x6 x7 x8 x9 x10 σ) (fun u r s => r = some (.int u.1) ∧ s = u.2) := by
  unfold f11_box_J177
  refine z_iinc (pc := 177) (v := x10 + (1 : Int32)) (lv' := [(10, .int (x10 + (1 : Int32))), (3, .int x3), (5, .int x5), (6, .int x6), (7, .int x7), (8, .int x8), (9, .int x9)]) 6 dX11_box_177 rfl rfl (by decide) rfl ?_
  refine z_goto (pc := 180) (tgt := 116) dX11_box_180 (by decide) ?_
  refine z_lv (lv' := [(3, .int x3), (5, .int x5), (6, .int x6), (7, .int x7), (8, .int x8), (9, .int x9), (10, .int (x10 + (1 : Int32)))]) [1, 2, 3, 4, 5, 6, 0] rfl ?_
  exact hk116 x3 x5 x6 x7 x8 x9 (x10 + (1 : Int32)) σ
def f11_box_L146 (k116 : Int32 → Int32 → Int32 → Int32 → Int32 → Int32 → Int32 → am_S → Option (Int32 × am_S)) (N : Nat) : Nat → Int32 → Int32 → Int32 → Int32 → Int32 → Int32 → Int32 → Int32 → Int32 → am_S → Option (Int32 × am_S)
  | 0, _, _, _, _, _, _, _, _, _, _ => none
  | n + 1, x3, x5, x6, x7, x8, x9, x10, x11, x12, σ => if x11 < x12 then (f11_box_J177 k116 N x3 x5 x6 x7 x8 x9 x10 σ) else (if (x10 * x5) + (x12 * x6) = x3 then (f11_box_L146 k116 N n x3 x5 x6 x7 x8 (x9 + (1 : Int32)) x10 x11 (x12 + (1 : Int32)) σ) else (f11_box_L146 k116 N n x3 x5 x6 x7 x8 x9 x10 x11 (x12 + (1 : Int32)) σ))
theorem z11_box_L146 {l : Launch} {E : am_E} {d : Nat} {σ0 : am_S} {N : Nat} (hd : 5 ≤ d) {k116 : Int32 → Int32 → Int32 → Int32 → Int32 → Int32 → Int32 → am_S → Option (Int32 × am_S)} (hk116 : ∀ (x3 : Int32) (x5 : Int32) (x6 : Int32) (x7 : Int32) (x8 : Int32) (x9 : Int32) (x10 : Int32) (σ : am_S), Z l E msC σ0 YX11_box d 0 0 116 [(3, .int x3), (5, .int x5), (6, .int x6), (7, .int x7), (8, .int x8), (9, .int x9), (10, .int x10)] [] 0 0 σ (k116 x3 x5 x6 x7 x8 x9 x10 σ) (fun u r s => r = some (.int u.1) ∧ s = u.2)) : ∀ (n : Nat) (x3 : Int32) (x5 : Int32) (x6 : Int32) (x7 : Int32) (x8 : Int32) (x9 : Int32) (x10 : Int32) (x11 : Int32) (x12 : Int32) (σ : am_S), Z l E msC σ0 YX11_box d 0 0 146 [(3, .int x3), (5, .int x5), (6, .int x6), (7, .int x7), (8, .int x8), (9, .int x9), (10, .int x10), (11, .int x11), (12, .int x12)] [] 0 0 σ (f11_box_L146 k116 N n x3 x5 x6 x7 x8 x9 x10 x11 x12 σ) (fun u r s => r = some (.int u.1) ∧ s = u.2) := by
  intro n
  induction n with
  | zero => intros; exact z_none
  | succ n ih =>
    intro x3 x5 x6 x7 x8 x9 x10 x11 x12 σ
    unfold f11_box_L146
    refine z_iload (pc := 146) 8 dX11_box_146 rfl ?_
    refine z_iload (pc := 148) 7 dX11_box_148 rfl ?_
    refine z_ic_gt (pc := 150) (tgt := 177) dX11_box_150 (by decide) (fun h23 => ?_) (fun h23 => ?_)
    · refine z_lv (lv' := [(3, .int x3), (5, .int x5), (6, .int x6), (7, .int x7), (8, .int x8), (9, .int x9), (10, .int x10)]) [0, 1, 2, 3, 4, 5, 6] rfl ?_
      exact z11_box_J177 hd hk116 x3 x5 x6 x7 x8 x9 x10 σ
    · refine z_iload (pc := 153) 6 dX11_box_153 rfl ?_
      refine z_iload (pc := 155) 1 dX11_box_155 rfl ?_
      refine z_imul (pc := 157) dX11_box_157 ?_
      refine z_iload (pc := 158) 8 dX11_box_158 rfl ?_
      refine z_iload (pc := 160) 2 dX11_box_160 rfl ?_
      refine z_imul (pc := 162) dX11_box_162 ?_
      refine z_iadd (pc := 163) dX11_box_163 ?_
      refine z_iload_n (pc := 164) 0 dX11_box_164 rfl rfl ?_
      refine z_ic_ne (pc := 165) (tgt := 171) dX11_box_165 (by decide) (fun h24 => ?_) (fun h24 => ?_)
      · refine z_iinc (pc := 168) (v := x9 + (1 : Int32)) (lv' := [(9, .int (x9 + (1 : Int32))), (3, .int x3), (5, .int x5), (6, .int x6), (7, .int x7), (8, .int x8), (10, .int x10), (11, .int x11), (12, .int x12)]) 5 dX11_box_168 rfl rfl (by decide) rfl ?_
        refine z_iinc (pc := 171) (v := x12 + (1 : Int32)) (lv' := [(12, .int (x12 + (1 : Int32))), (9, .int (x9 + (1 : Int32))), (3, .int x3), (5, .int x5), (6, .int x6), (7, .int x7), (8, .int x8), (10, .int x10), (11, .int x11)]) 8 dX11_box_171 rfl rfl (by decide) rfl ?_
        refine z_goto (pc := 174) (tgt := 146) dX11_box_174 (by decide) ?_
        refine z_lv (lv' := [(3, .int x3), (5, .int x5), (6, .int x6), (7, .int x7), (8, .int x8), (9, .int (x9 + (1 : Int32))), (10, .int x10), (11, .int x11), (12, .int (x12 + (1 : Int32)))]) [2, 3, 4, 5, 6, 1, 7, 8, 0] rfl ?_
        exact ih x3 x5 x6 x7 x8 (x9 + (1 : Int32)) x10 x11 (x12 + (1 : Int32)) σ
      · refine z_iinc (pc := 171) (v := x12 + (1 : Int32)) (lv' := [(12, .int (x12 + (1 : Int32))), (3, .int x3), (5, .int x5), (6, .int x6), (7, .int x7), (8, .int x8), (9, .int x9), (10, .int x10), (11, .int x11)]) 8 dX11_box_171 rfl rfl (by decide) rfl ?_
        refine z_goto (pc := 174) (tgt := 146) dX11_box_174 (by decide) ?_
        refine z_lv (lv' := [(3, .int x3), (5, .int x5), (6, .int x6), (7, .int x7), (8, .int x8), (9, .int x9), (10, .int x10), (11, .int x11), (12, .int (x12 + (1 : Int32)))]) [1, 2, 3, 4, 5, 6, 7, 8, 0] rfl ?_
        exact ih x3 x5 x6 x7 x8 x9 x10 x11 (x12 + (1 : Int32)) σ
def f11_box_L116 (N : Nat) : Nat → Int32 → Int32 → Int32 → Int32 → Int32 → Int32 → Int32 → am_S → Option (Int32 × am_S)
  | 0, _, _, _, _, _, _, _, _ => none
  | n + 1, x3, x5, x6, x7, x8, x9, x10, σ => if (99 : Int32) < x10 then (some (x9, σ)) else (f11_box_L146 (f11_box_L116 N n) N N x3 x5 x6 x7 x8 x9 x10 (if (x8 - x10) < (99 : Int32) then (x8 - x10) else (99 : Int32)) (if (0 : Int32) < (x7 - x10) then (x7 - x10) else (0 : Int32)) σ)
theorem z11_box_L116 {l : Launch} {E : am_E} {d : Nat} {σ0 : am_S} {N : Nat} (hd : 5 ≤ d) : ∀ (n : Nat) (x3 : Int32) (x5 : Int32) (x6 : Int32) (x7 : Int32) (x8 : Int32) (x9 : Int32) (x10 : Int32) (σ : am_S), Z l E msC σ0 YX11_box d 0 0 116 [(3, .int x3), (5, .int x5), (6, .int x6), (7, .int x7), (8, .int x8), (9, .int x9), (10, .int x10)] [] 0 0 σ (f11_box_L116 N n x3 x5 x6 x7 x8 x9 x10 σ) (fun u r s => r = some (.int u.1) ∧ s = u.2) := by
  intro n
  induction n with
  | zero => intros; exact z_none
  | succ n ih =>
    intro x3 x5 x6 x7 x8 x9 x10 σ
    unfold f11_box_L116
    refine z_iload (pc := 116) 6 dX11_box_116 rfl ?_
    refine z_bipush (pc := 118) (v := (99 : Int32)) dX11_box_118 (by decide) ?_
    refine z_ic_gt (pc := 120) (tgt := 183) dX11_box_120 (by decide) (fun h22 => ?_) (fun h22 => ?_)
    · refine z_iload (pc := 183) 5 dX11_box_183 rfl ?_
      exact z_rIs dX11_box_185 rfl ⟨by decide, by decide⟩
    · refine z_bipush (pc := 123) (v := (99 : Int32)) dX11_box_123 (by decide) ?_
      refine z_iload (pc := 125) 4 dX11_box_125 rfl ?_
      refine z_iload (pc := 127) 6 dX11_box_127 rfl ?_
      refine z_isub (pc := 129) dX11_box_129 ?_
      refine z_min (pc := 130) dX11_box_130 ml_RX11_194 st_math_min in_math cd_math_min (Nat.le_trans (by decide) hd) (Nat.le_of_ble_eq_true rfl) ⟨by decide, by decide⟩ ?_
      refine z_istore (pc := 133) (lv' := [(11, .int (if (x8 - x10) < (99 : Int32) then (x8 - x10) else (99 : Int32))), (3, .int x3), (5, .int x5), (6, .int x6), (7, .int x7), (8, .int x8), (9, .int x9), (10, .int x10)]) dX11_box_133 (by decide) rfl ?_
      refine z_iconst (pc := 135) (v := (0 : Int32)) dX11_box_135 (by decide) ?_
      refine z_iload (pc := 136) 4 dX11_box_136 rfl ?_
      refine z_iload (pc := 138) 7 dX11_box_138 rfl ?_
      refine z_isub (pc := 140) dX11_box_140 ?_
      refine z_max (pc := 141) dX11_box_141 ml_RX11_189 st_math_max in_math cd_math_max (Nat.le_trans (by decide) hd) (Nat.le_of_ble_eq_true rfl) ⟨by decide, by decide⟩ ?_
      refine z_istore (pc := 144) (lv' := [(12, .int (if (0 : Int32) < (x7 - x10) then (x7 - x10) else (0 : Int32))), (11, .int (if (x8 - x10) < (99 : Int32) then (x8 - x10) else (99 : Int32))), (3, .int x3), (5, .int x5), (6, .int x6), (7, .int x7), (8, .int x8), (9, .int x9), (10, .int x10)]) dX11_box_144 (by decide) rfl ?_
      refine z_lv (lv' := [(3, .int x3), (5, .int x5), (6, .int x6), (7, .int x7), (8, .int x8), (9, .int x9), (10, .int x10), (11, .int (if (x8 - x10) < (99 : Int32) then (x8 - x10) else (99 : Int32))), (12, .int (if (0 : Int32) < (x7 - x10) then (x7 - x10) else (0 : Int32)))]) [2, 3, 4, 5, 6, 7, 8, 1, 0] rfl ?_
      exact z11_box_L146 hd (fun x3 x5 x6 x7 x8 x9 x10 σ => ih x3 x5 x6 x7 x8 x9 x10 σ) N x3 x5 x6 x7 x8 x9 x10 (if (x8 - x10) < (99 : Int32) then (x8 - x10) else (99 : Int32)) (if (0 : Int32) < (x7 - x10) then (x7 - x10) else (0 : Int32)) σ
def f11_box (N : Nat) (σ : am_S) (x1 : Int32) (x2 : Int32) (x3 : Int32) (x4 : Int32) : Option (Int32 × am_S) := if x1 < 0 then (some ((-2 : Int32), σ)) else (if (198 : Int32) < x1 / (1000 : Int32) then (some ((-2 : Int32), σ)) else (if (198 : Int32) < x1 - x1 / (1000 : Int32) * (1000 : Int32) then (some ((-2 : Int32), σ)) else ((f11_within x2 (0 : Int32) (9 : Int32)).bind fun v4 => (if v4 = true then ((f11_within x3 (0 : Int32) (99999 : Int32)).bind fun v8 => (if v8 = true then ((f11_isHour x4).bind fun v12 => (if v12 = true then ((f11_priceOf N σ (1 : Int32) x4).bind fun (v16, s17) => ((f11_priceOf N s17 (0 : Int32) x4).bind fun (v19, s20) => (f11_box_L116 N N x3 v16 v19 ((if (x1 / (1000 : Int32)) < (x1 - x1 / (1000 : Int32) * (1000 : Int32)) then (x1 - x1 / (1000 : Int32) * (1000 : Int32)) else (x1 / (1000 : Int32))) - x2) ((if (x1 - x1 / (1000 : Int32) * (1000 : Int32)) < (x1 / (1000 : Int32)) then (x1 - x1 / (1000 : Int32) * (1000 : Int32)) else (x1 / (1000 : Int32))) + x2) (0 : Int32) (0 : Int32) s20))) else (some ((-2 : Int32), σ)))) else (some ((-2 : Int32), σ)))) else (some ((-2 : Int32), σ))))))
theorem c11_box {l : Launch} {E : am_E} {N : Nat} {σ : am_S} {x1 : Int32} {x2 : Int32} {x3 : Int32} {x4 : Int32} {v : Int32} {σ1 : am_S} (hf : f11_box N σ x1 x2 x3 x4 = some (v, σ1)) : Ctr l E msC YX11_box (5) 0 0 [.ref 8, .int x1, .int x2, .int x3, .int x4] σ (some (.int v)) σ1 := by
  refine ctr_of (G := fun u r s => r = some (.int u.1) ∧ s = u.2) (by decide +kernel) (Nat.le_of_ble_eq_true rfl) hf ⟨rfl, rfl⟩ (fun d hd => ?_)
  refine z_eqlv (lv' := [(0, .ref 8), (1, .int x1), (2, .int x2), (3, .int x3), (4, .int x4)]) rfl ?_
  unfold f11_box
  refine z_iload_n (pc := 0) 1 dX11_box_0 rfl rfl ?_
  refine z_if_lt (pc := 1) (tgt := 55) dX11_box_1 (by decide) (fun h1 => ?_) (fun h1 => ?_)
  · refine z_bipush (pc := 55) (v := (-2 : Int32)) dX11_box_55 (by decide) ?_
    exact z_rIs dX11_box_57 rfl ⟨by decide, by decide⟩
  · refine z_iload_n (pc := 4) 1 dX11_box_4 rfl rfl ?_
    refine z_sipush (pc := 5) (v := (1000 : Int32)) dX11_box_5 (by decide) ?_
    refine z_idiv (pc := 8) dX11_box_8 (by decide) ?_
    refine z_sipush (pc := 9) (v := (198 : Int32)) dX11_box_9 (by decide) ?_
    refine z_ic_gt (pc := 12) (tgt := 55) dX11_box_12 (by decide) (fun h2 => ?_) (fun h2 => ?_)
    · refine z_bipush (pc := 55) (v := (-2 : Int32)) dX11_box_55 (by decide) ?_
      exact z_rIs dX11_box_57 rfl ⟨by decide, by decide⟩
    · refine z_iload_n (pc := 15) 1 dX11_box_15 rfl rfl ?_
      refine z_sipush (pc := 16) (v := (1000 : Int32)) dX11_box_16 (by decide) ?_
      refine z_irem (pc := 19) dX11_box_19 (by decide) ?_
      refine z_sipush (pc := 20) (v := (198 : Int32)) dX11_box_20 (by decide) ?_
      refine z_ic_gt (pc := 23) (tgt := 55) dX11_box_23 (by decide) (fun h3 => ?_) (fun h3 => ?_)
      · refine z_bipush (pc := 55) (v := (-2 : Int32)) dX11_box_55 (by decide) ?_
        exact z_rIs dX11_box_57 rfl ⟨by decide, by decide⟩
      · refine z_iload_n (pc := 26) 2 dX11_box_26 rfl rfl ?_
        refine z_iconst (pc := 27) (v := (0 : Int32)) dX11_box_27 (by decide) ?_
        refine z_bipush (pc := 28) (v := (9 : Int32)) dX11_box_28 (by decide) ?_
        refine z_callB (pc := 30) [.int x2, .int (0 : Int32), .int (9 : Int32)] [] rfl (lk_S (Yc := YX11_within) (n := 3) dX11_box_30 rfl np_X11_within mh_RX11 (by decide) ml_RX11_66 st_X11_within in_RX11 cd_X11_within) (Nat.le_trans (by decide) hd) ⟨by decide, by decide⟩ (Nat.le_of_ble_eq_true rfl) (am_kp.rf _) (fun v4 h6 => c11_within h6) (fun v4 h6 => ?_)
        refine z_bz_eq (pc := 33) (tgt := 55) dX11_box_33 (by decide) (fun h7 => ?_) (fun h7 => ?_)
        · refine z_iload_n (pc := 36) 3 dX11_box_36 rfl rfl ?_
          refine z_iconst (pc := 37) (v := (0 : Int32)) dX11_box_37 (by decide) ?_
          refine z_ldcw (pc := 38) (v := (99999 : Int32)) dX11_box_38 ki_RX11_292 ?_
          refine z_callB (pc := 41) [.int x3, .int (0 : Int32), .int (99999 : Int32)] [] rfl (lk_S (Yc := YX11_within) (n := 3) dX11_box_41 rfl np_X11_within mh_RX11 (by decide) ml_RX11_66 st_X11_within in_RX11 cd_X11_within) (Nat.le_trans (by decide) hd) ⟨by decide, by decide⟩ (Nat.le_of_ble_eq_true rfl) (am_kp.rf _) (fun v8 h10 => c11_within h10) (fun v8 h10 => ?_)
          refine z_bz_eq (pc := 44) (tgt := 55) dX11_box_44 (by decide) (fun h11 => ?_) (fun h11 => ?_)
          · refine z_iload (pc := 47) 4 dX11_box_47 rfl ?_
            refine z_callB (pc := 49) [.int x4] [] rfl (lk_S (Yc := YX11_isHour) (n := 1) dX11_box_49 rfl np_X11_isHour mh_RX11 (by decide) ml_RX11_138 st_X11_isHour in_RX11 cd_X11_isHour) (Nat.le_trans (by decide) hd) ⟨by decide, by decide⟩ (Nat.le_of_ble_eq_true rfl) (am_kp.rf _) (fun v12 h14 => c11_isHour h14) (fun v12 h14 => ?_)
            refine z_bz_ne (pc := 52) (tgt := 58) dX11_box_52 (by decide) (fun h15 => ?_) (fun h15 => ?_)
            · refine z_aload_n (pc := 58) 0 dX11_box_58 rfl rfl ?_
              refine z_iconst (pc := 59) (v := (1 : Int32)) dX11_box_59 (by decide) ?_
              refine z_iload (pc := 60) 4 dX11_box_60 rfl ?_
              refine z_callIs (pc := 62) [.ref 8, .int (1 : Int32), .int x4] [] rfl (lk_V (Yc := YX11_priceOf) (n := 2) dX11_box_62 rfl rfl (am_ob.s kC8) rfl rfl np_X11_priceOf mh_RX11 (by decide) ml_RX11_293 im_X11_priceOf se_RX11_X11_priceOf_X11_priceOf in_RX11 cd_X11_priceOf) (Nat.le_trans (by decide) hd) ⟨by decide, by decide⟩ (Nat.le_of_ble_eq_true rfl) (am_kp.rf _) (fun v16 s17 h18 => c11_priceOf h18) (fun v16 s17 h18 => ?_)
              refine z_istore (pc := 65) (lv' := [(5, .int v16), (0, .ref 8), (1, .int x1), (2, .int x2), (3, .int x3), (4, .int x4)]) dX11_box_65 (by decide) rfl ?_
              refine z_aload_n (pc := 67) 1 dX11_box_67 rfl rfl ?_
              refine z_iconst (pc := 68) (v := (0 : Int32)) dX11_box_68 (by decide) ?_
              refine z_iload (pc := 69) 5 dX11_box_69 rfl ?_
              refine z_callIs (pc := 71) [.ref 8, .int (0 : Int32), .int x4] [] rfl (lk_V (Yc := YX11_priceOf) (n := 2) dX11_box_71 rfl rfl (am_ob.s kC8) rfl rfl np_X11_priceOf mh_RX11 (by decide) ml_RX11_293 im_X11_priceOf se_RX11_X11_priceOf_X11_priceOf in_RX11 cd_X11_priceOf) (Nat.le_trans (by decide) hd) ⟨by decide, by decide⟩ (Nat.le_of_ble_eq_true rfl) (am_kp.rf _) (fun v19 s20 h21 => c11_priceOf h21) (fun v19 s20 h21 => ?_)
              refine z_istore (pc := 74) (lv' := [(6, .int v19), (5, .int v16), (0, .ref 8), (1, .int x1), (2, .int x2), (3, .int x3), (4, .int x4)]) dX11_box_74 (by decide) rfl ?_
              refine z_iload_n (pc := 76) 3 dX11_box_76 rfl rfl ?_
              refine z_sipush (pc := 77) (v := (1000 : Int32)) dX11_box_77 (by decide) ?_
              refine z_idiv (pc := 80) dX11_box_80 (by decide) ?_
              refine z_iload_n (pc := 81) 3 dX11_box_81 rfl rfl ?_
              refine z_sipush (pc := 82) (v := (1000 : Int32)) dX11_box_82 (by decide) ?_
              refine z_irem (pc := 85) dX11_box_85 (by decide) ?_
              refine z_max (pc := 86) dX11_box_86 ml_RX11_189 st_math_max in_math cd_math_max (Nat.le_trans (by decide) hd) (Nat.le_of_ble_eq_true rfl) ⟨by decide, by decide⟩ ?_
              refine z_iload_n (pc := 89) 4 dX11_box_89 rfl rfl ?_
              refine z_isub (pc := 90) dX11_box_90 ?_
              refine z_istore (pc := 91) (lv' := [(7, .int ((if (x1 / (1000 : Int32)) < (x1 - x1 / (1000 : Int32) * (1000 : Int32)) then (x1 - x1 / (1000 : Int32) * (1000 : Int32)) else (x1 / (1000 : Int32))) - x2)), (6, .int v19), (5, .int v16), (0, .ref 8), (1, .int x1), (2, .int x2), (3, .int x3), (4, .int x4)]) dX11_box_91 (by decide) rfl ?_
              refine z_iload_n (pc := 93) 4 dX11_box_93 rfl rfl ?_
              refine z_sipush (pc := 94) (v := (1000 : Int32)) dX11_box_94 (by decide) ?_
              refine z_idiv (pc := 97) dX11_box_97 (by decide) ?_
              refine z_iload_n (pc := 98) 4 dX11_box_98 rfl rfl ?_
              refine z_sipush (pc := 99) (v := (1000 : Int32)) dX11_box_99 (by decide) ?_
              refine z_irem (pc := 102) dX11_box_102 (by decide) ?_
              refine z_min (pc := 103) dX11_box_103 ml_RX11_194 st_math_min in_math cd_math_min (Nat.le_trans (by decide) hd) (Nat.le_of_ble_eq_true rfl) ⟨by decide, by decide⟩ ?_
              refine z_iload_n (pc := 106) 5 dX11_box_106 rfl rfl ?_
              refine z_iadd (pc := 107) dX11_box_107 ?_
              refine z_istore (pc := 108) (lv' := [(8, .int ((if (x1 - x1 / (1000 : Int32) * (1000 : Int32)) < (x1 / (1000 : Int32)) then (x1 - x1 / (1000 : Int32) * (1000 : Int32)) else (x1 / (1000 : Int32))) + x2)), (7, .int ((if (x1 / (1000 : Int32)) < (x1 - x1 / (1000 : Int32) * (1000 : Int32)) then (x1 - x1 / (1000 : Int32) * (1000 : Int32)) else (x1 / (1000 : Int32))) - x2)), (6, .int v19), (5, .int v16), (0, .ref 8), (1, .int x1), (2, .int x2), (3, .int x3), (4, .int x4)]) dX11_box_108 (by decide) rfl ?_
              refine z_iconst (pc := 110) (v := (0 : Int32)) dX11_box_110 (by decide) ?_
              refine z_istore (pc := 111) (lv' := [(9, .int (0 : Int32)), (8, .int ((if (x1 - x1 / (1000 : Int32) * (1000 : Int32)) < (x1 / (1000 : Int32)) then (x1 - x1 / (1000 : Int32) * (1000 : Int32)) else (x1 / (1000 : Int32))) + x2)), (7, .int ((if (x1 / (1000 : Int32)) < (x1 - x1 / (1000 : Int32) * (1000 : Int32)) then (x1 - x1 / (1000 : Int32) * (1000 : Int32)) else (x1 / (1000 : Int32))) - x2)), (6, .int v19), (5, .int v16), (0, .ref 8), (1, .int x1), (2, .int x2), (3, .int x3), (4, .int x4)]) dX11_box_111 (by decide) rfl ?_
              refine z_iconst (pc := 113) (v := (0 : Int32)) dX11_box_113 (by decide) ?_
              refine z_istore (pc := 114) (lv' := [(10, .int (0 : Int32)), (9, .int (0 : Int32)), (8, .int ((if (x1 - x1 / (1000 : Int32) * (1000 : Int32)) < (x1 / (1000 : Int32)) then (x1 - x1 / (1000 : Int32) * (1000 : Int32)) else (x1 / (1000 : Int32))) + x2)), (7, .int ((if (x1 / (1000 : Int32)) < (x1 - x1 / (1000 : Int32) * (1000 : Int32)) then (x1 - x1 / (1000 : Int32) * (1000 : Int32)) else (x1 / (1000 : Int32))) - x2)), (6, .int v19), (5, .int v16), (0, .ref 8), (1, .int x1), (2, .int x2), (3, .int x3), (4, .int x4)]) dX11_box_114 (by decide) rfl ?_
              refine z_lv (lv' := [(3, .int x3), (5, .int v16), (6, .int v19), (7, .int ((if (x1 / (1000 : Int32)) < (x1 - x1 / (1000 : Int32) * (1000 : Int32)) then (x1 - x1 / (1000 : Int32) * (1000 : Int32)) else (x1 / (1000 : Int32))) - x2)), (8, .int ((if (x1 - x1 / (1000 : Int32) * (1000 : Int32)) < (x1 / (1000 : Int32)) then (x1 - x1 / (1000 : Int32) * (1000 : Int32)) else (x1 / (1000 : Int32))) + x2)), (9, .int (0 : Int32)), (10, .int (0 : Int32))]) [9, 5, 4, 3, 2, 1, 0] rfl ?_
              exact z11_box_L116 hd N x3 v16 v19 ((if (x1 / (1000 : Int32)) < (x1 - x1 / (1000 : Int32) * (1000 : Int32)) then (x1 - x1 / (1000 : Int32) * (1000 : Int32)) else (x1 / (1000 : Int32))) - x2) ((if (x1 - x1 / (1000 : Int32) * (1000 : Int32)) < (x1 / (1000 : Int32)) then (x1 - x1 / (1000 : Int32) * (1000 : Int32)) else (x1 / (1000 : Int32))) + x2) (0 : Int32) (0 : Int32) s20
            · refine z_bipush (pc := 55) (v := (-2 : Int32)) dX11_box_55 (by decide) ?_
              exact z_rIs dX11_box_57 rfl ⟨by decide, by decide⟩
          · refine z_bipush (pc := 55) (v := (-2 : Int32)) dX11_box_55 (by decide) ?_
            exact z_rIs dX11_box_57 rfl ⟨by decide, by decide⟩
        · refine z_bipush (pc := 55) (v := (-2 : Int32)) dX11_box_55 (by decide) ?_
          exact z_rIs dX11_box_57 rfl ⟨by decide, by decide⟩
def f11_crossingAt (σ : am_S) (x1 : Int64) : Option (Option Nat) := if lg_cmp x1 (0 : Int64) < 0 then (some none) else (if 0 ≤ lg_cmp x1 ((fF σ 8 3).toInt64) then (some none) else (if am_in x1.toInt32 7 = true then ((fQ σ 9 x1.toInt32.toNatClampNeg).elim (some none) (fun a4 => some (some a4))) else none))
theorem c11_crossingAt {l : Launch} {E : am_E} {σ : am_S} {x1 : Int64} {v : Option Nat} (hf : f11_crossingAt σ x1 = some v) : Ctr l E msC YX11_crossingAt (0) 0 0 [.ref 8, .long x1] σ (some (va_rf v)) σ := by
  refine ctr_of (G := fun u r s => r = some (va_rf u) ∧ s = σ) (by decide +kernel) (Nat.le_of_ble_eq_true rfl) hf ⟨rfl, rfl⟩ (fun d hd => ?_)
  refine z_eqlv (lv' := [(0, .ref 8), (1, .long x1)]) rfl ?_
  unfold f11_crossingAt
  refine z_lload_n (pc := 0) 1 dX11_crossingAt_0 rfl rfl ?_
  refine z_lconst (pc := 1) (v := (0 : Int64)) dX11_crossingAt_1 (by decide) ?_
  refine z_lcmp (pc := 2) dX11_crossingAt_2 ?_
  refine z_if_lt (pc := 3) (tgt := 26) dX11_crossingAt_3 (by decide) (fun h1 => ?_) (fun h1 => ?_)
  · refine z_null (pc := 26) dX11_crossingAt_26 ?_
    exact z_rRN dX11_crossingAt_27 rfl ⟨by decide, by decide⟩
  · refine z_lload_n (pc := 6) 1 dX11_crossingAt_6 rfl rfl ?_
    refine z_aload_n (pc := 7) 0 dX11_crossingAt_7 rfl rfl ?_
    refine z_getI (pc := 8) dX11_crossingAt_8 (am_ob.s kC8) fr_RX11_74_11 (by decide) ?_
    refine z_i2l (pc := 11) dX11_crossingAt_11 ?_
    refine z_lcmp (pc := 12) dX11_crossingAt_12 ?_
    refine z_if_ge (pc := 13) (tgt := 26) dX11_crossingAt_13 (by decide) (fun h2 => ?_) (fun h2 => ?_)
    · refine z_null (pc := 26) dX11_crossingAt_26 ?_
      exact z_rRN dX11_crossingAt_27 rfl ⟨by decide, by decide⟩
    · refine z_aload_n (pc := 16) 0 dX11_crossingAt_16 rfl rfl ?_
      refine z_getQ (pc := 17) (b := 9) dX11_crossingAt_17 kC8 fr_RX11_11_11 (by decide) rfl ?_
      refine z_lload_n (pc := 20) 1 dX11_crossingAt_20 rfl rfl ?_
      refine z_l2i (pc := 21) dX11_crossingAt_21 ?_
      refine z_qald (pc := 22) dX11_crossingAt_22 ⟨by decide, by decide⟩ (am_ar.s kC9) (fun h3 => ?_)
      refine z_elim (fun e5 => ?_) (fun a4 e5 => ?_)
      · refine z_goto (pc := 23) (tgt := 27) dX11_crossingAt_23 (by decide) ?_
        exact z_rRN dX11_crossingAt_27 rfl ⟨by decide, by decide⟩
      · refine z_goto (pc := 23) (tgt := 27) dX11_crossingAt_23 (by decide) ?_
        exact z_rR dX11_crossingAt_27 rfl ⟨by decide, by decide⟩
def f11_bridge (σ : am_S) (x1 : Int32) (x2 : Int32) : Option Int32 := (f11_crossingAt σ x1.toInt64).bind fun v1 => (v1.elim (some ((-2 : Int32))) (fun a4 => (f11_within x2 (0 : Int32) (100 : Int32)).bind fun v6 => (if v6 = true then (if [1].contains (am_ci σ a4) = true then (some (((fF σ a4 3) * ((100 : Int32) - x2)) / (100 : Int32))) else none) else (some ((-2 : Int32))))))
theorem c11_bridge {l : Launch} {E : am_E} {σ : am_S} {x1 : Int32} {x2 : Int32} {v : Int32} (hf : f11_bridge σ x1 x2 = some v) : Ctr l E msC YX11_bridge (1) 0 0 [.ref 8, .int x1, .int x2] σ (some (.int v)) σ := by
  refine ctr_of (G := fun u r s => r = some (.int u) ∧ s = σ) (by decide +kernel) (Nat.le_of_ble_eq_true rfl) hf ⟨rfl, rfl⟩ (fun d hd => ?_)
  refine z_eqlv (lv' := [(0, .ref 8), (1, .int x1), (2, .int x2)]) rfl ?_
  unfold f11_bridge
  refine z_aload_n (pc := 0) 0 dX11_bridge_0 rfl rfl ?_
  refine z_iload_n (pc := 1) 1 dX11_bridge_1 rfl rfl ?_
  refine z_i2l (pc := 2) dX11_bridge_2 ?_
  refine z_callR (pc := 3) [.ref 8, .long x1.toInt64] [] rfl (lk_V (Yc := YX11_crossingAt) (n := 1) dX11_bridge_3 rfl rfl (am_ob.s kC8) rfl rfl np_X11_crossingAt mh_RX11 (by decide) ml_RX11_87 im_X11_crossingAt se_RX11_X11_crossingAt_X11_crossingAt in_RX11 cd_X11_crossingAt) (Nat.le_trans (by decide) hd) ⟨by decide, by decide⟩ (Nat.le_of_ble_eq_true rfl) (am_kp.rf _) (fun v1 h3 => c11_crossingAt h3) (fun v1 h3 => ?_)
  refine z_elim (fun e5 => ?_) (fun a4 e5 => ?_)
  · refine z_astore_nN (pc := 6) (lv' := [(3, .null), (0, .ref 8), (1, .int x1), (2, .int x2)]) dX11_bridge_6 rfl (by decide) rfl ?_
    refine z_aload_nN (pc := 7) 0 dX11_bridge_7 rfl rfl ?_
    refine z_ifnullN (pc := 8) (tgt := 36) dX11_bridge_8 (by decide) ?_
    refine z_bipush (pc := 36) (v := (-2 : Int32)) dX11_bridge_36 (by decide) ?_
    exact z_rI dX11_bridge_38 rfl ⟨by decide, by decide⟩
  · refine z_astore_n (pc := 6) (lv' := [(3, .ref a4), (0, .ref 8), (1, .int x1), (2, .int x2)]) dX11_bridge_6 rfl (by decide) rfl ?_
    refine z_aload_n (pc := 7) 0 dX11_bridge_7 rfl rfl ?_
    refine z_ifnull (pc := 8) dX11_bridge_8 ?_
    refine z_iload_n (pc := 11) 3 dX11_bridge_11 rfl rfl ?_
    refine z_iconst (pc := 12) (v := (0 : Int32)) dX11_bridge_12 (by decide) ?_
    refine z_bipush (pc := 13) (v := (100 : Int32)) dX11_bridge_13 (by decide) ?_
    refine z_callB (pc := 15) [.int x2, .int (0 : Int32), .int (100 : Int32)] [] rfl (lk_S (Yc := YX11_within) (n := 3) dX11_bridge_15 rfl np_X11_within mh_RX11 (by decide) ml_RX11_66 st_X11_within in_RX11 cd_X11_within) (Nat.le_trans (by decide) hd) ⟨by decide, by decide⟩ (Nat.le_of_ble_eq_true rfl) (am_kp.rf _) (fun v6 h8 => c11_within h8) (fun v6 h8 => ?_)
    refine z_bz_eq (pc := 18) (tgt := 36) dX11_bridge_18 (by decide) (fun h9 => ?_) (fun h9 => ?_)
    · refine z_aload_n (pc := 21) 0 dX11_bridge_21 rfl rfl ?_
      refine z_guard (fun g10 => ?_)
      refine z_getIp (pc := 22) [1] dX11_bridge_22 g10 (by decide) fr_RX11_259_p1 ?_
      refine z_bipush (pc := 25) (v := (100 : Int32)) dX11_bridge_25 (by decide) ?_
      refine z_iload_n (pc := 27) 3 dX11_bridge_27 rfl rfl ?_
      refine z_isub (pc := 28) dX11_bridge_28 ?_
      refine z_imul (pc := 29) dX11_bridge_29 ?_
      refine z_bipush (pc := 30) (v := (100 : Int32)) dX11_bridge_30 (by decide) ?_
      refine z_idiv (pc := 32) dX11_bridge_32 (by decide) ?_
      refine z_goto (pc := 33) (tgt := 38) dX11_bridge_33 (by decide) ?_
      exact z_rI dX11_bridge_38 rfl ⟨by decide, by decide⟩
    · refine z_bipush (pc := 36) (v := (-2 : Int32)) dX11_bridge_36 (by decide) ?_
      exact z_rI dX11_bridge_38 rfl ⟨by decide, by decide⟩
def f11_sheetAt (σ : am_S) (x1 : Int32) : Option (Option Nat) := if x1 < 0 then (some none) else (if (4 : Int32) ≤ x1 then (some none) else (if am_in x1 4 = true then ((fQ σ 26 x1.toNatClampNeg).elim (some none) (fun a4 => some (some a4))) else none))
theorem c11_sheetAt {l : Launch} {E : am_E} {σ : am_S} {x1 : Int32} {v : Option Nat} (hf : f11_sheetAt σ x1 = some v) : Ctr l E msC YX11_sheetAt (0) 0 0 [.ref 8, .int x1] σ (some (va_rf v)) σ := by
  refine ctr_of (G := fun u r s => r = some (va_rf u) ∧ s = σ) (by decide +kernel) (Nat.le_of_ble_eq_true rfl) hf ⟨rfl, rfl⟩ (fun d hd => ?_)
  refine z_eqlv (lv' := [(0, .ref 8), (1, .int x1)]) rfl ?_
  unfold f11_sheetAt
  refine z_iload_n (pc := 0) 1 dX11_sheetAt_0 rfl rfl ?_
  refine z_if_lt (pc := 1) (tgt := 18) dX11_sheetAt_1 (by decide) (fun h1 => ?_) (fun h1 => ?_)
  · refine z_null (pc := 18) dX11_sheetAt_18 ?_
    exact z_rRN dX11_sheetAt_19 rfl ⟨by decide, by decide⟩
  · refine z_iload_n (pc := 4) 1 dX11_sheetAt_4 rfl rfl ?_
    refine z_iconst (pc := 5) (v := (4 : Int32)) dX11_sheetAt_5 (by decide) ?_
    refine z_ic_ge (pc := 6) (tgt := 18) dX11_sheetAt_6 (by decide) (fun h2 => ?_) (fun h2 => ?_)
    · refine z_null (pc := 18) dX11_sheetAt_18 ?_
      exact z_rRN dX11_sheetAt_19 rfl ⟨by decide, by decide⟩
    · refine z_aload_n (pc := 9) 0 dX11_sheetAt_9 rfl rfl ?_
      refine z_getQ (pc := 10) (b := 26) dX11_sheetAt_10 kC8 fr_RX11_48_11 (by decide) rfl ?_
      refine z_iload_n (pc := 13) 1 dX11_sheetAt_13 rfl rfl ?_
      refine z_qald (pc := 14) dX11_sheetAt_14 ⟨by decide, by decide⟩ (am_ar.s kC26) (fun h3 => ?_)
      refine z_elim (fun e5 => ?_) (fun a4 e5 => ?_)
      · refine z_goto (pc := 15) (tgt := 19) dX11_sheetAt_15 (by decide) ?_
        exact z_rRN dX11_sheetAt_19 rfl ⟨by decide, by decide⟩
      · refine z_goto (pc := 15) (tgt := 19) dX11_sheetAt_15 (by decide) ?_
        exact z_rR dX11_sheetAt_19 rfl ⟨by decide, by decide⟩
def f11_cell (σ : am_S) (x1 : Int32) (x2 : Int32) (x3 : Int32) : Option (Int32 × am_S) := (f11_sheetAt σ x1).bind fun v1 => (v1.elim (some ((-2 : Int32), σ)) (fun a4 => if [8].contains (am_ci σ a4) = true then ((f8_isMissing σ a4).bind fun v7 => (if v7 = true then (some ((-11 : Int32), σ)) else ((f8_put σ a4 x2 x3).bind fun (v11, s12) => (if v11 = true then (some ((1 : Int32), s12)) else (some ((-12 : Int32), s12)))))) else none))
theorem c11_cell {l : Launch} {E : am_E} {σ : am_S} {x1 : Int32} {x2 : Int32} {x3 : Int32} {v : Int32} {σ1 : am_S} (hf : f11_cell σ x1 x2 x3 = some (v, σ1)) : Ctr l E msC YX11_cell (2) 0 0 [.ref 8, .int x1, .int x2, .int x3] σ (some (.int v)) σ1 := by
  refine ctr_of (G := fun u r s => r = some (.int u.1) ∧ s = u.2) (by decide +kernel) (Nat.le_of_ble_eq_true rfl) hf ⟨rfl, rfl⟩ (fun d hd => ?_)
  refine z_eqlv (lv' := [(0, .ref 8), (1, .int x1), (2, .int x2), (3, .int x3)]) rfl ?_
  unfold f11_cell
  refine z_aload_n (pc := 0) 0 dX11_cell_0 rfl rfl ?_
  refine z_iload_n (pc := 1) 1 dX11_cell_1 rfl rfl ?_
  refine z_callR (pc := 2) [.ref 8, .int x1] [] rfl (lk_V (Yc := YX11_sheetAt) (n := 1) dX11_cell_2 rfl rfl (am_ob.s kC8) rfl rfl np_X11_sheetAt mh_RX11 (by decide) ml_RX11_204 im_X11_sheetAt se_RX11_X11_sheetAt_X11_sheetAt in_RX11 cd_X11_sheetAt) (Nat.le_trans (by decide) hd) ⟨by decide, by decide⟩ (Nat.le_of_ble_eq_true rfl) (am_kp.rf _) (fun v1 h3 => c11_sheetAt h3) (fun v1 h3 => ?_)
  refine z_elim (fun e5 => ?_) (fun a4 e5 => ?_)
  · refine z_astoreN (pc := 5) (lv' := [(4, .null), (0, .ref 8), (1, .int x1), (2, .int x2), (3, .int x3)]) dX11_cell_5 (by decide) rfl ?_
    refine z_aloadN (pc := 7) 0 dX11_cell_7 rfl ?_
    refine z_ifnonnullN (pc := 9) dX11_cell_9 ?_
    refine z_bipush (pc := 12) (v := (-2 : Int32)) dX11_cell_12 (by decide) ?_
    exact z_rIs dX11_cell_14 rfl ⟨by decide, by decide⟩
  · refine z_astore (pc := 5) (lv' := [(4, .ref a4), (0, .ref 8), (1, .int x1), (2, .int x2), (3, .int x3)]) dX11_cell_5 (by decide) rfl ?_
    refine z_aload (pc := 7) 0 dX11_cell_7 rfl ?_
    refine z_ifnonnull (pc := 9) (tgt := 15) dX11_cell_9 (by decide) ?_
    refine z_aload (pc := 15) 0 dX11_cell_15 rfl ?_
    refine z_guard (fun g6 => ?_)
    refine z_callB (pc := 17) [.ref a4] [] rfl (lk_V (Yc := YX8_isMissing) (n := 0) dX11_cell_17 rfl rfl (am_ob.d (am_c1 g6) (by decide)) rfl rfl np_X8_isMissing mh_RX8 (by decide) ml_RX11_208 im_X8_isMissing se_RX8_X8_isMissing_X8_isMissing in_RX8 cd_X8_isMissing) (Nat.le_trans (by decide) hd) ⟨by decide, by decide⟩ (Nat.le_of_ble_eq_true rfl) (am_kp.rf _) (fun v7 h9 => c8_isMissing h9) (fun v7 h9 => ?_)
    refine z_bz_eq (pc := 20) (tgt := 26) dX11_cell_20 (by decide) (fun h10 => ?_) (fun h10 => ?_)
    · refine z_bipush (pc := 23) (v := (-11 : Int32)) dX11_cell_23 (by decide) ?_
      exact z_rIs dX11_cell_25 rfl ⟨by decide, by decide⟩
    · refine z_aload (pc := 26) 0 dX11_cell_26 rfl ?_
      refine z_iload_n (pc := 28) 3 dX11_cell_28 rfl rfl ?_
      refine z_iload_n (pc := 29) 4 dX11_cell_29 rfl rfl ?_
      refine z_callBs (pc := 30) [.ref a4, .int x2, .int x3] [] rfl (lk_V (Yc := YX8_put) (n := 2) dX11_cell_30 rfl rfl (am_ob.d (am_c1 g6) (by decide)) rfl rfl np_X8_put mh_RX8 (by decide) ml_RX11_344 im_X8_put se_RX8_X8_put_X8_put in_RX8 cd_X8_put) (Nat.le_trans (by decide) hd) ⟨by decide, by decide⟩ (Nat.le_of_ble_eq_true rfl) (am_kp.rf _) (fun v11 s12 h13 => c8_put h13) (fun v11 s12 h13 => ?_)
      refine z_bz_eq (pc := 33) (tgt := 40) dX11_cell_33 (by decide) (fun h14 => ?_) (fun h14 => ?_)
      · refine z_iconst (pc := 36) (v := (1 : Int32)) dX11_cell_36 (by decide) ?_
        refine z_goto (pc := 37) (tgt := 42) dX11_cell_37 (by decide) ?_
        exact z_rIs dX11_cell_42 rfl ⟨by decide, by decide⟩
      · refine z_bipush (pc := 40) (v := (-12 : Int32)) dX11_cell_40 (by decide) ?_
        exact z_rIs dX11_cell_42 rfl ⟨by decide, by decide⟩
def f11_copy (σ : am_S) (x1 : Int32) (x2 : Int32) (x3 : Int32) (x4 : Int32) (x5 : Int32) : Option (Int32 × am_S) := (f11_sheetAt σ x1).bind fun v1 => (v1.elim ((f11_sheetAt σ x3).bind fun v6 => (v6.elim (some ((-2 : Int32), σ)) (fun a9 => some ((-2 : Int32), σ)))) (fun a4 => (f11_sheetAt σ x3).bind fun v11 => (v11.elim (some ((-2 : Int32), σ)) (fun a14 => if [8].contains (am_ci σ a4) = true then ((f8_isMissing σ a4).bind fun v17 => (if v17 = true then (some ((-11 : Int32), σ)) else (if [8].contains (am_ci σ a14) = true then ((f8_isMissing σ a14).bind fun v22 => (if v22 = true then (some ((-11 : Int32), σ)) else (if fF σ a4 0 = fF σ a14 0 then ((f8_holds σ a4 x2 x5).bind fun v27 => (if v27 = true then ((f8_holds σ a14 x4 x5).bind fun v31 => (if v31 = true then ((am_rq σ a4 2).elim none (fun b36 => (am_rq σ a14 2).elim none (fun b38 => if 0 < (am_an σ b36 0) then (if 0 < (am_an σ b38 0) then (if am_cp x2 x4 x5 (am_an σ b36 0) (am_an σ b38 0) = true then (some (x5, sK σ b38 (va_cpy (fF σ b36) (fF σ b38) x2.toNatClampNeg x4.toNatClampNeg x5.toNatClampNeg))) else none) else none) else none))) else (some ((-12 : Int32), σ)))) else (some ((-12 : Int32), σ)))) else (some ((-13 : Int32), σ))))) else none))) else none))))
theorem c11_copy {l : Launch} {E : am_E} {σ : am_S} {x1 : Int32} {x2 : Int32} {x3 : Int32} {x4 : Int32} {x5 : Int32} {v : Int32} {σ1 : am_S} (hf : f11_copy σ x1 x2 x3 x4 x5 = some (v, σ1)) : Ctr l E msC YX11_copy (1) 0 0 [.ref 8, .int x1, .int x2, .int x3, .int x4, .int x5] σ (some (.int v)) σ1 := by
  refine ctr_of (G := fun u r s => r = some (.int u.1) ∧ s = u.2) (by decide +kernel) (Nat.le_of_ble_eq_true rfl) hf ⟨rfl, rfl⟩ (fun d hd => ?_)
  refine z_eqlv (lv' := [(0, .ref 8), (1, .int x1), (2, .int x2), (3, .int x3), (4, .int x4), (5, .int x5)]) rfl ?_
  unfold f11_copy
  refine z_aload_n (pc := 0) 0 dX11_copy_0 rfl rfl ?_
  refine z_iload_n (pc := 1) 1 dX11_copy_1 rfl rfl ?_
  refine z_callR (pc := 2) [.ref 8, .int x1] [] rfl (lk_V (Yc := YX11_sheetAt) (n := 1) dX11_copy_2 rfl rfl (am_ob.s kC8) rfl rfl np_X11_sheetAt mh_RX11 (by decide) ml_RX11_204 im_X11_sheetAt se_RX11_X11_sheetAt_X11_sheetAt in_RX11 cd_X11_sheetAt) (Nat.le_trans (by decide) hd) ⟨by decide, by decide⟩ (Nat.le_of_ble_eq_true rfl) (am_kp.rf _) (fun v1 h3 => c11_sheetAt h3) (fun v1 h3 => ?_)
  refine z_elim (fun e5 => ?_) (fun a4 e5 => ?_)
  · refine z_astoreN (pc := 5) (lv' := [(6, .null), (0, .ref 8), (1, .int x1), (2, .int x2), (3, .int x3), (4, .int x4), (5, .int x5)]) dX11_copy_5 (by decide) rfl ?_
    refine z_aload_n (pc := 7) 1 dX11_copy_7 rfl rfl ?_
    refine z_iload_n (pc := 8) 4 dX11_copy_8 rfl rfl ?_
    refine z_callR (pc := 9) [.ref 8, .int x3] [] rfl (lk_V (Yc := YX11_sheetAt) (n := 1) dX11_copy_9 rfl rfl (am_ob.s kC8) rfl rfl np_X11_sheetAt mh_RX11 (by decide) ml_RX11_204 im_X11_sheetAt se_RX11_X11_sheetAt_X11_sheetAt in_RX11 cd_X11_sheetAt) (Nat.le_trans (by decide) hd) ⟨by decide, by decide⟩ (Nat.le_of_ble_eq_true rfl) (am_kp.rf _) (fun v6 h8 => c11_sheetAt h8) (fun v6 h8 => ?_)
    refine z_elim (fun e10 => ?_) (fun a9 e10 => ?_)
    · refine z_astoreN (pc := 12) (lv' := [(7, .null), (6, .null), (0, .ref 8), (1, .int x1), (2, .int x2), (3, .int x3), (4, .int x4), (5, .int x5)]) dX11_copy_12 (by decide) rfl ?_
      refine z_aloadN (pc := 14) 1 dX11_copy_14 rfl ?_
      refine z_ifnullN (pc := 16) (tgt := 24) dX11_copy_16 (by decide) ?_
      refine z_bipush (pc := 24) (v := (-2 : Int32)) dX11_copy_24 (by decide) ?_
      exact z_rIs dX11_copy_26 rfl ⟨by decide, by decide⟩
    · refine z_astore (pc := 12) (lv' := [(7, .ref a9), (6, .null), (0, .ref 8), (1, .int x1), (2, .int x2), (3, .int x3), (4, .int x4), (5, .int x5)]) dX11_copy_12 (by decide) rfl ?_
      refine z_aloadN (pc := 14) 1 dX11_copy_14 rfl ?_
      refine z_ifnullN (pc := 16) (tgt := 24) dX11_copy_16 (by decide) ?_
      refine z_bipush (pc := 24) (v := (-2 : Int32)) dX11_copy_24 (by decide) ?_
      exact z_rIs dX11_copy_26 rfl ⟨by decide, by decide⟩
  · refine z_astore (pc := 5) (lv' := [(6, .ref a4), (0, .ref 8), (1, .int x1), (2, .int x2), (3, .int x3), (4, .int x4), (5, .int x5)]) dX11_copy_5 (by decide) rfl ?_
    refine z_aload_n (pc := 7) 1 dX11_copy_7 rfl rfl ?_
    refine z_iload_n (pc := 8) 4 dX11_copy_8 rfl rfl ?_
    refine z_callR (pc := 9) [.ref 8, .int x3] [] rfl (lk_V (Yc := YX11_sheetAt) (n := 1) dX11_copy_9 rfl rfl (am_ob.s kC8) rfl rfl np_X11_sheetAt mh_RX11 (by decide) ml_RX11_204 im_X11_sheetAt se_RX11_X11_sheetAt_X11_sheetAt in_RX11 cd_X11_sheetAt) (Nat.le_trans (by decide) hd) ⟨by decide, by decide⟩ (Nat.le_of_ble_eq_true rfl) (am_kp.rf _) (fun v11 h13 => c11_sheetAt h13) (fun v11 h13 => ?_)
    refine z_elim (fun e15 => ?_) (fun a14 e15 => ?_)
    · refine z_astoreN (pc := 12) (lv' := [(7, .null), (6, .ref a4), (0, .ref 8), (1, .int x1), (2, .int x2), (3, .int x3), (4, .int x4), (5, .int x5)]) dX11_copy_12 (by decide) rfl ?_
      refine z_aload (pc := 14) 1 dX11_copy_14 rfl ?_
      refine z_ifnull (pc := 16) dX11_copy_16 ?_
      refine z_aloadN (pc := 19) 0 dX11_copy_19 rfl ?_
      refine z_ifnonnullN (pc := 21) dX11_copy_21 ?_
      refine z_bipush (pc := 24) (v := (-2 : Int32)) dX11_copy_24 (by decide) ?_
      exact z_rIs dX11_copy_26 rfl ⟨by decide, by decide⟩
    · refine z_astore (pc := 12) (lv' := [(7, .ref a14), (6, .ref a4), (0, .ref 8), (1, .int x1), (2, .int x2), (3, .int x3), (4, .int x4), (5, .int x5)]) dX11_copy_12 (by decide) rfl ?_
      refine z_aload (pc := 14) 1 dX11_copy_14 rfl ?_
      refine z_ifnull (pc := 16) dX11_copy_16 ?_
      refine z_aload (pc := 19) 0 dX11_copy_19 rfl ?_
      refine z_ifnonnull (pc := 21) (tgt := 27) dX11_copy_21 (by decide) ?_
      refine z_aload (pc := 27) 1 dX11_copy_27 rfl ?_
      refine z_guard (fun g16 => ?_)
      refine z_callB (pc := 29) [.ref a4] [] rfl (lk_V (Yc := YX8_isMissing) (n := 0) dX11_copy_29 rfl rfl (am_ob.d (am_c1 g16) (by decide)) rfl rfl np_X8_isMissing mh_RX8 (by decide) ml_RX11_208 im_X8_isMissing se_RX8_X8_isMissing_X8_isMissing in_RX8 cd_X8_isMissing) (Nat.le_trans (by decide) hd) ⟨by decide, by decide⟩ (Nat.le_of_ble_eq_true rfl) (am_kp.rf _) (fun v17 h19 => c8_isMissing h19) (fun v17 h19 => ?_)
      refine z_bz_ne (pc := 32) (tgt := 43) dX11_copy_32 (by decide) (fun h20 => ?_) (fun h20 => ?_)
      · refine z_bipush (pc := 43) (v := (-11 : Int32)) dX11_copy_43 (by decide) ?_
        exact z_rIs dX11_copy_45 rfl ⟨by decide, by decide⟩
      · refine z_aload (pc := 35) 0 dX11_copy_35 rfl ?_
        refine z_guard (fun g21 => ?_)
        refine z_callB (pc := 37) [.ref a14] [] rfl (lk_V (Yc := YX8_isMissing) (n := 0) dX11_copy_37 rfl rfl (am_ob.d (am_c1 g21) (by decide)) rfl rfl np_X8_isMissing mh_RX8 (by decide) ml_RX11_208 im_X8_isMissing se_RX8_X8_isMissing_X8_isMissing in_RX8 cd_X8_isMissing) (Nat.le_trans (by decide) hd) ⟨by decide, by decide⟩ (Nat.le_of_ble_eq_true rfl) (am_kp.rf _) (fun v22 h24 => c8_isMissing h24) (fun v22 h24 => ?_)
        refine z_bz_eq (pc := 40) (tgt := 46) dX11_copy_40 (by decide) (fun h25 => ?_) (fun h25 => ?_)
        · refine z_bipush (pc := 43) (v := (-11 : Int32)) dX11_copy_43 (by decide) ?_
          exact z_rIs dX11_copy_45 rfl ⟨by decide, by decide⟩
        · refine z_aload (pc := 46) 1 dX11_copy_46 rfl ?_
          refine z_getIp (pc := 48) [8] dX11_copy_48 g16 (by decide) fr_RX11_348_p8 ?_
          refine z_aload (pc := 51) 0 dX11_copy_51 rfl ?_
          refine z_getIp (pc := 53) [8] dX11_copy_53 g21 (by decide) fr_RX11_348_p8 ?_
          refine z_ic_eq (pc := 56) (tgt := 62) dX11_copy_56 (by decide) (fun h26 => ?_) (fun h26 => ?_)
          · refine z_aload (pc := 62) 1 dX11_copy_62 rfl ?_
            refine z_iload_n (pc := 64) 4 dX11_copy_64 rfl rfl ?_
            refine z_iload (pc := 65) 7 dX11_copy_65 rfl ?_
            refine z_callB (pc := 67) [.ref a4, .int x2, .int x5] [] rfl (lk_V (Yc := YX8_holds) (n := 2) dX11_copy_67 rfl rfl (am_ob.d (am_c1 g16) (by decide)) rfl rfl np_X8_holds mh_RX8 (by decide) ml_RX11_351 im_X8_holds se_RX8_X8_holds_X8_holds in_RX8 cd_X8_holds) (Nat.le_trans (by decide) hd) ⟨by decide, by decide⟩ (Nat.le_of_ble_eq_true rfl) (am_kp.rf _) (fun v27 h29 => c8_holds h29) (fun v27 h29 => ?_)
            refine z_bz_eq (pc := 70) (tgt := 85) dX11_copy_70 (by decide) (fun h30 => ?_) (fun h30 => ?_)
            · refine z_aload (pc := 73) 0 dX11_copy_73 rfl ?_
              refine z_iload (pc := 75) 6 dX11_copy_75 rfl ?_
              refine z_iload (pc := 77) 7 dX11_copy_77 rfl ?_
              refine z_callB (pc := 79) [.ref a14, .int x4, .int x5] [] rfl (lk_V (Yc := YX8_holds) (n := 2) dX11_copy_79 rfl rfl (am_ob.d (am_c1 g21) (by decide)) rfl rfl np_X8_holds mh_RX8 (by decide) ml_RX11_351 im_X8_holds se_RX8_X8_holds_X8_holds in_RX8 cd_X8_holds) (Nat.le_trans (by decide) hd) ⟨by decide, by decide⟩ (Nat.le_of_ble_eq_true rfl) (am_kp.rf _) (fun v31 h33 => c8_holds h33) (fun v31 h33 => ?_)
              refine z_bz_ne (pc := 82) (tgt := 88) dX11_copy_82 (by decide) (fun h34 => ?_) (fun h34 => ?_)
              · refine z_aload (pc := 88) 1 dX11_copy_88 rfl ?_
                refine z_getR (pc := 90) dX11_copy_90 (am_cis_ob g16 (by decide)) (fr_RX11_354_p8 _ (am_memOf g16)).1 (fr_RX11_354_p8 _ (am_memOf g16)).2 ?_
                refine z_elim (fun e35 => z_none) (fun b36 e35 => ?_)
                refine z_iload_n (pc := 93) 4 dX11_copy_93 rfl rfl ?_
                refine z_aload (pc := 94) 0 dX11_copy_94 rfl ?_
                refine z_getR (pc := 96) dX11_copy_96 (am_cis_ob g21 (by decide)) (fr_RX11_354_p8 _ (am_memOf g21)).1 (fr_RX11_354_p8 _ (am_memOf g21)).2 ?_
                refine z_elim (fun e37 => z_none) (fun b38 e37 => ?_)
                refine z_iload (pc := 99) 6 dX11_copy_99 rfl ?_
                refine z_iload (pc := 101) 7 dX11_copy_101 rfl ?_
                refine z_guard (fun g39 => ?_)
                refine z_guard (fun g40 => ?_)
                refine z_copy (pc := 103) dX11_copy_103 ml_RX11_357 nat_copy st_copy in_sys (am_ar.d (Nat.ne_of_gt g39)) (am_ar.d (Nat.ne_of_gt g40)) (Nat.le_trans (by decide) hd) (Nat.le_of_ble_eq_true rfl) (fun h41 => ?_)
                refine z_iload (pc := 106) 7 dX11_copy_106 rfl ?_
                exact z_rIs dX11_copy_108 rfl ⟨by decide, by decide⟩
              · refine z_bipush (pc := 85) (v := (-12 : Int32)) dX11_copy_85 (by decide) ?_
                exact z_rIs dX11_copy_87 rfl ⟨by decide, by decide⟩
            · refine z_bipush (pc := 85) (v := (-12 : Int32)) dX11_copy_85 (by decide) ?_
              exact z_rIs dX11_copy_87 rfl ⟨by decide, by decide⟩
          · refine z_bipush (pc := 59) (v := (-13 : Int32)) dX11_copy_59 (by decide) ?_
            exact z_rIs dX11_copy_61 rfl ⟨by decide, by decide⟩
def f11_openOnes_L4 (σ : am_S) (N : Nat) : Nat → Int32 → Int32 → Option Int32
  | 0, _, _ => none
  | n + 1, x1, x2 => if fF σ 8 3 ≤ x2 then (some (x1)) else (if am_in x2 7 = true then ((fQ σ 9 x2.toNatClampNeg).elim (none) (fun a3 => if [1].contains (am_ci σ a3) = true then (f11_openOnes_L4 σ N n (x1 + (fF σ a3 2)) (x2 + (1 : Int32))) else none)) else none)
theorem z11_openOnes_L4 {l : Launch} {E : am_E} {d : Nat} {N : Nat} {σ : am_S} (hd : 0 ≤ d) : ∀ (n : Nat) (x1 : Int32) (x2 : Int32), Z l E msC σ YX11_openOnes d 0 0 4 [(0, .ref 8), (1, .int x1), (2, .int x2)] [] 0 0 σ (f11_openOnes_L4 σ N n x1 x2) (fun u r s => r = some (.int u) ∧ s = σ) := by
  intro n
  induction n with
  | zero => intros; exact z_none
  | succ n ih =>
    intro x1 x2
    unfold f11_openOnes_L4
    refine z_iload_n (pc := 4) 2 dX11_openOnes_4 rfl rfl ?_
    refine z_aload_n (pc := 5) 0 dX11_openOnes_5 rfl rfl ?_
    refine z_getI (pc := 6) dX11_openOnes_6 (am_ob.s kC8) fr_RX11_74_11 (by decide) ?_
    refine z_ic_ge (pc := 9) (tgt := 30) dX11_openOnes_9 (by decide) (fun h1 => ?_) (fun h1 => ?_)
    · refine z_iload_n (pc := 30) 1 dX11_openOnes_30 rfl rfl ?_
      exact z_rI dX11_openOnes_31 rfl ⟨by decide, by decide⟩
    · refine z_iload_n (pc := 12) 1 dX11_openOnes_12 rfl rfl ?_
      refine z_aload_n (pc := 13) 0 dX11_openOnes_13 rfl rfl ?_
      refine z_getQ (pc := 14) (b := 9) dX11_openOnes_14 kC8 fr_RX11_11_11 (by decide) rfl ?_
      refine z_iload_n (pc := 17) 2 dX11_openOnes_17 rfl rfl ?_
      refine z_qald (pc := 18) dX11_openOnes_18 ⟨by decide, by decide⟩ (am_ar.s kC9) (fun h2 => ?_)
      refine z_elim (fun e4 => ?_) (fun a3 e4 => ?_)
      · exact z_none
      · refine z_guard (fun g5 => ?_)
        refine z_getIp (pc := 19) [1] dX11_openOnes_19 g5 (by decide) fr_RX11_339_p1 ?_
        refine z_iadd (pc := 22) dX11_openOnes_22 ?_
        refine z_istore_n (pc := 23) (lv' := [(1, .int (x1 + (fF σ a3 2))), (0, .ref 8), (2, .int x2)]) dX11_openOnes_23 rfl (by decide) rfl ?_
        refine z_iinc (pc := 24) (v := x2 + (1 : Int32)) (lv' := [(2, .int (x2 + (1 : Int32))), (1, .int (x1 + (fF σ a3 2))), (0, .ref 8)]) 2 dX11_openOnes_24 rfl rfl (by decide) rfl ?_
        refine z_goto (pc := 27) (tgt := 4) dX11_openOnes_27 (by decide) ?_
        refine z_lv (lv' := [(0, .ref 8), (1, .int (x1 + (fF σ a3 2))), (2, .int (x2 + (1 : Int32)))]) [2, 1, 0] rfl ?_
        exact ih (x1 + (fF σ a3 2)) (x2 + (1 : Int32))
def f11_openOnes (N : Nat) (σ : am_S) : Option Int32 := f11_openOnes_L4 σ N N (0 : Int32) (0 : Int32)
theorem c11_openOnes {l : Launch} {E : am_E} {N : Nat} {σ : am_S} {v : Int32} (hf : f11_openOnes N σ = some v) : Ctr l E msC YX11_openOnes (0) 0 0 [.ref 8] σ (some (.int v)) σ := by
  refine ctr_of (G := fun u r s => r = some (.int u) ∧ s = σ) (by decide +kernel) (Nat.le_of_ble_eq_true rfl) hf ⟨rfl, rfl⟩ (fun d hd => ?_)
  refine z_eqlv (lv' := [(0, .ref 8)]) rfl ?_
  unfold f11_openOnes
  refine z_iconst (pc := 0) (v := (0 : Int32)) dX11_openOnes_0 (by decide) ?_
  refine z_istore_n (pc := 1) (lv' := [(1, .int (0 : Int32)), (0, .ref 8)]) dX11_openOnes_1 rfl (by decide) rfl ?_
  refine z_iconst (pc := 2) (v := (0 : Int32)) dX11_openOnes_2 (by decide) ?_
  refine z_istore_n (pc := 3) (lv' := [(2, .int (0 : Int32)), (1, .int (0 : Int32)), (0, .ref 8)]) dX11_openOnes_3 rfl (by decide) rfl ?_
  refine z_lv (lv' := [(0, .ref 8), (1, .int (0 : Int32)), (2, .int (0 : Int32))]) [2, 1, 0] rfl ?_
  exact z11_openOnes_L4 hd N (0 : Int32) (0 : Int32)
def f11_illOnes_L4 (σ : am_S) (N : Nat) : Nat → Int32 → Int32 → Option Int32
  | 0, _, _ => none
  | n + 1, x1, x2 => if fF σ 8 5 ≤ x2 then (some (x1)) else (if am_in x2 14 = true then ((fQ σ 10 x2.toNatClampNeg).elim (none) (fun a3 => if [2, 3, 5, 6, 7, 9].contains (am_ci σ a3) = true then (f11_illOnes_L4 σ N n (x1 + (fF σ a3 5)) (x2 + (1 : Int32))) else none)) else none)
theorem z11_illOnes_L4 {l : Launch} {E : am_E} {d : Nat} {N : Nat} {σ : am_S} (hd : 0 ≤ d) : ∀ (n : Nat) (x1 : Int32) (x2 : Int32), Z l E msC σ YX11_illOnes d 0 0 4 [(0, .ref 8), (1, .int x1), (2, .int x2)] [] 0 0 σ (f11_illOnes_L4 σ N n x1 x2) (fun u r s => r = some (.int u) ∧ s = σ) := by
  intro n
  induction n with
  | zero => intros; exact z_none
  | succ n ih =>
    intro x1 x2
    unfold f11_illOnes_L4
    refine z_iload_n (pc := 4) 2 dX11_illOnes_4 rfl rfl ?_
    refine z_aload_n (pc := 5) 0 dX11_illOnes_5 rfl rfl ?_
    refine z_getI (pc := 6) dX11_illOnes_6 (am_ob.s kC8) fr_RX11_110_11 (by decide) ?_
    refine z_ic_ge (pc := 9) (tgt := 30) dX11_illOnes_9 (by decide) (fun h1 => ?_) (fun h1 => ?_)
    · refine z_iload_n (pc := 30) 1 dX11_illOnes_30 rfl rfl ?_
      exact z_rI dX11_illOnes_31 rfl ⟨by decide, by decide⟩
    · refine z_iload_n (pc := 12) 1 dX11_illOnes_12 rfl rfl ?_
      refine z_aload_n (pc := 13) 0 dX11_illOnes_13 rfl rfl ?_
      refine z_getQ (pc := 14) (b := 10) dX11_illOnes_14 kC8 fr_RX11_17_11 (by decide) rfl ?_
      refine z_iload_n (pc := 17) 2 dX11_illOnes_17 rfl rfl ?_
      refine z_qald (pc := 18) dX11_illOnes_18 ⟨by decide, by decide⟩ (am_ar.s kC10) (fun h2 => ?_)
      refine z_elim (fun e4 => ?_) (fun a3 e4 => ?_)
      · exact z_none
      · refine z_guard (fun g5 => ?_)
        refine z_getIp (pc := 19) [2, 3, 5, 6, 7, 9] dX11_illOnes_19 g5 (by decide) fr_RX11_135_p235679 ?_
        refine z_iadd (pc := 22) dX11_illOnes_22 ?_
        refine z_istore_n (pc := 23) (lv' := [(1, .int (x1 + (fF σ a3 5))), (0, .ref 8), (2, .int x2)]) dX11_illOnes_23 rfl (by decide) rfl ?_
        refine z_iinc (pc := 24) (v := x2 + (1 : Int32)) (lv' := [(2, .int (x2 + (1 : Int32))), (1, .int (x1 + (fF σ a3 5))), (0, .ref 8)]) 2 dX11_illOnes_24 rfl rfl (by decide) rfl ?_
        refine z_goto (pc := 27) (tgt := 4) dX11_illOnes_27 (by decide) ?_
        refine z_lv (lv' := [(0, .ref 8), (1, .int (x1 + (fF σ a3 5))), (2, .int (x2 + (1 : Int32)))]) [2, 1, 0] rfl ?_
        exact ih (x1 + (fF σ a3 5)) (x2 + (1 : Int32))
def f11_illOnes (N : Nat) (σ : am_S) : Option Int32 := f11_illOnes_L4 σ N N (0 : Int32) (0 : Int32)
theorem c11_illOnes {l : Launch} {E : am_E} {N : Nat} {σ : am_S} {v : Int32} (hf : f11_illOnes N σ = some v) : Ctr l E msC YX11_illOnes (0) 0 0 [.ref 8] σ (some (.int v)) σ := by
  refine ctr_of (G := fun u r s => r = some (.int u) ∧ s = σ) (by decide +kernel) (Nat.le_of_ble_eq_true rfl) hf ⟨rfl, rfl⟩ (fun d hd => ?_)
  refine z_eqlv (lv' := [(0, .ref 8)]) rfl ?_
  unfold f11_illOnes
  refine z_iconst (pc := 0) (v := (0 : Int32)) dX11_illOnes_0 (by decide) ?_
  refine z_istore_n (pc := 1) (lv' := [(1, .int (0 : Int32)), (0, .ref 8)]) dX11_illOnes_1 rfl (by decide) rfl ?_
  refine z_iconst (pc := 2) (v := (0 : Int32)) dX11_illOnes_2 (by decide) ?_
  refine z_istore_n (pc := 3) (lv' := [(2, .int (0 : Int32)), (1, .int (0 : Int32)), (0, .ref 8)]) dX11_illOnes_3 rfl (by decide) rfl ?_
  refine z_lv (lv' := [(0, .ref 8), (1, .int (0 : Int32)), (2, .int (0 : Int32))]) [2, 1, 0] rfl ?_
  exact z11_illOnes_L4 hd N (0 : Int32) (0 : Int32)
def f11_turnsInAll_L4 (σ : am_S) (N : Nat) : Nat → Int32 → Int32 → Option Int32
  | 0, _, _ => none
  | n + 1, x1, x2 => if fF σ 8 5 ≤ x2 then (some (x1)) else (if am_in x2 14 = true then ((fQ σ 10 x2.toNatClampNeg).elim (none) (fun a3 => if [2, 3, 5, 6, 7, 9].contains (am_ci σ a3) = true then (f11_turnsInAll_L4 σ N n (x1 + (fF σ a3 6)) (x2 + (1 : Int32))) else none)) else none)
theorem z11_turnsInAll_L4 {l : Launch} {E : am_E} {d : Nat} {N : Nat} {σ : am_S} (hd : 0 ≤ d) : ∀ (n : Nat) (x1 : Int32) (x2 : Int32), Z l E msC σ YX11_turnsInAll d 0 0 4 [(0, .ref 8), (1, .int x1), (2, .int x2)] [] 0 0 σ (f11_turnsInAll_L4 σ N n x1 x2) (fun u r s => r = some (.int u) ∧ s = σ) := by
  intro n
  induction n with
  | zero => intros; exact z_none
  | succ n ih =>
    intro x1 x2
    unfold f11_turnsInAll_L4
    refine z_iload_n (pc := 4) 2 dX11_turnsInAll_4 rfl rfl ?_
    refine z_aload_n (pc := 5) 0 dX11_turnsInAll_5 rfl rfl ?_
    refine z_getI (pc := 6) dX11_turnsInAll_6 (am_ob.s kC8) fr_RX11_110_11 (by decide) ?_
    refine z_ic_ge (pc := 9) (tgt := 30) dX11_turnsInAll_9 (by decide) (fun h1 => ?_) (fun h1 => ?_)
    · refine z_iload_n (pc := 30) 1 dX11_turnsInAll_30 rfl rfl ?_
      exact z_rI dX11_turnsInAll_31 rfl ⟨by decide, by decide⟩
    · refine z_iload_n (pc := 12) 1 dX11_turnsInAll_12 rfl rfl ?_
      refine z_aload_n (pc := 13) 0 dX11_turnsInAll_13 rfl rfl ?_
      refine z_getQ (pc := 14) (b := 10) dX11_turnsInAll_14 kC8 fr_RX11_17_11 (by decide) rfl ?_
      refine z_iload_n (pc := 17) 2 dX11_turnsInAll_17 rfl rfl ?_
      refine z_qald (pc := 18) dX11_turnsInAll_18 ⟨by decide, by decide⟩ (am_ar.s kC10) (fun h2 => ?_)
      refine z_elim (fun e4 => ?_) (fun a3 e4 => ?_)
      · exact z_none
      · refine z_guard (fun g5 => ?_)
        refine z_getIp (pc := 19) [2, 3, 5, 6, 7, 9] dX11_turnsInAll_19 g5 (by decide) fr_RX11_157_p235679 ?_
        refine z_iadd (pc := 22) dX11_turnsInAll_22 ?_
        refine z_istore_n (pc := 23) (lv' := [(1, .int (x1 + (fF σ a3 6))), (0, .ref 8), (2, .int x2)]) dX11_turnsInAll_23 rfl (by decide) rfl ?_
        refine z_iinc (pc := 24) (v := x2 + (1 : Int32)) (lv' := [(2, .int (x2 + (1 : Int32))), (1, .int (x1 + (fF σ a3 6))), (0, .ref 8)]) 2 dX11_turnsInAll_24 rfl rfl (by decide) rfl ?_
        refine z_goto (pc := 27) (tgt := 4) dX11_turnsInAll_27 (by decide) ?_
        refine z_lv (lv' := [(0, .ref 8), (1, .int (x1 + (fF σ a3 6))), (2, .int (x2 + (1 : Int32)))]) [2, 1, 0] rfl ?_
        exact ih (x1 + (fF σ a3 6)) (x2 + (1 : Int32))
def f11_turnsInAll (N : Nat) (σ : am_S) : Option Int32 := f11_turnsInAll_L4 σ N N (0 : Int32) (0 : Int32)
theorem c11_turnsInAll {l : Launch} {E : am_E} {N : Nat} {σ : am_S} {v : Int32} (hf : f11_turnsInAll N σ = some v) : Ctr l E msC YX11_turnsInAll (0) 0 0 [.ref 8] σ (some (.int v)) σ := by
  refine ctr_of (G := fun u r s => r = some (.int u) ∧ s = σ) (by decide +kernel) (Nat.le_of_ble_eq_true rfl) hf ⟨rfl, rfl⟩ (fun d hd => ?_)
  refine z_eqlv (lv' := [(0, .ref 8)]) rfl ?_
  unfold f11_turnsInAll
  refine z_iconst (pc := 0) (v := (0 : Int32)) dX11_turnsInAll_0 (by decide) ?_
  refine z_istore_n (pc := 1) (lv' := [(1, .int (0 : Int32)), (0, .ref 8)]) dX11_turnsInAll_1 rfl (by decide) rfl ?_
  refine z_iconst (pc := 2) (v := (0 : Int32)) dX11_turnsInAll_2 (by decide) ?_
  refine z_istore_n (pc := 3) (lv' := [(2, .int (0 : Int32)), (1, .int (0 : Int32)), (0, .ref 8)]) dX11_turnsInAll_3 rfl (by decide) rfl ?_
  refine z_lv (lv' := [(0, .ref 8), (1, .int (0 : Int32)), (2, .int (0 : Int32))]) [2, 1, 0] rfl ?_
  exact z11_turnsInAll_L4 hd N (0 : Int32) (0 : Int32)
def f11_count (N : Nat) (σ : am_S) (x1 : Int32) : Option Int32 := if x1 = (0 : Int32) then (some (fF σ 8 3)) else (if x1 = (1 : Int32) then (some (fF σ 8 5)) else (if x1 = (2 : Int32) then ((f11_openOnes N σ).bind fun v4 => (some (v4))) else (if x1 = (3 : Int32) then ((f11_illOnes N σ).bind fun v8 => (some (v8))) else (if x1 = (4 : Int32) then ((f11_turnsInAll N σ).bind fun v12 => (some (v12))) else (if x1 = (5 : Int32) then (some (fF σ 11 4)) else (if x1 = (6 : Int32) then (some (fF σ 11 1)) else (if x1 = (7 : Int32) then (some (fF σ 11 5)) else (some ((-2 : Int32))))))))))
theorem c11_count {l : Launch} {E : am_E} {N : Nat} {σ : am_S} {x1 : Int32} {v : Int32} (hf : f11_count N σ x1 = some v) : Ctr l E msC YX11_count (1) 0 0 [.ref 8, .int x1] σ (some (.int v)) σ := by
  refine ctr_of (G := fun u r s => r = some (.int u) ∧ s = σ) (by decide +kernel) (Nat.le_of_ble_eq_true rfl) hf ⟨rfl, rfl⟩ (fun d hd => ?_)
  refine z_eqlv (lv' := [(0, .ref 8), (1, .int x1)]) rfl ?_
  unfold f11_count
  refine z_iload_n (pc := 0) 1 dX11_count_0 rfl rfl ?_
  refine z_ite (fun h1 => ?_) (fun h1 => ?_)
  · refine z_tsEq (pc := 1) (0) (off := 47) (tgt := 48) dX11_count_1 h1 (by decide) (by decide) (by decide) (by decide) ?_
    refine z_aload_n (pc := 48) 0 dX11_count_48 rfl rfl ?_
    refine z_getI (pc := 49) dX11_count_49 (am_ob.s kC8) fr_RX11_74_11 (by decide) ?_
    exact z_rI dX11_count_52 rfl ⟨by decide, by decide⟩
  · refine z_ite (fun h2 => ?_) (fun h2 => ?_)
    · refine z_tsEq (pc := 1) (1) (off := 52) (tgt := 53) dX11_count_1 h2 (by decide) (by decide) (by decide) (by decide) ?_
      refine z_aload_n (pc := 53) 0 dX11_count_53 rfl rfl ?_
      refine z_getI (pc := 54) dX11_count_54 (am_ob.s kC8) fr_RX11_110_11 (by decide) ?_
      exact z_rI dX11_count_57 rfl ⟨by decide, by decide⟩
    · refine z_ite (fun h3 => ?_) (fun h3 => ?_)
      · refine z_tsEq (pc := 1) (2) (off := 57) (tgt := 58) dX11_count_1 h3 (by decide) (by decide) (by decide) (by decide) ?_
        refine z_aload_n (pc := 58) 0 dX11_count_58 rfl rfl ?_
        refine z_callI (pc := 59) [.ref 8] [] rfl (lk_V (Yc := YX11_openOnes) (n := 0) dX11_count_59 rfl rfl (am_ob.s kC8) rfl rfl np_X11_openOnes mh_RX11 (by decide) ml_RX11_329 im_X11_openOnes se_RX11_X11_openOnes_X11_openOnes in_RX11 cd_X11_openOnes) (Nat.le_trans (by decide) hd) ⟨by decide, by decide⟩ (Nat.le_of_ble_eq_true rfl) (am_kp.rf _) (fun v4 h6 => c11_openOnes h6) (fun v4 h6 => ?_)
        exact z_rI dX11_count_62 rfl ⟨by decide, by decide⟩
      · refine z_ite (fun h7 => ?_) (fun h7 => ?_)
        · refine z_tsEq (pc := 1) (3) (off := 62) (tgt := 63) dX11_count_1 h7 (by decide) (by decide) (by decide) (by decide) ?_
          refine z_aload_n (pc := 63) 0 dX11_count_63 rfl rfl ?_
          refine z_callI (pc := 64) [.ref 8] [] rfl (lk_V (Yc := YX11_illOnes) (n := 0) dX11_count_64 rfl rfl (am_ob.s kC8) rfl rfl np_X11_illOnes mh_RX11 (by decide) ml_RX11_332 im_X11_illOnes se_RX11_X11_illOnes_X11_illOnes in_RX11 cd_X11_illOnes) (Nat.le_trans (by decide) hd) ⟨by decide, by decide⟩ (Nat.le_of_ble_eq_true rfl) (am_kp.rf _) (fun v8 h10 => c11_illOnes h10) (fun v8 h10 => ?_)
          exact z_rI dX11_count_67 rfl ⟨by decide, by decide⟩
        · refine z_ite (fun h11 => ?_) (fun h11 => ?_)
          · refine z_tsEq (pc := 1) (4) (off := 67) (tgt := 68) dX11_count_1 h11 (by decide) (by decide) (by decide) (by decide) ?_
            refine z_aload_n (pc := 68) 0 dX11_count_68 rfl rfl ?_
            refine z_callI (pc := 69) [.ref 8] [] rfl (lk_V (Yc := YX11_turnsInAll) (n := 0) dX11_count_69 rfl rfl (am_ob.s kC8) rfl rfl np_X11_turnsInAll mh_RX11 (by decide) ml_RX11_335 im_X11_turnsInAll se_RX11_X11_turnsInAll_X11_turnsInAll in_RX11 cd_X11_turnsInAll) (Nat.le_trans (by decide) hd) ⟨by decide, by decide⟩ (Nat.le_of_ble_eq_true rfl) (am_kp.rf _) (fun v12 h14 => c11_turnsInAll h14) (fun v12 h14 => ?_)
            exact z_rI dX11_count_72 rfl ⟨by decide, by decide⟩
          · refine z_ite (fun h15 => ?_) (fun h15 => ?_)
            · refine z_tsEq (pc := 1) (5) (off := 72) (tgt := 73) dX11_count_1 h15 (by decide) (by decide) (by decide) (by decide) ?_
              refine z_aload_n (pc := 73) 0 dX11_count_73 rfl rfl ?_
              refine z_getQ (pc := 74) (b := 11) dX11_count_74 kC8 fr_RX11_24_11 (by decide) rfl ?_
              refine z_getI (pc := 77) dX11_count_77 (am_ob.s kC11) fr_RX11_177_10 (by decide) ?_
              exact z_rI dX11_count_80 rfl ⟨by decide, by decide⟩
            · refine z_ite (fun h16 => ?_) (fun h16 => ?_)
              · refine z_tsEq (pc := 1) (6) (off := 80) (tgt := 81) dX11_count_1 h16 (by decide) (by decide) (by decide) (by decide) ?_
                refine z_aload_n (pc := 81) 0 dX11_count_81 rfl rfl ?_
                refine z_getQ (pc := 82) (b := 11) dX11_count_82 kC8 fr_RX11_24_11 (by decide) rfl ?_
                refine z_getI (pc := 85) dX11_count_85 (am_ob.s kC11) fr_RX11_338_10 (by decide) ?_
                exact z_rI dX11_count_88 rfl ⟨by decide, by decide⟩
              · refine z_ite (fun h17 => ?_) (fun h17 => ?_)
                · refine z_tsEq (pc := 1) (7) (off := 88) (tgt := 89) dX11_count_1 h17 (by decide) (by decide) (by decide) (by decide) ?_
                  refine z_aload_n (pc := 89) 0 dX11_count_89 rfl rfl ?_
                  refine z_getQ (pc := 90) (b := 11) dX11_count_90 kC8 fr_RX11_24_11 (by decide) rfl ?_
                  refine z_getI (pc := 93) dX11_count_93 (am_ob.s kC11) fr_RX11_180_10 (by decide) ?_
                  exact z_rI dX11_count_96 rfl ⟨by decide, by decide⟩
                · refine z_tsNe (pc := 1) (tgt := 97) [0, 1, 2, 3, 4, 5, 6, 7] 8 dX11_count_1 (by decide) (by decide) (List.forall_mem_cons.mpr ⟨h1, List.forall_mem_cons.mpr ⟨h2, List.forall_mem_cons.mpr ⟨h3, List.forall_mem_cons.mpr ⟨h7, List.forall_mem_cons.mpr ⟨h11, List.forall_mem_cons.mpr ⟨h15, List.forall_mem_cons.mpr ⟨h16, List.forall_mem_cons.mpr ⟨h17, List.forall_mem_nil _⟩⟩⟩⟩⟩⟩⟩⟩) (by decide) ?_
                  refine z_bipush (pc := 97) (v := (-2 : Int32)) dX11_count_97 (by decide) ?_
                  exact z_rI dX11_count_99 rfl ⟨by decide, by decide⟩
def f11_crossing (σ : am_S) (x1 : Int32) (x2 : Int32) : Option (Int32 × am_S) := (f11_within x1 (1 : Int32) (60 : Int32)).bind fun v1 => (if v1 = true then ((f4_areTwo x2).bind fun v5 => (if v5 = true then (if fF σ 8 3 < (7 : Int32) then ((f1_init (am_nw σ (.inl (1, []))) σ.1.length x1 x2).bind fun s11 => (if [1].contains (am_ci s11 σ.1.length) = true then (if am_in (fF σ 8 3) 7 = true then (some ((fF (sF (sQ s11 9 (fF σ 8 3).toNatClampNeg (some σ.1.length)) 8 3 ((fF (sQ s11 9 (fF σ 8 3).toNatClampNeg (some σ.1.length)) 8 3) + (1 : Int32))) 8 3) - (1 : Int32), sF (sQ s11 9 (fF σ 8 3).toNatClampNeg (some σ.1.length)) 8 3 ((fF (sQ s11 9 (fF σ 8 3).toNatClampNeg (some σ.1.length)) 8 3) + (1 : Int32)))) else none) else none)) else (some ((-4 : Int32), σ))) else (some ((-2 : Int32), σ)))) else (some ((-2 : Int32), σ)))
theorem c11_crossing {l : Launch} {E : am_E} {σ : am_S} {x1 : Int32} {x2 : Int32} {v : Int32} {σ1 : am_S} (hf : f11_crossing σ x1 x2 = some (v, σ1)) : Ctr l E msC YX11_crossing (2) 1 6 [.ref 8, .int x1, .int x2] σ (some (.int v)) σ1 := by
  refine ctr_of (G := fun u r s => r = some (.int u.1) ∧ s = u.2) (by decide +kernel) (Nat.le_of_ble_eq_true rfl) hf ⟨rfl, rfl⟩ (fun d hd => ?_)
  refine z_eqlv (lv' := [(0, .ref 8), (1, .int x1), (2, .int x2)]) rfl ?_
  unfold f11_crossing
  refine z_iload_n (pc := 0) 1 dX11_crossing_0 rfl rfl ?_
  refine z_iconst (pc := 1) (v := (1 : Int32)) dX11_crossing_1 (by decide) ?_
  refine z_bipush (pc := 2) (v := (60 : Int32)) dX11_crossing_2 (by decide) ?_
  refine z_callB (pc := 4) [.int x1, .int (1 : Int32), .int (60 : Int32)] [] rfl (lk_S (Yc := YX11_within) (n := 3) dX11_crossing_4 rfl np_X11_within mh_RX11 (by decide) ml_RX11_66 st_X11_within in_RX11 cd_X11_within) (Nat.le_trans (by decide) hd) ⟨by decide, by decide⟩ (Nat.le_of_ble_eq_true rfl) (am_kp.rf _) (fun v1 h3 => c11_within h3) (fun v1 h3 => ?_)
  refine z_bz_eq (pc := 7) (tgt := 17) dX11_crossing_7 (by decide) (fun h4 => ?_) (fun h4 => ?_)
  · refine z_iload_n (pc := 10) 2 dX11_crossing_10 rfl rfl ?_
    refine z_callB (pc := 11) [.int x2] [] rfl (lk_S (Yc := YX4_areTwo) (n := 1) dX11_crossing_11 rfl np_X4_areTwo mh_RX4 (by decide) ml_RX11_70 st_X4_areTwo in_RX4 cd_X4_areTwo) (Nat.le_trans (by decide) hd) ⟨by decide, by decide⟩ (Nat.le_of_ble_eq_true rfl) (am_kp.rf _) (fun v5 h7 => c4_areTwo h7) (fun v5 h7 => ?_)
    refine z_bz_ne (pc := 14) (tgt := 20) dX11_crossing_14 (by decide) (fun h8 => ?_) (fun h8 => ?_)
    · refine z_aload_n (pc := 20) 0 dX11_crossing_20 rfl rfl ?_
      refine z_getI (pc := 21) dX11_crossing_21 (am_ob.s kC8) fr_RX11_74_11 (by decide) ?_
      refine z_bipush (pc := 24) (v := (7 : Int32)) dX11_crossing_24 (by decide) ?_
      refine z_ic_lt (pc := 26) (tgt := 32) dX11_crossing_26 (by decide) (fun h9 => ?_) (fun h9 => ?_)
      · refine z_aload_n (pc := 32) 0 dX11_crossing_32 rfl rfl ?_
        refine z_getQ (pc := 33) (b := 9) dX11_crossing_33 kC8 fr_RX11_11_11 (by decide) rfl ?_
        refine z_aload_n (pc := 36) 0 dX11_crossing_36 rfl rfl ?_
        refine z_getI (pc := 37) dX11_crossing_37 (am_ob.s kC8) fr_RX11_74_11 (by decide) ?_
        refine z_new (pc := 40) (ci := 1) dX11_crossing_40 rfl cl_RX11_9 it_RX1 in_RX1 ⟨by decide, by decide⟩ ?_
        refine z_dup (pc := 43) dX11_crossing_43 rfl ?_
        refine z_iload_n (pc := 44) 1 dX11_crossing_44 rfl rfl ?_
        refine z_iload_n (pc := 45) 2 dX11_crossing_45 rfl rfl ?_
        refine z_callVs (pc := 46) [.ref σ.1.length, .int x1, .int x2] [.ref σ.1.length, .int (fF σ 8 3), .ref 9] rfl (lk_I (Yc := YX1_init) (n := 2) dX11_crossing_46 rfl rfl rfl rfl np_X1_init mh_RX1 (by decide) ml_RX11_78 im_X1_init in_RX1 cd_X1_init) (Nat.le_trans (by decide) hd) ⟨by decide, by decide⟩ (Nat.le_of_ble_eq_true rfl) (am_kp.rf _) (fun s11 h12 => c1_init h12) (fun s11 h12 => ?_)
        refine z_guard (fun g14 => ?_)
        refine z_astqp (pc := 49) [1] dX11_crossing_49 ⟨by decide, by decide⟩ rfl (am_ar.s kC9) g14 (by decide) (by decide +kernel) (fun h13 => ?_)
        refine z_aload_n (pc := 50) 0 dX11_crossing_50 rfl rfl ?_
        refine z_dup (pc := 51) dX11_crossing_51 rfl ?_
        refine z_getI (pc := 52) dX11_crossing_52 (am_ob.s kC8) fr_RX11_74_11 (by decide) ?_
        refine z_iconst (pc := 55) (v := (1 : Int32)) dX11_crossing_55 (by decide) ?_
        refine z_iadd (pc := 56) dX11_crossing_56 ?_
        refine z_putI (pc := 57) dX11_crossing_57 (am_ob.s kC8) fw_RX11_74_11 (by decide) ?_
        refine z_aload_n (pc := 60) 0 dX11_crossing_60 rfl rfl ?_
        refine z_getI (pc := 61) dX11_crossing_61 (am_ob.s kC8) fr_RX11_74_11 (by decide) ?_
        refine z_iconst (pc := 64) (v := (1 : Int32)) dX11_crossing_64 (by decide) ?_
        refine z_isub (pc := 65) dX11_crossing_65 ?_
        exact z_rIs dX11_crossing_66 rfl ⟨by decide, by decide⟩
      · refine z_bipush (pc := 29) (v := (-4 : Int32)) dX11_crossing_29 (by decide) ?_
        exact z_rIs dX11_crossing_31 rfl ⟨by decide, by decide⟩
    · refine z_bipush (pc := 17) (v := (-2 : Int32)) dX11_crossing_17 (by decide) ?_
      exact z_rIs dX11_crossing_19 rfl ⟨by decide, by decide⟩
  · refine z_bipush (pc := 17) (v := (-2 : Int32)) dX11_crossing_17 (by decide) ?_
    exact z_rIs dX11_crossing_19 rfl ⟨by decide, by decide⟩
def d_rowsAt (σ : am_S) (a : Nat) (x1 : Int32) : Option Bool := if am_ci σ a = 2 then f7_rowsAt σ a x1 else (if am_ci σ a = 3 then f7_rowsAt σ a x1 else (if am_ci σ a = 5 then f7_rowsAt σ a x1 else (if am_ci σ a = 6 then f7_rowsAt σ a x1 else (if am_ci σ a = 7 then f7_rowsAt σ a x1 else (if am_ci σ a = 9 then f9_rowsAt σ a x1 else (none))))))
theorem d_rowsAt_c {σ : am_S} {a : Nat} {x1 : Int32} {v : Bool} (h : d_rowsAt σ a x1 = some v) : (am_ci σ a = 2 ∧ f7_rowsAt σ a x1 = some v) ∨ (am_ci σ a = 3 ∧ f7_rowsAt σ a x1 = some v) ∨ (am_ci σ a = 5 ∧ f7_rowsAt σ a x1 = some v) ∨ (am_ci σ a = 6 ∧ f7_rowsAt σ a x1 = some v) ∨ (am_ci σ a = 7 ∧ f7_rowsAt σ a x1 = some v) ∨ (am_ci σ a = 9 ∧ f9_rowsAt σ a x1 = some v) := by
  unfold d_rowsAt at h
  by_cases hc : am_ci σ a = 2
  · rw [if_pos hc] at h; exact Or.inl ⟨hc, h⟩
  rw [if_neg hc] at h
  by_cases hc : am_ci σ a = 3
  · rw [if_pos hc] at h; exact Or.inr (Or.inl ⟨hc, h⟩)
  rw [if_neg hc] at h
  by_cases hc : am_ci σ a = 5
  · rw [if_pos hc] at h; exact Or.inr (Or.inr (Or.inl ⟨hc, h⟩))
  rw [if_neg hc] at h
  by_cases hc : am_ci σ a = 6
  · rw [if_pos hc] at h; exact Or.inr (Or.inr (Or.inr (Or.inl ⟨hc, h⟩)))
  rw [if_neg hc] at h
  by_cases hc : am_ci σ a = 7
  · rw [if_pos hc] at h; exact Or.inr (Or.inr (Or.inr (Or.inr (Or.inl ⟨hc, h⟩))))
  rw [if_neg hc] at h
  by_cases hc : am_ci σ a = 9
  · rw [if_pos hc] at h; exact Or.inr (Or.inr (Or.inr (Or.inr (Or.inr (⟨hc, h⟩)))))
  rw [if_neg hc] at h
  cases h
def d_may (σ : am_S) (a : Nat) (x1 : Int32) : Option Bool := if am_ci σ a = 2 then f2_may σ a x1 else (if am_ci σ a = 3 then f3_may σ a x1 else (if am_ci σ a = 5 then f5_may σ a x1 else (if am_ci σ a = 6 then f6_may σ a x1 else (if am_ci σ a = 7 then f7_may σ a x1 else (if am_ci σ a = 9 then f9_may σ a x1 else (none))))))
theorem d_may_c {σ : am_S} {a : Nat} {x1 : Int32} {v : Bool} (h : d_may σ a x1 = some v) : (am_ci σ a = 2 ∧ f2_may σ a x1 = some v) ∨ (am_ci σ a = 3 ∧ f3_may σ a x1 = some v) ∨ (am_ci σ a = 5 ∧ f5_may σ a x1 = some v) ∨ (am_ci σ a = 6 ∧ f6_may σ a x1 = some v) ∨ (am_ci σ a = 7 ∧ f7_may σ a x1 = some v) ∨ (am_ci σ a = 9 ∧ f9_may σ a x1 = some v) := by
  unfold d_may at h
  by_cases hc : am_ci σ a = 2
  · rw [if_pos hc] at h; exact Or.inl ⟨hc, h⟩
  rw [if_neg hc] at h
  by_cases hc : am_ci σ a = 3
  · rw [if_pos hc] at h; exact Or.inr (Or.inl ⟨hc, h⟩)
  rw [if_neg hc] at h
  by_cases hc : am_ci σ a = 5
  · rw [if_pos hc] at h; exact Or.inr (Or.inr (Or.inl ⟨hc, h⟩))
  rw [if_neg hc] at h
  by_cases hc : am_ci σ a = 6
  · rw [if_pos hc] at h; exact Or.inr (Or.inr (Or.inr (Or.inl ⟨hc, h⟩)))
  rw [if_neg hc] at h
  by_cases hc : am_ci σ a = 7
  · rw [if_pos hc] at h; exact Or.inr (Or.inr (Or.inr (Or.inr (Or.inl ⟨hc, h⟩))))
  rw [if_neg hc] at h
  by_cases hc : am_ci σ a = 9
  · rw [if_pos hc] at h; exact Or.inr (Or.inr (Or.inr (Or.inr (Or.inr (⟨hc, h⟩)))))
  rw [if_neg hc] at h
  cases h
def f11_dueTwo_J129 (N : Nat) (x3 : Int32) (x4 : Int32) (σ : am_S) : Option (Int32 × am_S) := if x4 = (-1 : Int32) then (some ((-1 : Int32), σ)) else (some (((20 : Int32) * (if x4 < x3 then x4 else x3)) + (if x3 < x4 then x4 else x3), σ))
theorem z11_dueTwo_J129 {l : Launch} {E : am_E} {d : Nat} {σ0 : am_S} {N : Nat} (hd : 4 ≤ d) (x3 : Int32) (x4 : Int32) (σ : am_S) : Z l E msC σ0 YX11_dueTwo d 0 0 129 [(3, .int x3), (4, .int x4)] [] 0 0 σ (f11_dueTwo_J129 N x3 x4 σ) (fun u r s => r = some (.int u.1) ∧ s = u.2) := by
  unfold f11_dueTwo_J129
  refine z_iload (pc := 129) 1 dX11_dueTwo_129 rfl ?_
  refine z_iconst (pc := 131) (v := (-1 : Int32)) dX11_dueTwo_131 (by decide) ?_
  refine z_ic_ne (pc := 132) (tgt := 139) dX11_dueTwo_132 (by decide) (fun h2 => ?_) (fun h2 => ?_)
  · refine z_iconst (pc := 135) (v := (-1 : Int32)) dX11_dueTwo_135 (by decide) ?_
    refine z_goto (pc := 136) (tgt := 155) dX11_dueTwo_136 (by decide) ?_
    exact z_rIs dX11_dueTwo_155 rfl ⟨by decide, by decide⟩
  · refine z_bipush (pc := 139) (v := (20 : Int32)) dX11_dueTwo_139 (by decide) ?_
    refine z_iload_n (pc := 141) 0 dX11_dueTwo_141 rfl rfl ?_
    refine z_iload (pc := 142) 1 dX11_dueTwo_142 rfl ?_
    refine z_min (pc := 144) dX11_dueTwo_144 ml_RX11_194 st_math_min in_math cd_math_min (Nat.le_trans (by decide) hd) (Nat.le_of_ble_eq_true rfl) ⟨by decide, by decide⟩ ?_
    refine z_imul (pc := 147) dX11_dueTwo_147 ?_
    refine z_iload_n (pc := 148) 0 dX11_dueTwo_148 rfl rfl ?_
    refine z_iload (pc := 149) 1 dX11_dueTwo_149 rfl ?_
    refine z_max (pc := 151) dX11_dueTwo_151 ml_RX11_189 st_math_max in_math cd_math_max (Nat.le_trans (by decide) hd) (Nat.le_of_ble_eq_true rfl) ⟨by decide, by decide⟩ ?_
    refine z_iadd (pc := 154) dX11_dueTwo_154 ?_
    exact z_rIs dX11_dueTwo_155 rfl ⟨by decide, by decide⟩
def f11_dueTwo_L14 (N : Nat) : Nat → Int32 → Int32 → Int32 → Int32 → Int32 → Int32 → Int32 → am_S → Option (Int32 × am_S)
  | 0, _, _, _, _, _, _, _, _ => none
  | n + 1, x1, x2, x3, x4, x5, x6, x7, σ => if fF σ 8 5 ≤ x7 then (f11_dueTwo_J129 N x3 x4 σ) else (if am_in x7 14 = true then ((fQ σ 10 x7.toNatClampNeg).elim (none) (fun a4 => if [2, 3, 5, 6, 7, 9].contains (am_ci σ a4) = true then ((d_rowsAt σ a4 x1).bind fun v7 => (if v7 = true then ((d_may σ a4 x2).bind fun v11 => (if v11 = true then ((f11_byRule N σ (8 : Int32) (0 : Int32) (fF σ a4 1) x2 (fF σ a4 6)).bind fun (v15, s16) => (if x3 = (-1 : Int32) then (f11_dueTwo_L14 N n x1 x2 x7 x3 v15 x5 (x7 + (1 : Int32)) s16) else (if v15 ≤ x5 then (if x4 = (-1 : Int32) then (f11_dueTwo_L14 N n x1 x2 x3 x7 x5 v15 (x7 + (1 : Int32)) s16) else (if v15 ≤ x6 then (f11_dueTwo_L14 N n x1 x2 x3 x4 x5 x6 (x7 + (1 : Int32)) s16) else (f11_dueTwo_L14 N n x1 x2 x3 x7 x5 v15 (x7 + (1 : Int32)) s16))) else (f11_dueTwo_L14 N n x1 x2 x7 x3 v15 x5 (x7 + (1 : Int32)) s16)))) else (f11_dueTwo_L14 N n x1 x2 x3 x4 x5 x6 (x7 + (1 : Int32)) σ))) else (f11_dueTwo_L14 N n x1 x2 x3 x4 x5 x6 (x7 + (1 : Int32)) σ))) else none)) else none)
theorem z11_dueTwo_L14 {l : Launch} {E : am_E} {d : Nat} {σ0 : am_S} {N : Nat} (hd : 4 ≤ d) : ∀ (n : Nat) (x1 : Int32) (x2 : Int32) (x3 : Int32) (x4 : Int32) (x5 : Int32) (x6 : Int32) (x7 : Int32) (σ : am_S), Z l E msC σ0 YX11_dueTwo d 0 0 14 [(0, .ref 8), (1, .int x1), (2, .int x2), (3, .int x3), (4, .int x4), (5, .int x5), (6, .int x6), (7, .int x7)] [] 0 0 σ (f11_dueTwo_L14 N n x1 x2 x3 x4 x5 x6 x7 σ) (fun u r s => r = some (.int u.1) ∧ s = u.2) := by
  intro n
  induction n with
  | zero => intros; exact z_none
  | succ n ih =>
    intro x1 x2 x3 x4 x5 x6 x7 σ
    unfold f11_dueTwo_L14
    refine z_iload (pc := 14) 7 dX11_dueTwo_14 rfl ?_
    refine z_aload_n (pc := 16) 0 dX11_dueTwo_16 rfl rfl ?_
    refine z_getI (pc := 17) dX11_dueTwo_17 (am_ob.s kC8) fr_RX11_110_11 (by decide) ?_
    refine z_ic_ge (pc := 20) (tgt := 129) dX11_dueTwo_20 (by decide) (fun h1 => ?_) (fun h1 => ?_)
    · refine z_lv (lv' := [(3, .int x3), (4, .int x4)]) [3, 4] rfl ?_
      exact z11_dueTwo_J129 hd x3 x4 σ
    · refine z_aload_n (pc := 23) 0 dX11_dueTwo_23 rfl rfl ?_
      refine z_getQ (pc := 24) (b := 10) dX11_dueTwo_24 kC8 fr_RX11_17_11 (by decide) rfl ?_
      refine z_iload (pc := 27) 7 dX11_dueTwo_27 rfl ?_
      refine z_qald (pc := 29) dX11_dueTwo_29 ⟨by decide, by decide⟩ (am_ar.s kC10) (fun h3 => ?_)
      refine z_elim (fun e5 => ?_) (fun a4 e5 => ?_)
      · refine z_astoreN (pc := 30) (lv' := [(8, .null), (0, .ref 8), (1, .int x1), (2, .int x2), (3, .int x3), (4, .int x4), (5, .int x5), (6, .int x6), (7, .int x7)]) dX11_dueTwo_30 (by decide) rfl ?_
        refine z_aloadN (pc := 32) 0 dX11_dueTwo_32 rfl ?_
        refine z_iload_n (pc := 34) 2 dX11_dueTwo_34 rfl rfl ?_
        exact z_none
      · refine z_astore (pc := 30) (lv' := [(8, .ref a4), (0, .ref 8), (1, .int x1), (2, .int x2), (3, .int x3), (4, .int x4), (5, .int x5), (6, .int x6), (7, .int x7)]) dX11_dueTwo_30 (by decide) rfl ?_
        refine z_aload (pc := 32) 0 dX11_dueTwo_32 rfl ?_
        refine z_iload_n (pc := 34) 2 dX11_dueTwo_34 rfl rfl ?_
        refine z_guard (fun g6 => ?_)
        refine z_callDB (pc := 35) [.ref a4, .int x1] [] rfl ⟨by decide, by decide⟩ (Nat.le_of_ble_eq_true rfl) (fun v hv => by
    rcases d_rowsAt_c hv with ⟨hc, hv⟩ | ⟨hc, hv⟩ | ⟨hc, hv⟩ | ⟨hc, hv⟩ | ⟨hc, hv⟩ | ⟨hc, hv⟩
    · exact ⟨_, _, lk_U (Yc := YX7_rowsAt) (n := 1) (x := yX7_rowsAt) RX7 dX11_dueTwo_35 rfl rfl (am_ob.d hc (by decide)) rfl rfl np_X7_rowsAt mh_RX7 (by decide) ml_RX11_247 sm_X7_rowsAt_RX7 se_RX2_X7_rowsAt_X7_rowsAt im_X7_rowsAt in_RX7 cd_X7_rowsAt, (Nat.le_trans (by decide) hd), c7_rowsAt hv⟩
    · exact ⟨_, _, lk_U (Yc := YX7_rowsAt) (n := 1) (x := yX7_rowsAt) RX7 dX11_dueTwo_35 rfl rfl (am_ob.d hc (by decide)) rfl rfl np_X7_rowsAt mh_RX7 (by decide) ml_RX11_247 sm_X7_rowsAt_RX7 se_RX3_X7_rowsAt_X7_rowsAt im_X7_rowsAt in_RX7 cd_X7_rowsAt, (Nat.le_trans (by decide) hd), c7_rowsAt hv⟩
    · exact ⟨_, _, lk_U (Yc := YX7_rowsAt) (n := 1) (x := yX7_rowsAt) RX7 dX11_dueTwo_35 rfl rfl (am_ob.d hc (by decide)) rfl rfl np_X7_rowsAt mh_RX7 (by decide) ml_RX11_247 sm_X7_rowsAt_RX7 se_RX5_X7_rowsAt_X7_rowsAt im_X7_rowsAt in_RX7 cd_X7_rowsAt, (Nat.le_trans (by decide) hd), c7_rowsAt hv⟩
    · exact ⟨_, _, lk_U (Yc := YX7_rowsAt) (n := 1) (x := yX7_rowsAt) RX7 dX11_dueTwo_35 rfl rfl (am_ob.d hc (by decide)) rfl rfl np_X7_rowsAt mh_RX7 (by decide) ml_RX11_247 sm_X7_rowsAt_RX7 se_RX6_X7_rowsAt_X7_rowsAt im_X7_rowsAt in_RX7 cd_X7_rowsAt, (Nat.le_trans (by decide) hd), c7_rowsAt hv⟩
    · exact ⟨_, _, lk_V (Yc := YX7_rowsAt) (n := 1) dX11_dueTwo_35 rfl rfl (am_ob.d hc (by decide)) rfl rfl np_X7_rowsAt mh_RX7 (by decide) ml_RX11_247 im_X7_rowsAt se_RX7_X7_rowsAt_X7_rowsAt in_RX7 cd_X7_rowsAt, (Nat.le_trans (by decide) hd), c7_rowsAt hv⟩
    · exact ⟨_, _, lk_O (Yc := YX9_rowsAt) (n := 1) (x := yX7_rowsAt) RX7 (Y0 := YX7_rowsAt) dX11_dueTwo_35 rfl rfl (am_ob.d hc (by decide)) rfl rfl np_X7_rowsAt mh_RX7 (by decide) ml_RX11_247 sm_X7_rowsAt_RX7 im_X7_rowsAt cd_X7_rowsAt se_RX9_X7_rowsAt_X9_rowsAt im_X9_rowsAt in_RX9 cd_X9_rowsAt, (Nat.le_trans (by decide) hd), c9_rowsAt hv⟩) (fun v7 h9 => ?_)
        refine z_bz_eq (pc := 38) (tgt := 123) dX11_dueTwo_38 (by decide) (fun h10 => ?_) (fun h10 => ?_)
        · refine z_aload (pc := 41) 0 dX11_dueTwo_41 rfl ?_
          refine z_iload_n (pc := 43) 3 dX11_dueTwo_43 rfl rfl ?_
          refine z_callDB (pc := 44) [.ref a4, .int x2] [] rfl ⟨by decide, by decide⟩ (Nat.le_of_ble_eq_true rfl) (fun v hv => by
    rcases d_may_c hv with ⟨hc, hv⟩ | ⟨hc, hv⟩ | ⟨hc, hv⟩ | ⟨hc, hv⟩ | ⟨hc, hv⟩ | ⟨hc, hv⟩
    · exact ⟨_, _, lk_O (Yc := YX2_may) (n := 1) (x := yX7_may) RX7 (Y0 := YX7_may) dX11_dueTwo_44 rfl rfl (am_ob.d hc (by decide)) rfl rfl np_X7_may mh_RX7 (by decide) ml_RX11_163 sm_X7_may_RX7 im_X7_may cd_X7_may se_RX2_X7_may_X2_may im_X2_may in_RX2 cd_X2_may, (Nat.le_trans (by decide) hd), c2_may hv⟩
    · exact ⟨_, _, lk_O (Yc := YX3_may) (n := 1) (x := yX7_may) RX7 (Y0 := YX7_may) dX11_dueTwo_44 rfl rfl (am_ob.d hc (by decide)) rfl rfl np_X7_may mh_RX7 (by decide) ml_RX11_163 sm_X7_may_RX7 im_X7_may cd_X7_may se_RX3_X7_may_X3_may im_X3_may in_RX3 cd_X3_may, (Nat.le_trans (by decide) hd), c3_may hv⟩
    · exact ⟨_, _, lk_O (Yc := YX5_may) (n := 1) (x := yX7_may) RX7 (Y0 := YX7_may) dX11_dueTwo_44 rfl rfl (am_ob.d hc (by decide)) rfl rfl np_X7_may mh_RX7 (by decide) ml_RX11_163 sm_X7_may_RX7 im_X7_may cd_X7_may se_RX5_X7_may_X5_may im_X5_may in_RX5 cd_X5_may, (Nat.le_trans (by decide) hd), c5_may hv⟩
    · exact ⟨_, _, lk_O (Yc := YX6_may) (n := 1) (x := yX7_may) RX7 (Y0 := YX7_may) dX11_dueTwo_44 rfl rfl (am_ob.d hc (by decide)) rfl rfl np_X7_may mh_RX7 (by decide) ml_RX11_163 sm_X7_may_RX7 im_X7_may cd_X7_may se_RX6_X7_may_X6_may im_X6_may in_RX6 cd_X6_may, (Nat.le_trans (by decide) hd), c6_may hv⟩
    · exact ⟨_, _, lk_V (Yc := YX7_may) (n := 1) dX11_dueTwo_44 rfl rfl (am_ob.d hc (by decide)) rfl rfl np_X7_may mh_RX7 (by decide) ml_RX11_163 im_X7_may se_RX7_X7_may_X7_may in_RX7 cd_X7_may, (Nat.le_trans (by decide) hd), c7_may hv⟩
    · exact ⟨_, _, lk_O (Yc := YX9_may) (n := 1) (x := yX7_may) RX7 (Y0 := YX7_may) dX11_dueTwo_44 rfl rfl (am_ob.d hc (by decide)) rfl rfl np_X7_may mh_RX7 (by decide) ml_RX11_163 sm_X7_may_RX7 im_X7_may cd_X7_may se_RX9_X7_may_X9_may im_X9_may in_RX9 cd_X9_may, (Nat.le_trans (by decide) hd), c9_may hv⟩) (fun v11 h13 => ?_)
          refine z_bz_ne (pc := 47) (tgt := 53) dX11_dueTwo_47 (by decide) (fun h14 => ?_) (fun h14 => ?_)
          · refine z_aload_n (pc := 53) 1 dX11_dueTwo_53 rfl rfl ?_
            refine z_bipush (pc := 54) (v := (8 : Int32)) dX11_dueTwo_54 (by decide) ?_
            refine z_iconst (pc := 56) (v := (0 : Int32)) dX11_dueTwo_56 (by decide) ?_
            refine z_aload (pc := 57) 0 dX11_dueTwo_57 rfl ?_
            refine z_getIp (pc := 59) [2, 3, 5, 6, 7, 9] dX11_dueTwo_59 g6 (by decide) fr_RX11_145_p235679 ?_
            refine z_iload_n (pc := 62) 3 dX11_dueTwo_62 rfl rfl ?_
            refine z_aload (pc := 63) 0 dX11_dueTwo_63 rfl ?_
            refine z_getIp (pc := 65) [2, 3, 5, 6, 7, 9] dX11_dueTwo_65 g6 (by decide) fr_RX11_157_p235679 ?_
            refine z_callIs (pc := 68) [.ref 8, .int (8 : Int32), .int (0 : Int32), .int (fF σ a4 1), .int x2, .int (fF σ a4 6)] [] rfl (lk_V (Yc := YX11_byRule) (n := 5) dX11_dueTwo_68 rfl rfl (am_ob.s kC8) rfl rfl np_X11_byRule mh_RX11 (by decide) ml_RX11_169 im_X11_byRule se_RX11_X11_byRule_X11_byRule in_RX11 cd_X11_byRule) (Nat.le_trans (by decide) hd) ⟨by decide, by decide⟩ (Nat.le_of_ble_eq_true rfl) (am_kp.rf _) (fun v15 s16 h17 => c11_byRule h17) (fun v15 s16 h17 => ?_)
            refine z_istore (pc := 71) (lv' := [(9, .int v15), (8, .ref a4), (0, .ref 8), (1, .int x1), (2, .int x2), (3, .int x3), (4, .int x4), (5, .int x5), (6, .int x6), (7, .int x7)]) dX11_dueTwo_71 (by decide) rfl ?_
            refine z_iload_n (pc := 73) 5 dX11_dueTwo_73 rfl rfl ?_
            refine z_iconst (pc := 74) (v := (-1 : Int32)) dX11_dueTwo_74 (by decide) ?_
            refine z_ic_eq (pc := 75) (tgt := 85) dX11_dueTwo_75 (by decide) (fun h18 => ?_) (fun h18 => ?_)
            · refine z_iload_n (pc := 85) 5 dX11_dueTwo_85 rfl rfl ?_
              refine z_istore (pc := 86) (lv' := [(4, .int x3), (9, .int v15), (8, .ref a4), (0, .ref 8), (1, .int x1), (2, .int x2), (3, .int x3), (5, .int x5), (6, .int x6), (7, .int x7)]) dX11_dueTwo_86 (by decide) rfl ?_
              refine z_iload (pc := 88) 7 dX11_dueTwo_88 rfl ?_
              refine z_istore (pc := 90) (lv' := [(6, .int x5), (4, .int x3), (9, .int v15), (8, .ref a4), (0, .ref 8), (1, .int x1), (2, .int x2), (3, .int x3), (5, .int x5), (7, .int x7)]) dX11_dueTwo_90 (by decide) rfl ?_
              refine z_iload (pc := 92) 9 dX11_dueTwo_92 rfl ?_
              refine z_istore_n (pc := 94) (lv' := [(3, .int x7), (6, .int x5), (4, .int x3), (9, .int v15), (8, .ref a4), (0, .ref 8), (1, .int x1), (2, .int x2), (5, .int x5), (7, .int x7)]) dX11_dueTwo_94 rfl (by decide) rfl ?_
              refine z_iload (pc := 95) 3 dX11_dueTwo_95 rfl ?_
              refine z_istore (pc := 97) (lv' := [(5, .int v15), (3, .int x7), (6, .int x5), (4, .int x3), (9, .int v15), (8, .ref a4), (0, .ref 8), (1, .int x1), (2, .int x2), (7, .int x7)]) dX11_dueTwo_97 (by decide) rfl ?_
              refine z_goto (pc := 99) (tgt := 123) dX11_dueTwo_99 (by decide) ?_
              refine z_iinc (pc := 123) (v := x7 + (1 : Int32)) (lv' := [(7, .int (x7 + (1 : Int32))), (5, .int v15), (3, .int x7), (6, .int x5), (4, .int x3), (9, .int v15), (8, .ref a4), (0, .ref 8), (1, .int x1), (2, .int x2)]) 9 dX11_dueTwo_123 rfl rfl (by decide) rfl ?_
              refine z_goto (pc := 126) (tgt := 14) dX11_dueTwo_126 (by decide) ?_
              refine z_lv (lv' := [(0, .ref 8), (1, .int x1), (2, .int x2), (3, .int x7), (4, .int x3), (5, .int v15), (6, .int x5), (7, .int (x7 + (1 : Int32)))]) [7, 8, 9, 2, 4, 1, 3, 0] rfl ?_
              exact ih x1 x2 x7 x3 v15 x5 (x7 + (1 : Int32)) s16
            · refine z_iload (pc := 78) 0 dX11_dueTwo_78 rfl ?_
              refine z_iload (pc := 80) 7 dX11_dueTwo_80 rfl ?_
              refine z_ic_le (pc := 82) (tgt := 102) dX11_dueTwo_82 (by decide) (fun h19 => ?_) (fun h19 => ?_)
              · refine z_iload (pc := 102) 6 dX11_dueTwo_102 rfl ?_
                refine z_iconst (pc := 104) (v := (-1 : Int32)) dX11_dueTwo_104 (by decide) ?_
                refine z_ic_eq (pc := 105) (tgt := 115) dX11_dueTwo_105 (by decide) (fun h20 => ?_) (fun h20 => ?_)
                · refine z_iload (pc := 115) 9 dX11_dueTwo_115 rfl ?_
                  refine z_istore (pc := 117) (lv' := [(4, .int x7), (9, .int v15), (8, .ref a4), (0, .ref 8), (1, .int x1), (2, .int x2), (3, .int x3), (5, .int x5), (6, .int x6), (7, .int x7)]) dX11_dueTwo_117 (by decide) rfl ?_
                  refine z_iload (pc := 119) 1 dX11_dueTwo_119 rfl ?_
                  refine z_istore (pc := 121) (lv' := [(6, .int v15), (4, .int x7), (9, .int v15), (8, .ref a4), (0, .ref 8), (1, .int x1), (2, .int x2), (3, .int x3), (5, .int x5), (7, .int x7)]) dX11_dueTwo_121 (by decide) rfl ?_
                  refine z_iinc (pc := 123) (v := x7 + (1 : Int32)) (lv' := [(7, .int (x7 + (1 : Int32))), (6, .int v15), (4, .int x7), (9, .int v15), (8, .ref a4), (0, .ref 8), (1, .int x1), (2, .int x2), (3, .int x3), (5, .int x5)]) 9 dX11_dueTwo_123 rfl rfl (by decide) rfl ?_
                  refine z_goto (pc := 126) (tgt := 14) dX11_dueTwo_126 (by decide) ?_
                  refine z_lv (lv' := [(0, .ref 8), (1, .int x1), (2, .int x2), (3, .int x3), (4, .int x7), (5, .int x5), (6, .int v15), (7, .int (x7 + (1 : Int32)))]) [5, 6, 7, 8, 2, 9, 1, 0] rfl ?_
                  exact ih x1 x2 x3 x7 x5 v15 (x7 + (1 : Int32)) s16
                · refine z_iload (pc := 108) 0 dX11_dueTwo_108 rfl ?_
                  refine z_iload (pc := 110) 8 dX11_dueTwo_110 rfl ?_
                  refine z_ic_le (pc := 112) (tgt := 123) dX11_dueTwo_112 (by decide) (fun h21 => ?_) (fun h21 => ?_)
                  · refine z_iinc (pc := 123) (v := x7 + (1 : Int32)) (lv' := [(7, .int (x7 + (1 : Int32))), (9, .int v15), (8, .ref a4), (0, .ref 8), (1, .int x1), (2, .int x2), (3, .int x3), (4, .int x4), (5, .int x5), (6, .int x6)]) 9 dX11_dueTwo_123 rfl rfl (by decide) rfl ?_
                    refine z_goto (pc := 126) (tgt := 14) dX11_dueTwo_126 (by decide) ?_
                    refine z_lv (lv' := [(0, .ref 8), (1, .int x1), (2, .int x2), (3, .int x3), (4, .int x4), (5, .int x5), (6, .int x6), (7, .int (x7 + (1 : Int32)))]) [3, 4, 5, 6, 7, 8, 9, 0] rfl ?_
                    exact ih x1 x2 x3 x4 x5 x6 (x7 + (1 : Int32)) s16
                  · refine z_iload (pc := 115) 9 dX11_dueTwo_115 rfl ?_
                    refine z_istore (pc := 117) (lv' := [(4, .int x7), (9, .int v15), (8, .ref a4), (0, .ref 8), (1, .int x1), (2, .int x2), (3, .int x3), (5, .int x5), (6, .int x6), (7, .int x7)]) dX11_dueTwo_117 (by decide) rfl ?_
                    refine z_iload (pc := 119) 1 dX11_dueTwo_119 rfl ?_
                    refine z_istore (pc := 121) (lv' := [(6, .int v15), (4, .int x7), (9, .int v15), (8, .ref a4), (0, .ref 8), (1, .int x1), (2, .int x2), (3, .int x3), (5, .int x5), (7, .int x7)]) dX11_dueTwo_121 (by decide) rfl ?_
                    refine z_iinc (pc := 123) (v := x7 + (1 : Int32)) (lv' := [(7, .int (x7 + (1 : Int32))), (6, .int v15), (4, .int x7), (9, .int v15), (8, .ref a4), (0, .ref 8), (1, .int x1), (2, .int x2), (3, .int x3), (5, .int x5)]) 9 dX11_dueTwo_123 rfl rfl (by decide) rfl ?_
                    refine z_goto (pc := 126) (tgt := 14) dX11_dueTwo_126 (by decide) ?_
                    refine z_lv (lv' := [(0, .ref 8), (1, .int x1), (2, .int x2), (3, .int x3), (4, .int x7), (5, .int x5), (6, .int v15), (7, .int (x7 + (1 : Int32)))]) [5, 6, 7, 8, 2, 9, 1, 0] rfl ?_
                    exact ih x1 x2 x3 x7 x5 v15 (x7 + (1 : Int32)) s16
              · refine z_iload_n (pc := 85) 5 dX11_dueTwo_85 rfl rfl ?_
                refine z_istore (pc := 86) (lv' := [(4, .int x3), (9, .int v15), (8, .ref a4), (0, .ref 8), (1, .int x1), (2, .int x2), (3, .int x3), (5, .int x5), (6, .int x6), (7, .int x7)]) dX11_dueTwo_86 (by decide) rfl ?_
                refine z_iload (pc := 88) 7 dX11_dueTwo_88 rfl ?_
                refine z_istore (pc := 90) (lv' := [(6, .int x5), (4, .int x3), (9, .int v15), (8, .ref a4), (0, .ref 8), (1, .int x1), (2, .int x2), (3, .int x3), (5, .int x5), (7, .int x7)]) dX11_dueTwo_90 (by decide) rfl ?_
                refine z_iload (pc := 92) 9 dX11_dueTwo_92 rfl ?_
                refine z_istore_n (pc := 94) (lv' := [(3, .int x7), (6, .int x5), (4, .int x3), (9, .int v15), (8, .ref a4), (0, .ref 8), (1, .int x1), (2, .int x2), (5, .int x5), (7, .int x7)]) dX11_dueTwo_94 rfl (by decide) rfl ?_
                refine z_iload (pc := 95) 3 dX11_dueTwo_95 rfl ?_
                refine z_istore (pc := 97) (lv' := [(5, .int v15), (3, .int x7), (6, .int x5), (4, .int x3), (9, .int v15), (8, .ref a4), (0, .ref 8), (1, .int x1), (2, .int x2), (7, .int x7)]) dX11_dueTwo_97 (by decide) rfl ?_
                refine z_goto (pc := 99) (tgt := 123) dX11_dueTwo_99 (by decide) ?_
                refine z_iinc (pc := 123) (v := x7 + (1 : Int32)) (lv' := [(7, .int (x7 + (1 : Int32))), (5, .int v15), (3, .int x7), (6, .int x5), (4, .int x3), (9, .int v15), (8, .ref a4), (0, .ref 8), (1, .int x1), (2, .int x2)]) 9 dX11_dueTwo_123 rfl rfl (by decide) rfl ?_
                refine z_goto (pc := 126) (tgt := 14) dX11_dueTwo_126 (by decide) ?_
                refine z_lv (lv' := [(0, .ref 8), (1, .int x1), (2, .int x2), (3, .int x7), (4, .int x3), (5, .int v15), (6, .int x5), (7, .int (x7 + (1 : Int32)))]) [7, 8, 9, 2, 4, 1, 3, 0] rfl ?_
                exact ih x1 x2 x7 x3 v15 x5 (x7 + (1 : Int32)) s16
          · refine z_goto (pc := 50) (tgt := 123) dX11_dueTwo_50 (by decide) ?_
            refine z_iinc (pc := 123) (v := x7 + (1 : Int32)) (lv' := [(7, .int (x7 + (1 : Int32))), (8, .ref a4), (0, .ref 8), (1, .int x1), (2, .int x2), (3, .int x3), (4, .int x4), (5, .int x5), (6, .int x6)]) 8 dX11_dueTwo_123 rfl rfl (by decide) rfl ?_
            refine z_goto (pc := 126) (tgt := 14) dX11_dueTwo_126 (by decide) ?_
            refine z_lv (lv' := [(0, .ref 8), (1, .int x1), (2, .int x2), (3, .int x3), (4, .int x4), (5, .int x5), (6, .int x6), (7, .int (x7 + (1 : Int32)))]) [2, 3, 4, 5, 6, 7, 8, 0] rfl ?_
            exact ih x1 x2 x3 x4 x5 x6 (x7 + (1 : Int32)) σ
        · refine z_iinc (pc := 123) (v := x7 + (1 : Int32)) (lv' := [(7, .int (x7 + (1 : Int32))), (8, .ref a4), (0, .ref 8), (1, .int x1), (2, .int x2), (3, .int x3), (4, .int x4), (5, .int x5), (6, .int x6)]) 8 dX11_dueTwo_123 rfl rfl (by decide) rfl ?_
          refine z_goto (pc := 126) (tgt := 14) dX11_dueTwo_126 (by decide) ?_
          refine z_lv (lv' := [(0, .ref 8), (1, .int x1), (2, .int x2), (3, .int x3), (4, .int x4), (5, .int x5), (6, .int x6), (7, .int (x7 + (1 : Int32)))]) [2, 3, 4, 5, 6, 7, 8, 0] rfl ?_
          exact ih x1 x2 x3 x4 x5 x6 (x7 + (1 : Int32)) σ
def f11_dueTwo (N : Nat) (σ : am_S) (x1 : Int32) (x2 : Int32) : Option (Int32 × am_S) := f11_dueTwo_L14 N N x1 x2 (-1 : Int32) (-1 : Int32) (0 : Int32) (0 : Int32) (0 : Int32) σ
theorem c11_dueTwo {l : Launch} {E : am_E} {N : Nat} {σ : am_S} {x1 : Int32} {x2 : Int32} {v : Int32} {σ1 : am_S} (hf : f11_dueTwo N σ x1 x2 = some (v, σ1)) : Ctr l E msC YX11_dueTwo (4) 0 0 [.ref 8, .int x1, .int x2] σ (some (.int v)) σ1 := by
  refine ctr_of (G := fun u r s => r = some (.int u.1) ∧ s = u.2) (by decide +kernel) (Nat.le_of_ble_eq_true rfl) hf ⟨rfl, rfl⟩ (fun d hd => ?_)
  refine z_eqlv (lv' := [(0, .ref 8), (1, .int x1), (2, .int x2)]) rfl ?_
  unfold f11_dueTwo
  refine z_iconst (pc := 0) (v := (-1 : Int32)) dX11_dueTwo_0 (by decide) ?_
  refine z_istore_n (pc := 1) (lv' := [(3, .int (-1 : Int32)), (0, .ref 8), (1, .int x1), (2, .int x2)]) dX11_dueTwo_1 rfl (by decide) rfl ?_
  refine z_iconst (pc := 2) (v := (-1 : Int32)) dX11_dueTwo_2 (by decide) ?_
  refine z_istore (pc := 3) (lv' := [(4, .int (-1 : Int32)), (3, .int (-1 : Int32)), (0, .ref 8), (1, .int x1), (2, .int x2)]) dX11_dueTwo_3 (by decide) rfl ?_
  refine z_iconst (pc := 5) (v := (0 : Int32)) dX11_dueTwo_5 (by decide) ?_
  refine z_istore (pc := 6) (lv' := [(5, .int (0 : Int32)), (4, .int (-1 : Int32)), (3, .int (-1 : Int32)), (0, .ref 8), (1, .int x1), (2, .int x2)]) dX11_dueTwo_6 (by decide) rfl ?_
  refine z_iconst (pc := 8) (v := (0 : Int32)) dX11_dueTwo_8 (by decide) ?_
  refine z_istore (pc := 9) (lv' := [(6, .int (0 : Int32)), (5, .int (0 : Int32)), (4, .int (-1 : Int32)), (3, .int (-1 : Int32)), (0, .ref 8), (1, .int x1), (2, .int x2)]) dX11_dueTwo_9 (by decide) rfl ?_
  refine z_iconst (pc := 11) (v := (0 : Int32)) dX11_dueTwo_11 (by decide) ?_
  refine z_istore (pc := 12) (lv' := [(7, .int (0 : Int32)), (6, .int (0 : Int32)), (5, .int (0 : Int32)), (4, .int (-1 : Int32)), (3, .int (-1 : Int32)), (0, .ref 8), (1, .int x1), (2, .int x2)]) dX11_dueTwo_12 (by decide) rfl ?_
  refine z_lv (lv' := [(0, .ref 8), (1, .int x1), (2, .int x2), (3, .int (-1 : Int32)), (4, .int (-1 : Int32)), (5, .int (0 : Int32)), (6, .int (0 : Int32)), (7, .int (0 : Int32))]) [5, 6, 7, 4, 3, 2, 1, 0] rfl ?_
  exact z11_dueTwo_L14 hd N x1 x2 (-1 : Int32) (-1 : Int32) (0 : Int32) (0 : Int32) (0 : Int32) σ
def f11_eldestSon_L7 (σ : am_S) (N : Nat) : Nat → Int32 → Int32 → Int32 → Int32 → Option Int32
  | 0, _, _, _, _ => none
  | n + 1, x1, x2, x3, x4 => if fF σ 8 5 ≤ x4 then (some (x2)) else (if am_in x4 14 = true then ((fQ σ 10 x4.toNatClampNeg).elim (none) (fun a3 => if [2, 3, 5, 6, 7, 9].contains (am_ci σ a3) = true then (if fF σ a3 4 = x1 then (if [3, 5].contains (am_ci σ a3) = true then (if x2 = (-1 : Int32) then (f11_eldestSon_L7 σ N n x1 x4 (fF σ a3 1) (x4 + (1 : Int32))) else (if fF σ a3 1 ≤ x3 then (f11_eldestSon_L7 σ N n x1 x2 x3 (x4 + (1 : Int32))) else (f11_eldestSon_L7 σ N n x1 x4 (fF σ a3 1) (x4 + (1 : Int32))))) else (f11_eldestSon_L7 σ N n x1 x2 x3 (x4 + (1 : Int32)))) else (f11_eldestSon_L7 σ N n x1 x2 x3 (x4 + (1 : Int32)))) else none)) else none)
theorem z11_eldestSon_L7 {l : Launch} {E : am_E} {d : Nat} {N : Nat} {σ : am_S} (hd : 0 ≤ d) : ∀ (n : Nat) (x1 : Int32) (x2 : Int32) (x3 : Int32) (x4 : Int32), Z l E msC σ YX11_eldestSon d 0 0 7 [(0, .ref 8), (1, .int x1), (2, .int x2), (3, .int x3), (4, .int x4)] [] 0 0 σ (f11_eldestSon_L7 σ N n x1 x2 x3 x4) (fun u r s => r = some (.int u) ∧ s = σ) := by
  intro n
  induction n with
  | zero => intros; exact z_none
  | succ n ih =>
    intro x1 x2 x3 x4
    unfold f11_eldestSon_L7
    refine z_iload (pc := 7) 4 dX11_eldestSon_7 rfl ?_
    refine z_aload_n (pc := 9) 0 dX11_eldestSon_9 rfl rfl ?_
    refine z_getI (pc := 10) dX11_eldestSon_10 (am_ob.s kC8) fr_RX11_110_11 (by decide) ?_
    refine z_ic_ge (pc := 13) (tgt := 71) dX11_eldestSon_13 (by decide) (fun h1 => ?_) (fun h1 => ?_)
    · refine z_iload_n (pc := 71) 2 dX11_eldestSon_71 rfl rfl ?_
      exact z_rI dX11_eldestSon_72 rfl ⟨by decide, by decide⟩
    · refine z_aload_n (pc := 16) 0 dX11_eldestSon_16 rfl rfl ?_
      refine z_getQ (pc := 17) (b := 10) dX11_eldestSon_17 kC8 fr_RX11_17_11 (by decide) rfl ?_
      refine z_iload (pc := 20) 4 dX11_eldestSon_20 rfl ?_
      refine z_qald (pc := 22) dX11_eldestSon_22 ⟨by decide, by decide⟩ (am_ar.s kC10) (fun h2 => ?_)
      refine z_elim (fun e4 => ?_) (fun a3 e4 => ?_)
      · refine z_astoreN (pc := 23) (lv' := [(5, .null), (0, .ref 8), (1, .int x1), (2, .int x2), (3, .int x3), (4, .int x4)]) dX11_eldestSon_23 (by decide) rfl ?_
        refine z_aloadN (pc := 25) 0 dX11_eldestSon_25 rfl ?_
        exact z_none
      · refine z_astore (pc := 23) (lv' := [(5, .ref a3), (0, .ref 8), (1, .int x1), (2, .int x2), (3, .int x3), (4, .int x4)]) dX11_eldestSon_23 (by decide) rfl ?_
        refine z_aload (pc := 25) 0 dX11_eldestSon_25 rfl ?_
        refine z_guard (fun g5 => ?_)
        refine z_getIp (pc := 27) [2, 3, 5, 6, 7, 9] dX11_eldestSon_27 g5 (by decide) fr_RX11_154_p235679 ?_
        refine z_iload_n (pc := 30) 2 dX11_eldestSon_30 rfl rfl ?_
        refine z_ic_ne (pc := 31) (tgt := 65) dX11_eldestSon_31 (by decide) (fun h6 => ?_) (fun h6 => ?_)
        · refine z_aload (pc := 34) 0 dX11_eldestSon_34 rfl ?_
          refine z_inst (pc := 36) RX3 [3, 5] dX11_eldestSon_36 cl_RX11_117 g5 (by decide +kernel) ?_
          refine z_bz_eq (pc := 39) (tgt := 65) dX11_eldestSon_39 (by decide) (fun h7 => ?_) (fun h7 => ?_)
          · refine z_iload_n (pc := 42) 3 dX11_eldestSon_42 rfl rfl ?_
            refine z_iconst (pc := 43) (v := (-1 : Int32)) dX11_eldestSon_43 (by decide) ?_
            refine z_ic_eq (pc := 44) (tgt := 56) dX11_eldestSon_44 (by decide) (fun h8 => ?_) (fun h8 => ?_)
            · refine z_iload (pc := 56) 5 dX11_eldestSon_56 rfl ?_
              refine z_istore_n (pc := 58) (lv' := [(2, .int x4), (5, .ref a3), (0, .ref 8), (1, .int x1), (3, .int x3), (4, .int x4)]) dX11_eldestSon_58 rfl (by decide) rfl ?_
              refine z_aload (pc := 59) 1 dX11_eldestSon_59 rfl ?_
              refine z_getIp (pc := 61) [2, 3, 5, 6, 7, 9] dX11_eldestSon_61 g5 (by decide) fr_RX11_145_p235679 ?_
              refine z_istore_n (pc := 64) (lv' := [(3, .int (fF σ a3 1)), (2, .int x4), (5, .ref a3), (0, .ref 8), (1, .int x1), (4, .int x4)]) dX11_eldestSon_64 rfl (by decide) rfl ?_
              refine z_iinc (pc := 65) (v := x4 + (1 : Int32)) (lv' := [(4, .int (x4 + (1 : Int32))), (3, .int (fF σ a3 1)), (2, .int x4), (5, .ref a3), (0, .ref 8), (1, .int x1)]) 5 dX11_eldestSon_65 rfl rfl (by decide) rfl ?_
              refine z_goto (pc := 68) (tgt := 7) dX11_eldestSon_68 (by decide) ?_
              refine z_lv (lv' := [(0, .ref 8), (1, .int x1), (2, .int x4), (3, .int (fF σ a3 1)), (4, .int (x4 + (1 : Int32)))]) [4, 5, 2, 1, 0] rfl ?_
              exact ih x1 x4 (fF σ a3 1) (x4 + (1 : Int32))
            · refine z_aload (pc := 47) 0 dX11_eldestSon_47 rfl ?_
              refine z_getIp (pc := 49) [2, 3, 5, 6, 7, 9] dX11_eldestSon_49 g5 (by decide) fr_RX11_145_p235679 ?_
              refine z_iload_n (pc := 52) 4 dX11_eldestSon_52 rfl rfl ?_
              refine z_ic_le (pc := 53) (tgt := 65) dX11_eldestSon_53 (by decide) (fun h9 => ?_) (fun h9 => ?_)
              · refine z_iinc (pc := 65) (v := x4 + (1 : Int32)) (lv' := [(4, .int (x4 + (1 : Int32))), (5, .ref a3), (0, .ref 8), (1, .int x1), (2, .int x2), (3, .int x3)]) 5 dX11_eldestSon_65 rfl rfl (by decide) rfl ?_
                refine z_goto (pc := 68) (tgt := 7) dX11_eldestSon_68 (by decide) ?_
                refine z_lv (lv' := [(0, .ref 8), (1, .int x1), (2, .int x2), (3, .int x3), (4, .int (x4 + (1 : Int32)))]) [2, 3, 4, 5, 0] rfl ?_
                exact ih x1 x2 x3 (x4 + (1 : Int32))
              · refine z_iload (pc := 56) 5 dX11_eldestSon_56 rfl ?_
                refine z_istore_n (pc := 58) (lv' := [(2, .int x4), (5, .ref a3), (0, .ref 8), (1, .int x1), (3, .int x3), (4, .int x4)]) dX11_eldestSon_58 rfl (by decide) rfl ?_
                refine z_aload (pc := 59) 1 dX11_eldestSon_59 rfl ?_
                refine z_getIp (pc := 61) [2, 3, 5, 6, 7, 9] dX11_eldestSon_61 g5 (by decide) fr_RX11_145_p235679 ?_
                refine z_istore_n (pc := 64) (lv' := [(3, .int (fF σ a3 1)), (2, .int x4), (5, .ref a3), (0, .ref 8), (1, .int x1), (4, .int x4)]) dX11_eldestSon_64 rfl (by decide) rfl ?_
                refine z_iinc (pc := 65) (v := x4 + (1 : Int32)) (lv' := [(4, .int (x4 + (1 : Int32))), (3, .int (fF σ a3 1)), (2, .int x4), (5, .ref a3), (0, .ref 8), (1, .int x1)]) 5 dX11_eldestSon_65 rfl rfl (by decide) rfl ?_
                refine z_goto (pc := 68) (tgt := 7) dX11_eldestSon_68 (by decide) ?_
                refine z_lv (lv' := [(0, .ref 8), (1, .int x1), (2, .int x4), (3, .int (fF σ a3 1)), (4, .int (x4 + (1 : Int32)))]) [4, 5, 2, 1, 0] rfl ?_
                exact ih x1 x4 (fF σ a3 1) (x4 + (1 : Int32))
          · refine z_iinc (pc := 65) (v := x4 + (1 : Int32)) (lv' := [(4, .int (x4 + (1 : Int32))), (5, .ref a3), (0, .ref 8), (1, .int x1), (2, .int x2), (3, .int x3)]) 5 dX11_eldestSon_65 rfl rfl (by decide) rfl ?_
            refine z_goto (pc := 68) (tgt := 7) dX11_eldestSon_68 (by decide) ?_
            refine z_lv (lv' := [(0, .ref 8), (1, .int x1), (2, .int x2), (3, .int x3), (4, .int (x4 + (1 : Int32)))]) [2, 3, 4, 5, 0] rfl ?_
            exact ih x1 x2 x3 (x4 + (1 : Int32))
        · refine z_iinc (pc := 65) (v := x4 + (1 : Int32)) (lv' := [(4, .int (x4 + (1 : Int32))), (5, .ref a3), (0, .ref 8), (1, .int x1), (2, .int x2), (3, .int x3)]) 5 dX11_eldestSon_65 rfl rfl (by decide) rfl ?_
          refine z_goto (pc := 68) (tgt := 7) dX11_eldestSon_68 (by decide) ?_
          refine z_lv (lv' := [(0, .ref 8), (1, .int x1), (2, .int x2), (3, .int x3), (4, .int (x4 + (1 : Int32)))]) [2, 3, 4, 5, 0] rfl ?_
          exact ih x1 x2 x3 (x4 + (1 : Int32))
def f11_eldestSon (N : Nat) (σ : am_S) (x1 : Int32) : Option Int32 := f11_eldestSon_L7 σ N N x1 (-1 : Int32) (0 : Int32) (0 : Int32)
theorem c11_eldestSon {l : Launch} {E : am_E} {N : Nat} {σ : am_S} {x1 : Int32} {v : Int32} (hf : f11_eldestSon N σ x1 = some v) : Ctr l E msC YX11_eldestSon (0) 0 0 [.ref 8, .int x1] σ (some (.int v)) σ := by
  refine ctr_of (G := fun u r s => r = some (.int u) ∧ s = σ) (by decide +kernel) (Nat.le_of_ble_eq_true rfl) hf ⟨rfl, rfl⟩ (fun d hd => ?_)
  refine z_eqlv (lv' := [(0, .ref 8), (1, .int x1)]) rfl ?_
  unfold f11_eldestSon
  refine z_iconst (pc := 0) (v := (-1 : Int32)) dX11_eldestSon_0 (by decide) ?_
  refine z_istore_n (pc := 1) (lv' := [(2, .int (-1 : Int32)), (0, .ref 8), (1, .int x1)]) dX11_eldestSon_1 rfl (by decide) rfl ?_
  refine z_iconst (pc := 2) (v := (0 : Int32)) dX11_eldestSon_2 (by decide) ?_
  refine z_istore_n (pc := 3) (lv' := [(3, .int (0 : Int32)), (2, .int (-1 : Int32)), (0, .ref 8), (1, .int x1)]) dX11_eldestSon_3 rfl (by decide) rfl ?_
  refine z_iconst (pc := 4) (v := (0 : Int32)) dX11_eldestSon_4 (by decide) ?_
  refine z_istore (pc := 5) (lv' := [(4, .int (0 : Int32)), (3, .int (0 : Int32)), (2, .int (-1 : Int32)), (0, .ref 8), (1, .int x1)]) dX11_eldestSon_5 (by decide) rfl ?_
  refine z_lv (lv' := [(0, .ref 8), (1, .int x1), (2, .int (-1 : Int32)), (3, .int (0 : Int32)), (4, .int (0 : Int32))]) [3, 4, 2, 1, 0] rfl ?_
  exact z11_eldestSon_L7 hd N x1 (-1 : Int32) (0 : Int32) (0 : Int32)
def f11_feed (N : Nat) (σ : am_S) (x1 : Int32) (x2 : Int64) : Option (Int32 × am_S) := (f11_within x1 (1 : Int32) (8 : Int32)).bind fun v1 => (if v1 = true then ((f10_addBytes N σ x1 x2).bind fun (v5, s6) => (some (v5, s6))) else (some ((-2 : Int32), σ)))
theorem c11_feed {l : Launch} {E : am_E} {N : Nat} {σ : am_S} {x1 : Int32} {x2 : Int64} {v : Int32} {σ1 : am_S} (hf : f11_feed N σ x1 x2 = some (v, σ1)) : Ctr l E msC YX11_feed (1) 0 0 [.ref 8, .int x1, .long x2] σ (some (.int v)) σ1 := by
  refine ctr_of (G := fun u r s => r = some (.int u.1) ∧ s = u.2) (by decide +kernel) (Nat.le_of_ble_eq_true rfl) hf ⟨rfl, rfl⟩ (fun d hd => ?_)
  refine z_eqlv (lv' := [(0, .ref 8), (1, .int x1), (2, .long x2)]) rfl ?_
  unfold f11_feed
  refine z_iload_n (pc := 0) 1 dX11_feed_0 rfl rfl ?_
  refine z_iconst (pc := 1) (v := (1 : Int32)) dX11_feed_1 (by decide) ?_
  refine z_bipush (pc := 2) (v := (8 : Int32)) dX11_feed_2 (by decide) ?_
  refine z_callB (pc := 4) [.int x1, .int (1 : Int32), .int (8 : Int32)] [] rfl (lk_S (Yc := YX11_within) (n := 3) dX11_feed_4 rfl np_X11_within mh_RX11 (by decide) ml_RX11_66 st_X11_within in_RX11 cd_X11_within) (Nat.le_trans (by decide) hd) ⟨by decide, by decide⟩ (Nat.le_of_ble_eq_true rfl) (am_kp.rf _) (fun v1 h3 => c11_within h3) (fun v1 h3 => ?_)
  refine z_bz_eq (pc := 7) (tgt := 22) dX11_feed_7 (by decide) (fun h4 => ?_) (fun h4 => ?_)
  · refine z_aload_n (pc := 10) 0 dX11_feed_10 rfl rfl ?_
    refine z_getQ (pc := 11) (b := 11) dX11_feed_11 kC8 fr_RX11_24_11 (by decide) rfl ?_
    refine z_iload_n (pc := 14) 1 dX11_feed_14 rfl rfl ?_
    refine z_lload_n (pc := 15) 2 dX11_feed_15 rfl rfl ?_
    refine z_callIs (pc := 16) [.ref 11, .int x1, .long x2] [] rfl (lk_V (Yc := YX10_addBytes) (n := 2) dX11_feed_16 rfl rfl (am_ob.s kC11) rfl rfl np_X10_addBytes mh_RX10 (by decide) ml_RX11_173 im_X10_addBytes se_RX10_X10_addBytes_X10_addBytes in_RX10 cd_X10_addBytes) (Nat.le_trans (by decide) hd) ⟨by decide, by decide⟩ (Nat.le_of_ble_eq_true rfl) (am_kp.rf _) (fun v5 s6 h7 => c10_addBytes h7) (fun v5 s6 h7 => ?_)
    refine z_goto (pc := 19) (tgt := 24) dX11_feed_19 (by decide) ?_
    exact z_rIs dX11_feed_24 rfl ⟨by decide, by decide⟩
  · refine z_bipush (pc := 22) (v := (-2 : Int32)) dX11_feed_22 (by decide) ?_
    exact z_rIs dX11_feed_24 rfl ⟨by decide, by decide⟩
def f11_rowerAt (σ : am_S) (x1 : Int32) : Option (Option Nat) := if x1 < 0 then (some none) else (if fF σ 8 5 ≤ x1 then (some none) else (if am_in x1 14 = true then ((fQ σ 10 x1.toNatClampNeg).elim (some none) (fun a4 => some (some a4))) else none))
theorem c11_rowerAt {l : Launch} {E : am_E} {σ : am_S} {x1 : Int32} {v : Option Nat} (hf : f11_rowerAt σ x1 = some v) : Ctr l E msC YX11_rowerAt (0) 0 0 [.ref 8, .int x1] σ (some (va_rf v)) σ := by
  refine ctr_of (G := fun u r s => r = some (va_rf u) ∧ s = σ) (by decide +kernel) (Nat.le_of_ble_eq_true rfl) hf ⟨rfl, rfl⟩ (fun d hd => ?_)
  refine z_eqlv (lv' := [(0, .ref 8), (1, .int x1)]) rfl ?_
  unfold f11_rowerAt
  refine z_iload_n (pc := 0) 1 dX11_rowerAt_0 rfl rfl ?_
  refine z_if_lt (pc := 1) (tgt := 21) dX11_rowerAt_1 (by decide) (fun h1 => ?_) (fun h1 => ?_)
  · refine z_null (pc := 21) dX11_rowerAt_21 ?_
    exact z_rRN dX11_rowerAt_22 rfl ⟨by decide, by decide⟩
  · refine z_iload_n (pc := 4) 1 dX11_rowerAt_4 rfl rfl ?_
    refine z_aload_n (pc := 5) 0 dX11_rowerAt_5 rfl rfl ?_
    refine z_getI (pc := 6) dX11_rowerAt_6 (am_ob.s kC8) fr_RX11_110_11 (by decide) ?_
    refine z_ic_ge (pc := 9) (tgt := 21) dX11_rowerAt_9 (by decide) (fun h2 => ?_) (fun h2 => ?_)
    · refine z_null (pc := 21) dX11_rowerAt_21 ?_
      exact z_rRN dX11_rowerAt_22 rfl ⟨by decide, by decide⟩
    · refine z_aload_n (pc := 12) 0 dX11_rowerAt_12 rfl rfl ?_
      refine z_getQ (pc := 13) (b := 10) dX11_rowerAt_13 kC8 fr_RX11_17_11 (by decide) rfl ?_
      refine z_iload_n (pc := 16) 1 dX11_rowerAt_16 rfl rfl ?_
      refine z_qald (pc := 17) dX11_rowerAt_17 ⟨by decide, by decide⟩ (am_ar.s kC10) (fun h3 => ?_)
      refine z_elim (fun e5 => ?_) (fun a4 e5 => ?_)
      · refine z_goto (pc := 18) (tgt := 22) dX11_rowerAt_18 (by decide) ?_
        exact z_rRN dX11_rowerAt_22 rfl ⟨by decide, by decide⟩
      · refine z_goto (pc := 18) (tgt := 22) dX11_rowerAt_18 (by decide) ?_
        exact z_rR dX11_rowerAt_22 rfl ⟨by decide, by decide⟩
def f11_firstOfBlood_L2 (σ : am_S) (N : Nat) : Nat → Int32 → Int32 → Option Int32
  | 0, _, _ => none
  | n + 1, x1, x2 => if fF σ 8 5 ≤ x2 then (some ((-1 : Int32))) else (if am_in x2 14 = true then ((fQ σ 10 x2.toNatClampNeg).elim (none) (fun a3 => if [2, 3, 5, 6, 7, 9].contains (am_ci σ a3) = true then ((f11_rowerAt σ (fF σ a3 4)).bind fun v6 => (v6.elim (if fF σ a3 4 = x1 then (if fF σ a3 5 = 0 then (some (x2)) else (f11_firstOfBlood_L2 σ N n x1 (x2 + (1 : Int32)))) else (f11_firstOfBlood_L2 σ N n x1 (x2 + (1 : Int32)))) (fun a9 => if fF σ a3 4 = x1 then (if fF σ a3 5 = 0 then (some (x2)) else (f11_firstOfBlood_L2 σ N n x1 (x2 + (1 : Int32)))) else (if [2, 3, 5, 6, 7, 9].contains (am_ci σ a9) = true then (if fF σ a9 4 = x1 then (if fF σ a3 5 = 0 then (some (x2)) else (f11_firstOfBlood_L2 σ N n x1 (x2 + (1 : Int32)))) else (f11_firstOfBlood_L2 σ N n x1 (x2 + (1 : Int32)))) else none)))) else none)) else none)
theorem z11_firstOfBlood_L2 {l : Launch} {E : am_E} {d : Nat} {N : Nat} {σ : am_S} (hd : 1 ≤ d) : ∀ (n : Nat) (x1 : Int32) (x2 : Int32), Z l E msC σ YX11_firstOfBlood d 0 0 2 [(0, .ref 8), (1, .int x1), (2, .int x2)] [] 0 0 σ (f11_firstOfBlood_L2 σ N n x1 x2) (fun u r s => r = some (.int u) ∧ s = σ) := by
  intro n
  induction n with
  | zero => intros; exact z_none
  | succ n ih =>
    intro x1 x2
    unfold f11_firstOfBlood_L2
    refine z_iload_n (pc := 2) 2 dX11_firstOfBlood_2 rfl rfl ?_
    refine z_aload_n (pc := 3) 0 dX11_firstOfBlood_3 rfl rfl ?_
    refine z_getI (pc := 4) dX11_firstOfBlood_4 (am_ob.s kC8) fr_RX11_110_11 (by decide) ?_
    refine z_ic_ge (pc := 7) (tgt := 76) dX11_firstOfBlood_7 (by decide) (fun h1 => ?_) (fun h1 => ?_)
    · refine z_iconst (pc := 76) (v := (-1 : Int32)) dX11_firstOfBlood_76 (by decide) ?_
      exact z_rI dX11_firstOfBlood_77 rfl ⟨by decide, by decide⟩
    · refine z_aload_n (pc := 10) 0 dX11_firstOfBlood_10 rfl rfl ?_
      refine z_getQ (pc := 11) (b := 10) dX11_firstOfBlood_11 kC8 fr_RX11_17_11 (by decide) rfl ?_
      refine z_iload_n (pc := 14) 2 dX11_firstOfBlood_14 rfl rfl ?_
      refine z_qald (pc := 15) dX11_firstOfBlood_15 ⟨by decide, by decide⟩ (am_ar.s kC10) (fun h2 => ?_)
      refine z_elim (fun e4 => ?_) (fun a3 e4 => ?_)
      · refine z_astore_nN (pc := 16) (lv' := [(3, .null), (0, .ref 8), (1, .int x1), (2, .int x2)]) dX11_firstOfBlood_16 rfl (by decide) rfl ?_
        refine z_aload_n (pc := 17) 1 dX11_firstOfBlood_17 rfl rfl ?_
        refine z_aload_nN (pc := 18) 0 dX11_firstOfBlood_18 rfl rfl ?_
        exact z_none
      · refine z_astore_n (pc := 16) (lv' := [(3, .ref a3), (0, .ref 8), (1, .int x1), (2, .int x2)]) dX11_firstOfBlood_16 rfl (by decide) rfl ?_
        refine z_aload_n (pc := 17) 1 dX11_firstOfBlood_17 rfl rfl ?_
        refine z_aload_n (pc := 18) 0 dX11_firstOfBlood_18 rfl rfl ?_
        refine z_guard (fun g5 => ?_)
        refine z_getIp (pc := 19) [2, 3, 5, 6, 7, 9] dX11_firstOfBlood_19 g5 (by decide) fr_RX11_154_p235679 ?_
        refine z_callR (pc := 22) [.ref 8, .int (fF σ a3 4)] [] rfl (lk_V (Yc := YX11_rowerAt) (n := 1) dX11_firstOfBlood_22 rfl rfl (am_ob.s kC8) rfl rfl np_X11_rowerAt mh_RX11 (by decide) ml_RX11_106 im_X11_rowerAt se_RX11_X11_rowerAt_X11_rowerAt in_RX11 cd_X11_rowerAt) (Nat.le_trans (by decide) hd) ⟨by decide, by decide⟩ (Nat.le_of_ble_eq_true rfl) (am_kp.rf _) (fun v6 h8 => c11_rowerAt h8) (fun v6 h8 => ?_)
        refine z_elim (fun e10 => ?_) (fun a9 e10 => ?_)
        · refine z_astoreN (pc := 25) (lv' := [(4, .null), (3, .ref a3), (0, .ref 8), (1, .int x1), (2, .int x2)]) dX11_firstOfBlood_25 (by decide) rfl ?_
          refine z_aload_n (pc := 27) 1 dX11_firstOfBlood_27 rfl rfl ?_
          refine z_getIp (pc := 28) [2, 3, 5, 6, 7, 9] dX11_firstOfBlood_28 g5 (by decide) fr_RX11_154_p235679 ?_
          refine z_iload_n (pc := 31) 3 dX11_firstOfBlood_31 rfl rfl ?_
          refine z_ic_eq (pc := 32) (tgt := 49) dX11_firstOfBlood_32 (by decide) (fun h11 => ?_) (fun h11 => ?_)
          · refine z_iconst (pc := 49) (v := (1 : Int32)) dX11_firstOfBlood_49 (by decide) ?_
            refine z_goto (pc := 50) (tgt := 54) dX11_firstOfBlood_50 (by decide) ?_
            refine z_istore (pc := 54) (lv' := [(5, .int (1 : Int32)), (4, .null), (3, .ref a3), (0, .ref 8), (1, .int x1), (2, .int x2)]) dX11_firstOfBlood_54 (by decide) rfl ?_
            refine z_iload (pc := 56) 0 dX11_firstOfBlood_56 rfl ?_
            refine z_if_eq_f (pc := 58) (tgt := 70) dX11_firstOfBlood_58 (by decide) (by decide) ?_
            refine z_aload_n (pc := 61) 2 dX11_firstOfBlood_61 rfl rfl ?_
            refine z_getIp (pc := 62) [2, 3, 5, 6, 7, 9] dX11_firstOfBlood_62 g5 (by decide) fr_RX11_135_p235679 ?_
            refine z_if_ne (pc := 65) (tgt := 70) dX11_firstOfBlood_65 (by decide) (fun h12 => ?_) (fun h12 => ?_)
            · refine z_iload_n (pc := 68) 5 dX11_firstOfBlood_68 rfl rfl ?_
              exact z_rI dX11_firstOfBlood_69 rfl ⟨by decide, by decide⟩
            · refine z_iinc (pc := 70) (v := x2 + (1 : Int32)) (lv' := [(2, .int (x2 + (1 : Int32))), (5, .int (1 : Int32)), (4, .null), (3, .ref a3), (0, .ref 8), (1, .int x1)]) 5 dX11_firstOfBlood_70 rfl rfl (by decide) rfl ?_
              refine z_goto (pc := 73) (tgt := 2) dX11_firstOfBlood_73 (by decide) ?_
              refine z_lv (lv' := [(0, .ref 8), (1, .int x1), (2, .int (x2 + (1 : Int32)))]) [4, 5, 0] rfl ?_
              exact ih x1 (x2 + (1 : Int32))
          · refine z_aloadN (pc := 35) 0 dX11_firstOfBlood_35 rfl ?_
            refine z_ifnullN (pc := 37) (tgt := 53) dX11_firstOfBlood_37 (by decide) ?_
            refine z_iconst (pc := 53) (v := (0 : Int32)) dX11_firstOfBlood_53 (by decide) ?_
            refine z_istore (pc := 54) (lv' := [(5, .int (0 : Int32)), (4, .null), (3, .ref a3), (0, .ref 8), (1, .int x1), (2, .int x2)]) dX11_firstOfBlood_54 (by decide) rfl ?_
            refine z_iload (pc := 56) 0 dX11_firstOfBlood_56 rfl ?_
            refine z_if_eq_t (pc := 58) (tgt := 70) dX11_firstOfBlood_58 (by decide) (by decide) ?_
            refine z_iinc (pc := 70) (v := x2 + (1 : Int32)) (lv' := [(2, .int (x2 + (1 : Int32))), (5, .int (0 : Int32)), (4, .null), (3, .ref a3), (0, .ref 8), (1, .int x1)]) 5 dX11_firstOfBlood_70 rfl rfl (by decide) rfl ?_
            refine z_goto (pc := 73) (tgt := 2) dX11_firstOfBlood_73 (by decide) ?_
            refine z_lv (lv' := [(0, .ref 8), (1, .int x1), (2, .int (x2 + (1 : Int32)))]) [4, 5, 0] rfl ?_
            exact ih x1 (x2 + (1 : Int32))
        · refine z_astore (pc := 25) (lv' := [(4, .ref a9), (3, .ref a3), (0, .ref 8), (1, .int x1), (2, .int x2)]) dX11_firstOfBlood_25 (by decide) rfl ?_
          refine z_aload_n (pc := 27) 1 dX11_firstOfBlood_27 rfl rfl ?_
          refine z_getIp (pc := 28) [2, 3, 5, 6, 7, 9] dX11_firstOfBlood_28 g5 (by decide) fr_RX11_154_p235679 ?_
          refine z_iload_n (pc := 31) 3 dX11_firstOfBlood_31 rfl rfl ?_
          refine z_ic_eq (pc := 32) (tgt := 49) dX11_firstOfBlood_32 (by decide) (fun h13 => ?_) (fun h13 => ?_)
          · refine z_iconst (pc := 49) (v := (1 : Int32)) dX11_firstOfBlood_49 (by decide) ?_
            refine z_goto (pc := 50) (tgt := 54) dX11_firstOfBlood_50 (by decide) ?_
            refine z_istore (pc := 54) (lv' := [(5, .int (1 : Int32)), (4, .ref a9), (3, .ref a3), (0, .ref 8), (1, .int x1), (2, .int x2)]) dX11_firstOfBlood_54 (by decide) rfl ?_
            refine z_iload (pc := 56) 0 dX11_firstOfBlood_56 rfl ?_
            refine z_if_eq_f (pc := 58) (tgt := 70) dX11_firstOfBlood_58 (by decide) (by decide) ?_
            refine z_aload_n (pc := 61) 2 dX11_firstOfBlood_61 rfl rfl ?_
            refine z_getIp (pc := 62) [2, 3, 5, 6, 7, 9] dX11_firstOfBlood_62 g5 (by decide) fr_RX11_135_p235679 ?_
            refine z_if_ne (pc := 65) (tgt := 70) dX11_firstOfBlood_65 (by decide) (fun h14 => ?_) (fun h14 => ?_)
            · refine z_iload_n (pc := 68) 5 dX11_firstOfBlood_68 rfl rfl ?_
              exact z_rI dX11_firstOfBlood_69 rfl ⟨by decide, by decide⟩
            · refine z_iinc (pc := 70) (v := x2 + (1 : Int32)) (lv' := [(2, .int (x2 + (1 : Int32))), (5, .int (1 : Int32)), (4, .ref a9), (3, .ref a3), (0, .ref 8), (1, .int x1)]) 5 dX11_firstOfBlood_70 rfl rfl (by decide) rfl ?_
              refine z_goto (pc := 73) (tgt := 2) dX11_firstOfBlood_73 (by decide) ?_
              refine z_lv (lv' := [(0, .ref 8), (1, .int x1), (2, .int (x2 + (1 : Int32)))]) [4, 5, 0] rfl ?_
              exact ih x1 (x2 + (1 : Int32))
          · refine z_aload (pc := 35) 0 dX11_firstOfBlood_35 rfl ?_
            refine z_ifnull (pc := 37) dX11_firstOfBlood_37 ?_
            refine z_aload (pc := 40) 0 dX11_firstOfBlood_40 rfl ?_
            refine z_guard (fun g15 => ?_)
            refine z_getIp (pc := 42) [2, 3, 5, 6, 7, 9] dX11_firstOfBlood_42 g15 (by decide) fr_RX11_154_p235679 ?_
            refine z_iload_n (pc := 45) 3 dX11_firstOfBlood_45 rfl rfl ?_
            refine z_ic_ne (pc := 46) (tgt := 53) dX11_firstOfBlood_46 (by decide) (fun h16 => ?_) (fun h16 => ?_)
            · refine z_iconst (pc := 49) (v := (1 : Int32)) dX11_firstOfBlood_49 (by decide) ?_
              refine z_goto (pc := 50) (tgt := 54) dX11_firstOfBlood_50 (by decide) ?_
              refine z_istore (pc := 54) (lv' := [(5, .int (1 : Int32)), (4, .ref a9), (3, .ref a3), (0, .ref 8), (1, .int x1), (2, .int x2)]) dX11_firstOfBlood_54 (by decide) rfl ?_
              refine z_iload (pc := 56) 0 dX11_firstOfBlood_56 rfl ?_
              refine z_if_eq_f (pc := 58) (tgt := 70) dX11_firstOfBlood_58 (by decide) (by decide) ?_
              refine z_aload_n (pc := 61) 2 dX11_firstOfBlood_61 rfl rfl ?_
              refine z_getIp (pc := 62) [2, 3, 5, 6, 7, 9] dX11_firstOfBlood_62 g5 (by decide) fr_RX11_135_p235679 ?_
              refine z_if_ne (pc := 65) (tgt := 70) dX11_firstOfBlood_65 (by decide) (fun h17 => ?_) (fun h17 => ?_)
              · refine z_iload_n (pc := 68) 5 dX11_firstOfBlood_68 rfl rfl ?_
                exact z_rI dX11_firstOfBlood_69 rfl ⟨by decide, by decide⟩
              · refine z_iinc (pc := 70) (v := x2 + (1 : Int32)) (lv' := [(2, .int (x2 + (1 : Int32))), (5, .int (1 : Int32)), (4, .ref a9), (3, .ref a3), (0, .ref 8), (1, .int x1)]) 5 dX11_firstOfBlood_70 rfl rfl (by decide) rfl ?_
                refine z_goto (pc := 73) (tgt := 2) dX11_firstOfBlood_73 (by decide) ?_
                refine z_lv (lv' := [(0, .ref 8), (1, .int x1), (2, .int (x2 + (1 : Int32)))]) [4, 5, 0] rfl ?_
                exact ih x1 (x2 + (1 : Int32))
            · refine z_iconst (pc := 53) (v := (0 : Int32)) dX11_firstOfBlood_53 (by decide) ?_
              refine z_istore (pc := 54) (lv' := [(5, .int (0 : Int32)), (4, .ref a9), (3, .ref a3), (0, .ref 8), (1, .int x1), (2, .int x2)]) dX11_firstOfBlood_54 (by decide) rfl ?_
              refine z_iload (pc := 56) 0 dX11_firstOfBlood_56 rfl ?_
              refine z_if_eq_t (pc := 58) (tgt := 70) dX11_firstOfBlood_58 (by decide) (by decide) ?_
              refine z_iinc (pc := 70) (v := x2 + (1 : Int32)) (lv' := [(2, .int (x2 + (1 : Int32))), (5, .int (0 : Int32)), (4, .ref a9), (3, .ref a3), (0, .ref 8), (1, .int x1)]) 5 dX11_firstOfBlood_70 rfl rfl (by decide) rfl ?_
              refine z_goto (pc := 73) (tgt := 2) dX11_firstOfBlood_73 (by decide) ?_
              refine z_lv (lv' := [(0, .ref 8), (1, .int x1), (2, .int (x2 + (1 : Int32)))]) [4, 5, 0] rfl ?_
              exact ih x1 (x2 + (1 : Int32))
def f11_firstOfBlood (N : Nat) (σ : am_S) (x1 : Int32) : Option Int32 := f11_firstOfBlood_L2 σ N N x1 (0 : Int32)
theorem c11_firstOfBlood {l : Launch} {E : am_E} {N : Nat} {σ : am_S} {x1 : Int32} {v : Int32} (hf : f11_firstOfBlood N σ x1 = some v) : Ctr l E msC YX11_firstOfBlood (1) 0 0 [.ref 8, .int x1] σ (some (.int v)) σ := by
  refine ctr_of (G := fun u r s => r = some (.int u) ∧ s = σ) (by decide +kernel) (Nat.le_of_ble_eq_true rfl) hf ⟨rfl, rfl⟩ (fun d hd => ?_)
  refine z_eqlv (lv' := [(0, .ref 8), (1, .int x1)]) rfl ?_
  unfold f11_firstOfBlood
  refine z_iconst (pc := 0) (v := (0 : Int32)) dX11_firstOfBlood_0 (by decide) ?_
  refine z_istore_n (pc := 1) (lv' := [(2, .int (0 : Int32)), (0, .ref 8), (1, .int x1)]) dX11_firstOfBlood_1 rfl (by decide) rfl ?_
  refine z_lv (lv' := [(0, .ref 8), (1, .int x1), (2, .int (0 : Int32))]) [1, 2, 0] rfl ?_
  exact z11_firstOfBlood_L2 hd N x1 (0 : Int32)
def f11_oneOf (σ : am_S) (x1 : Int32) : Option (Option Nat) := if 0 ≤ x1 then ((f11_rowerAt σ (x1 / (20 : Int32))).bind fun v2 => (v2.elim (some none) (fun a5 => some (some a5)))) else (some none)
theorem c11_oneOf {l : Launch} {E : am_E} {σ : am_S} {x1 : Int32} {v : Option Nat} (hf : f11_oneOf σ x1 = some v) : Ctr l E msC YX11_oneOf (1) 0 0 [.ref 8, .int x1] σ (some (va_rf v)) σ := by
  refine ctr_of (G := fun u r s => r = some (va_rf u) ∧ s = σ) (by decide +kernel) (Nat.le_of_ble_eq_true rfl) hf ⟨rfl, rfl⟩ (fun d hd => ?_)
  refine z_eqlv (lv' := [(0, .ref 8), (1, .int x1)]) rfl ?_
  unfold f11_oneOf
  refine z_iload_n (pc := 0) 1 dX11_oneOf_0 rfl rfl ?_
  refine z_if_ge (pc := 1) (tgt := 8) dX11_oneOf_1 (by decide) (fun h1 => ?_) (fun h1 => ?_)
  · refine z_aload_n (pc := 8) 0 dX11_oneOf_8 rfl rfl ?_
    refine z_iload_n (pc := 9) 1 dX11_oneOf_9 rfl rfl ?_
    refine z_bipush (pc := 10) (v := (20 : Int32)) dX11_oneOf_10 (by decide) ?_
    refine z_idiv (pc := 12) dX11_oneOf_12 (by decide) ?_
    refine z_callR (pc := 13) [.ref 8, .int (x1 / (20 : Int32))] [] rfl (lk_V (Yc := YX11_rowerAt) (n := 1) dX11_oneOf_13 rfl rfl (am_ob.s kC8) rfl rfl np_X11_rowerAt mh_RX11 (by decide) ml_RX11_106 im_X11_rowerAt se_RX11_X11_rowerAt_X11_rowerAt in_RX11 cd_X11_rowerAt) (Nat.le_trans (by decide) hd) ⟨by decide, by decide⟩ (Nat.le_of_ble_eq_true rfl) (am_kp.rf _) (fun v2 h4 => c11_rowerAt h4) (fun v2 h4 => ?_)
    refine z_elim (fun e6 => ?_) (fun a5 e6 => ?_)
    · exact z_rRN dX11_oneOf_16 rfl ⟨by decide, by decide⟩
    · exact z_rR dX11_oneOf_16 rfl ⟨by decide, by decide⟩
  · refine z_null (pc := 4) dX11_oneOf_4 ?_
    refine z_goto (pc := 5) (tgt := 16) dX11_oneOf_5 (by decide) ?_
    exact z_rRN dX11_oneOf_16 rfl ⟨by decide, by decide⟩
def f11_otherOf (σ : am_S) (x1 : Int32) : Option (Option Nat) := if 0 ≤ x1 then ((f11_rowerAt σ (x1 - x1 / (20 : Int32) * (20 : Int32))).bind fun v2 => (v2.elim (some none) (fun a5 => some (some a5)))) else (some none)
theorem c11_otherOf {l : Launch} {E : am_E} {σ : am_S} {x1 : Int32} {v : Option Nat} (hf : f11_otherOf σ x1 = some v) : Ctr l E msC YX11_otherOf (1) 0 0 [.ref 8, .int x1] σ (some (va_rf v)) σ := by
  refine ctr_of (G := fun u r s => r = some (va_rf u) ∧ s = σ) (by decide +kernel) (Nat.le_of_ble_eq_true rfl) hf ⟨rfl, rfl⟩ (fun d hd => ?_)
  refine z_eqlv (lv' := [(0, .ref 8), (1, .int x1)]) rfl ?_
  unfold f11_otherOf
  refine z_iload_n (pc := 0) 1 dX11_otherOf_0 rfl rfl ?_
  refine z_if_ge (pc := 1) (tgt := 8) dX11_otherOf_1 (by decide) (fun h1 => ?_) (fun h1 => ?_)
  · refine z_aload_n (pc := 8) 0 dX11_otherOf_8 rfl rfl ?_
    refine z_iload_n (pc := 9) 1 dX11_otherOf_9 rfl rfl ?_
    refine z_bipush (pc := 10) (v := (20 : Int32)) dX11_otherOf_10 (by decide) ?_
    refine z_irem (pc := 12) dX11_otherOf_12 (by decide) ?_
    refine z_callR (pc := 13) [.ref 8, .int (x1 - x1 / (20 : Int32) * (20 : Int32))] [] rfl (lk_V (Yc := YX11_rowerAt) (n := 1) dX11_otherOf_13 rfl rfl (am_ob.s kC8) rfl rfl np_X11_rowerAt mh_RX11 (by decide) ml_RX11_106 im_X11_rowerAt se_RX11_X11_rowerAt_X11_rowerAt in_RX11 cd_X11_rowerAt) (Nat.le_trans (by decide) hd) ⟨by decide, by decide⟩ (Nat.le_of_ble_eq_true rfl) (am_kp.rf _) (fun v2 h4 => c11_rowerAt h4) (fun v2 h4 => ?_)
    refine z_elim (fun e6 => ?_) (fun a5 e6 => ?_)
    · exact z_rRN dX11_otherOf_16 rfl ⟨by decide, by decide⟩
    · exact z_rR dX11_otherOf_16 rfl ⟨by decide, by decide⟩
  · refine z_null (pc := 4) dX11_otherOf_4 ?_
    refine z_goto (pc := 5) (tgt := 16) dX11_otherOf_5 (by decide) ?_
    exact z_rRN dX11_otherOf_16 rfl ⟨by decide, by decide⟩
def f11_oneMore (σ : am_S) (x1 : Int32) : Option am_S := (f11_oneOf σ x1).bind fun v1 => (v1.elim ((f11_otherOf σ x1).bind fun v6 => (v6.elim (some (σ)) (fun a9 => some (σ)))) (fun a4 => (f11_otherOf σ x1).bind fun v11 => (v11.elim (some (σ)) (fun a14 => if [2, 3, 5, 6, 7, 9].contains (am_ci σ a4) = true then (if [2, 3, 5, 6, 7, 9].contains (am_ci (sF σ a4 6 ((fF σ a4 6) + (1 : Int32))) a14) = true then (some (sF (sF σ a4 6 ((fF σ a4 6) + (1 : Int32))) a14 6 ((fF (sF σ a4 6 ((fF σ a4 6) + (1 : Int32))) a14 6) + (1 : Int32)))) else none) else none))))
theorem c11_oneMore {l : Launch} {E : am_E} {σ : am_S} {x1 : Int32} {σ1 : am_S} (hf : f11_oneMore σ x1 = some σ1) : Ctr l E msC YX11_oneMore (2) 0 0 [.ref 8, .int x1] σ none σ1 := by
  refine ctr_of (G := fun u r s => r = none ∧ s = u) (by decide +kernel) (Nat.le_of_ble_eq_true rfl) hf ⟨rfl, rfl⟩ (fun d hd => ?_)
  refine z_eqlv (lv' := [(0, .ref 8), (1, .int x1)]) rfl ?_
  unfold f11_oneMore
  refine z_aload_n (pc := 0) 0 dX11_oneMore_0 rfl rfl ?_
  refine z_iload_n (pc := 1) 1 dX11_oneMore_1 rfl rfl ?_
  refine z_callR (pc := 2) [.ref 8, .int x1] [] rfl (lk_V (Yc := YX11_oneOf) (n := 1) dX11_oneMore_2 rfl rfl (am_ob.s kC8) rfl rfl np_X11_oneOf mh_RX11 (by decide) ml_RX11_183 im_X11_oneOf se_RX11_X11_oneOf_X11_oneOf in_RX11 cd_X11_oneOf) (Nat.le_trans (by decide) hd) ⟨by decide, by decide⟩ (Nat.le_of_ble_eq_true rfl) (am_kp.rf _) (fun v1 h3 => c11_oneOf h3) (fun v1 h3 => ?_)
  refine z_elim (fun e5 => ?_) (fun a4 e5 => ?_)
  · refine z_astore_nN (pc := 5) (lv' := [(2, .null), (0, .ref 8), (1, .int x1)]) dX11_oneMore_5 rfl (by decide) rfl ?_
    refine z_aload_n (pc := 6) 1 dX11_oneMore_6 rfl rfl ?_
    refine z_iload_n (pc := 7) 2 dX11_oneMore_7 rfl rfl ?_
    refine z_callR (pc := 8) [.ref 8, .int x1] [] rfl (lk_V (Yc := YX11_otherOf) (n := 1) dX11_oneMore_8 rfl rfl (am_ob.s kC8) rfl rfl np_X11_otherOf mh_RX11 (by decide) ml_RX11_186 im_X11_otherOf se_RX11_X11_otherOf_X11_otherOf in_RX11 cd_X11_otherOf) (Nat.le_trans (by decide) hd) ⟨by decide, by decide⟩ (Nat.le_of_ble_eq_true rfl) (am_kp.rf _) (fun v6 h8 => c11_otherOf h8) (fun v6 h8 => ?_)
    refine z_elim (fun e10 => ?_) (fun a9 e10 => ?_)
    · refine z_astore_nN (pc := 11) (lv' := [(3, .null), (2, .null), (0, .ref 8), (1, .int x1)]) dX11_oneMore_11 rfl (by decide) rfl ?_
      refine z_aload_nN (pc := 12) 1 dX11_oneMore_12 rfl rfl ?_
      refine z_ifnullN (pc := 13) (tgt := 40) dX11_oneMore_13 (by decide) ?_
      exact z_rVs dX11_oneMore_40 rfl ⟨by decide, by decide⟩
    · refine z_astore_n (pc := 11) (lv' := [(3, .ref a9), (2, .null), (0, .ref 8), (1, .int x1)]) dX11_oneMore_11 rfl (by decide) rfl ?_
      refine z_aload_nN (pc := 12) 1 dX11_oneMore_12 rfl rfl ?_
      refine z_ifnullN (pc := 13) (tgt := 40) dX11_oneMore_13 (by decide) ?_
      exact z_rVs dX11_oneMore_40 rfl ⟨by decide, by decide⟩
  · refine z_astore_n (pc := 5) (lv' := [(2, .ref a4), (0, .ref 8), (1, .int x1)]) dX11_oneMore_5 rfl (by decide) rfl ?_
    refine z_aload_n (pc := 6) 1 dX11_oneMore_6 rfl rfl ?_
    refine z_iload_n (pc := 7) 2 dX11_oneMore_7 rfl rfl ?_
    refine z_callR (pc := 8) [.ref 8, .int x1] [] rfl (lk_V (Yc := YX11_otherOf) (n := 1) dX11_oneMore_8 rfl rfl (am_ob.s kC8) rfl rfl np_X11_otherOf mh_RX11 (by decide) ml_RX11_186 im_X11_otherOf se_RX11_X11_otherOf_X11_otherOf in_RX11 cd_X11_otherOf) (Nat.le_trans (by decide) hd) ⟨by decide, by decide⟩ (Nat.le_of_ble_eq_true rfl) (am_kp.rf _) (fun v11 h13 => c11_otherOf h13) (fun v11 h13 => ?_)
    refine z_elim (fun e15 => ?_) (fun a14 e15 => ?_)
    · refine z_astore_nN (pc := 11) (lv' := [(3, .null), (2, .ref a4), (0, .ref 8), (1, .int x1)]) dX11_oneMore_11 rfl (by decide) rfl ?_
      refine z_aload_n (pc := 12) 1 dX11_oneMore_12 rfl rfl ?_
      refine z_ifnull (pc := 13) dX11_oneMore_13 ?_
      refine z_aload_nN (pc := 16) 0 dX11_oneMore_16 rfl rfl ?_
      refine z_ifnullN (pc := 17) (tgt := 40) dX11_oneMore_17 (by decide) ?_
      exact z_rVs dX11_oneMore_40 rfl ⟨by decide, by decide⟩
    · refine z_astore_n (pc := 11) (lv' := [(3, .ref a14), (2, .ref a4), (0, .ref 8), (1, .int x1)]) dX11_oneMore_11 rfl (by decide) rfl ?_
      refine z_aload_n (pc := 12) 1 dX11_oneMore_12 rfl rfl ?_
      refine z_ifnull (pc := 13) dX11_oneMore_13 ?_
      refine z_aload_n (pc := 16) 0 dX11_oneMore_16 rfl rfl ?_
      refine z_ifnull (pc := 17) dX11_oneMore_17 ?_
      refine z_aload_n (pc := 20) 1 dX11_oneMore_20 rfl rfl ?_
      refine z_dup (pc := 21) dX11_oneMore_21 rfl ?_
      refine z_guard (fun g16 => ?_)
      refine z_getIp (pc := 22) [2, 3, 5, 6, 7, 9] dX11_oneMore_22 g16 (by decide) fr_RX11_157_p235679 ?_
      refine z_iconst (pc := 25) (v := (1 : Int32)) dX11_oneMore_25 (by decide) ?_
      refine z_iadd (pc := 26) dX11_oneMore_26 ?_
      refine z_putIp (pc := 27) [2, 3, 5, 6, 7, 9] dX11_oneMore_27 g16 (by decide) fw_RX11_157_p235679 ?_
      refine z_aload_n (pc := 30) 0 dX11_oneMore_30 rfl rfl ?_
      refine z_dup (pc := 31) dX11_oneMore_31 rfl ?_
      refine z_guard (fun g17 => ?_)
      refine z_getIp (pc := 32) [2, 3, 5, 6, 7, 9] dX11_oneMore_32 g17 (by decide) fr_RX11_157_p235679 ?_
      refine z_iconst (pc := 35) (v := (1 : Int32)) dX11_oneMore_35 (by decide) ?_
      refine z_iadd (pc := 36) dX11_oneMore_36 ?_
      refine z_putIp (pc := 37) [2, 3, 5, 6, 7, 9] dX11_oneMore_37 g17 (by decide) fw_RX11_157_p235679 ?_
      exact z_rVs dX11_oneMore_40 rfl ⟨by decide, by decide⟩
def f11_firstOther_L2 (N : Nat) : Nat → Int32 → Nat → Int32 → am_S → Option (Int32 × am_S)
  | 0, _, _, _, _ => none
  | n + 1, x1, a2, x3, σ => if [8].contains (am_ci σ a2) = true then (if fF σ a2 1 ≤ x3 then (some ((-1 : Int32), σ)) else ((f11_dueTwo N σ x1 ((6 : Int32) + x3)).bind fun (v3, s4) => (if [8].contains (am_ci s4 a2) = true then ((f8_item s4 a2 x3).bind fun v7 => (if v7 = v3 then ((f11_oneMore s4 v3).bind fun s12 => (f11_firstOther_L2 N n x1 a2 (x3 + (1 : Int32)) s12)) else (some ((6 : Int32) + x3, s4)))) else none))) else none
theorem z11_firstOther_L2 {l : Launch} {E : am_E} {d : Nat} {σ0 : am_S} {N : Nat} (hd : 5 ≤ d) : ∀ (n : Nat) (x1 : Int32) (a2 : Nat) (x3 : Int32) (σ : am_S), Z l E msC σ0 YX11_firstOther d 0 0 2 [(0, .ref 8), (1, .int x1), (2, .ref a2), (3, .int x3)] [] 0 0 σ (f11_firstOther_L2 N n x1 a2 x3 σ) (fun u r s => r = some (.int u.1) ∧ s = u.2) := by
  intro n
  induction n with
  | zero => intros; exact z_none
  | succ n ih =>
    intro x1 a2 x3 σ
    unfold f11_firstOther_L2
    refine z_iload_n (pc := 2) 3 dX11_firstOther_2 rfl rfl ?_
    refine z_aload_n (pc := 3) 2 dX11_firstOther_3 rfl rfl ?_
    refine z_guard (fun g1 => ?_)
    refine z_getIp (pc := 4) [8] dX11_firstOther_4 g1 (by decide) fr_RX11_237_p8 ?_
    refine z_ic_ge (pc := 7) (tgt := 48) dX11_firstOther_7 (by decide) (fun h2 => ?_) (fun h2 => ?_)
    · refine z_iconst (pc := 48) (v := (-1 : Int32)) dX11_firstOther_48 (by decide) ?_
      exact z_rIs dX11_firstOther_49 rfl ⟨by decide, by decide⟩
    · refine z_aload_n (pc := 10) 0 dX11_firstOther_10 rfl rfl ?_
      refine z_iload_n (pc := 11) 1 dX11_firstOther_11 rfl rfl ?_
      refine z_bipush (pc := 12) (v := (6 : Int32)) dX11_firstOther_12 (by decide) ?_
      refine z_iload_n (pc := 14) 3 dX11_firstOther_14 rfl rfl ?_
      refine z_iadd (pc := 15) dX11_firstOther_15 ?_
      refine z_callIs (pc := 16) [.ref 8, .int x1, .int ((6 : Int32) + x3)] [] rfl (lk_V (Yc := YX11_dueTwo) (n := 2) dX11_firstOther_16 rfl rfl (am_ob.s kC8) rfl rfl np_X11_dueTwo mh_RX11 (by decide) ml_RX11_227 im_X11_dueTwo se_RX11_X11_dueTwo_X11_dueTwo in_RX11 cd_X11_dueTwo) (Nat.le_trans (by decide) hd) ⟨by decide, by decide⟩ (Nat.le_of_ble_eq_true rfl) (am_kp.rf _) (fun v3 s4 h5 => c11_dueTwo h5) (fun v3 s4 h5 => ?_)
      refine z_istore (pc := 19) (lv' := [(4, .int v3), (0, .ref 8), (1, .int x1), (2, .ref a2), (3, .int x3)]) dX11_firstOther_19 (by decide) rfl ?_
      refine z_aload_n (pc := 21) 3 dX11_firstOther_21 rfl rfl ?_
      refine z_iload_n (pc := 22) 4 dX11_firstOther_22 rfl rfl ?_
      refine z_guard (fun g6 => ?_)
      refine z_callI (pc := 23) [.ref a2, .int x3] [] rfl (lk_V (Yc := YX8_item) (n := 1) dX11_firstOther_23 rfl rfl (am_ob.d (am_c1 g6) (by decide)) rfl rfl np_X8_item mh_RX8 (by decide) ml_RX11_244 im_X8_item se_RX8_X8_item_X8_item in_RX8 cd_X8_item) (Nat.le_trans (by decide) hd) ⟨by decide, by decide⟩ (Nat.le_of_ble_eq_true rfl) (am_kp.rf _) (fun v7 h9 => c8_item h9) (fun v7 h9 => ?_)
      refine z_iload (pc := 26) 0 dX11_firstOther_26 rfl ?_
      refine z_ic_eq (pc := 28) (tgt := 36) dX11_firstOther_28 (by decide) (fun h10 => ?_) (fun h10 => ?_)
      · refine z_aload_n (pc := 36) 1 dX11_firstOther_36 rfl rfl ?_
        refine z_iload (pc := 37) 0 dX11_firstOther_37 rfl ?_
        refine z_callVs (pc := 39) [.ref 8, .int v3] [] rfl (lk_V (Yc := YX11_oneMore) (n := 1) dX11_firstOther_39 rfl rfl (am_ob.s kC8) rfl rfl np_X11_oneMore mh_RX11 (by decide) ml_RX11_233 im_X11_oneMore se_RX11_X11_oneMore_X11_oneMore in_RX11 cd_X11_oneMore) (Nat.le_trans (by decide) hd) ⟨by decide, by decide⟩ (Nat.le_of_ble_eq_true rfl) (am_kp.rf _) (fun s12 h13 => c11_oneMore h13) (fun s12 h13 => ?_)
        refine z_iinc (pc := 42) (v := x3 + (1 : Int32)) (lv' := [(3, .int (x3 + (1 : Int32))), (4, .int v3), (0, .ref 8), (1, .int x1), (2, .ref a2)]) 4 dX11_firstOther_42 rfl rfl (by decide) rfl ?_
        refine z_goto (pc := 45) (tgt := 2) dX11_firstOther_45 (by decide) ?_
        refine z_lv (lv' := [(0, .ref 8), (1, .int x1), (2, .ref a2), (3, .int (x3 + (1 : Int32)))]) [2, 3, 4, 0] rfl ?_
        exact ih x1 a2 (x3 + (1 : Int32)) s12
      · refine z_bipush (pc := 31) (v := (6 : Int32)) dX11_firstOther_31 (by decide) ?_
        refine z_iload_n (pc := 33) 4 dX11_firstOther_33 rfl rfl ?_
        refine z_iadd (pc := 34) dX11_firstOther_34 ?_
        exact z_rIs dX11_firstOther_35 rfl ⟨by decide, by decide⟩
def f11_firstOther (N : Nat) (σ : am_S) (x1 : Int32) (a2 : Nat) : Option (Int32 × am_S) := f11_firstOther_L2 N N x1 a2 (0 : Int32) σ
theorem c11_firstOther {l : Launch} {E : am_E} {N : Nat} {σ : am_S} {x1 : Int32} {a2 : Nat} {v : Int32} {σ1 : am_S} (hf : f11_firstOther N σ x1 a2 = some (v, σ1)) : Ctr l E msC YX11_firstOther (5) 0 0 [.ref 8, .int x1, .ref a2] σ (some (.int v)) σ1 := by
  refine ctr_of (G := fun u r s => r = some (.int u.1) ∧ s = u.2) (by decide +kernel) (Nat.le_of_ble_eq_true rfl) hf ⟨rfl, rfl⟩ (fun d hd => ?_)
  refine z_eqlv (lv' := [(0, .ref 8), (1, .int x1), (2, .ref a2)]) rfl ?_
  unfold f11_firstOther
  refine z_iconst (pc := 0) (v := (0 : Int32)) dX11_firstOther_0 (by decide) ?_
  refine z_istore_n (pc := 1) (lv' := [(3, .int (0 : Int32)), (0, .ref 8), (1, .int x1), (2, .ref a2)]) dX11_firstOther_1 rfl (by decide) rfl ?_
  refine z_lv (lv' := [(0, .ref 8), (1, .int x1), (2, .ref a2), (3, .int (0 : Int32))]) [1, 2, 3, 0] rfl ?_
  exact z11_firstOther_L2 hd N x1 a2 (0 : Int32) σ
def f11_isABoat (x0 : Int32) : Option Bool := (f11_within x0 (0 : Int32) (639 : Int32)).bind fun v1 => (if v1 = true then (if (2 : Int32) < x0 - x0 / (10 : Int32) * (10 : Int32) then (some (false)) else (some (true))) else (some (false)))
theorem c11_isABoat {l : Launch} {E : am_E} {σ : am_S} {x0 : Int32} {v : Bool} (hf : f11_isABoat x0 = some v) : Ctr l E msC YX11_isABoat (1) 0 0 [.int x0] σ (some (.int (bI v))) σ := by
  refine ctr_of (G := fun u r s => r = some (.int (bI u)) ∧ s = σ) (by decide +kernel) (Nat.le_of_ble_eq_true rfl) hf ⟨rfl, rfl⟩ (fun d hd => ?_)
  refine z_eqlv (lv' := [(0, .int x0)]) rfl ?_
  unfold f11_isABoat
  refine z_iload_n (pc := 0) 0 dX11_isABoat_0 rfl rfl ?_
  refine z_iconst (pc := 1) (v := (0 : Int32)) dX11_isABoat_1 (by decide) ?_
  refine z_sipush (pc := 2) (v := (639 : Int32)) dX11_isABoat_2 (by decide) ?_
  refine z_callB (pc := 5) [.int x0, .int (0 : Int32), .int (639 : Int32)] [] rfl (lk_S (Yc := YX11_within) (n := 3) dX11_isABoat_5 rfl np_X11_within mh_RX11 (by decide) ml_RX11_66 st_X11_within in_RX11 cd_X11_within) (Nat.le_trans (by decide) hd) ⟨by decide, by decide⟩ (Nat.le_of_ble_eq_true rfl) (am_kp.rf _) (fun v1 h3 => c11_within h3) (fun v1 h3 => ?_)
  refine z_bz_eq (pc := 8) (tgt := 23) dX11_isABoat_8 (by decide) (fun h4 => ?_) (fun h4 => ?_)
  · refine z_iload_n (pc := 11) 0 dX11_isABoat_11 rfl rfl ?_
    refine z_bipush (pc := 12) (v := (10 : Int32)) dX11_isABoat_12 (by decide) ?_
    refine z_irem (pc := 14) dX11_isABoat_14 (by decide) ?_
    refine z_iconst (pc := 15) (v := (2 : Int32)) dX11_isABoat_15 (by decide) ?_
    refine z_ic_gt (pc := 16) (tgt := 23) dX11_isABoat_16 (by decide) (fun h5 => ?_) (fun h5 => ?_)
    · refine z_iconst (pc := 23) (v := (0 : Int32)) dX11_isABoat_23 (by decide) ?_
      exact z_rB (b := false) rfl dX11_isABoat_24 rfl ⟨by decide, by decide⟩
    · refine z_iconst (pc := 19) (v := (1 : Int32)) dX11_isABoat_19 (by decide) ?_
      refine z_goto (pc := 20) (tgt := 24) dX11_isABoat_20 (by decide) ?_
      exact z_rB (b := true) rfl dX11_isABoat_24 rfl ⟨by decide, by decide⟩
  · refine z_iconst (pc := 23) (v := (0 : Int32)) dX11_isABoat_23 (by decide) ?_
    exact z_rB (b := false) rfl dX11_isABoat_24 rfl ⟨by decide, by decide⟩
def f11_turnedAbout (x0 : Int32) (x1 : Int32) : Option Int32 := (f11_within (x0 + x1) (0 : Int32) (63 : Int32)).bind fun v1 => (if v1 = true then (some (x1)) else (some (-x1)))
theorem c11_turnedAbout {l : Launch} {E : am_E} {σ : am_S} {x0 : Int32} {x1 : Int32} {v : Int32} (hf : f11_turnedAbout x0 x1 = some v) : Ctr l E msC YX11_turnedAbout (1) 0 0 [.int x0, .int x1] σ (some (.int v)) σ := by
  refine ctr_of (G := fun u r s => r = some (.int u) ∧ s = σ) (by decide +kernel) (Nat.le_of_ble_eq_true rfl) hf ⟨rfl, rfl⟩ (fun d hd => ?_)
  refine z_eqlv (lv' := [(0, .int x0), (1, .int x1)]) rfl ?_
  unfold f11_turnedAbout
  refine z_iload_n (pc := 0) 0 dX11_turnedAbout_0 rfl rfl ?_
  refine z_iload_n (pc := 1) 1 dX11_turnedAbout_1 rfl rfl ?_
  refine z_iadd (pc := 2) dX11_turnedAbout_2 ?_
  refine z_iconst (pc := 3) (v := (0 : Int32)) dX11_turnedAbout_3 (by decide) ?_
  refine z_bipush (pc := 4) (v := (63 : Int32)) dX11_turnedAbout_4 (by decide) ?_
  refine z_callB (pc := 6) [.int (x0 + x1), .int (0 : Int32), .int (63 : Int32)] [] rfl (lk_S (Yc := YX11_within) (n := 3) dX11_turnedAbout_6 rfl np_X11_within mh_RX11 (by decide) ml_RX11_66 st_X11_within in_RX11 cd_X11_within) (Nat.le_trans (by decide) hd) ⟨by decide, by decide⟩ (Nat.le_of_ble_eq_true rfl) (am_kp.rf _) (fun v1 h3 => c11_within h3) (fun v1 h3 => ?_)
  refine z_bz_eq (pc := 9) (tgt := 16) dX11_turnedAbout_9 (by decide) (fun h4 => ?_) (fun h4 => ?_)
  · refine z_iload_n (pc := 12) 1 dX11_turnedAbout_12 rfl rfl ?_
    refine z_goto (pc := 13) (tgt := 18) dX11_turnedAbout_13 (by decide) ?_
    exact z_rI dX11_turnedAbout_18 rfl ⟨by decide, by decide⟩
  · refine z_iload_n (pc := 16) 1 dX11_turnedAbout_16 rfl rfl ?_
    refine z_ineg (pc := 17) dX11_turnedAbout_17 ?_
    exact z_rI dX11_turnedAbout_18 rfl ⟨by decide, by decide⟩
def f11_fog_J247 (N : Nat) (x4 : Int32) (x11 : Int32) (x12 : Int32) (x13 : Int32) : Option Int32 := if x4 = 0 then (some (x11)) else (if x4 = (1 : Int32) then (some (x12)) else (if x13 = 0 then (some ((0 : Int32))) else (some ((1 : Int32)))))
theorem z11_fog_J247 {l : Launch} {E : am_E} {d : Nat} {σ : am_S} {N : Nat} (hd : 2 ≤ d) (x4 : Int32) (x11 : Int32) (x12 : Int32) (x13 : Int32) : Z l E msC σ YX11_fog d 0 0 247 [(4, .int x4), (11, .int x11), (12, .int x12), (13, .int x13)] [] 0 0 σ (f11_fog_J247 N x4 x11 x12 x13) (fun u r s => r = some (.int u) ∧ s = σ) := by
  unfold f11_fog_J247
  refine z_iload (pc := 247) 0 dX11_fog_247 rfl ?_
  refine z_if_ne (pc := 249) (tgt := 257) dX11_fog_249 (by decide) (fun h19 => ?_) (fun h19 => ?_)
  · refine z_iload (pc := 252) 1 dX11_fog_252 rfl ?_
    refine z_goto (pc := 254) (tgt := 278) dX11_fog_254 (by decide) ?_
    exact z_rI dX11_fog_278 rfl ⟨by decide, by decide⟩
  · refine z_iload (pc := 257) 0 dX11_fog_257 rfl ?_
    refine z_iconst (pc := 259) (v := (1 : Int32)) dX11_fog_259 (by decide) ?_
    refine z_ic_ne (pc := 260) (tgt := 268) dX11_fog_260 (by decide) (fun h20 => ?_) (fun h20 => ?_)
    · refine z_iload (pc := 263) 2 dX11_fog_263 rfl ?_
      refine z_goto (pc := 265) (tgt := 278) dX11_fog_265 (by decide) ?_
      exact z_rI dX11_fog_278 rfl ⟨by decide, by decide⟩
    · refine z_iload (pc := 268) 3 dX11_fog_268 rfl ?_
      refine z_if_eq (pc := 270) (tgt := 277) dX11_fog_270 (by decide) (fun h21 => ?_) (fun h21 => ?_)
      · refine z_iconst (pc := 277) (v := (0 : Int32)) dX11_fog_277 (by decide) ?_
        exact z_rI dX11_fog_278 rfl ⟨by decide, by decide⟩
      · refine z_iconst (pc := 273) (v := (1 : Int32)) dX11_fog_273 (by decide) ?_
        refine z_goto (pc := 274) (tgt := 278) dX11_fog_274 (by decide) ?_
        exact z_rI dX11_fog_278 rfl ⟨by decide, by decide⟩
def f11_fog_J160 (k110 : Int32 → Int32 → Int32 → Int32 → Int32 → Int32 → Int32 → Int32 → Int32 → Int32 → Int32 → Option Int32) (N : Nat) (x4 : Int32) (x5 : Int32) (x6 : Int32) (x7 : Int32) (x8 : Int32) (x9 : Int32) (x10 : Int32) (x11 : Int32) (x12 : Int32) (x13 : Int32) (x14 : Int32) (s0 : Int32) : Option Int32 := if x13 = 0 then (if s0 = 0 then (if (if 0 ≤ ((x7 + x8) - (x9 + x10)) then ((x7 + x8) - (x9 + x10)) else 0 - ((x7 + x8) - (x9 + x10))) = 0 then (if x11 ≤ (if 0 ≤ ((x7 + x8) - (x9 + x10)) then ((x7 + x8) - (x9 + x10)) else 0 - ((x7 + x8) - (x9 + x10))) then (if x5 = 0 then none else (if x14 - x14 / x5 * x5 = 0 then (if x6 < (if 0 ≤ ((x7 + x8) - (x9 + x10)) then ((x7 + x8) - (x9 + x10)) else 0 - ((x7 + x8) - (x9 + x10))) then (k110 x4 x5 x6 (x7 + x8) x8 (x9 + x10) x10 x11 x12 (1 : Int32) (x14 + (1 : Int32))) else (k110 x4 x5 x6 (x7 + x8) x8 (x9 + x10) (0 : Int32) x11 x12 (1 : Int32) (x14 + (1 : Int32)))) else (k110 x4 x5 x6 (x7 + x8) x8 (x9 + x10) x10 x11 x12 (1 : Int32) (x14 + (1 : Int32))))) else (if x5 = 0 then none else (if x14 - x14 / x5 * x5 = 0 then (if x6 < (if 0 ≤ ((x7 + x8) - (x9 + x10)) then ((x7 + x8) - (x9 + x10)) else 0 - ((x7 + x8) - (x9 + x10))) then (k110 x4 x5 x6 (x7 + x8) x8 (x9 + x10) x10 (if 0 ≤ ((x7 + x8) - (x9 + x10)) then ((x7 + x8) - (x9 + x10)) else 0 - ((x7 + x8) - (x9 + x10))) x14 (1 : Int32) (x14 + (1 : Int32))) else (k110 x4 x5 x6 (x7 + x8) x8 (x9 + x10) (0 : Int32) (if 0 ≤ ((x7 + x8) - (x9 + x10)) then ((x7 + x8) - (x9 + x10)) else 0 - ((x7 + x8) - (x9 + x10))) x14 (1 : Int32) (x14 + (1 : Int32)))) else (k110 x4 x5 x6 (x7 + x8) x8 (x9 + x10) x10 (if 0 ≤ ((x7 + x8) - (x9 + x10)) then ((x7 + x8) - (x9 + x10)) else 0 - ((x7 + x8) - (x9 + x10))) x14 (1 : Int32) (x14 + (1 : Int32)))))) else (if x11 ≤ (if 0 ≤ ((x7 + x8) - (x9 + x10)) then ((x7 + x8) - (x9 + x10)) else 0 - ((x7 + x8) - (x9 + x10))) then (if x5 = 0 then none else (if x14 - x14 / x5 * x5 = 0 then (if x6 < (if 0 ≤ ((x7 + x8) - (x9 + x10)) then ((x7 + x8) - (x9 + x10)) else 0 - ((x7 + x8) - (x9 + x10))) then (k110 x4 x5 x6 (x7 + x8) x8 (x9 + x10) x10 x11 x12 (0 : Int32) (x14 + (1 : Int32))) else (k110 x4 x5 x6 (x7 + x8) x8 (x9 + x10) (0 : Int32) x11 x12 (0 : Int32) (x14 + (1 : Int32)))) else (k110 x4 x5 x6 (x7 + x8) x8 (x9 + x10) x10 x11 x12 (0 : Int32) (x14 + (1 : Int32))))) else (if x5 = 0 then none else (if x14 - x14 / x5 * x5 = 0 then (if x6 < (if 0 ≤ ((x7 + x8) - (x9 + x10)) then ((x7 + x8) - (x9 + x10)) else 0 - ((x7 + x8) - (x9 + x10))) then (k110 x4 x5 x6 (x7 + x8) x8 (x9 + x10) x10 (if 0 ≤ ((x7 + x8) - (x9 + x10)) then ((x7 + x8) - (x9 + x10)) else 0 - ((x7 + x8) - (x9 + x10))) x14 (0 : Int32) (x14 + (1 : Int32))) else (k110 x4 x5 x6 (x7 + x8) x8 (x9 + x10) (0 : Int32) (if 0 ≤ ((x7 + x8) - (x9 + x10)) then ((x7 + x8) - (x9 + x10)) else 0 - ((x7 + x8) - (x9 + x10))) x14 (0 : Int32) (x14 + (1 : Int32)))) else (k110 x4 x5 x6 (x7 + x8) x8 (x9 + x10) x10 (if 0 ≤ ((x7 + x8) - (x9 + x10)) then ((x7 + x8) - (x9 + x10)) else 0 - ((x7 + x8) - (x9 + x10))) x14 (0 : Int32) (x14 + (1 : Int32))))))) else (if x11 ≤ (if 0 ≤ ((x7 + x8) - (x9 + x10)) then ((x7 + x8) - (x9 + x10)) else 0 - ((x7 + x8) - (x9 + x10))) then (if x5 = 0 then none else (if x14 - x14 / x5 * x5 = 0 then (if x6 < (if 0 ≤ ((x7 + x8) - (x9 + x10)) then ((x7 + x8) - (x9 + x10)) else 0 - ((x7 + x8) - (x9 + x10))) then (k110 x4 x5 x6 (x7 + x8) x8 (x9 + x10) x10 x11 x12 (1 : Int32) (x14 + (1 : Int32))) else (k110 x4 x5 x6 (x7 + x8) x8 (x9 + x10) (0 : Int32) x11 x12 (1 : Int32) (x14 + (1 : Int32)))) else (k110 x4 x5 x6 (x7 + x8) x8 (x9 + x10) x10 x11 x12 (1 : Int32) (x14 + (1 : Int32))))) else (if x5 = 0 then none else (if x14 - x14 / x5 * x5 = 0 then (if x6 < (if 0 ≤ ((x7 + x8) - (x9 + x10)) then ((x7 + x8) - (x9 + x10)) else 0 - ((x7 + x8) - (x9 + x10))) then (k110 x4 x5 x6 (x7 + x8) x8 (x9 + x10) x10 (if 0 ≤ ((x7 + x8) - (x9 + x10)) then ((x7 + x8) - (x9 + x10)) else 0 - ((x7 + x8) - (x9 + x10))) x14 (1 : Int32) (x14 + (1 : Int32))) else (k110 x4 x5 x6 (x7 + x8) x8 (x9 + x10) (0 : Int32) (if 0 ≤ ((x7 + x8) - (x9 + x10)) then ((x7 + x8) - (x9 + x10)) else 0 - ((x7 + x8) - (x9 + x10))) x14 (1 : Int32) (x14 + (1 : Int32)))) else (k110 x4 x5 x6 (x7 + x8) x8 (x9 + x10) x10 (if 0 ≤ ((x7 + x8) - (x9 + x10)) then ((x7 + x8) - (x9 + x10)) else 0 - ((x7 + x8) - (x9 + x10))) x14 (1 : Int32) (x14 + (1 : Int32))))))) else (if x11 ≤ (if 0 ≤ ((x7 + x8) - (x9 + x10)) then ((x7 + x8) - (x9 + x10)) else 0 - ((x7 + x8) - (x9 + x10))) then (if x5 = 0 then none else (if x14 - x14 / x5 * x5 = 0 then (if x6 < (if 0 ≤ ((x7 + x8) - (x9 + x10)) then ((x7 + x8) - (x9 + x10)) else 0 - ((x7 + x8) - (x9 + x10))) then (k110 x4 x5 x6 (x7 + x8) x8 (x9 + x10) x10 x11 x12 (1 : Int32) (x14 + (1 : Int32))) else (k110 x4 x5 x6 (x7 + x8) x8 (x9 + x10) (0 : Int32) x11 x12 (1 : Int32) (x14 + (1 : Int32)))) else (k110 x4 x5 x6 (x7 + x8) x8 (x9 + x10) x10 x11 x12 (1 : Int32) (x14 + (1 : Int32))))) else (if x5 = 0 then none else (if x14 - x14 / x5 * x5 = 0 then (if x6 < (if 0 ≤ ((x7 + x8) - (x9 + x10)) then ((x7 + x8) - (x9 + x10)) else 0 - ((x7 + x8) - (x9 + x10))) then (k110 x4 x5 x6 (x7 + x8) x8 (x9 + x10) x10 (if 0 ≤ ((x7 + x8) - (x9 + x10)) then ((x7 + x8) - (x9 + x10)) else 0 - ((x7 + x8) - (x9 + x10))) x14 (1 : Int32) (x14 + (1 : Int32))) else (k110 x4 x5 x6 (x7 + x8) x8 (x9 + x10) (0 : Int32) (if 0 ≤ ((x7 + x8) - (x9 + x10)) then ((x7 + x8) - (x9 + x10)) else 0 - ((x7 + x8) - (x9 + x10))) x14 (1 : Int32) (x14 + (1 : Int32)))) else (k110 x4 x5 x6 (x7 + x8) x8 (x9 + x10) x10 (if 0 ≤ ((x7 + x8) - (x9 + x10)) then ((x7 + x8) - (x9 + x10)) else 0 - ((x7 + x8) - (x9 + x10))) x14 (1 : Int32) (x14 + (1 : Int32))))))
theorem z11_fog_J160 {l : Launch} {E : am_E} {d : Nat} {σ : am_S} {N : Nat} (hd : 2 ≤ d) {k110 : Int32 → Int32 → Int32 → Int32 → Int32 → Int32 → Int32 → Int32 → Int32 → Int32 → Int32 → Option Int32} (hk110 : ∀ (x4 : Int32) (x5 : Int32) (x6 : Int32) (x7 : Int32) (x8 : Int32) (x9 : Int32) (x10 : Int32) (x11 : Int32) (x12 : Int32) (x13 : Int32) (x14 : Int32), Z l E msC σ YX11_fog d 0 0 110 [(4, .int x4), (5, .int x5), (6, .int x6), (7, .int x7), (8, .int x8), (9, .int x9), (10, .int x10), (11, .int x11), (12, .int x12), (13, .int x13), (14, .int x14)] [] 0 0 σ (k110 x4 x5 x6 x7 x8 x9 x10 x11 x12 x13 x14) (fun u r s => r = some (.int u) ∧ s = σ)) (x4 : Int32) (x5 : Int32) (x6 : Int32) (x7 : Int32) (x8 : Int32) (x9 : Int32) (x10 : Int32) (x11 : Int32) (x12 : Int32) (x13 : Int32) (x14 : Int32) (s0 : Int32) : Z l E msC σ YX11_fog d 0 0 160 [(4, .int x4), (5, .int x5), (6, .int x6), (7, .int x7), (8, .int x8), (9, .int x9), (10, .int x10), (11, .int x11), (12, .int x12), (13, .int x13), (14, .int x14)] [.int s0] 0 0 σ (f11_fog_J160 k110 N x4 x5 x6 x7 x8 x9 x10 x11 x12 x13 x14 s0) (fun u r s => r = some (.int u) ∧ s = σ) := by
  unfold f11_fog_J160
  refine z_istore (pc := 160) (lv' := [(15, .int s0), (4, .int x4), (5, .int x5), (6, .int x6), (7, .int x7), (8, .int x8), (9, .int x9), (10, .int x10), (11, .int x11), (12, .int x12), (13, .int x13), (14, .int x14)]) dX11_fog_160 (by decide) rfl ?_
  refine z_iload (pc := 162) 4 dX11_fog_162 rfl ?_
  refine z_iload (pc := 164) 5 dX11_fog_164 rfl ?_
  refine z_iadd (pc := 166) dX11_fog_166 ?_
  refine z_istore (pc := 167) (lv' := [(7, .int (x7 + x8)), (15, .int s0), (4, .int x4), (5, .int x5), (6, .int x6), (8, .int x8), (9, .int x9), (10, .int x10), (11, .int x11), (12, .int x12), (13, .int x13), (14, .int x14)]) dX11_fog_167 (by decide) rfl ?_
  refine z_iload (pc := 169) 6 dX11_fog_169 rfl ?_
  refine z_iload (pc := 171) 7 dX11_fog_171 rfl ?_
  refine z_iadd (pc := 173) dX11_fog_173 ?_
  refine z_istore (pc := 174) (lv' := [(9, .int (x9 + x10)), (7, .int (x7 + x8)), (15, .int s0), (4, .int x4), (5, .int x5), (6, .int x6), (8, .int x8), (10, .int x10), (11, .int x11), (12, .int x12), (13, .int x13), (14, .int x14)]) dX11_fog_174 (by decide) rfl ?_
  refine z_iload (pc := 176) 1 dX11_fog_176 rfl ?_
  refine z_iload (pc := 178) 0 dX11_fog_178 rfl ?_
  refine z_isub (pc := 180) dX11_fog_180 ?_
  refine z_abs (pc := 181) dX11_fog_181 ml_RX11_286 st_math_abs in_math cd_math_abs (Nat.le_trans (by decide) hd) (Nat.le_of_ble_eq_true rfl) ⟨by decide, by decide⟩ ?_
  refine z_istore (pc := 184) (lv' := [(16, .int (if 0 ≤ ((x7 + x8) - (x9 + x10)) then ((x7 + x8) - (x9 + x10)) else 0 - ((x7 + x8) - (x9 + x10)))), (9, .int (x9 + x10)), (7, .int (x7 + x8)), (15, .int s0), (4, .int x4), (5, .int x5), (6, .int x6), (8, .int x8), (10, .int x10), (11, .int x11), (12, .int x12), (13, .int x13), (14, .int x14)]) dX11_fog_184 (by decide) rfl ?_
  refine z_iload (pc := 186) 11 dX11_fog_186 rfl ?_
  refine z_if_ne (pc := 188) (tgt := 201) dX11_fog_188 (by decide) (fun h30 => ?_) (fun h30 => ?_)
  · refine z_iload (pc := 191) 3 dX11_fog_191 rfl ?_
    refine z_if_ne (pc := 193) (tgt := 201) dX11_fog_193 (by decide) (fun h31 => ?_) (fun h31 => ?_)
    · refine z_iload (pc := 196) 0 dX11_fog_196 rfl ?_
      refine z_if_ne (pc := 198) (tgt := 205) dX11_fog_198 (by decide) (fun h32 => ?_) (fun h32 => ?_)
      · refine z_iconst (pc := 201) (v := (1 : Int32)) dX11_fog_201 (by decide) ?_
        refine z_goto (pc := 202) (tgt := 206) dX11_fog_202 (by decide) ?_
        refine z_istore (pc := 206) (lv' := [(13, .int (1 : Int32)), (16, .int (if 0 ≤ ((x7 + x8) - (x9 + x10)) then ((x7 + x8) - (x9 + x10)) else 0 - ((x7 + x8) - (x9 + x10)))), (9, .int (x9 + x10)), (7, .int (x7 + x8)), (15, .int s0), (4, .int x4), (5, .int x5), (6, .int x6), (8, .int x8), (10, .int x10), (11, .int x11), (12, .int x12), (14, .int x14)]) dX11_fog_206 (by decide) rfl ?_
        refine z_iload (pc := 208) 1 dX11_fog_208 rfl ?_
        refine z_iload (pc := 210) 10 dX11_fog_210 rfl ?_
        refine z_ic_ge (pc := 212) (tgt := 223) dX11_fog_212 (by decide) (fun h33 => ?_) (fun h33 => ?_)
        · refine z_iload (pc := 223) 12 dX11_fog_223 rfl ?_
          refine z_iload (pc := 225) 6 dX11_fog_225 rfl ?_
          refine z_ite (fun _ => z_none) (fun h34 => ?_)
          refine z_irem (pc := 227) dX11_fog_227 h34 ?_
          refine z_if_ne (pc := 228) (tgt := 241) dX11_fog_228 (by decide) (fun h35 => ?_) (fun h35 => ?_)
          · refine z_iload (pc := 231) 1 dX11_fog_231 rfl ?_
            refine z_iload (pc := 233) 7 dX11_fog_233 rfl ?_
            refine z_ic_gt (pc := 235) (tgt := 241) dX11_fog_235 (by decide) (fun h36 => ?_) (fun h36 => ?_)
            · refine z_iinc (pc := 241) (v := x14 + (1 : Int32)) (lv' := [(14, .int (x14 + (1 : Int32))), (13, .int (1 : Int32)), (16, .int (if 0 ≤ ((x7 + x8) - (x9 + x10)) then ((x7 + x8) - (x9 + x10)) else 0 - ((x7 + x8) - (x9 + x10)))), (9, .int (x9 + x10)), (7, .int (x7 + x8)), (15, .int s0), (4, .int x4), (5, .int x5), (6, .int x6), (8, .int x8), (10, .int x10), (11, .int x11), (12, .int x12)]) 12 dX11_fog_241 rfl rfl (by decide) rfl ?_
              refine z_goto (pc := 244) (tgt := 110) dX11_fog_244 (by decide) ?_
              refine z_lv (lv' := [(4, .int x4), (5, .int x5), (6, .int x6), (7, .int (x7 + x8)), (8, .int x8), (9, .int (x9 + x10)), (10, .int x10), (11, .int x11), (12, .int x12), (13, .int (1 : Int32)), (14, .int (x14 + (1 : Int32)))]) [6, 7, 8, 4, 9, 3, 10, 11, 12, 1, 0] rfl ?_
              exact hk110 x4 x5 x6 (x7 + x8) x8 (x9 + x10) x10 x11 x12 (1 : Int32) (x14 + (1 : Int32))
            · refine z_iconst (pc := 238) (v := (0 : Int32)) dX11_fog_238 (by decide) ?_
              refine z_istore (pc := 239) (lv' := [(10, .int (0 : Int32)), (13, .int (1 : Int32)), (16, .int (if 0 ≤ ((x7 + x8) - (x9 + x10)) then ((x7 + x8) - (x9 + x10)) else 0 - ((x7 + x8) - (x9 + x10)))), (9, .int (x9 + x10)), (7, .int (x7 + x8)), (15, .int s0), (4, .int x4), (5, .int x5), (6, .int x6), (8, .int x8), (11, .int x11), (12, .int x12), (14, .int x14)]) dX11_fog_239 (by decide) rfl ?_
              refine z_iinc (pc := 241) (v := x14 + (1 : Int32)) (lv' := [(14, .int (x14 + (1 : Int32))), (10, .int (0 : Int32)), (13, .int (1 : Int32)), (16, .int (if 0 ≤ ((x7 + x8) - (x9 + x10)) then ((x7 + x8) - (x9 + x10)) else 0 - ((x7 + x8) - (x9 + x10)))), (9, .int (x9 + x10)), (7, .int (x7 + x8)), (15, .int s0), (4, .int x4), (5, .int x5), (6, .int x6), (8, .int x8), (11, .int x11), (12, .int x12)]) 12 dX11_fog_241 rfl rfl (by decide) rfl ?_
              refine z_goto (pc := 244) (tgt := 110) dX11_fog_244 (by decide) ?_
              refine z_lv (lv' := [(4, .int x4), (5, .int x5), (6, .int x6), (7, .int (x7 + x8)), (8, .int x8), (9, .int (x9 + x10)), (10, .int (0 : Int32)), (11, .int x11), (12, .int x12), (13, .int (1 : Int32)), (14, .int (x14 + (1 : Int32)))]) [7, 8, 9, 5, 10, 4, 1, 11, 12, 2, 0] rfl ?_
              exact hk110 x4 x5 x6 (x7 + x8) x8 (x9 + x10) (0 : Int32) x11 x12 (1 : Int32) (x14 + (1 : Int32))
          · refine z_iinc (pc := 241) (v := x14 + (1 : Int32)) (lv' := [(14, .int (x14 + (1 : Int32))), (13, .int (1 : Int32)), (16, .int (if 0 ≤ ((x7 + x8) - (x9 + x10)) then ((x7 + x8) - (x9 + x10)) else 0 - ((x7 + x8) - (x9 + x10)))), (9, .int (x9 + x10)), (7, .int (x7 + x8)), (15, .int s0), (4, .int x4), (5, .int x5), (6, .int x6), (8, .int x8), (10, .int x10), (11, .int x11), (12, .int x12)]) 12 dX11_fog_241 rfl rfl (by decide) rfl ?_
            refine z_goto (pc := 244) (tgt := 110) dX11_fog_244 (by decide) ?_
            refine z_lv (lv' := [(4, .int x4), (5, .int x5), (6, .int x6), (7, .int (x7 + x8)), (8, .int x8), (9, .int (x9 + x10)), (10, .int x10), (11, .int x11), (12, .int x12), (13, .int (1 : Int32)), (14, .int (x14 + (1 : Int32)))]) [6, 7, 8, 4, 9, 3, 10, 11, 12, 1, 0] rfl ?_
            exact hk110 x4 x5 x6 (x7 + x8) x8 (x9 + x10) x10 x11 x12 (1 : Int32) (x14 + (1 : Int32))
        · refine z_iload (pc := 215) 1 dX11_fog_215 rfl ?_
          refine z_istore (pc := 217) (lv' := [(11, .int (if 0 ≤ ((x7 + x8) - (x9 + x10)) then ((x7 + x8) - (x9 + x10)) else 0 - ((x7 + x8) - (x9 + x10)))), (13, .int (1 : Int32)), (16, .int (if 0 ≤ ((x7 + x8) - (x9 + x10)) then ((x7 + x8) - (x9 + x10)) else 0 - ((x7 + x8) - (x9 + x10)))), (9, .int (x9 + x10)), (7, .int (x7 + x8)), (15, .int s0), (4, .int x4), (5, .int x5), (6, .int x6), (8, .int x8), (10, .int x10), (12, .int x12), (14, .int x14)]) dX11_fog_217 (by decide) rfl ?_
          refine z_iload (pc := 219) 12 dX11_fog_219 rfl ?_
          refine z_istore (pc := 221) (lv' := [(12, .int x14), (11, .int (if 0 ≤ ((x7 + x8) - (x9 + x10)) then ((x7 + x8) - (x9 + x10)) else 0 - ((x7 + x8) - (x9 + x10)))), (13, .int (1 : Int32)), (16, .int (if 0 ≤ ((x7 + x8) - (x9 + x10)) then ((x7 + x8) - (x9 + x10)) else 0 - ((x7 + x8) - (x9 + x10)))), (9, .int (x9 + x10)), (7, .int (x7 + x8)), (15, .int s0), (4, .int x4), (5, .int x5), (6, .int x6), (8, .int x8), (10, .int x10), (14, .int x14)]) dX11_fog_221 (by decide) rfl ?_
          refine z_iload (pc := 223) 12 dX11_fog_223 rfl ?_
          refine z_iload (pc := 225) 8 dX11_fog_225 rfl ?_
          refine z_ite (fun _ => z_none) (fun h37 => ?_)
          refine z_irem (pc := 227) dX11_fog_227 h37 ?_
          refine z_if_ne (pc := 228) (tgt := 241) dX11_fog_228 (by decide) (fun h38 => ?_) (fun h38 => ?_)
          · refine z_iload (pc := 231) 3 dX11_fog_231 rfl ?_
            refine z_iload (pc := 233) 9 dX11_fog_233 rfl ?_
            refine z_ic_gt (pc := 235) (tgt := 241) dX11_fog_235 (by decide) (fun h39 => ?_) (fun h39 => ?_)
            · refine z_iinc (pc := 241) (v := x14 + (1 : Int32)) (lv' := [(14, .int (x14 + (1 : Int32))), (12, .int x14), (11, .int (if 0 ≤ ((x7 + x8) - (x9 + x10)) then ((x7 + x8) - (x9 + x10)) else 0 - ((x7 + x8) - (x9 + x10)))), (13, .int (1 : Int32)), (16, .int (if 0 ≤ ((x7 + x8) - (x9 + x10)) then ((x7 + x8) - (x9 + x10)) else 0 - ((x7 + x8) - (x9 + x10)))), (9, .int (x9 + x10)), (7, .int (x7 + x8)), (15, .int s0), (4, .int x4), (5, .int x5), (6, .int x6), (8, .int x8), (10, .int x10)]) 12 dX11_fog_241 rfl rfl (by decide) rfl ?_
              refine z_goto (pc := 244) (tgt := 110) dX11_fog_244 (by decide) ?_
              refine z_lv (lv' := [(4, .int x4), (5, .int x5), (6, .int x6), (7, .int (x7 + x8)), (8, .int x8), (9, .int (x9 + x10)), (10, .int x10), (11, .int (if 0 ≤ ((x7 + x8) - (x9 + x10)) then ((x7 + x8) - (x9 + x10)) else 0 - ((x7 + x8) - (x9 + x10)))), (12, .int x14), (13, .int (1 : Int32)), (14, .int (x14 + (1 : Int32)))]) [8, 9, 10, 6, 11, 5, 12, 2, 1, 3, 0] rfl ?_
              exact hk110 x4 x5 x6 (x7 + x8) x8 (x9 + x10) x10 (if 0 ≤ ((x7 + x8) - (x9 + x10)) then ((x7 + x8) - (x9 + x10)) else 0 - ((x7 + x8) - (x9 + x10))) x14 (1 : Int32) (x14 + (1 : Int32))
            · refine z_iconst (pc := 238) (v := (0 : Int32)) dX11_fog_238 (by decide) ?_
              refine z_istore (pc := 239) (lv' := [(10, .int (0 : Int32)), (12, .int x14), (11, .int (if 0 ≤ ((x7 + x8) - (x9 + x10)) then ((x7 + x8) - (x9 + x10)) else 0 - ((x7 + x8) - (x9 + x10)))), (13, .int (1 : Int32)), (16, .int (if 0 ≤ ((x7 + x8) - (x9 + x10)) then ((x7 + x8) - (x9 + x10)) else 0 - ((x7 + x8) - (x9 + x10)))), (9, .int (x9 + x10)), (7, .int (x7 + x8)), (15, .int s0), (4, .int x4), (5, .int x5), (6, .int x6), (8, .int x8), (14, .int x14)]) dX11_fog_239 (by decide) rfl ?_
              refine z_iinc (pc := 241) (v := x14 + (1 : Int32)) (lv' := [(14, .int (x14 + (1 : Int32))), (10, .int (0 : Int32)), (12, .int x14), (11, .int (if 0 ≤ ((x7 + x8) - (x9 + x10)) then ((x7 + x8) - (x9 + x10)) else 0 - ((x7 + x8) - (x9 + x10)))), (13, .int (1 : Int32)), (16, .int (if 0 ≤ ((x7 + x8) - (x9 + x10)) then ((x7 + x8) - (x9 + x10)) else 0 - ((x7 + x8) - (x9 + x10)))), (9, .int (x9 + x10)), (7, .int (x7 + x8)), (15, .int s0), (4, .int x4), (5, .int x5), (6, .int x6), (8, .int x8)]) 12 dX11_fog_241 rfl rfl (by decide) rfl ?_
              refine z_goto (pc := 244) (tgt := 110) dX11_fog_244 (by decide) ?_
              refine z_lv (lv' := [(4, .int x4), (5, .int x5), (6, .int x6), (7, .int (x7 + x8)), (8, .int x8), (9, .int (x9 + x10)), (10, .int (0 : Int32)), (11, .int (if 0 ≤ ((x7 + x8) - (x9 + x10)) then ((x7 + x8) - (x9 + x10)) else 0 - ((x7 + x8) - (x9 + x10)))), (12, .int x14), (13, .int (1 : Int32)), (14, .int (x14 + (1 : Int32)))]) [9, 10, 11, 7, 12, 6, 1, 3, 2, 4, 0] rfl ?_
              exact hk110 x4 x5 x6 (x7 + x8) x8 (x9 + x10) (0 : Int32) (if 0 ≤ ((x7 + x8) - (x9 + x10)) then ((x7 + x8) - (x9 + x10)) else 0 - ((x7 + x8) - (x9 + x10))) x14 (1 : Int32) (x14 + (1 : Int32))
          · refine z_iinc (pc := 241) (v := x14 + (1 : Int32)) (lv' := [(14, .int (x14 + (1 : Int32))), (12, .int x14), (11, .int (if 0 ≤ ((x7 + x8) - (x9 + x10)) then ((x7 + x8) - (x9 + x10)) else 0 - ((x7 + x8) - (x9 + x10)))), (13, .int (1 : Int32)), (16, .int (if 0 ≤ ((x7 + x8) - (x9 + x10)) then ((x7 + x8) - (x9 + x10)) else 0 - ((x7 + x8) - (x9 + x10)))), (9, .int (x9 + x10)), (7, .int (x7 + x8)), (15, .int s0), (4, .int x4), (5, .int x5), (6, .int x6), (8, .int x8), (10, .int x10)]) 12 dX11_fog_241 rfl rfl (by decide) rfl ?_
            refine z_goto (pc := 244) (tgt := 110) dX11_fog_244 (by decide) ?_
            refine z_lv (lv' := [(4, .int x4), (5, .int x5), (6, .int x6), (7, .int (x7 + x8)), (8, .int x8), (9, .int (x9 + x10)), (10, .int x10), (11, .int (if 0 ≤ ((x7 + x8) - (x9 + x10)) then ((x7 + x8) - (x9 + x10)) else 0 - ((x7 + x8) - (x9 + x10)))), (12, .int x14), (13, .int (1 : Int32)), (14, .int (x14 + (1 : Int32)))]) [8, 9, 10, 6, 11, 5, 12, 2, 1, 3, 0] rfl ?_
            exact hk110 x4 x5 x6 (x7 + x8) x8 (x9 + x10) x10 (if 0 ≤ ((x7 + x8) - (x9 + x10)) then ((x7 + x8) - (x9 + x10)) else 0 - ((x7 + x8) - (x9 + x10))) x14 (1 : Int32) (x14 + (1 : Int32))
      · refine z_iconst (pc := 205) (v := (0 : Int32)) dX11_fog_205 (by decide) ?_
        refine z_istore (pc := 206) (lv' := [(13, .int (0 : Int32)), (16, .int (if 0 ≤ ((x7 + x8) - (x9 + x10)) then ((x7 + x8) - (x9 + x10)) else 0 - ((x7 + x8) - (x9 + x10)))), (9, .int (x9 + x10)), (7, .int (x7 + x8)), (15, .int s0), (4, .int x4), (5, .int x5), (6, .int x6), (8, .int x8), (10, .int x10), (11, .int x11), (12, .int x12), (14, .int x14)]) dX11_fog_206 (by decide) rfl ?_
        refine z_iload (pc := 208) 1 dX11_fog_208 rfl ?_
        refine z_iload (pc := 210) 10 dX11_fog_210 rfl ?_
        refine z_ic_ge (pc := 212) (tgt := 223) dX11_fog_212 (by decide) (fun h40 => ?_) (fun h40 => ?_)
        · refine z_iload (pc := 223) 12 dX11_fog_223 rfl ?_
          refine z_iload (pc := 225) 6 dX11_fog_225 rfl ?_
          refine z_ite (fun _ => z_none) (fun h41 => ?_)
          refine z_irem (pc := 227) dX11_fog_227 h41 ?_
          refine z_if_ne (pc := 228) (tgt := 241) dX11_fog_228 (by decide) (fun h42 => ?_) (fun h42 => ?_)
          · refine z_iload (pc := 231) 1 dX11_fog_231 rfl ?_
            refine z_iload (pc := 233) 7 dX11_fog_233 rfl ?_
            refine z_ic_gt (pc := 235) (tgt := 241) dX11_fog_235 (by decide) (fun h43 => ?_) (fun h43 => ?_)
            · refine z_iinc (pc := 241) (v := x14 + (1 : Int32)) (lv' := [(14, .int (x14 + (1 : Int32))), (13, .int (0 : Int32)), (16, .int (if 0 ≤ ((x7 + x8) - (x9 + x10)) then ((x7 + x8) - (x9 + x10)) else 0 - ((x7 + x8) - (x9 + x10)))), (9, .int (x9 + x10)), (7, .int (x7 + x8)), (15, .int s0), (4, .int x4), (5, .int x5), (6, .int x6), (8, .int x8), (10, .int x10), (11, .int x11), (12, .int x12)]) 12 dX11_fog_241 rfl rfl (by decide) rfl ?_
              refine z_goto (pc := 244) (tgt := 110) dX11_fog_244 (by decide) ?_
              refine z_lv (lv' := [(4, .int x4), (5, .int x5), (6, .int x6), (7, .int (x7 + x8)), (8, .int x8), (9, .int (x9 + x10)), (10, .int x10), (11, .int x11), (12, .int x12), (13, .int (0 : Int32)), (14, .int (x14 + (1 : Int32)))]) [6, 7, 8, 4, 9, 3, 10, 11, 12, 1, 0] rfl ?_
              exact hk110 x4 x5 x6 (x7 + x8) x8 (x9 + x10) x10 x11 x12 (0 : Int32) (x14 + (1 : Int32))
            · refine z_iconst (pc := 238) (v := (0 : Int32)) dX11_fog_238 (by decide) ?_
              refine z_istore (pc := 239) (lv' := [(10, .int (0 : Int32)), (13, .int (0 : Int32)), (16, .int (if 0 ≤ ((x7 + x8) - (x9 + x10)) then ((x7 + x8) - (x9 + x10)) else 0 - ((x7 + x8) - (x9 + x10)))), (9, .int (x9 + x10)), (7, .int (x7 + x8)), (15, .int s0), (4, .int x4), (5, .int x5), (6, .int x6), (8, .int x8), (11, .int x11), (12, .int x12), (14, .int x14)]) dX11_fog_239 (by decide) rfl ?_
              refine z_iinc (pc := 241) (v := x14 + (1 : Int32)) (lv' := [(14, .int (x14 + (1 : Int32))), (10, .int (0 : Int32)), (13, .int (0 : Int32)), (16, .int (if 0 ≤ ((x7 + x8) - (x9 + x10)) then ((x7 + x8) - (x9 + x10)) else 0 - ((x7 + x8) - (x9 + x10)))), (9, .int (x9 + x10)), (7, .int (x7 + x8)), (15, .int s0), (4, .int x4), (5, .int x5), (6, .int x6), (8, .int x8), (11, .int x11), (12, .int x12)]) 12 dX11_fog_241 rfl rfl (by decide) rfl ?_
              refine z_goto (pc := 244) (tgt := 110) dX11_fog_244 (by decide) ?_
              refine z_lv (lv' := [(4, .int x4), (5, .int x5), (6, .int x6), (7, .int (x7 + x8)), (8, .int x8), (9, .int (x9 + x10)), (10, .int (0 : Int32)), (11, .int x11), (12, .int x12), (13, .int (0 : Int32)), (14, .int (x14 + (1 : Int32)))]) [7, 8, 9, 5, 10, 4, 1, 11, 12, 2, 0] rfl ?_
              exact hk110 x4 x5 x6 (x7 + x8) x8 (x9 + x10) (0 : Int32) x11 x12 (0 : Int32) (x14 + (1 : Int32))
          · refine z_iinc (pc := 241) (v := x14 + (1 : Int32)) (lv' := [(14, .int (x14 + (1 : Int32))), (13, .int (0 : Int32)), (16, .int (if 0 ≤ ((x7 + x8) - (x9 + x10)) then ((x7 + x8) - (x9 + x10)) else 0 - ((x7 + x8) - (x9 + x10)))), (9, .int (x9 + x10)), (7, .int (x7 + x8)), (15, .int s0), (4, .int x4), (5, .int x5), (6, .int x6), (8, .int x8), (10, .int x10), (11, .int x11), (12, .int x12)]) 12 dX11_fog_241 rfl rfl (by decide) rfl ?_
            refine z_goto (pc := 244) (tgt := 110) dX11_fog_244 (by decide) ?_
            refine z_lv (lv' := [(4, .int x4), (5, .int x5), (6, .int x6), (7, .int (x7 + x8)), (8, .int x8), (9, .int (x9 + x10)), (10, .int x10), (11, .int x11), (12, .int x12), (13, .int (0 : Int32)), (14, .int (x14 + (1 : Int32)))]) [6, 7, 8, 4, 9, 3, 10, 11, 12, 1, 0] rfl ?_
            exact hk110 x4 x5 x6 (x7 + x8) x8 (x9 + x10) x10 x11 x12 (0 : Int32) (x14 + (1 : Int32))
        · refine z_iload (pc := 215) 1 dX11_fog_215 rfl ?_
          refine z_istore (pc := 217) (lv' := [(11, .int (if 0 ≤ ((x7 + x8) - (x9 + x10)) then ((x7 + x8) - (x9 + x10)) else 0 - ((x7 + x8) - (x9 + x10)))), (13, .int (0 : Int32)), (16, .int (if 0 ≤ ((x7 + x8) - (x9 + x10)) then ((x7 + x8) - (x9 + x10)) else 0 - ((x7 + x8) - (x9 + x10)))), (9, .int (x9 + x10)), (7, .int (x7 + x8)), (15, .int s0), (4, .int x4), (5, .int x5), (6, .int x6), (8, .int x8), (10, .int x10), (12, .int x12), (14, .int x14)]) dX11_fog_217 (by decide) rfl ?_
          refine z_iload (pc := 219) 12 dX11_fog_219 rfl ?_
          refine z_istore (pc := 221) (lv' := [(12, .int x14), (11, .int (if 0 ≤ ((x7 + x8) - (x9 + x10)) then ((x7 + x8) - (x9 + x10)) else 0 - ((x7 + x8) - (x9 + x10)))), (13, .int (0 : Int32)), (16, .int (if 0 ≤ ((x7 + x8) - (x9 + x10)) then ((x7 + x8) - (x9 + x10)) else 0 - ((x7 + x8) - (x9 + x10)))), (9, .int (x9 + x10)), (7, .int (x7 + x8)), (15, .int s0), (4, .int x4), (5, .int x5), (6, .int x6), (8, .int x8), (10, .int x10), (14, .int x14)]) dX11_fog_221 (by decide) rfl ?_
          refine z_iload (pc := 223) 12 dX11_fog_223 rfl ?_
          refine z_iload (pc := 225) 8 dX11_fog_225 rfl ?_
          refine z_ite (fun _ => z_none) (fun h44 => ?_)
          refine z_irem (pc := 227) dX11_fog_227 h44 ?_
          refine z_if_ne (pc := 228) (tgt := 241) dX11_fog_228 (by decide) (fun h45 => ?_) (fun h45 => ?_)
          · refine z_iload (pc := 231) 3 dX11_fog_231 rfl ?_
            refine z_iload (pc := 233) 9 dX11_fog_233 rfl ?_
            refine z_ic_gt (pc := 235) (tgt := 241) dX11_fog_235 (by decide) (fun h46 => ?_) (fun h46 => ?_)
            · refine z_iinc (pc := 241) (v := x14 + (1 : Int32)) (lv' := [(14, .int (x14 + (1 : Int32))), (12, .int x14), (11, .int (if 0 ≤ ((x7 + x8) - (x9 + x10)) then ((x7 + x8) - (x9 + x10)) else 0 - ((x7 + x8) - (x9 + x10)))), (13, .int (0 : Int32)), (16, .int (if 0 ≤ ((x7 + x8) - (x9 + x10)) then ((x7 + x8) - (x9 + x10)) else 0 - ((x7 + x8) - (x9 + x10)))), (9, .int (x9 + x10)), (7, .int (x7 + x8)), (15, .int s0), (4, .int x4), (5, .int x5), (6, .int x6), (8, .int x8), (10, .int x10)]) 12 dX11_fog_241 rfl rfl (by decide) rfl ?_
              refine z_goto (pc := 244) (tgt := 110) dX11_fog_244 (by decide) ?_
              refine z_lv (lv' := [(4, .int x4), (5, .int x5), (6, .int x6), (7, .int (x7 + x8)), (8, .int x8), (9, .int (x9 + x10)), (10, .int x10), (11, .int (if 0 ≤ ((x7 + x8) - (x9 + x10)) then ((x7 + x8) - (x9 + x10)) else 0 - ((x7 + x8) - (x9 + x10)))), (12, .int x14), (13, .int (0 : Int32)), (14, .int (x14 + (1 : Int32)))]) [8, 9, 10, 6, 11, 5, 12, 2, 1, 3, 0] rfl ?_
              exact hk110 x4 x5 x6 (x7 + x8) x8 (x9 + x10) x10 (if 0 ≤ ((x7 + x8) - (x9 + x10)) then ((x7 + x8) - (x9 + x10)) else 0 - ((x7 + x8) - (x9 + x10))) x14 (0 : Int32) (x14 + (1 : Int32))
            · refine z_iconst (pc := 238) (v := (0 : Int32)) dX11_fog_238 (by decide) ?_
              refine z_istore (pc := 239) (lv' := [(10, .int (0 : Int32)), (12, .int x14), (11, .int (if 0 ≤ ((x7 + x8) - (x9 + x10)) then ((x7 + x8) - (x9 + x10)) else 0 - ((x7 + x8) - (x9 + x10)))), (13, .int (0 : Int32)), (16, .int (if 0 ≤ ((x7 + x8) - (x9 + x10)) then ((x7 + x8) - (x9 + x10)) else 0 - ((x7 + x8) - (x9 + x10)))), (9, .int (x9 + x10)), (7, .int (x7 + x8)), (15, .int s0), (4, .int x4), (5, .int x5), (6, .int x6), (8, .int x8), (14, .int x14)]) dX11_fog_239 (by decide) rfl ?_
              refine z_iinc (pc := 241) (v := x14 + (1 : Int32)) (lv' := [(14, .int (x14 + (1 : Int32))), (10, .int (0 : Int32)), (12, .int x14), (11, .int (if 0 ≤ ((x7 + x8) - (x9 + x10)) then ((x7 + x8) - (x9 + x10)) else 0 - ((x7 + x8) - (x9 + x10)))), (13, .int (0 : Int32)), (16, .int (if 0 ≤ ((x7 + x8) - (x9 + x10)) then ((x7 + x8) - (x9 + x10)) else 0 - ((x7 + x8) - (x9 + x10)))), (9, .int (x9 + x10)), (7, .int (x7 + x8)), (15, .int s0), (4, .int x4), (5, .int x5), (6, .int x6), (8, .int x8)]) 12 dX11_fog_241 rfl rfl (by decide) rfl ?_
              refine z_goto (pc := 244) (tgt := 110) dX11_fog_244 (by decide) ?_
              refine z_lv (lv' := [(4, .int x4), (5, .int x5), (6, .int x6), (7, .int (x7 + x8)), (8, .int x8), (9, .int (x9 + x10)), (10, .int (0 : Int32)), (11, .int (if 0 ≤ ((x7 + x8) - (x9 + x10)) then ((x7 + x8) - (x9 + x10)) else 0 - ((x7 + x8) - (x9 + x10)))), (12, .int x14), (13, .int (0 : Int32)), (14, .int (x14 + (1 : Int32)))]) [9, 10, 11, 7, 12, 6, 1, 3, 2, 4, 0] rfl ?_
              exact hk110 x4 x5 x6 (x7 + x8) x8 (x9 + x10) (0 : Int32) (if 0 ≤ ((x7 + x8) - (x9 + x10)) then ((x7 + x8) - (x9 + x10)) else 0 - ((x7 + x8) - (x9 + x10))) x14 (0 : Int32) (x14 + (1 : Int32))
          · refine z_iinc (pc := 241) (v := x14 + (1 : Int32)) (lv' := [(14, .int (x14 + (1 : Int32))), (12, .int x14), (11, .int (if 0 ≤ ((x7 + x8) - (x9 + x10)) then ((x7 + x8) - (x9 + x10)) else 0 - ((x7 + x8) - (x9 + x10)))), (13, .int (0 : Int32)), (16, .int (if 0 ≤ ((x7 + x8) - (x9 + x10)) then ((x7 + x8) - (x9 + x10)) else 0 - ((x7 + x8) - (x9 + x10)))), (9, .int (x9 + x10)), (7, .int (x7 + x8)), (15, .int s0), (4, .int x4), (5, .int x5), (6, .int x6), (8, .int x8), (10, .int x10)]) 12 dX11_fog_241 rfl rfl (by decide) rfl ?_
            refine z_goto (pc := 244) (tgt := 110) dX11_fog_244 (by decide) ?_
            refine z_lv (lv' := [(4, .int x4), (5, .int x5), (6, .int x6), (7, .int (x7 + x8)), (8, .int x8), (9, .int (x9 + x10)), (10, .int x10), (11, .int (if 0 ≤ ((x7 + x8) - (x9 + x10)) then ((x7 + x8) - (x9 + x10)) else 0 - ((x7 + x8) - (x9 + x10)))), (12, .int x14), (13, .int (0 : Int32)), (14, .int (x14 + (1 : Int32)))]) [8, 9, 10, 6, 11, 5, 12, 2, 1, 3, 0] rfl ?_
            exact hk110 x4 x5 x6 (x7 + x8) x8 (x9 + x10) x10 (if 0 ≤ ((x7 + x8) - (x9 + x10)) then ((x7 + x8) - (x9 + x10)) else 0 - ((x7 + x8) - (x9 + x10))) x14 (0 : Int32) (x14 + (1 : Int32))
    · refine z_iconst (pc := 201) (v := (1 : Int32)) dX11_fog_201 (by decide) ?_
      refine z_goto (pc := 202) (tgt := 206) dX11_fog_202 (by decide) ?_
      refine z_istore (pc := 206) (lv' := [(13, .int (1 : Int32)), (16, .int (if 0 ≤ ((x7 + x8) - (x9 + x10)) then ((x7 + x8) - (x9 + x10)) else 0 - ((x7 + x8) - (x9 + x10)))), (9, .int (x9 + x10)), (7, .int (x7 + x8)), (15, .int s0), (4, .int x4), (5, .int x5), (6, .int x6), (8, .int x8), (10, .int x10), (11, .int x11), (12, .int x12), (14, .int x14)]) dX11_fog_206 (by decide) rfl ?_
      refine z_iload (pc := 208) 1 dX11_fog_208 rfl ?_
      refine z_iload (pc := 210) 10 dX11_fog_210 rfl ?_
      refine z_ic_ge (pc := 212) (tgt := 223) dX11_fog_212 (by decide) (fun h47 => ?_) (fun h47 => ?_)
      · refine z_iload (pc := 223) 12 dX11_fog_223 rfl ?_
        refine z_iload (pc := 225) 6 dX11_fog_225 rfl ?_
        refine z_ite (fun _ => z_none) (fun h48 => ?_)
        refine z_irem (pc := 227) dX11_fog_227 h48 ?_
        refine z_if_ne (pc := 228) (tgt := 241) dX11_fog_228 (by decide) (fun h49 => ?_) (fun h49 => ?_)
        · refine z_iload (pc := 231) 1 dX11_fog_231 rfl ?_
          refine z_iload (pc := 233) 7 dX11_fog_233 rfl ?_
          refine z_ic_gt (pc := 235) (tgt := 241) dX11_fog_235 (by decide) (fun h50 => ?_) (fun h50 => ?_)
          · refine z_iinc (pc := 241) (v := x14 + (1 : Int32)) (lv' := [(14, .int (x14 + (1 : Int32))), (13, .int (1 : Int32)), (16, .int (if 0 ≤ ((x7 + x8) - (x9 + x10)) then ((x7 + x8) - (x9 + x10)) else 0 - ((x7 + x8) - (x9 + x10)))), (9, .int (x9 + x10)), (7, .int (x7 + x8)), (15, .int s0), (4, .int x4), (5, .int x5), (6, .int x6), (8, .int x8), (10, .int x10), (11, .int x11), (12, .int x12)]) 12 dX11_fog_241 rfl rfl (by decide) rfl ?_
            refine z_goto (pc := 244) (tgt := 110) dX11_fog_244 (by decide) ?_
            refine z_lv (lv' := [(4, .int x4), (5, .int x5), (6, .int x6), (7, .int (x7 + x8)), (8, .int x8), (9, .int (x9 + x10)), (10, .int x10), (11, .int x11), (12, .int x12), (13, .int (1 : Int32)), (14, .int (x14 + (1 : Int32)))]) [6, 7, 8, 4, 9, 3, 10, 11, 12, 1, 0] rfl ?_
            exact hk110 x4 x5 x6 (x7 + x8) x8 (x9 + x10) x10 x11 x12 (1 : Int32) (x14 + (1 : Int32))
          · refine z_iconst (pc := 238) (v := (0 : Int32)) dX11_fog_238 (by decide) ?_
            refine z_istore (pc := 239) (lv' := [(10, .int (0 : Int32)), (13, .int (1 : Int32)), (16, .int (if 0 ≤ ((x7 + x8) - (x9 + x10)) then ((x7 + x8) - (x9 + x10)) else 0 - ((x7 + x8) - (x9 + x10)))), (9, .int (x9 + x10)), (7, .int (x7 + x8)), (15, .int s0), (4, .int x4), (5, .int x5), (6, .int x6), (8, .int x8), (11, .int x11), (12, .int x12), (14, .int x14)]) dX11_fog_239 (by decide) rfl ?_
            refine z_iinc (pc := 241) (v := x14 + (1 : Int32)) (lv' := [(14, .int (x14 + (1 : Int32))), (10, .int (0 : Int32)), (13, .int (1 : Int32)), (16, .int (if 0 ≤ ((x7 + x8) - (x9 + x10)) then ((x7 + x8) - (x9 + x10)) else 0 - ((x7 + x8) - (x9 + x10)))), (9, .int (x9 + x10)), (7, .int (x7 + x8)), (15, .int s0), (4, .int x4), (5, .int x5), (6, .int x6), (8, .int x8), (11, .int x11), (12, .int x12)]) 12 dX11_fog_241 rfl rfl (by decide) rfl ?_
            refine z_goto (pc := 244) (tgt := 110) dX11_fog_244 (by decide) ?_
            refine z_lv (lv' := [(4, .int x4), (5, .int x5), (6, .int x6), (7, .int (x7 + x8)), (8, .int x8), (9, .int (x9 + x10)), (10, .int (0 : Int32)), (11, .int x11), (12, .int x12), (13, .int (1 : Int32)), (14, .int (x14 + (1 : Int32)))]) [7, 8, 9, 5, 10, 4, 1, 11, 12, 2, 0] rfl ?_
            exact hk110 x4 x5 x6 (x7 + x8) x8 (x9 + x10) (0 : Int32) x11 x12 (1 : Int32) (x14 + (1 : Int32))
        · refine z_iinc (pc := 241) (v := x14 + (1 : Int32)) (lv' := [(14, .int (x14 + (1 : Int32))), (13, .int (1 : Int32)), (16, .int (if 0 ≤ ((x7 + x8) - (x9 + x10)) then ((x7 + x8) - (x9 + x10)) else 0 - ((x7 + x8) - (x9 + x10)))), (9, .int (x9 + x10)), (7, .int (x7 + x8)), (15, .int s0), (4, .int x4), (5, .int x5), (6, .int x6), (8, .int x8), (10, .int x10), (11, .int x11), (12, .int x12)]) 12 dX11_fog_241 rfl rfl (by decide) rfl ?_
          refine z_goto (pc := 244) (tgt := 110) dX11_fog_244 (by decide) ?_
          refine z_lv (lv' := [(4, .int x4), (5, .int x5), (6, .int x6), (7, .int (x7 + x8)), (8, .int x8), (9, .int (x9 + x10)), (10, .int x10), (11, .int x11), (12, .int x12), (13, .int (1 : Int32)), (14, .int (x14 + (1 : Int32)))]) [6, 7, 8, 4, 9, 3, 10, 11, 12, 1, 0] rfl ?_
          exact hk110 x4 x5 x6 (x7 + x8) x8 (x9 + x10) x10 x11 x12 (1 : Int32) (x14 + (1 : Int32))
      · refine z_iload (pc := 215) 1 dX11_fog_215 rfl ?_
        refine z_istore (pc := 217) (lv' := [(11, .int (if 0 ≤ ((x7 + x8) - (x9 + x10)) then ((x7 + x8) - (x9 + x10)) else 0 - ((x7 + x8) - (x9 + x10)))), (13, .int (1 : Int32)), (16, .int (if 0 ≤ ((x7 + x8) - (x9 + x10)) then ((x7 + x8) - (x9 + x10)) else 0 - ((x7 + x8) - (x9 + x10)))), (9, .int (x9 + x10)), (7, .int (x7 + x8)), (15, .int s0), (4, .int x4), (5, .int x5), (6, .int x6), (8, .int x8), (10, .int x10), (12, .int x12), (14, .int x14)]) dX11_fog_217 (by decide) rfl ?_
        refine z_iload (pc := 219) 12 dX11_fog_219 rfl ?_
        refine z_istore (pc := 221) (lv' := [(12, .int x14), (11, .int (if 0 ≤ ((x7 + x8) - (x9 + x10)) then ((x7 + x8) - (x9 + x10)) else 0 - ((x7 + x8) - (x9 + x10)))), (13, .int (1 : Int32)), (16, .int (if 0 ≤ ((x7 + x8) - (x9 + x10)) then ((x7 + x8) - (x9 + x10)) else 0 - ((x7 + x8) - (x9 + x10)))), (9, .int (x9 + x10)), (7, .int (x7 + x8)), (15, .int s0), (4, .int x4), (5, .int x5), (6, .int x6), (8, .int x8), (10, .int x10), (14, .int x14)]) dX11_fog_221 (by decide) rfl ?_
        refine z_iload (pc := 223) 12 dX11_fog_223 rfl ?_
        refine z_iload (pc := 225) 8 dX11_fog_225 rfl ?_
        refine z_ite (fun _ => z_none) (fun h51 => ?_)
        refine z_irem (pc := 227) dX11_fog_227 h51 ?_
        refine z_if_ne (pc := 228) (tgt := 241) dX11_fog_228 (by decide) (fun h52 => ?_) (fun h52 => ?_)
        · refine z_iload (pc := 231) 3 dX11_fog_231 rfl ?_
          refine z_iload (pc := 233) 9 dX11_fog_233 rfl ?_
          refine z_ic_gt (pc := 235) (tgt := 241) dX11_fog_235 (by decide) (fun h53 => ?_) (fun h53 => ?_)
          · refine z_iinc (pc := 241) (v := x14 + (1 : Int32)) (lv' := [(14, .int (x14 + (1 : Int32))), (12, .int x14), (11, .int (if 0 ≤ ((x7 + x8) - (x9 + x10)) then ((x7 + x8) - (x9 + x10)) else 0 - ((x7 + x8) - (x9 + x10)))), (13, .int (1 : Int32)), (16, .int (if 0 ≤ ((x7 + x8) - (x9 + x10)) then ((x7 + x8) - (x9 + x10)) else 0 - ((x7 + x8) - (x9 + x10)))), (9, .int (x9 + x10)), (7, .int (x7 + x8)), (15, .int s0), (4, .int x4), (5, .int x5), (6, .int x6), (8, .int x8), (10, .int x10)]) 12 dX11_fog_241 rfl rfl (by decide) rfl ?_
            refine z_goto (pc := 244) (tgt := 110) dX11_fog_244 (by decide) ?_
            refine z_lv (lv' := [(4, .int x4), (5, .int x5), (6, .int x6), (7, .int (x7 + x8)), (8, .int x8), (9, .int (x9 + x10)), (10, .int x10), (11, .int (if 0 ≤ ((x7 + x8) - (x9 + x10)) then ((x7 + x8) - (x9 + x10)) else 0 - ((x7 + x8) - (x9 + x10)))), (12, .int x14), (13, .int (1 : Int32)), (14, .int (x14 + (1 : Int32)))]) [8, 9, 10, 6, 11, 5, 12, 2, 1, 3, 0] rfl ?_
            exact hk110 x4 x5 x6 (x7 + x8) x8 (x9 + x10) x10 (if 0 ≤ ((x7 + x8) - (x9 + x10)) then ((x7 + x8) - (x9 + x10)) else 0 - ((x7 + x8) - (x9 + x10))) x14 (1 : Int32) (x14 + (1 : Int32))
          · refine z_iconst (pc := 238) (v := (0 : Int32)) dX11_fog_238 (by decide) ?_
            refine z_istore (pc := 239) (lv' := [(10, .int (0 : Int32)), (12, .int x14), (11, .int (if 0 ≤ ((x7 + x8) - (x9 + x10)) then ((x7 + x8) - (x9 + x10)) else 0 - ((x7 + x8) - (x9 + x10)))), (13, .int (1 : Int32)), (16, .int (if 0 ≤ ((x7 + x8) - (x9 + x10)) then ((x7 + x8) - (x9 + x10)) else 0 - ((x7 + x8) - (x9 + x10)))), (9, .int (x9 + x10)), (7, .int (x7 + x8)), (15, .int s0), (4, .int x4), (5, .int x5), (6, .int x6), (8, .int x8), (14, .int x14)]) dX11_fog_239 (by decide) rfl ?_
            refine z_iinc (pc := 241) (v := x14 + (1 : Int32)) (lv' := [(14, .int (x14 + (1 : Int32))), (10, .int (0 : Int32)), (12, .int x14), (11, .int (if 0 ≤ ((x7 + x8) - (x9 + x10)) then ((x7 + x8) - (x9 + x10)) else 0 - ((x7 + x8) - (x9 + x10)))), (13, .int (1 : Int32)), (16, .int (if 0 ≤ ((x7 + x8) - (x9 + x10)) then ((x7 + x8) - (x9 + x10)) else 0 - ((x7 + x8) - (x9 + x10)))), (9, .int (x9 + x10)), (7, .int (x7 + x8)), (15, .int s0), (4, .int x4), (5, .int x5), (6, .int x6), (8, .int x8)]) 12 dX11_fog_241 rfl rfl (by decide) rfl ?_
            refine z_goto (pc := 244) (tgt := 110) dX11_fog_244 (by decide) ?_
            refine z_lv (lv' := [(4, .int x4), (5, .int x5), (6, .int x6), (7, .int (x7 + x8)), (8, .int x8), (9, .int (x9 + x10)), (10, .int (0 : Int32)), (11, .int (if 0 ≤ ((x7 + x8) - (x9 + x10)) then ((x7 + x8) - (x9 + x10)) else 0 - ((x7 + x8) - (x9 + x10)))), (12, .int x14), (13, .int (1 : Int32)), (14, .int (x14 + (1 : Int32)))]) [9, 10, 11, 7, 12, 6, 1, 3, 2, 4, 0] rfl ?_
            exact hk110 x4 x5 x6 (x7 + x8) x8 (x9 + x10) (0 : Int32) (if 0 ≤ ((x7 + x8) - (x9 + x10)) then ((x7 + x8) - (x9 + x10)) else 0 - ((x7 + x8) - (x9 + x10))) x14 (1 : Int32) (x14 + (1 : Int32))
        · refine z_iinc (pc := 241) (v := x14 + (1 : Int32)) (lv' := [(14, .int (x14 + (1 : Int32))), (12, .int x14), (11, .int (if 0 ≤ ((x7 + x8) - (x9 + x10)) then ((x7 + x8) - (x9 + x10)) else 0 - ((x7 + x8) - (x9 + x10)))), (13, .int (1 : Int32)), (16, .int (if 0 ≤ ((x7 + x8) - (x9 + x10)) then ((x7 + x8) - (x9 + x10)) else 0 - ((x7 + x8) - (x9 + x10)))), (9, .int (x9 + x10)), (7, .int (x7 + x8)), (15, .int s0), (4, .int x4), (5, .int x5), (6, .int x6), (8, .int x8), (10, .int x10)]) 12 dX11_fog_241 rfl rfl (by decide) rfl ?_
          refine z_goto (pc := 244) (tgt := 110) dX11_fog_244 (by decide) ?_
          refine z_lv (lv' := [(4, .int x4), (5, .int x5), (6, .int x6), (7, .int (x7 + x8)), (8, .int x8), (9, .int (x9 + x10)), (10, .int x10), (11, .int (if 0 ≤ ((x7 + x8) - (x9 + x10)) then ((x7 + x8) - (x9 + x10)) else 0 - ((x7 + x8) - (x9 + x10)))), (12, .int x14), (13, .int (1 : Int32)), (14, .int (x14 + (1 : Int32)))]) [8, 9, 10, 6, 11, 5, 12, 2, 1, 3, 0] rfl ?_
          exact hk110 x4 x5 x6 (x7 + x8) x8 (x9 + x10) x10 (if 0 ≤ ((x7 + x8) - (x9 + x10)) then ((x7 + x8) - (x9 + x10)) else 0 - ((x7 + x8) - (x9 + x10))) x14 (1 : Int32) (x14 + (1 : Int32))
  · refine z_iconst (pc := 201) (v := (1 : Int32)) dX11_fog_201 (by decide) ?_
    refine z_goto (pc := 202) (tgt := 206) dX11_fog_202 (by decide) ?_
    refine z_istore (pc := 206) (lv' := [(13, .int (1 : Int32)), (16, .int (if 0 ≤ ((x7 + x8) - (x9 + x10)) then ((x7 + x8) - (x9 + x10)) else 0 - ((x7 + x8) - (x9 + x10)))), (9, .int (x9 + x10)), (7, .int (x7 + x8)), (15, .int s0), (4, .int x4), (5, .int x5), (6, .int x6), (8, .int x8), (10, .int x10), (11, .int x11), (12, .int x12), (14, .int x14)]) dX11_fog_206 (by decide) rfl ?_
    refine z_iload (pc := 208) 1 dX11_fog_208 rfl ?_
    refine z_iload (pc := 210) 10 dX11_fog_210 rfl ?_
    refine z_ic_ge (pc := 212) (tgt := 223) dX11_fog_212 (by decide) (fun h54 => ?_) (fun h54 => ?_)
    · refine z_iload (pc := 223) 12 dX11_fog_223 rfl ?_
      refine z_iload (pc := 225) 6 dX11_fog_225 rfl ?_
      refine z_ite (fun _ => z_none) (fun h55 => ?_)
      refine z_irem (pc := 227) dX11_fog_227 h55 ?_
      refine z_if_ne (pc := 228) (tgt := 241) dX11_fog_228 (by decide) (fun h56 => ?_) (fun h56 => ?_)
      · refine z_iload (pc := 231) 1 dX11_fog_231 rfl ?_
        refine z_iload (pc := 233) 7 dX11_fog_233 rfl ?_
        refine z_ic_gt (pc := 235) (tgt := 241) dX11_fog_235 (by decide) (fun h57 => ?_) (fun h57 => ?_)
        · refine z_iinc (pc := 241) (v := x14 + (1 : Int32)) (lv' := [(14, .int (x14 + (1 : Int32))), (13, .int (1 : Int32)), (16, .int (if 0 ≤ ((x7 + x8) - (x9 + x10)) then ((x7 + x8) - (x9 + x10)) else 0 - ((x7 + x8) - (x9 + x10)))), (9, .int (x9 + x10)), (7, .int (x7 + x8)), (15, .int s0), (4, .int x4), (5, .int x5), (6, .int x6), (8, .int x8), (10, .int x10), (11, .int x11), (12, .int x12)]) 12 dX11_fog_241 rfl rfl (by decide) rfl ?_
          refine z_goto (pc := 244) (tgt := 110) dX11_fog_244 (by decide) ?_
          refine z_lv (lv' := [(4, .int x4), (5, .int x5), (6, .int x6), (7, .int (x7 + x8)), (8, .int x8), (9, .int (x9 + x10)), (10, .int x10), (11, .int x11), (12, .int x12), (13, .int (1 : Int32)), (14, .int (x14 + (1 : Int32)))]) [6, 7, 8, 4, 9, 3, 10, 11, 12, 1, 0] rfl ?_
          exact hk110 x4 x5 x6 (x7 + x8) x8 (x9 + x10) x10 x11 x12 (1 : Int32) (x14 + (1 : Int32))
        · refine z_iconst (pc := 238) (v := (0 : Int32)) dX11_fog_238 (by decide) ?_
          refine z_istore (pc := 239) (lv' := [(10, .int (0 : Int32)), (13, .int (1 : Int32)), (16, .int (if 0 ≤ ((x7 + x8) - (x9 + x10)) then ((x7 + x8) - (x9 + x10)) else 0 - ((x7 + x8) - (x9 + x10)))), (9, .int (x9 + x10)), (7, .int (x7 + x8)), (15, .int s0), (4, .int x4), (5, .int x5), (6, .int x6), (8, .int x8), (11, .int x11), (12, .int x12), (14, .int x14)]) dX11_fog_239 (by decide) rfl ?_
          refine z_iinc (pc := 241) (v := x14 + (1 : Int32)) (lv' := [(14, .int (x14 + (1 : Int32))), (10, .int (0 : Int32)), (13, .int (1 : Int32)), (16, .int (if 0 ≤ ((x7 + x8) - (x9 + x10)) then ((x7 + x8) - (x9 + x10)) else 0 - ((x7 + x8) - (x9 + x10)))), (9, .int (x9 + x10)), (7, .int (x7 + x8)), (15, .int s0), (4, .int x4), (5, .int x5), (6, .int x6), (8, .int x8), (11, .int x11), (12, .int x12)]) 12 dX11_fog_241 rfl rfl (by decide) rfl ?_
          refine z_goto (pc := 244) (tgt := 110) dX11_fog_244 (by decide) ?_
          refine z_lv (lv' := [(4, .int x4), (5, .int x5), (6, .int x6), (7, .int (x7 + x8)), (8, .int x8), (9, .int (x9 + x10)), (10, .int (0 : Int32)), (11, .int x11), (12, .int x12), (13, .int (1 : Int32)), (14, .int (x14 + (1 : Int32)))]) [7, 8, 9, 5, 10, 4, 1, 11, 12, 2, 0] rfl ?_
          exact hk110 x4 x5 x6 (x7 + x8) x8 (x9 + x10) (0 : Int32) x11 x12 (1 : Int32) (x14 + (1 : Int32))
      · refine z_iinc (pc := 241) (v := x14 + (1 : Int32)) (lv' := [(14, .int (x14 + (1 : Int32))), (13, .int (1 : Int32)), (16, .int (if 0 ≤ ((x7 + x8) - (x9 + x10)) then ((x7 + x8) - (x9 + x10)) else 0 - ((x7 + x8) - (x9 + x10)))), (9, .int (x9 + x10)), (7, .int (x7 + x8)), (15, .int s0), (4, .int x4), (5, .int x5), (6, .int x6), (8, .int x8), (10, .int x10), (11, .int x11), (12, .int x12)]) 12 dX11_fog_241 rfl rfl (by decide) rfl ?_
        refine z_goto (pc := 244) (tgt := 110) dX11_fog_244 (by decide) ?_
        refine z_lv (lv' := [(4, .int x4), (5, .int x5), (6, .int x6), (7, .int (x7 + x8)), (8, .int x8), (9, .int (x9 + x10)), (10, .int x10), (11, .int x11), (12, .int x12), (13, .int (1 : Int32)), (14, .int (x14 + (1 : Int32)))]) [6, 7, 8, 4, 9, 3, 10, 11, 12, 1, 0] rfl ?_
        exact hk110 x4 x5 x6 (x7 + x8) x8 (x9 + x10) x10 x11 x12 (1 : Int32) (x14 + (1 : Int32))
    · refine z_iload (pc := 215) 1 dX11_fog_215 rfl ?_
      refine z_istore (pc := 217) (lv' := [(11, .int (if 0 ≤ ((x7 + x8) - (x9 + x10)) then ((x7 + x8) - (x9 + x10)) else 0 - ((x7 + x8) - (x9 + x10)))), (13, .int (1 : Int32)), (16, .int (if 0 ≤ ((x7 + x8) - (x9 + x10)) then ((x7 + x8) - (x9 + x10)) else 0 - ((x7 + x8) - (x9 + x10)))), (9, .int (x9 + x10)), (7, .int (x7 + x8)), (15, .int s0), (4, .int x4), (5, .int x5), (6, .int x6), (8, .int x8), (10, .int x10), (12, .int x12), (14, .int x14)]) dX11_fog_217 (by decide) rfl ?_
      refine z_iload (pc := 219) 12 dX11_fog_219 rfl ?_
      refine z_istore (pc := 221) (lv' := [(12, .int x14), (11, .int (if 0 ≤ ((x7 + x8) - (x9 + x10)) then ((x7 + x8) - (x9 + x10)) else 0 - ((x7 + x8) - (x9 + x10)))), (13, .int (1 : Int32)), (16, .int (if 0 ≤ ((x7 + x8) - (x9 + x10)) then ((x7 + x8) - (x9 + x10)) else 0 - ((x7 + x8) - (x9 + x10)))), (9, .int (x9 + x10)), (7, .int (x7 + x8)), (15, .int s0), (4, .int x4), (5, .int x5), (6, .int x6), (8, .int x8), (10, .int x10), (14, .int x14)]) dX11_fog_221 (by decide) rfl ?_
      refine z_iload (pc := 223) 12 dX11_fog_223 rfl ?_
      refine z_iload (pc := 225) 8 dX11_fog_225 rfl ?_
      refine z_ite (fun _ => z_none) (fun h58 => ?_)
      refine z_irem (pc := 227) dX11_fog_227 h58 ?_
      refine z_if_ne (pc := 228) (tgt := 241) dX11_fog_228 (by decide) (fun h59 => ?_) (fun h59 => ?_)
      · refine z_iload (pc := 231) 3 dX11_fog_231 rfl ?_
        refine z_iload (pc := 233) 9 dX11_fog_233 rfl ?_
        refine z_ic_gt (pc := 235) (tgt := 241) dX11_fog_235 (by decide) (fun h60 => ?_) (fun h60 => ?_)
        · refine z_iinc (pc := 241) (v := x14 + (1 : Int32)) (lv' := [(14, .int (x14 + (1 : Int32))), (12, .int x14), (11, .int (if 0 ≤ ((x7 + x8) - (x9 + x10)) then ((x7 + x8) - (x9 + x10)) else 0 - ((x7 + x8) - (x9 + x10)))), (13, .int (1 : Int32)), (16, .int (if 0 ≤ ((x7 + x8) - (x9 + x10)) then ((x7 + x8) - (x9 + x10)) else 0 - ((x7 + x8) - (x9 + x10)))), (9, .int (x9 + x10)), (7, .int (x7 + x8)), (15, .int s0), (4, .int x4), (5, .int x5), (6, .int x6), (8, .int x8), (10, .int x10)]) 12 dX11_fog_241 rfl rfl (by decide) rfl ?_
          refine z_goto (pc := 244) (tgt := 110) dX11_fog_244 (by decide) ?_
          refine z_lv (lv' := [(4, .int x4), (5, .int x5), (6, .int x6), (7, .int (x7 + x8)), (8, .int x8), (9, .int (x9 + x10)), (10, .int x10), (11, .int (if 0 ≤ ((x7 + x8) - (x9 + x10)) then ((x7 + x8) - (x9 + x10)) else 0 - ((x7 + x8) - (x9 + x10)))), (12, .int x14), (13, .int (1 : Int32)), (14, .int (x14 + (1 : Int32)))]) [8, 9, 10, 6, 11, 5, 12, 2, 1, 3, 0] rfl ?_
          exact hk110 x4 x5 x6 (x7 + x8) x8 (x9 + x10) x10 (if 0 ≤ ((x7 + x8) - (x9 + x10)) then ((x7 + x8) - (x9 + x10)) else 0 - ((x7 + x8) - (x9 + x10))) x14 (1 : Int32) (x14 + (1 : Int32))
        · refine z_iconst (pc := 238) (v := (0 : Int32)) dX11_fog_238 (by decide) ?_
          refine z_istore (pc := 239) (lv' := [(10, .int (0 : Int32)), (12, .int x14), (11, .int (if 0 ≤ ((x7 + x8) - (x9 + x10)) then ((x7 + x8) - (x9 + x10)) else 0 - ((x7 + x8) - (x9 + x10)))), (13, .int (1 : Int32)), (16, .int (if 0 ≤ ((x7 + x8) - (x9 + x10)) then ((x7 + x8) - (x9 + x10)) else 0 - ((x7 + x8) - (x9 + x10)))), (9, .int (x9 + x10)), (7, .int (x7 + x8)), (15, .int s0), (4, .int x4), (5, .int x5), (6, .int x6), (8, .int x8), (14, .int x14)]) dX11_fog_239 (by decide) rfl ?_
          refine z_iinc (pc := 241) (v := x14 + (1 : Int32)) (lv' := [(14, .int (x14 + (1 : Int32))), (10, .int (0 : Int32)), (12, .int x14), (11, .int (if 0 ≤ ((x7 + x8) - (x9 + x10)) then ((x7 + x8) - (x9 + x10)) else 0 - ((x7 + x8) - (x9 + x10)))), (13, .int (1 : Int32)), (16, .int (if 0 ≤ ((x7 + x8) - (x9 + x10)) then ((x7 + x8) - (x9 + x10)) else 0 - ((x7 + x8) - (x9 + x10)))), (9, .int (x9 + x10)), (7, .int (x7 + x8)), (15, .int s0), (4, .int x4), (5, .int x5), (6, .int x6), (8, .int x8)]) 12 dX11_fog_241 rfl rfl (by decide) rfl ?_
          refine z_goto (pc := 244) (tgt := 110) dX11_fog_244 (by decide) ?_
          refine z_lv (lv' := [(4, .int x4), (5, .int x5), (6, .int x6), (7, .int (x7 + x8)), (8, .int x8), (9, .int (x9 + x10)), (10, .int (0 : Int32)), (11, .int (if 0 ≤ ((x7 + x8) - (x9 + x10)) then ((x7 + x8) - (x9 + x10)) else 0 - ((x7 + x8) - (x9 + x10)))), (12, .int x14), (13, .int (1 : Int32)), (14, .int (x14 + (1 : Int32)))]) [9, 10, 11, 7, 12, 6, 1, 3, 2, 4, 0] rfl ?_
          exact hk110 x4 x5 x6 (x7 + x8) x8 (x9 + x10) (0 : Int32) (if 0 ≤ ((x7 + x8) - (x9 + x10)) then ((x7 + x8) - (x9 + x10)) else 0 - ((x7 + x8) - (x9 + x10))) x14 (1 : Int32) (x14 + (1 : Int32))
      · refine z_iinc (pc := 241) (v := x14 + (1 : Int32)) (lv' := [(14, .int (x14 + (1 : Int32))), (12, .int x14), (11, .int (if 0 ≤ ((x7 + x8) - (x9 + x10)) then ((x7 + x8) - (x9 + x10)) else 0 - ((x7 + x8) - (x9 + x10)))), (13, .int (1 : Int32)), (16, .int (if 0 ≤ ((x7 + x8) - (x9 + x10)) then ((x7 + x8) - (x9 + x10)) else 0 - ((x7 + x8) - (x9 + x10)))), (9, .int (x9 + x10)), (7, .int (x7 + x8)), (15, .int s0), (4, .int x4), (5, .int x5), (6, .int x6), (8, .int x8), (10, .int x10)]) 12 dX11_fog_241 rfl rfl (by decide) rfl ?_
        refine z_goto (pc := 244) (tgt := 110) dX11_fog_244 (by decide) ?_
        refine z_lv (lv' := [(4, .int x4), (5, .int x5), (6, .int x6), (7, .int (x7 + x8)), (8, .int x8), (9, .int (x9 + x10)), (10, .int x10), (11, .int (if 0 ≤ ((x7 + x8) - (x9 + x10)) then ((x7 + x8) - (x9 + x10)) else 0 - ((x7 + x8) - (x9 + x10)))), (12, .int x14), (13, .int (1 : Int32)), (14, .int (x14 + (1 : Int32)))]) [8, 9, 10, 6, 11, 5, 12, 2, 1, 3, 0] rfl ?_
        exact hk110 x4 x5 x6 (x7 + x8) x8 (x9 + x10) x10 (if 0 ≤ ((x7 + x8) - (x9 + x10)) then ((x7 + x8) - (x9 + x10)) else 0 - ((x7 + x8) - (x9 + x10))) x14 (1 : Int32) (x14 + (1 : Int32))
def f11_fog_L110 (N : Nat) : Nat → Int32 → Int32 → Int32 → Int32 → Int32 → Int32 → Int32 → Int32 → Int32 → Int32 → Int32 → Option Int32
  | 0, _, _, _, _, _, _, _, _, _, _, _ => none
  | n + 1, x4, x5, x6, x7, x8, x9, x10, x11, x12, x13, x14 => if (60 : Int32) < x14 then (f11_fog_J247 N x4 x11 x12 x13) else ((f11_turnedAbout x7 x8).bind fun v22 => ((f11_turnedAbout x9 x10).bind fun v25 => (if x7 + v22 = x9 then (if x9 + v25 = x7 then (f11_fog_J160 (f11_fog_L110 N n) N x4 x5 x6 x7 v22 x9 v25 x11 x12 x13 x14 (1 : Int32)) else (f11_fog_J160 (f11_fog_L110 N n) N x4 x5 x6 x7 v22 x9 v25 x11 x12 x13 x14 (0 : Int32))) else (f11_fog_J160 (f11_fog_L110 N n) N x4 x5 x6 x7 v22 x9 v25 x11 x12 x13 x14 (0 : Int32)))))
theorem z11_fog_L110 {l : Launch} {E : am_E} {d : Nat} {σ : am_S} {N : Nat} (hd : 2 ≤ d) : ∀ (n : Nat) (x4 : Int32) (x5 : Int32) (x6 : Int32) (x7 : Int32) (x8 : Int32) (x9 : Int32) (x10 : Int32) (x11 : Int32) (x12 : Int32) (x13 : Int32) (x14 : Int32), Z l E msC σ YX11_fog d 0 0 110 [(4, .int x4), (5, .int x5), (6, .int x6), (7, .int x7), (8, .int x8), (9, .int x9), (10, .int x10), (11, .int x11), (12, .int x12), (13, .int x13), (14, .int x14)] [] 0 0 σ (f11_fog_L110 N n x4 x5 x6 x7 x8 x9 x10 x11 x12 x13 x14) (fun u r s => r = some (.int u) ∧ s = σ) := by
  intro n
  induction n with
  | zero => intros; exact z_none
  | succ n ih =>
    intro x4 x5 x6 x7 x8 x9 x10 x11 x12 x13 x14
    unfold f11_fog_L110
    refine z_iload (pc := 110) 10 dX11_fog_110 rfl ?_
    refine z_bipush (pc := 112) (v := (60 : Int32)) dX11_fog_112 (by decide) ?_
    refine z_ic_gt (pc := 114) (tgt := 247) dX11_fog_114 (by decide) (fun h18 => ?_) (fun h18 => ?_)
    · refine z_lv (lv' := [(4, .int x4), (11, .int x11), (12, .int x12), (13, .int x13)]) [0, 7, 8, 9] rfl ?_
      exact z11_fog_J247 hd x4 x11 x12 x13
    · refine z_iload (pc := 117) 3 dX11_fog_117 rfl ?_
      refine z_iload (pc := 119) 4 dX11_fog_119 rfl ?_
      refine z_callI (pc := 121) [.int x7, .int x8] [] rfl (lk_S (Yc := YX11_turnedAbout) (n := 2) dX11_fog_121 rfl np_X11_turnedAbout mh_RX11 (by decide) ml_RX11_289 st_X11_turnedAbout in_RX11 cd_X11_turnedAbout) (Nat.le_trans (by decide) hd) ⟨by decide, by decide⟩ (Nat.le_of_ble_eq_true rfl) (am_kp.rf _) (fun v22 h24 => c11_turnedAbout h24) (fun v22 h24 => ?_)
      refine z_istore (pc := 124) (lv' := [(8, .int v22), (4, .int x4), (5, .int x5), (6, .int x6), (7, .int x7), (9, .int x9), (10, .int x10), (11, .int x11), (12, .int x12), (13, .int x13), (14, .int x14)]) dX11_fog_124 (by decide) rfl ?_
      refine z_iload (pc := 126) 5 dX11_fog_126 rfl ?_
      refine z_iload (pc := 128) 6 dX11_fog_128 rfl ?_
      refine z_callI (pc := 130) [.int x9, .int x10] [] rfl (lk_S (Yc := YX11_turnedAbout) (n := 2) dX11_fog_130 rfl np_X11_turnedAbout mh_RX11 (by decide) ml_RX11_289 st_X11_turnedAbout in_RX11 cd_X11_turnedAbout) (Nat.le_trans (by decide) hd) ⟨by decide, by decide⟩ (Nat.le_of_ble_eq_true rfl) (am_kp.rf _) (fun v25 h27 => c11_turnedAbout h27) (fun v25 h27 => ?_)
      refine z_istore (pc := 133) (lv' := [(10, .int v25), (8, .int v22), (4, .int x4), (5, .int x5), (6, .int x6), (7, .int x7), (9, .int x9), (11, .int x11), (12, .int x12), (13, .int x13), (14, .int x14)]) dX11_fog_133 (by decide) rfl ?_
      refine z_iload (pc := 135) 5 dX11_fog_135 rfl ?_
      refine z_iload (pc := 137) 1 dX11_fog_137 rfl ?_
      refine z_iadd (pc := 139) dX11_fog_139 ?_
      refine z_iload (pc := 140) 6 dX11_fog_140 rfl ?_
      refine z_ic_ne (pc := 142) (tgt := 159) dX11_fog_142 (by decide) (fun h28 => ?_) (fun h28 => ?_)
      · refine z_iload (pc := 145) 6 dX11_fog_145 rfl ?_
        refine z_iload (pc := 147) 0 dX11_fog_147 rfl ?_
        refine z_iadd (pc := 149) dX11_fog_149 ?_
        refine z_iload (pc := 150) 5 dX11_fog_150 rfl ?_
        refine z_ic_ne (pc := 152) (tgt := 159) dX11_fog_152 (by decide) (fun h29 => ?_) (fun h29 => ?_)
        · refine z_iconst (pc := 155) (v := (1 : Int32)) dX11_fog_155 (by decide) ?_
          refine z_goto (pc := 156) (tgt := 160) dX11_fog_156 (by decide) ?_
          refine z_lv (lv' := [(4, .int x4), (5, .int x5), (6, .int x6), (7, .int x7), (8, .int v22), (9, .int x9), (10, .int v25), (11, .int x11), (12, .int x12), (13, .int x13), (14, .int x14)]) [2, 3, 4, 5, 1, 6, 0, 7, 8, 9, 10] rfl ?_
          exact z11_fog_J160 hd (fun x4 x5 x6 x7 x8 x9 x10 x11 x12 x13 x14 => ih x4 x5 x6 x7 x8 x9 x10 x11 x12 x13 x14) x4 x5 x6 x7 v22 x9 v25 x11 x12 x13 x14 (1 : Int32)
        · refine z_iconst (pc := 159) (v := (0 : Int32)) dX11_fog_159 (by decide) ?_
          refine z_lv (lv' := [(4, .int x4), (5, .int x5), (6, .int x6), (7, .int x7), (8, .int v22), (9, .int x9), (10, .int v25), (11, .int x11), (12, .int x12), (13, .int x13), (14, .int x14)]) [2, 3, 4, 5, 1, 6, 0, 7, 8, 9, 10] rfl ?_
          exact z11_fog_J160 hd (fun x4 x5 x6 x7 x8 x9 x10 x11 x12 x13 x14 => ih x4 x5 x6 x7 x8 x9 x10 x11 x12 x13 x14) x4 x5 x6 x7 v22 x9 v25 x11 x12 x13 x14 (0 : Int32)
      · refine z_iconst (pc := 159) (v := (0 : Int32)) dX11_fog_159 (by decide) ?_
        refine z_lv (lv' := [(4, .int x4), (5, .int x5), (6, .int x6), (7, .int x7), (8, .int v22), (9, .int x9), (10, .int v25), (11, .int x11), (12, .int x12), (13, .int x13), (14, .int x14)]) [2, 3, 4, 5, 1, 6, 0, 7, 8, 9, 10] rfl ?_
        exact z11_fog_J160 hd (fun x4 x5 x6 x7 x8 x9 x10 x11 x12 x13 x14 => ih x4 x5 x6 x7 x8 x9 x10 x11 x12 x13 x14) x4 x5 x6 x7 v22 x9 v25 x11 x12 x13 x14 (0 : Int32)
def f11_fog (N : Nat) (x1 : Int32) (x2 : Int32) (x3 : Int32) (x4 : Int32) : Option Int32 := (f11_isABoat x1).bind fun v1 => (if v1 = true then ((f11_isABoat x2).bind fun v5 => (if v5 = true then ((f11_within x3 (10 : Int32) (99 : Int32)).bind fun v9 => (if v9 = true then ((f11_within x4 (0 : Int32) (2 : Int32)).bind fun v13 => (if v13 = true then (if (if 0 ≤ ((x1 / (10 : Int32)) - (x2 / (10 : Int32))) then ((x1 / (10 : Int32)) - (x2 / (10 : Int32))) else 0 - ((x1 / (10 : Int32)) - (x2 / (10 : Int32)))) = 0 then (f11_fog_L110 N N x4 (if (1 : Int32) < (x3 / (10 : Int32)) then (x3 / (10 : Int32)) else (1 : Int32)) (x3 - x3 / (10 : Int32) * (10 : Int32)) (x1 / (10 : Int32)) ((x1 - x1 / (10 : Int32) * (10 : Int32)) - (1 : Int32)) (x2 / (10 : Int32)) ((x2 - x2 / (10 : Int32) * (10 : Int32)) - (1 : Int32)) (if 0 ≤ ((x1 / (10 : Int32)) - (x2 / (10 : Int32))) then ((x1 / (10 : Int32)) - (x2 / (10 : Int32))) else 0 - ((x1 / (10 : Int32)) - (x2 / (10 : Int32)))) (0 : Int32) (1 : Int32) (1 : Int32)) else (f11_fog_L110 N N x4 (if (1 : Int32) < (x3 / (10 : Int32)) then (x3 / (10 : Int32)) else (1 : Int32)) (x3 - x3 / (10 : Int32) * (10 : Int32)) (x1 / (10 : Int32)) ((x1 - x1 / (10 : Int32) * (10 : Int32)) - (1 : Int32)) (x2 / (10 : Int32)) ((x2 - x2 / (10 : Int32) * (10 : Int32)) - (1 : Int32)) (if 0 ≤ ((x1 / (10 : Int32)) - (x2 / (10 : Int32))) then ((x1 / (10 : Int32)) - (x2 / (10 : Int32))) else 0 - ((x1 / (10 : Int32)) - (x2 / (10 : Int32)))) (0 : Int32) (0 : Int32) (1 : Int32))) else (some ((-2 : Int32))))) else (some ((-2 : Int32))))) else (some ((-2 : Int32))))) else (some ((-2 : Int32))))
theorem c11_fog {l : Launch} {E : am_E} {N : Nat} {σ : am_S} {x1 : Int32} {x2 : Int32} {x3 : Int32} {x4 : Int32} {v : Int32} (hf : f11_fog N x1 x2 x3 x4 = some v) : Ctr l E msC YX11_fog (2) 0 0 [.ref 8, .int x1, .int x2, .int x3, .int x4] σ (some (.int v)) σ := by
  refine ctr_of (G := fun u r s => r = some (.int u) ∧ s = σ) (by decide +kernel) (Nat.le_of_ble_eq_true rfl) hf ⟨rfl, rfl⟩ (fun d hd => ?_)
  refine z_eqlv (lv' := [(0, .ref 8), (1, .int x1), (2, .int x2), (3, .int x3), (4, .int x4)]) rfl ?_
  unfold f11_fog
  refine z_iload_n (pc := 0) 1 dX11_fog_0 rfl rfl ?_
  refine z_callB (pc := 1) [.int x1] [] rfl (lk_S (Yc := YX11_isABoat) (n := 1) dX11_fog_1 rfl np_X11_isABoat mh_RX11 (by decide) ml_RX11_283 st_X11_isABoat in_RX11 cd_X11_isABoat) (Nat.le_trans (by decide) hd) ⟨by decide, by decide⟩ (Nat.le_of_ble_eq_true rfl) (am_kp.rf _) (fun v1 h3 => c11_isABoat h3) (fun v1 h3 => ?_)
  refine z_bz_eq (pc := 4) (tgt := 35) dX11_fog_4 (by decide) (fun h4 => ?_) (fun h4 => ?_)
  · refine z_iload_n (pc := 7) 2 dX11_fog_7 rfl rfl ?_
    refine z_callB (pc := 8) [.int x2] [] rfl (lk_S (Yc := YX11_isABoat) (n := 1) dX11_fog_8 rfl np_X11_isABoat mh_RX11 (by decide) ml_RX11_283 st_X11_isABoat in_RX11 cd_X11_isABoat) (Nat.le_trans (by decide) hd) ⟨by decide, by decide⟩ (Nat.le_of_ble_eq_true rfl) (am_kp.rf _) (fun v5 h7 => c11_isABoat h7) (fun v5 h7 => ?_)
    refine z_bz_eq (pc := 11) (tgt := 35) dX11_fog_11 (by decide) (fun h8 => ?_) (fun h8 => ?_)
    · refine z_iload_n (pc := 14) 3 dX11_fog_14 rfl rfl ?_
      refine z_bipush (pc := 15) (v := (10 : Int32)) dX11_fog_15 (by decide) ?_
      refine z_bipush (pc := 17) (v := (99 : Int32)) dX11_fog_17 (by decide) ?_
      refine z_callB (pc := 19) [.int x3, .int (10 : Int32), .int (99 : Int32)] [] rfl (lk_S (Yc := YX11_within) (n := 3) dX11_fog_19 rfl np_X11_within mh_RX11 (by decide) ml_RX11_66 st_X11_within in_RX11 cd_X11_within) (Nat.le_trans (by decide) hd) ⟨by decide, by decide⟩ (Nat.le_of_ble_eq_true rfl) (am_kp.rf _) (fun v9 h11 => c11_within h11) (fun v9 h11 => ?_)
      refine z_bz_eq (pc := 22) (tgt := 35) dX11_fog_22 (by decide) (fun h12 => ?_) (fun h12 => ?_)
      · refine z_iload (pc := 25) 4 dX11_fog_25 rfl ?_
        refine z_iconst (pc := 27) (v := (0 : Int32)) dX11_fog_27 (by decide) ?_
        refine z_iconst (pc := 28) (v := (2 : Int32)) dX11_fog_28 (by decide) ?_
        refine z_callB (pc := 29) [.int x4, .int (0 : Int32), .int (2 : Int32)] [] rfl (lk_S (Yc := YX11_within) (n := 3) dX11_fog_29 rfl np_X11_within mh_RX11 (by decide) ml_RX11_66 st_X11_within in_RX11 cd_X11_within) (Nat.le_trans (by decide) hd) ⟨by decide, by decide⟩ (Nat.le_of_ble_eq_true rfl) (am_kp.rf _) (fun v13 h15 => c11_within h15) (fun v13 h15 => ?_)
        refine z_bz_ne (pc := 32) (tgt := 38) dX11_fog_32 (by decide) (fun h16 => ?_) (fun h16 => ?_)
        · refine z_iconst (pc := 38) (v := (1 : Int32)) dX11_fog_38 (by decide) ?_
          refine z_iload_n (pc := 39) 3 dX11_fog_39 rfl rfl ?_
          refine z_bipush (pc := 40) (v := (10 : Int32)) dX11_fog_40 (by decide) ?_
          refine z_idiv (pc := 42) dX11_fog_42 (by decide) ?_
          refine z_max (pc := 43) dX11_fog_43 ml_RX11_189 st_math_max in_math cd_math_max (Nat.le_trans (by decide) hd) (Nat.le_of_ble_eq_true rfl) ⟨by decide, by decide⟩ ?_
          refine z_istore (pc := 46) (lv' := [(5, .int (if (1 : Int32) < (x3 / (10 : Int32)) then (x3 / (10 : Int32)) else (1 : Int32))), (0, .ref 8), (1, .int x1), (2, .int x2), (3, .int x3), (4, .int x4)]) dX11_fog_46 (by decide) rfl ?_
          refine z_iload_n (pc := 48) 4 dX11_fog_48 rfl rfl ?_
          refine z_bipush (pc := 49) (v := (10 : Int32)) dX11_fog_49 (by decide) ?_
          refine z_irem (pc := 51) dX11_fog_51 (by decide) ?_
          refine z_istore (pc := 52) (lv' := [(6, .int (x3 - x3 / (10 : Int32) * (10 : Int32))), (5, .int (if (1 : Int32) < (x3 / (10 : Int32)) then (x3 / (10 : Int32)) else (1 : Int32))), (0, .ref 8), (1, .int x1), (2, .int x2), (3, .int x3), (4, .int x4)]) dX11_fog_52 (by decide) rfl ?_
          refine z_iload_n (pc := 54) 3 dX11_fog_54 rfl rfl ?_
          refine z_bipush (pc := 55) (v := (10 : Int32)) dX11_fog_55 (by decide) ?_
          refine z_idiv (pc := 57) dX11_fog_57 (by decide) ?_
          refine z_istore (pc := 58) (lv' := [(7, .int (x1 / (10 : Int32))), (6, .int (x3 - x3 / (10 : Int32) * (10 : Int32))), (5, .int (if (1 : Int32) < (x3 / (10 : Int32)) then (x3 / (10 : Int32)) else (1 : Int32))), (0, .ref 8), (1, .int x1), (2, .int x2), (3, .int x3), (4, .int x4)]) dX11_fog_58 (by decide) rfl ?_
          refine z_iload_n (pc := 60) 4 dX11_fog_60 rfl rfl ?_
          refine z_bipush (pc := 61) (v := (10 : Int32)) dX11_fog_61 (by decide) ?_
          refine z_irem (pc := 63) dX11_fog_63 (by decide) ?_
          refine z_iconst (pc := 64) (v := (1 : Int32)) dX11_fog_64 (by decide) ?_
          refine z_isub (pc := 65) dX11_fog_65 ?_
          refine z_istore (pc := 66) (lv' := [(8, .int ((x1 - x1 / (10 : Int32) * (10 : Int32)) - (1 : Int32))), (7, .int (x1 / (10 : Int32))), (6, .int (x3 - x3 / (10 : Int32) * (10 : Int32))), (5, .int (if (1 : Int32) < (x3 / (10 : Int32)) then (x3 / (10 : Int32)) else (1 : Int32))), (0, .ref 8), (1, .int x1), (2, .int x2), (3, .int x3), (4, .int x4)]) dX11_fog_66 (by decide) rfl ?_
          refine z_iload_n (pc := 68) 6 dX11_fog_68 rfl rfl ?_
          refine z_bipush (pc := 69) (v := (10 : Int32)) dX11_fog_69 (by decide) ?_
          refine z_idiv (pc := 71) dX11_fog_71 (by decide) ?_
          refine z_istore (pc := 72) (lv' := [(9, .int (x2 / (10 : Int32))), (8, .int ((x1 - x1 / (10 : Int32) * (10 : Int32)) - (1 : Int32))), (7, .int (x1 / (10 : Int32))), (6, .int (x3 - x3 / (10 : Int32) * (10 : Int32))), (5, .int (if (1 : Int32) < (x3 / (10 : Int32)) then (x3 / (10 : Int32)) else (1 : Int32))), (0, .ref 8), (1, .int x1), (2, .int x2), (3, .int x3), (4, .int x4)]) dX11_fog_72 (by decide) rfl ?_
          refine z_iload_n (pc := 74) 7 dX11_fog_74 rfl rfl ?_
          refine z_bipush (pc := 75) (v := (10 : Int32)) dX11_fog_75 (by decide) ?_
          refine z_irem (pc := 77) dX11_fog_77 (by decide) ?_
          refine z_iconst (pc := 78) (v := (1 : Int32)) dX11_fog_78 (by decide) ?_
          refine z_isub (pc := 79) dX11_fog_79 ?_
          refine z_istore (pc := 80) (lv' := [(10, .int ((x2 - x2 / (10 : Int32) * (10 : Int32)) - (1 : Int32))), (9, .int (x2 / (10 : Int32))), (8, .int ((x1 - x1 / (10 : Int32) * (10 : Int32)) - (1 : Int32))), (7, .int (x1 / (10 : Int32))), (6, .int (x3 - x3 / (10 : Int32) * (10 : Int32))), (5, .int (if (1 : Int32) < (x3 / (10 : Int32)) then (x3 / (10 : Int32)) else (1 : Int32))), (0, .ref 8), (1, .int x1), (2, .int x2), (3, .int x3), (4, .int x4)]) dX11_fog_80 (by decide) rfl ?_
          refine z_iload (pc := 82) 3 dX11_fog_82 rfl ?_
          refine z_iload (pc := 84) 1 dX11_fog_84 rfl ?_
          refine z_isub (pc := 86) dX11_fog_86 ?_
          refine z_abs (pc := 87) dX11_fog_87 ml_RX11_286 st_math_abs in_math cd_math_abs (Nat.le_trans (by decide) hd) (Nat.le_of_ble_eq_true rfl) ⟨by decide, by decide⟩ ?_
          refine z_istore (pc := 90) (lv' := [(11, .int (if 0 ≤ ((x1 / (10 : Int32)) - (x2 / (10 : Int32))) then ((x1 / (10 : Int32)) - (x2 / (10 : Int32))) else 0 - ((x1 / (10 : Int32)) - (x2 / (10 : Int32))))), (10, .int ((x2 - x2 / (10 : Int32) * (10 : Int32)) - (1 : Int32))), (9, .int (x2 / (10 : Int32))), (8, .int ((x1 - x1 / (10 : Int32) * (10 : Int32)) - (1 : Int32))), (7, .int (x1 / (10 : Int32))), (6, .int (x3 - x3 / (10 : Int32) * (10 : Int32))), (5, .int (if (1 : Int32) < (x3 / (10 : Int32)) then (x3 / (10 : Int32)) else (1 : Int32))), (0, .ref 8), (1, .int x1), (2, .int x2), (3, .int x3), (4, .int x4)]) dX11_fog_90 (by decide) rfl ?_
          refine z_iconst (pc := 92) (v := (0 : Int32)) dX11_fog_92 (by decide) ?_
          refine z_istore (pc := 93) (lv' := [(12, .int (0 : Int32)), (11, .int (if 0 ≤ ((x1 / (10 : Int32)) - (x2 / (10 : Int32))) then ((x1 / (10 : Int32)) - (x2 / (10 : Int32))) else 0 - ((x1 / (10 : Int32)) - (x2 / (10 : Int32))))), (10, .int ((x2 - x2 / (10 : Int32) * (10 : Int32)) - (1 : Int32))), (9, .int (x2 / (10 : Int32))), (8, .int ((x1 - x1 / (10 : Int32) * (10 : Int32)) - (1 : Int32))), (7, .int (x1 / (10 : Int32))), (6, .int (x3 - x3 / (10 : Int32) * (10 : Int32))), (5, .int (if (1 : Int32) < (x3 / (10 : Int32)) then (x3 / (10 : Int32)) else (1 : Int32))), (0, .ref 8), (1, .int x1), (2, .int x2), (3, .int x3), (4, .int x4)]) dX11_fog_93 (by decide) rfl ?_
          refine z_iload (pc := 95) 1 dX11_fog_95 rfl ?_
          refine z_if_ne (pc := 97) (tgt := 104) dX11_fog_97 (by decide) (fun h17 => ?_) (fun h17 => ?_)
          · refine z_iconst (pc := 100) (v := (1 : Int32)) dX11_fog_100 (by decide) ?_
            refine z_goto (pc := 101) (tgt := 105) dX11_fog_101 (by decide) ?_
            refine z_istore (pc := 105) (lv' := [(13, .int (1 : Int32)), (12, .int (0 : Int32)), (11, .int (if 0 ≤ ((x1 / (10 : Int32)) - (x2 / (10 : Int32))) then ((x1 / (10 : Int32)) - (x2 / (10 : Int32))) else 0 - ((x1 / (10 : Int32)) - (x2 / (10 : Int32))))), (10, .int ((x2 - x2 / (10 : Int32) * (10 : Int32)) - (1 : Int32))), (9, .int (x2 / (10 : Int32))), (8, .int ((x1 - x1 / (10 : Int32) * (10 : Int32)) - (1 : Int32))), (7, .int (x1 / (10 : Int32))), (6, .int (x3 - x3 / (10 : Int32) * (10 : Int32))), (5, .int (if (1 : Int32) < (x3 / (10 : Int32)) then (x3 / (10 : Int32)) else (1 : Int32))), (0, .ref 8), (1, .int x1), (2, .int x2), (3, .int x3), (4, .int x4)]) dX11_fog_105 (by decide) rfl ?_
            refine z_iconst (pc := 107) (v := (1 : Int32)) dX11_fog_107 (by decide) ?_
            refine z_istore (pc := 108) (lv' := [(14, .int (1 : Int32)), (13, .int (1 : Int32)), (12, .int (0 : Int32)), (11, .int (if 0 ≤ ((x1 / (10 : Int32)) - (x2 / (10 : Int32))) then ((x1 / (10 : Int32)) - (x2 / (10 : Int32))) else 0 - ((x1 / (10 : Int32)) - (x2 / (10 : Int32))))), (10, .int ((x2 - x2 / (10 : Int32) * (10 : Int32)) - (1 : Int32))), (9, .int (x2 / (10 : Int32))), (8, .int ((x1 - x1 / (10 : Int32) * (10 : Int32)) - (1 : Int32))), (7, .int (x1 / (10 : Int32))), (6, .int (x3 - x3 / (10 : Int32) * (10 : Int32))), (5, .int (if (1 : Int32) < (x3 / (10 : Int32)) then (x3 / (10 : Int32)) else (1 : Int32))), (0, .ref 8), (1, .int x1), (2, .int x2), (3, .int x3), (4, .int x4)]) dX11_fog_108 (by decide) rfl ?_
            refine z_lv (lv' := [(4, .int x4), (5, .int (if (1 : Int32) < (x3 / (10 : Int32)) then (x3 / (10 : Int32)) else (1 : Int32))), (6, .int (x3 - x3 / (10 : Int32) * (10 : Int32))), (7, .int (x1 / (10 : Int32))), (8, .int ((x1 - x1 / (10 : Int32) * (10 : Int32)) - (1 : Int32))), (9, .int (x2 / (10 : Int32))), (10, .int ((x2 - x2 / (10 : Int32) * (10 : Int32)) - (1 : Int32))), (11, .int (if 0 ≤ ((x1 / (10 : Int32)) - (x2 / (10 : Int32))) then ((x1 / (10 : Int32)) - (x2 / (10 : Int32))) else 0 - ((x1 / (10 : Int32)) - (x2 / (10 : Int32))))), (12, .int (0 : Int32)), (13, .int (1 : Int32)), (14, .int (1 : Int32))]) [14, 9, 8, 7, 6, 5, 4, 3, 2, 1, 0] rfl ?_
            exact z11_fog_L110 hd N x4 (if (1 : Int32) < (x3 / (10 : Int32)) then (x3 / (10 : Int32)) else (1 : Int32)) (x3 - x3 / (10 : Int32) * (10 : Int32)) (x1 / (10 : Int32)) ((x1 - x1 / (10 : Int32) * (10 : Int32)) - (1 : Int32)) (x2 / (10 : Int32)) ((x2 - x2 / (10 : Int32) * (10 : Int32)) - (1 : Int32)) (if 0 ≤ ((x1 / (10 : Int32)) - (x2 / (10 : Int32))) then ((x1 / (10 : Int32)) - (x2 / (10 : Int32))) else 0 - ((x1 / (10 : Int32)) - (x2 / (10 : Int32)))) (0 : Int32) (1 : Int32) (1 : Int32)
          · refine z_iconst (pc := 104) (v := (0 : Int32)) dX11_fog_104 (by decide) ?_
            refine z_istore (pc := 105) (lv' := [(13, .int (0 : Int32)), (12, .int (0 : Int32)), (11, .int (if 0 ≤ ((x1 / (10 : Int32)) - (x2 / (10 : Int32))) then ((x1 / (10 : Int32)) - (x2 / (10 : Int32))) else 0 - ((x1 / (10 : Int32)) - (x2 / (10 : Int32))))), (10, .int ((x2 - x2 / (10 : Int32) * (10 : Int32)) - (1 : Int32))), (9, .int (x2 / (10 : Int32))), (8, .int ((x1 - x1 / (10 : Int32) * (10 : Int32)) - (1 : Int32))), (7, .int (x1 / (10 : Int32))), (6, .int (x3 - x3 / (10 : Int32) * (10 : Int32))), (5, .int (if (1 : Int32) < (x3 / (10 : Int32)) then (x3 / (10 : Int32)) else (1 : Int32))), (0, .ref 8), (1, .int x1), (2, .int x2), (3, .int x3), (4, .int x4)]) dX11_fog_105 (by decide) rfl ?_
            refine z_iconst (pc := 107) (v := (1 : Int32)) dX11_fog_107 (by decide) ?_
            refine z_istore (pc := 108) (lv' := [(14, .int (1 : Int32)), (13, .int (0 : Int32)), (12, .int (0 : Int32)), (11, .int (if 0 ≤ ((x1 / (10 : Int32)) - (x2 / (10 : Int32))) then ((x1 / (10 : Int32)) - (x2 / (10 : Int32))) else 0 - ((x1 / (10 : Int32)) - (x2 / (10 : Int32))))), (10, .int ((x2 - x2 / (10 : Int32) * (10 : Int32)) - (1 : Int32))), (9, .int (x2 / (10 : Int32))), (8, .int ((x1 - x1 / (10 : Int32) * (10 : Int32)) - (1 : Int32))), (7, .int (x1 / (10 : Int32))), (6, .int (x3 - x3 / (10 : Int32) * (10 : Int32))), (5, .int (if (1 : Int32) < (x3 / (10 : Int32)) then (x3 / (10 : Int32)) else (1 : Int32))), (0, .ref 8), (1, .int x1), (2, .int x2), (3, .int x3), (4, .int x4)]) dX11_fog_108 (by decide) rfl ?_
            refine z_lv (lv' := [(4, .int x4), (5, .int (if (1 : Int32) < (x3 / (10 : Int32)) then (x3 / (10 : Int32)) else (1 : Int32))), (6, .int (x3 - x3 / (10 : Int32) * (10 : Int32))), (7, .int (x1 / (10 : Int32))), (8, .int ((x1 - x1 / (10 : Int32) * (10 : Int32)) - (1 : Int32))), (9, .int (x2 / (10 : Int32))), (10, .int ((x2 - x2 / (10 : Int32) * (10 : Int32)) - (1 : Int32))), (11, .int (if 0 ≤ ((x1 / (10 : Int32)) - (x2 / (10 : Int32))) then ((x1 / (10 : Int32)) - (x2 / (10 : Int32))) else 0 - ((x1 / (10 : Int32)) - (x2 / (10 : Int32))))), (12, .int (0 : Int32)), (13, .int (0 : Int32)), (14, .int (1 : Int32))]) [14, 9, 8, 7, 6, 5, 4, 3, 2, 1, 0] rfl ?_
            exact z11_fog_L110 hd N x4 (if (1 : Int32) < (x3 / (10 : Int32)) then (x3 / (10 : Int32)) else (1 : Int32)) (x3 - x3 / (10 : Int32) * (10 : Int32)) (x1 / (10 : Int32)) ((x1 - x1 / (10 : Int32) * (10 : Int32)) - (1 : Int32)) (x2 / (10 : Int32)) ((x2 - x2 / (10 : Int32) * (10 : Int32)) - (1 : Int32)) (if 0 ≤ ((x1 / (10 : Int32)) - (x2 / (10 : Int32))) then ((x1 / (10 : Int32)) - (x2 / (10 : Int32))) else 0 - ((x1 / (10 : Int32)) - (x2 / (10 : Int32)))) (0 : Int32) (0 : Int32) (1 : Int32)
        · refine z_bipush (pc := 35) (v := (-2 : Int32)) dX11_fog_35 (by decide) ?_
          exact z_rI dX11_fog_37 rfl ⟨by decide, by decide⟩
      · refine z_bipush (pc := 35) (v := (-2 : Int32)) dX11_fog_35 (by decide) ?_
        exact z_rI dX11_fog_37 rfl ⟨by decide, by decide⟩
    · refine z_bipush (pc := 35) (v := (-2 : Int32)) dX11_fog_35 (by decide) ?_
      exact z_rI dX11_fog_37 rfl ⟨by decide, by decide⟩
  · refine z_bipush (pc := 35) (v := (-2 : Int32)) dX11_fog_35 (by decide) ?_
    exact z_rI dX11_fog_37 rfl ⟨by decide, by decide⟩
def f11_foot (N : Nat) (σ : am_S) (x1 : Int32) : Option (Int32 × am_S) := (f11_within x1 (0 : Int32) (99 : Int32)).bind fun v1 => (if v1 = true then ((f4_leastWay N σ x1 (fF σ 8 3)).bind fun (v5, s6) => (if (1000000 : Int32) ≤ v5 then (some ((-1 : Int32), s6)) else (some (v5, s6)))) else (some ((-2 : Int32), σ)))
theorem c11_foot {l : Launch} {E : am_E} {N : Nat} {σ : am_S} {x1 : Int32} {v : Int32} {σ1 : am_S} (hf : f11_foot N σ x1 = some (v, σ1)) : Ctr l E msC YX11_foot (3) 0 0 [.ref 8, .int x1] σ (some (.int v)) σ1 := by
  refine ctr_of (G := fun u r s => r = some (.int u.1) ∧ s = u.2) (by decide +kernel) (Nat.le_of_ble_eq_true rfl) hf ⟨rfl, rfl⟩ (fun d hd => ?_)
  refine z_eqlv (lv' := [(0, .ref 8), (1, .int x1)]) rfl ?_
  unfold f11_foot
  refine z_iload_n (pc := 0) 1 dX11_foot_0 rfl rfl ?_
  refine z_iconst (pc := 1) (v := (0 : Int32)) dX11_foot_1 (by decide) ?_
  refine z_bipush (pc := 2) (v := (99 : Int32)) dX11_foot_2 (by decide) ?_
  refine z_callB (pc := 4) [.int x1, .int (0 : Int32), .int (99 : Int32)] [] rfl (lk_S (Yc := YX11_within) (n := 3) dX11_foot_4 rfl np_X11_within mh_RX11 (by decide) ml_RX11_66 st_X11_within in_RX11 cd_X11_within) (Nat.le_trans (by decide) hd) ⟨by decide, by decide⟩ (Nat.le_of_ble_eq_true rfl) (am_kp.rf _) (fun v1 h3 => c11_within h3) (fun v1 h3 => ?_)
  refine z_bz_ne (pc := 7) (tgt := 13) dX11_foot_7 (by decide) (fun h4 => ?_) (fun h4 => ?_)
  · refine z_aload_n (pc := 13) 0 dX11_foot_13 rfl rfl ?_
    refine z_getQ (pc := 14) (b := 21) dX11_foot_14 kC8 fr_RX11_42_11 (by decide) rfl ?_
    refine z_iload_n (pc := 17) 1 dX11_foot_17 rfl rfl ?_
    refine z_aload_n (pc := 18) 0 dX11_foot_18 rfl rfl ?_
    refine z_getQ (pc := 19) (b := 9) dX11_foot_19 kC8 fr_RX11_11_11 (by decide) rfl ?_
    refine z_aload_n (pc := 22) 0 dX11_foot_22 rfl rfl ?_
    refine z_getI (pc := 23) dX11_foot_23 (am_ob.s kC8) fr_RX11_74_11 (by decide) ?_
    refine z_callIs (pc := 26) [.ref 21, .int x1, .ref 9, .int (fF σ 8 3)] [] rfl (lk_V (Yc := YX4_leastWay) (n := 3) dX11_foot_26 rfl rfl (am_ob.s kC21) rfl rfl np_X4_leastWay mh_RX4 (by decide) ml_RX11_268 im_X4_leastWay se_RX4_X4_leastWay_X4_leastWay in_RX4 cd_X4_leastWay) (Nat.le_trans (by decide) hd) ⟨by decide, by decide⟩ (Nat.le_of_ble_eq_true rfl) (am_kp.rf _) (fun v5 s6 h7 => c4_leastWay h7) (fun v5 s6 h7 => ?_)
    refine z_istore_n (pc := 29) (lv' := [(2, .int v5), (0, .ref 8), (1, .int x1)]) dX11_foot_29 rfl (by decide) rfl ?_
    refine z_iload_n (pc := 30) 0 dX11_foot_30 rfl rfl ?_
    refine z_ldcw (pc := 31) (v := (1000000 : Int32)) dX11_foot_31 ki_RX11_272 ?_
    refine z_ic_ge (pc := 34) (tgt := 41) dX11_foot_34 (by decide) (fun h8 => ?_) (fun h8 => ?_)
    · refine z_iconst (pc := 41) (v := (-1 : Int32)) dX11_foot_41 (by decide) ?_
      exact z_rIs dX11_foot_42 rfl ⟨by decide, by decide⟩
    · refine z_iload_n (pc := 37) 0 dX11_foot_37 rfl rfl ?_
      refine z_goto (pc := 38) (tgt := 42) dX11_foot_38 (by decide) ?_
      exact z_rIs dX11_foot_42 rfl ⟨by decide, by decide⟩
  · refine z_bipush (pc := 10) (v := (-2 : Int32)) dX11_foot_10 (by decide) ?_
    exact z_rIs dX11_foot_12 rfl ⟨by decide, by decide⟩
def f11_force (σ : am_S) (x1 : Int32) : Option (Int32 × am_S) := (f11_within x1 (0 : Int32) ((fF σ 11 4) - (1 : Int32))).bind fun v1 => (if v1 = true then (some (fF σ 11 5, sF σ 11 5 x1)) else (some ((-2 : Int32), σ)))
theorem c11_force {l : Launch} {E : am_E} {σ : am_S} {x1 : Int32} {v : Int32} {σ1 : am_S} (hf : f11_force σ x1 = some (v, σ1)) : Ctr l E msC YX11_force (1) 0 0 [.ref 8, .int x1] σ (some (.int v)) σ1 := by
  refine ctr_of (G := fun u r s => r = some (.int u.1) ∧ s = u.2) (by decide +kernel) (Nat.le_of_ble_eq_true rfl) hf ⟨rfl, rfl⟩ (fun d hd => ?_)
  refine z_eqlv (lv' := [(0, .ref 8), (1, .int x1)]) rfl ?_
  unfold f11_force
  refine z_iload_n (pc := 0) 1 dX11_force_0 rfl rfl ?_
  refine z_iconst (pc := 1) (v := (0 : Int32)) dX11_force_1 (by decide) ?_
  refine z_aload_n (pc := 2) 0 dX11_force_2 rfl rfl ?_
  refine z_getQ (pc := 3) (b := 11) dX11_force_3 kC8 fr_RX11_24_11 (by decide) rfl ?_
  refine z_getI (pc := 6) dX11_force_6 (am_ob.s kC11) fr_RX11_177_10 (by decide) ?_
  refine z_iconst (pc := 9) (v := (1 : Int32)) dX11_force_9 (by decide) ?_
  refine z_isub (pc := 10) dX11_force_10 ?_
  refine z_callB (pc := 11) [.int x1, .int (0 : Int32), .int ((fF σ 11 4) - (1 : Int32))] [] rfl (lk_S (Yc := YX11_within) (n := 3) dX11_force_11 rfl np_X11_within mh_RX11 (by decide) ml_RX11_66 st_X11_within in_RX11 cd_X11_within) (Nat.le_trans (by decide) hd) ⟨by decide, by decide⟩ (Nat.le_of_ble_eq_true rfl) (am_kp.rf _) (fun v1 h3 => c11_within h3) (fun v1 h3 => ?_)
  refine z_bz_ne (pc := 14) (tgt := 20) dX11_force_14 (by decide) (fun h4 => ?_) (fun h4 => ?_)
  · refine z_aload_n (pc := 20) 0 dX11_force_20 rfl rfl ?_
    refine z_getQ (pc := 21) (b := 11) dX11_force_21 kC8 fr_RX11_24_11 (by decide) rfl ?_
    refine z_getI (pc := 24) dX11_force_24 (am_ob.s kC11) fr_RX11_180_10 (by decide) ?_
    refine z_istore_n (pc := 27) (lv' := [(2, .int (fF σ 11 5)), (0, .ref 8), (1, .int x1)]) dX11_force_27 rfl (by decide) rfl ?_
    refine z_aload_n (pc := 28) 1 dX11_force_28 rfl rfl ?_
    refine z_getQ (pc := 29) (b := 11) dX11_force_29 kC8 fr_RX11_24_11 (by decide) rfl ?_
    refine z_iload_n (pc := 32) 2 dX11_force_32 rfl rfl ?_
    refine z_putI (pc := 33) dX11_force_33 (am_ob.s kC11) fw_RX11_180_10 (by decide) ?_
    refine z_iload_n (pc := 36) 0 dX11_force_36 rfl rfl ?_
    exact z_rIs dX11_force_37 rfl ⟨by decide, by decide⟩
  · refine z_bipush (pc := 17) (v := (-2 : Int32)) dX11_force_17 (by decide) ?_
    exact z_rIs dX11_force_19 rfl ⟨by decide, by decide⟩
def f11_mostTurns_L11 (σ : am_S) (N : Nat) : Nat → Int32 → Int32 → Int32 → Int32 → Int32 → Int32 → Option Int32
  | 0, _, _, _, _, _, _ => none
  | n + 1, x1, x2, x3, x4, x5, x6 => if fF σ 8 5 ≤ x6 then (some (x3)) else (if am_in x6 14 = true then ((fQ σ 10 x6.toNatClampNeg).elim (if x6 = x1 then (f11_mostTurns_L11 σ N n x1 x2 x3 x4 x5 (x6 + (1 : Int32))) else (none)) (fun a3 => if x6 = x1 then (f11_mostTurns_L11 σ N n x1 x2 x3 x4 x5 (x6 + (1 : Int32))) else (if [2, 3, 5, 6, 7, 9].contains (am_ci σ a3) = true then (if fF σ a3 3 = x2 then (if x3 = (-1 : Int32) then (f11_mostTurns_L11 σ N n x1 x2 x6 (fF σ a3 6) (fF σ a3 1) (x6 + (1 : Int32))) else (if x4 < fF σ a3 6 then (f11_mostTurns_L11 σ N n x1 x2 x6 (fF σ a3 6) (fF σ a3 1) (x6 + (1 : Int32))) else (if fF σ a3 6 = x4 then (if fF σ a3 1 ≤ x5 then (f11_mostTurns_L11 σ N n x1 x2 x3 x4 x5 (x6 + (1 : Int32))) else (f11_mostTurns_L11 σ N n x1 x2 x6 (fF σ a3 6) (fF σ a3 1) (x6 + (1 : Int32)))) else (f11_mostTurns_L11 σ N n x1 x2 x3 x4 x5 (x6 + (1 : Int32)))))) else (f11_mostTurns_L11 σ N n x1 x2 x3 x4 x5 (x6 + (1 : Int32)))) else none))) else none)
theorem z11_mostTurns_L11 {l : Launch} {E : am_E} {d : Nat} {N : Nat} {σ : am_S} (hd : 0 ≤ d) : ∀ (n : Nat) (x1 : Int32) (x2 : Int32) (x3 : Int32) (x4 : Int32) (x5 : Int32) (x6 : Int32), Z l E msC σ YX11_mostTurns d 0 0 11 [(0, .ref 8), (1, .int x1), (2, .int x2), (3, .int x3), (4, .int x4), (5, .int x5), (6, .int x6)] [] 0 0 σ (f11_mostTurns_L11 σ N n x1 x2 x3 x4 x5 x6) (fun u r s => r = some (.int u) ∧ s = σ) := by
  intro n
  induction n with
  | zero => intros; exact z_none
  | succ n ih =>
    intro x1 x2 x3 x4 x5 x6
    unfold f11_mostTurns_L11
    refine z_iload (pc := 11) 6 dX11_mostTurns_11 rfl ?_
    refine z_aload_n (pc := 13) 0 dX11_mostTurns_13 rfl rfl ?_
    refine z_getI (pc := 14) dX11_mostTurns_14 (am_ob.s kC8) fr_RX11_110_11 (by decide) ?_
    refine z_ic_ge (pc := 17) (tgt := 105) dX11_mostTurns_17 (by decide) (fun h1 => ?_) (fun h1 => ?_)
    · refine z_iload_n (pc := 105) 3 dX11_mostTurns_105 rfl rfl ?_
      exact z_rI dX11_mostTurns_106 rfl ⟨by decide, by decide⟩
    · refine z_aload_n (pc := 20) 0 dX11_mostTurns_20 rfl rfl ?_
      refine z_getQ (pc := 21) (b := 10) dX11_mostTurns_21 kC8 fr_RX11_17_11 (by decide) rfl ?_
      refine z_iload (pc := 24) 6 dX11_mostTurns_24 rfl ?_
      refine z_qald (pc := 26) dX11_mostTurns_26 ⟨by decide, by decide⟩ (am_ar.s kC10) (fun h2 => ?_)
      refine z_elim (fun e4 => ?_) (fun a3 e4 => ?_)
      · refine z_astoreN (pc := 27) (lv' := [(7, .null), (0, .ref 8), (1, .int x1), (2, .int x2), (3, .int x3), (4, .int x4), (5, .int x5), (6, .int x6)]) dX11_mostTurns_27 (by decide) rfl ?_
        refine z_iload (pc := 29) 7 dX11_mostTurns_29 rfl ?_
        refine z_iload_n (pc := 31) 2 dX11_mostTurns_31 rfl rfl ?_
        refine z_ic_eq (pc := 32) (tgt := 99) dX11_mostTurns_32 (by decide) (fun h5 => ?_) (fun h5 => ?_)
        · refine z_iinc (pc := 99) (v := x6 + (1 : Int32)) (lv' := [(6, .int (x6 + (1 : Int32))), (7, .null), (0, .ref 8), (1, .int x1), (2, .int x2), (3, .int x3), (4, .int x4), (5, .int x5)]) 7 dX11_mostTurns_99 rfl rfl (by decide) rfl ?_
          refine z_goto (pc := 102) (tgt := 11) dX11_mostTurns_102 (by decide) ?_
          refine z_lv (lv' := [(0, .ref 8), (1, .int x1), (2, .int x2), (3, .int x3), (4, .int x4), (5, .int x5), (6, .int (x6 + (1 : Int32)))]) [2, 3, 4, 5, 6, 7, 0] rfl ?_
          exact ih x1 x2 x3 x4 x5 (x6 + (1 : Int32))
        · refine z_aloadN (pc := 35) 0 dX11_mostTurns_35 rfl ?_
          exact z_none
      · refine z_astore (pc := 27) (lv' := [(7, .ref a3), (0, .ref 8), (1, .int x1), (2, .int x2), (3, .int x3), (4, .int x4), (5, .int x5), (6, .int x6)]) dX11_mostTurns_27 (by decide) rfl ?_
        refine z_iload (pc := 29) 7 dX11_mostTurns_29 rfl ?_
        refine z_iload_n (pc := 31) 2 dX11_mostTurns_31 rfl rfl ?_
        refine z_ic_eq (pc := 32) (tgt := 99) dX11_mostTurns_32 (by decide) (fun h6 => ?_) (fun h6 => ?_)
        · refine z_iinc (pc := 99) (v := x6 + (1 : Int32)) (lv' := [(6, .int (x6 + (1 : Int32))), (7, .ref a3), (0, .ref 8), (1, .int x1), (2, .int x2), (3, .int x3), (4, .int x4), (5, .int x5)]) 7 dX11_mostTurns_99 rfl rfl (by decide) rfl ?_
          refine z_goto (pc := 102) (tgt := 11) dX11_mostTurns_102 (by decide) ?_
          refine z_lv (lv' := [(0, .ref 8), (1, .int x1), (2, .int x2), (3, .int x3), (4, .int x4), (5, .int x5), (6, .int (x6 + (1 : Int32)))]) [2, 3, 4, 5, 6, 7, 0] rfl ?_
          exact ih x1 x2 x3 x4 x5 (x6 + (1 : Int32))
        · refine z_aload (pc := 35) 0 dX11_mostTurns_35 rfl ?_
          refine z_guard (fun g7 => ?_)
          refine z_getIp (pc := 37) [2, 3, 5, 6, 7, 9] dX11_mostTurns_37 g7 (by decide) fr_RX11_151_p235679 ?_
          refine z_iload_n (pc := 40) 3 dX11_mostTurns_40 rfl rfl ?_
          refine z_ic_eq (pc := 41) (tgt := 47) dX11_mostTurns_41 (by decide) (fun h8 => ?_) (fun h8 => ?_)
          · refine z_iload_n (pc := 47) 4 dX11_mostTurns_47 rfl rfl ?_
            refine z_iconst (pc := 48) (v := (-1 : Int32)) dX11_mostTurns_48 (by decide) ?_
            refine z_ic_eq (pc := 49) (tgt := 82) dX11_mostTurns_49 (by decide) (fun h9 => ?_) (fun h9 => ?_)
            · refine z_iload (pc := 82) 7 dX11_mostTurns_82 rfl ?_
              refine z_istore_n (pc := 84) (lv' := [(3, .int x6), (7, .ref a3), (0, .ref 8), (1, .int x1), (2, .int x2), (4, .int x4), (5, .int x5), (6, .int x6)]) dX11_mostTurns_84 rfl (by decide) rfl ?_
              refine z_aload (pc := 85) 1 dX11_mostTurns_85 rfl ?_
              refine z_getIp (pc := 87) [2, 3, 5, 6, 7, 9] dX11_mostTurns_87 g7 (by decide) fr_RX11_157_p235679 ?_
              refine z_istore (pc := 90) (lv' := [(4, .int (fF σ a3 6)), (3, .int x6), (7, .ref a3), (0, .ref 8), (1, .int x1), (2, .int x2), (5, .int x5), (6, .int x6)]) dX11_mostTurns_90 (by decide) rfl ?_
              refine z_aload (pc := 92) 2 dX11_mostTurns_92 rfl ?_
              refine z_getIp (pc := 94) [2, 3, 5, 6, 7, 9] dX11_mostTurns_94 g7 (by decide) fr_RX11_145_p235679 ?_
              refine z_istore (pc := 97) (lv' := [(5, .int (fF σ a3 1)), (4, .int (fF σ a3 6)), (3, .int x6), (7, .ref a3), (0, .ref 8), (1, .int x1), (2, .int x2), (6, .int x6)]) dX11_mostTurns_97 (by decide) rfl ?_
              refine z_iinc (pc := 99) (v := x6 + (1 : Int32)) (lv' := [(6, .int (x6 + (1 : Int32))), (5, .int (fF σ a3 1)), (4, .int (fF σ a3 6)), (3, .int x6), (7, .ref a3), (0, .ref 8), (1, .int x1), (2, .int x2)]) 7 dX11_mostTurns_99 rfl rfl (by decide) rfl ?_
              refine z_goto (pc := 102) (tgt := 11) dX11_mostTurns_102 (by decide) ?_
              refine z_lv (lv' := [(0, .ref 8), (1, .int x1), (2, .int x2), (3, .int x6), (4, .int (fF σ a3 6)), (5, .int (fF σ a3 1)), (6, .int (x6 + (1 : Int32)))]) [5, 6, 7, 3, 2, 1, 0] rfl ?_
              exact ih x1 x2 x6 (fF σ a3 6) (fF σ a3 1) (x6 + (1 : Int32))
            · refine z_aload (pc := 52) 0 dX11_mostTurns_52 rfl ?_
              refine z_getIp (pc := 54) [2, 3, 5, 6, 7, 9] dX11_mostTurns_54 g7 (by decide) fr_RX11_157_p235679 ?_
              refine z_iload (pc := 57) 5 dX11_mostTurns_57 rfl ?_
              refine z_ic_gt (pc := 59) (tgt := 82) dX11_mostTurns_59 (by decide) (fun h10 => ?_) (fun h10 => ?_)
              · refine z_iload (pc := 82) 7 dX11_mostTurns_82 rfl ?_
                refine z_istore_n (pc := 84) (lv' := [(3, .int x6), (7, .ref a3), (0, .ref 8), (1, .int x1), (2, .int x2), (4, .int x4), (5, .int x5), (6, .int x6)]) dX11_mostTurns_84 rfl (by decide) rfl ?_
                refine z_aload (pc := 85) 1 dX11_mostTurns_85 rfl ?_
                refine z_getIp (pc := 87) [2, 3, 5, 6, 7, 9] dX11_mostTurns_87 g7 (by decide) fr_RX11_157_p235679 ?_
                refine z_istore (pc := 90) (lv' := [(4, .int (fF σ a3 6)), (3, .int x6), (7, .ref a3), (0, .ref 8), (1, .int x1), (2, .int x2), (5, .int x5), (6, .int x6)]) dX11_mostTurns_90 (by decide) rfl ?_
                refine z_aload (pc := 92) 2 dX11_mostTurns_92 rfl ?_
                refine z_getIp (pc := 94) [2, 3, 5, 6, 7, 9] dX11_mostTurns_94 g7 (by decide) fr_RX11_145_p235679 ?_
                refine z_istore (pc := 97) (lv' := [(5, .int (fF σ a3 1)), (4, .int (fF σ a3 6)), (3, .int x6), (7, .ref a3), (0, .ref 8), (1, .int x1), (2, .int x2), (6, .int x6)]) dX11_mostTurns_97 (by decide) rfl ?_
                refine z_iinc (pc := 99) (v := x6 + (1 : Int32)) (lv' := [(6, .int (x6 + (1 : Int32))), (5, .int (fF σ a3 1)), (4, .int (fF σ a3 6)), (3, .int x6), (7, .ref a3), (0, .ref 8), (1, .int x1), (2, .int x2)]) 7 dX11_mostTurns_99 rfl rfl (by decide) rfl ?_
                refine z_goto (pc := 102) (tgt := 11) dX11_mostTurns_102 (by decide) ?_
                refine z_lv (lv' := [(0, .ref 8), (1, .int x1), (2, .int x2), (3, .int x6), (4, .int (fF σ a3 6)), (5, .int (fF σ a3 1)), (6, .int (x6 + (1 : Int32)))]) [5, 6, 7, 3, 2, 1, 0] rfl ?_
                exact ih x1 x2 x6 (fF σ a3 6) (fF σ a3 1) (x6 + (1 : Int32))
              · refine z_aload (pc := 62) 0 dX11_mostTurns_62 rfl ?_
                refine z_getIp (pc := 64) [2, 3, 5, 6, 7, 9] dX11_mostTurns_64 g7 (by decide) fr_RX11_157_p235679 ?_
                refine z_iload (pc := 67) 5 dX11_mostTurns_67 rfl ?_
                refine z_ic_ne (pc := 69) (tgt := 99) dX11_mostTurns_69 (by decide) (fun h11 => ?_) (fun h11 => ?_)
                · refine z_aload (pc := 72) 0 dX11_mostTurns_72 rfl ?_
                  refine z_getIp (pc := 74) [2, 3, 5, 6, 7, 9] dX11_mostTurns_74 g7 (by decide) fr_RX11_145_p235679 ?_
                  refine z_iload (pc := 77) 6 dX11_mostTurns_77 rfl ?_
                  refine z_ic_le (pc := 79) (tgt := 99) dX11_mostTurns_79 (by decide) (fun h12 => ?_) (fun h12 => ?_)
                  · refine z_iinc (pc := 99) (v := x6 + (1 : Int32)) (lv' := [(6, .int (x6 + (1 : Int32))), (7, .ref a3), (0, .ref 8), (1, .int x1), (2, .int x2), (3, .int x3), (4, .int x4), (5, .int x5)]) 7 dX11_mostTurns_99 rfl rfl (by decide) rfl ?_
                    refine z_goto (pc := 102) (tgt := 11) dX11_mostTurns_102 (by decide) ?_
                    refine z_lv (lv' := [(0, .ref 8), (1, .int x1), (2, .int x2), (3, .int x3), (4, .int x4), (5, .int x5), (6, .int (x6 + (1 : Int32)))]) [2, 3, 4, 5, 6, 7, 0] rfl ?_
                    exact ih x1 x2 x3 x4 x5 (x6 + (1 : Int32))
                  · refine z_iload (pc := 82) 7 dX11_mostTurns_82 rfl ?_
                    refine z_istore_n (pc := 84) (lv' := [(3, .int x6), (7, .ref a3), (0, .ref 8), (1, .int x1), (2, .int x2), (4, .int x4), (5, .int x5), (6, .int x6)]) dX11_mostTurns_84 rfl (by decide) rfl ?_
                    refine z_aload (pc := 85) 1 dX11_mostTurns_85 rfl ?_
                    refine z_getIp (pc := 87) [2, 3, 5, 6, 7, 9] dX11_mostTurns_87 g7 (by decide) fr_RX11_157_p235679 ?_
                    refine z_istore (pc := 90) (lv' := [(4, .int (fF σ a3 6)), (3, .int x6), (7, .ref a3), (0, .ref 8), (1, .int x1), (2, .int x2), (5, .int x5), (6, .int x6)]) dX11_mostTurns_90 (by decide) rfl ?_
                    refine z_aload (pc := 92) 2 dX11_mostTurns_92 rfl ?_
                    refine z_getIp (pc := 94) [2, 3, 5, 6, 7, 9] dX11_mostTurns_94 g7 (by decide) fr_RX11_145_p235679 ?_
                    refine z_istore (pc := 97) (lv' := [(5, .int (fF σ a3 1)), (4, .int (fF σ a3 6)), (3, .int x6), (7, .ref a3), (0, .ref 8), (1, .int x1), (2, .int x2), (6, .int x6)]) dX11_mostTurns_97 (by decide) rfl ?_
                    refine z_iinc (pc := 99) (v := x6 + (1 : Int32)) (lv' := [(6, .int (x6 + (1 : Int32))), (5, .int (fF σ a3 1)), (4, .int (fF σ a3 6)), (3, .int x6), (7, .ref a3), (0, .ref 8), (1, .int x1), (2, .int x2)]) 7 dX11_mostTurns_99 rfl rfl (by decide) rfl ?_
                    refine z_goto (pc := 102) (tgt := 11) dX11_mostTurns_102 (by decide) ?_
                    refine z_lv (lv' := [(0, .ref 8), (1, .int x1), (2, .int x2), (3, .int x6), (4, .int (fF σ a3 6)), (5, .int (fF σ a3 1)), (6, .int (x6 + (1 : Int32)))]) [5, 6, 7, 3, 2, 1, 0] rfl ?_
                    exact ih x1 x2 x6 (fF σ a3 6) (fF σ a3 1) (x6 + (1 : Int32))
                · refine z_iinc (pc := 99) (v := x6 + (1 : Int32)) (lv' := [(6, .int (x6 + (1 : Int32))), (7, .ref a3), (0, .ref 8), (1, .int x1), (2, .int x2), (3, .int x3), (4, .int x4), (5, .int x5)]) 7 dX11_mostTurns_99 rfl rfl (by decide) rfl ?_
                  refine z_goto (pc := 102) (tgt := 11) dX11_mostTurns_102 (by decide) ?_
                  refine z_lv (lv' := [(0, .ref 8), (1, .int x1), (2, .int x2), (3, .int x3), (4, .int x4), (5, .int x5), (6, .int (x6 + (1 : Int32)))]) [2, 3, 4, 5, 6, 7, 0] rfl ?_
                  exact ih x1 x2 x3 x4 x5 (x6 + (1 : Int32))
          · refine z_goto (pc := 44) (tgt := 99) dX11_mostTurns_44 (by decide) ?_
            refine z_iinc (pc := 99) (v := x6 + (1 : Int32)) (lv' := [(6, .int (x6 + (1 : Int32))), (7, .ref a3), (0, .ref 8), (1, .int x1), (2, .int x2), (3, .int x3), (4, .int x4), (5, .int x5)]) 7 dX11_mostTurns_99 rfl rfl (by decide) rfl ?_
            refine z_goto (pc := 102) (tgt := 11) dX11_mostTurns_102 (by decide) ?_
            refine z_lv (lv' := [(0, .ref 8), (1, .int x1), (2, .int x2), (3, .int x3), (4, .int x4), (5, .int x5), (6, .int (x6 + (1 : Int32)))]) [2, 3, 4, 5, 6, 7, 0] rfl ?_
            exact ih x1 x2 x3 x4 x5 (x6 + (1 : Int32))
def f11_mostTurns (N : Nat) (σ : am_S) (x1 : Int32) (x2 : Int32) : Option Int32 := f11_mostTurns_L11 σ N N x1 x2 (-1 : Int32) (0 : Int32) (0 : Int32) (0 : Int32)
theorem c11_mostTurns {l : Launch} {E : am_E} {N : Nat} {σ : am_S} {x1 : Int32} {x2 : Int32} {v : Int32} (hf : f11_mostTurns N σ x1 x2 = some v) : Ctr l E msC YX11_mostTurns (0) 0 0 [.ref 8, .int x1, .int x2] σ (some (.int v)) σ := by
  refine ctr_of (G := fun u r s => r = some (.int u) ∧ s = σ) (by decide +kernel) (Nat.le_of_ble_eq_true rfl) hf ⟨rfl, rfl⟩ (fun d hd => ?_)
  refine z_eqlv (lv' := [(0, .ref 8), (1, .int x1), (2, .int x2)]) rfl ?_
  unfold f11_mostTurns
  refine z_iconst (pc := 0) (v := (-1 : Int32)) dX11_mostTurns_0 (by decide) ?_
  refine z_istore_n (pc := 1) (lv' := [(3, .int (-1 : Int32)), (0, .ref 8), (1, .int x1), (2, .int x2)]) dX11_mostTurns_1 rfl (by decide) rfl ?_
  refine z_iconst (pc := 2) (v := (0 : Int32)) dX11_mostTurns_2 (by decide) ?_
  refine z_istore (pc := 3) (lv' := [(4, .int (0 : Int32)), (3, .int (-1 : Int32)), (0, .ref 8), (1, .int x1), (2, .int x2)]) dX11_mostTurns_3 (by decide) rfl ?_
  refine z_iconst (pc := 5) (v := (0 : Int32)) dX11_mostTurns_5 (by decide) ?_
  refine z_istore (pc := 6) (lv' := [(5, .int (0 : Int32)), (4, .int (0 : Int32)), (3, .int (-1 : Int32)), (0, .ref 8), (1, .int x1), (2, .int x2)]) dX11_mostTurns_6 (by decide) rfl ?_
  refine z_iconst (pc := 8) (v := (0 : Int32)) dX11_mostTurns_8 (by decide) ?_
  refine z_istore (pc := 9) (lv' := [(6, .int (0 : Int32)), (5, .int (0 : Int32)), (4, .int (0 : Int32)), (3, .int (-1 : Int32)), (0, .ref 8), (1, .int x1), (2, .int x2)]) dX11_mostTurns_9 (by decide) rfl ?_
  refine z_lv (lv' := [(0, .ref 8), (1, .int x1), (2, .int x2), (3, .int (-1 : Int32)), (4, .int (0 : Int32)), (5, .int (0 : Int32)), (6, .int (0 : Int32))]) [4, 5, 6, 3, 2, 1, 0] rfl ?_
  exact z11_mostTurns_L11 hd N x1 x2 (-1 : Int32) (0 : Int32) (0 : Int32) (0 : Int32)
def f11_heir (N : Nat) (σ : am_S) (x1 : Int32) (x2 : Int32) : Option Int32 := (f11_rowerAt σ x1).bind fun v1 => (v1.elim (some ((-2 : Int32))) (fun a4 => if x2 = (1 : Int32) then ((f11_eldestSon N σ x1).bind fun v7 => (some (v7))) else (if x2 = (2 : Int32) then ((f11_firstOfBlood N σ x1).bind fun v11 => (some (v11))) else (if x2 = (3 : Int32) then (if [2, 3, 5, 6, 7, 9].contains (am_ci σ a4) = true then ((f11_mostTurns N σ x1 (fF σ a4 3)).bind fun v16 => (some (v16))) else none) else (some ((-2 : Int32)))))))
theorem c11_heir {l : Launch} {E : am_E} {N : Nat} {σ : am_S} {x1 : Int32} {x2 : Int32} {v : Int32} (hf : f11_heir N σ x1 x2 = some v) : Ctr l E msC YX11_heir (2) 0 0 [.ref 8, .int x1, .int x2] σ (some (.int v)) σ := by
  refine ctr_of (G := fun u r s => r = some (.int u) ∧ s = σ) (by decide +kernel) (Nat.le_of_ble_eq_true rfl) hf ⟨rfl, rfl⟩ (fun d hd => ?_)
  refine z_eqlv (lv' := [(0, .ref 8), (1, .int x1), (2, .int x2)]) rfl ?_
  unfold f11_heir
  refine z_aload_n (pc := 0) 0 dX11_heir_0 rfl rfl ?_
  refine z_iload_n (pc := 1) 1 dX11_heir_1 rfl rfl ?_
  refine z_callR (pc := 2) [.ref 8, .int x1] [] rfl (lk_V (Yc := YX11_rowerAt) (n := 1) dX11_heir_2 rfl rfl (am_ob.s kC8) rfl rfl np_X11_rowerAt mh_RX11 (by decide) ml_RX11_106 im_X11_rowerAt se_RX11_X11_rowerAt_X11_rowerAt in_RX11 cd_X11_rowerAt) (Nat.le_trans (by decide) hd) ⟨by decide, by decide⟩ (Nat.le_of_ble_eq_true rfl) (am_kp.rf _) (fun v1 h3 => c11_rowerAt h3) (fun v1 h3 => ?_)
  refine z_elim (fun e5 => ?_) (fun a4 e5 => ?_)
  · refine z_astore_nN (pc := 5) (lv' := [(3, .null), (0, .ref 8), (1, .int x1), (2, .int x2)]) dX11_heir_5 rfl (by decide) rfl ?_
    refine z_aload_nN (pc := 6) 0 dX11_heir_6 rfl rfl ?_
    refine z_ifnonnullN (pc := 7) dX11_heir_7 ?_
    refine z_bipush (pc := 10) (v := (-2 : Int32)) dX11_heir_10 (by decide) ?_
    exact z_rI dX11_heir_12 rfl ⟨by decide, by decide⟩
  · refine z_astore_n (pc := 5) (lv' := [(3, .ref a4), (0, .ref 8), (1, .int x1), (2, .int x2)]) dX11_heir_5 rfl (by decide) rfl ?_
    refine z_aload_n (pc := 6) 0 dX11_heir_6 rfl rfl ?_
    refine z_ifnonnull (pc := 7) (tgt := 13) dX11_heir_7 (by decide) ?_
    refine z_iload_n (pc := 13) 3 dX11_heir_13 rfl rfl ?_
    refine z_ite (fun h6 => ?_) (fun h6 => ?_)
    · refine z_tsEq (pc := 14) (1) (off := 26) (tgt := 40) dX11_heir_14 h6 (by decide) (by decide) (by decide) (by decide) ?_
      refine z_aload_n (pc := 40) 1 dX11_heir_40 rfl rfl ?_
      refine z_iload_n (pc := 41) 2 dX11_heir_41 rfl rfl ?_
      refine z_callI (pc := 42) [.ref 8, .int x1] [] rfl (lk_V (Yc := YX11_eldestSon) (n := 1) dX11_heir_42 rfl rfl (am_ob.s kC8) rfl rfl np_X11_eldestSon mh_RX11 (by decide) ml_RX11_250 im_X11_eldestSon se_RX11_X11_eldestSon_X11_eldestSon in_RX11 cd_X11_eldestSon) (Nat.le_trans (by decide) hd) ⟨by decide, by decide⟩ (Nat.le_of_ble_eq_true rfl) (am_kp.rf _) (fun v7 h9 => c11_eldestSon h9) (fun v7 h9 => ?_)
      exact z_rI dX11_heir_45 rfl ⟨by decide, by decide⟩
    · refine z_ite (fun h10 => ?_) (fun h10 => ?_)
      · refine z_tsEq (pc := 14) (2) (off := 32) (tgt := 46) dX11_heir_14 h10 (by decide) (by decide) (by decide) (by decide) ?_
        refine z_aload_n (pc := 46) 1 dX11_heir_46 rfl rfl ?_
        refine z_iload_n (pc := 47) 2 dX11_heir_47 rfl rfl ?_
        refine z_callI (pc := 48) [.ref 8, .int x1] [] rfl (lk_V (Yc := YX11_firstOfBlood) (n := 1) dX11_heir_48 rfl rfl (am_ob.s kC8) rfl rfl np_X11_firstOfBlood mh_RX11 (by decide) ml_RX11_253 im_X11_firstOfBlood se_RX11_X11_firstOfBlood_X11_firstOfBlood in_RX11 cd_X11_firstOfBlood) (Nat.le_trans (by decide) hd) ⟨by decide, by decide⟩ (Nat.le_of_ble_eq_true rfl) (am_kp.rf _) (fun v11 h13 => c11_firstOfBlood h13) (fun v11 h13 => ?_)
        exact z_rI dX11_heir_51 rfl ⟨by decide, by decide⟩
      · refine z_ite (fun h14 => ?_) (fun h14 => ?_)
        · refine z_tsEq (pc := 14) (3) (off := 38) (tgt := 52) dX11_heir_14 h14 (by decide) (by decide) (by decide) (by decide) ?_
          refine z_aload_n (pc := 52) 1 dX11_heir_52 rfl rfl ?_
          refine z_iload_n (pc := 53) 2 dX11_heir_53 rfl rfl ?_
          refine z_aload_n (pc := 54) 0 dX11_heir_54 rfl rfl ?_
          refine z_guard (fun g15 => ?_)
          refine z_getIp (pc := 55) [2, 3, 5, 6, 7, 9] dX11_heir_55 g15 (by decide) fr_RX11_151_p235679 ?_
          refine z_callI (pc := 58) [.ref 8, .int x1, .int (fF σ a4 3)] [] rfl (lk_V (Yc := YX11_mostTurns) (n := 2) dX11_heir_58 rfl rfl (am_ob.s kC8) rfl rfl np_X11_mostTurns mh_RX11 (by decide) ml_RX11_256 im_X11_mostTurns se_RX11_X11_mostTurns_X11_mostTurns in_RX11 cd_X11_mostTurns) (Nat.le_trans (by decide) hd) ⟨by decide, by decide⟩ (Nat.le_of_ble_eq_true rfl) (am_kp.rf _) (fun v16 h18 => c11_mostTurns h18) (fun v16 h18 => ?_)
          exact z_rI dX11_heir_61 rfl ⟨by decide, by decide⟩
        · refine z_tsNe (pc := 14) (tgt := 62) [1, 2, 3] 3 dX11_heir_14 (by decide) (by decide) (List.forall_mem_cons.mpr ⟨h6, List.forall_mem_cons.mpr ⟨h10, List.forall_mem_cons.mpr ⟨h14, List.forall_mem_nil _⟩⟩⟩) (by decide) ?_
          refine z_bipush (pc := 62) (v := (-2 : Int32)) dX11_heir_62 (by decide) ?_
          exact z_rI dX11_heir_64 rfl ⟨by decide, by decide⟩
def f11_ill (σ : am_S) (x1 : Int32) (x2 : Int32) : Option (Int32 × am_S) := (f11_rowerAt σ x1).bind fun v1 => (v1.elim (some ((-2 : Int32), σ)) (fun a4 => (f11_within x2 (0 : Int32) (1 : Int32)).bind fun v6 => (if v6 = true then (if [2, 3, 5, 6, 7, 9].contains (am_ci σ a4) = true then (some (fF σ a4 5, sF σ a4 5 x2)) else none) else (some ((-2 : Int32), σ)))))
theorem c11_ill {l : Launch} {E : am_E} {σ : am_S} {x1 : Int32} {x2 : Int32} {v : Int32} {σ1 : am_S} (hf : f11_ill σ x1 x2 = some (v, σ1)) : Ctr l E msC YX11_ill (1) 0 0 [.ref 8, .int x1, .int x2] σ (some (.int v)) σ1 := by
  refine ctr_of (G := fun u r s => r = some (.int u.1) ∧ s = u.2) (by decide +kernel) (Nat.le_of_ble_eq_true rfl) hf ⟨rfl, rfl⟩ (fun d hd => ?_)
  refine z_eqlv (lv' := [(0, .ref 8), (1, .int x1), (2, .int x2)]) rfl ?_
  unfold f11_ill
  refine z_aload_n (pc := 0) 0 dX11_ill_0 rfl rfl ?_
  refine z_iload_n (pc := 1) 1 dX11_ill_1 rfl rfl ?_
  refine z_callR (pc := 2) [.ref 8, .int x1] [] rfl (lk_V (Yc := YX11_rowerAt) (n := 1) dX11_ill_2 rfl rfl (am_ob.s kC8) rfl rfl np_X11_rowerAt mh_RX11 (by decide) ml_RX11_106 im_X11_rowerAt se_RX11_X11_rowerAt_X11_rowerAt in_RX11 cd_X11_rowerAt) (Nat.le_trans (by decide) hd) ⟨by decide, by decide⟩ (Nat.le_of_ble_eq_true rfl) (am_kp.rf _) (fun v1 h3 => c11_rowerAt h3) (fun v1 h3 => ?_)
  refine z_elim (fun e5 => ?_) (fun a4 e5 => ?_)
  · refine z_astore_nN (pc := 5) (lv' := [(3, .null), (0, .ref 8), (1, .int x1), (2, .int x2)]) dX11_ill_5 rfl (by decide) rfl ?_
    refine z_aload_nN (pc := 6) 0 dX11_ill_6 rfl rfl ?_
    refine z_ifnullN (pc := 7) (tgt := 19) dX11_ill_7 (by decide) ?_
    refine z_bipush (pc := 19) (v := (-2 : Int32)) dX11_ill_19 (by decide) ?_
    exact z_rIs dX11_ill_21 rfl ⟨by decide, by decide⟩
  · refine z_astore_n (pc := 5) (lv' := [(3, .ref a4), (0, .ref 8), (1, .int x1), (2, .int x2)]) dX11_ill_5 rfl (by decide) rfl ?_
    refine z_aload_n (pc := 6) 0 dX11_ill_6 rfl rfl ?_
    refine z_ifnull (pc := 7) dX11_ill_7 ?_
    refine z_iload_n (pc := 10) 3 dX11_ill_10 rfl rfl ?_
    refine z_iconst (pc := 11) (v := (0 : Int32)) dX11_ill_11 (by decide) ?_
    refine z_iconst (pc := 12) (v := (1 : Int32)) dX11_ill_12 (by decide) ?_
    refine z_callB (pc := 13) [.int x2, .int (0 : Int32), .int (1 : Int32)] [] rfl (lk_S (Yc := YX11_within) (n := 3) dX11_ill_13 rfl np_X11_within mh_RX11 (by decide) ml_RX11_66 st_X11_within in_RX11 cd_X11_within) (Nat.le_trans (by decide) hd) ⟨by decide, by decide⟩ (Nat.le_of_ble_eq_true rfl) (am_kp.rf _) (fun v6 h8 => c11_within h8) (fun v6 h8 => ?_)
    refine z_bz_ne (pc := 16) (tgt := 22) dX11_ill_16 (by decide) (fun h9 => ?_) (fun h9 => ?_)
    · refine z_aload_n (pc := 22) 0 dX11_ill_22 rfl rfl ?_
      refine z_guard (fun g10 => ?_)
      refine z_getIp (pc := 23) [2, 3, 5, 6, 7, 9] dX11_ill_23 g10 (by decide) fr_RX11_135_p235679 ?_
      refine z_istore (pc := 26) (lv' := [(4, .int (fF σ a4 5)), (3, .ref a4), (0, .ref 8), (1, .int x1), (2, .int x2)]) dX11_ill_26 (by decide) rfl ?_
      refine z_aload_n (pc := 28) 1 dX11_ill_28 rfl rfl ?_
      refine z_iload_n (pc := 29) 4 dX11_ill_29 rfl rfl ?_
      refine z_putIp (pc := 30) [2, 3, 5, 6, 7, 9] dX11_ill_30 g10 (by decide) fw_RX11_135_p235679 ?_
      refine z_iload (pc := 33) 0 dX11_ill_33 rfl ?_
      exact z_rIs dX11_ill_35 rfl ⟨by decide, by decide⟩
    · refine z_bipush (pc := 19) (v := (-2 : Int32)) dX11_ill_19 (by decide) ?_
      exact z_rIs dX11_ill_21 rfl ⟨by decide, by decide⟩
def f11_image_J93 (N : Nat) (σ : am_S) : Option (Int32 × am_S) := (f4_keep σ).bind fun s4 => (some (fF (sF s4 8 12 (1 : Int32)) 8 5, sF s4 8 12 (1 : Int32)))
theorem z11_image_J93 {l : Launch} {E : am_E} {d : Nat} {σ0 : am_S} {N : Nat} (hd : 2 ≤ d) (σ : am_S) : Z l E msC σ0 YX11_image d 0 0 93 [(0, .ref 8)] [] 0 0 σ (f11_image_J93 N σ) (fun u r s => r = some (.int u.1) ∧ s = u.2) := by
  unfold f11_image_J93
  refine z_aload_n (pc := 93) 0 dX11_image_93 rfl rfl ?_
  refine z_getQ (pc := 94) (b := 21) dX11_image_94 kC8 fr_RX11_42_11 (by decide) rfl ?_
  refine z_callVs (pc := 97) [.ref 21] [] rfl (lk_V (Yc := YX4_keep) (n := 0) dX11_image_97 rfl rfl (am_ob.s kC21) rfl rfl np_X4_keep mh_RX4 (by decide) ml_RX11_319 im_X4_keep se_RX4_X4_keep_X4_keep in_RX4 cd_X4_keep) (Nat.le_trans (by decide) hd) ⟨by decide, by decide⟩ (Nat.le_of_ble_eq_true rfl) (am_kp.rf _) (fun s4 h5 => c4_keep h5) (fun s4 h5 => ?_)
  refine z_aload_n (pc := 100) 0 dX11_image_100 rfl rfl ?_
  refine z_iconst (pc := 101) (v := (1 : Int32)) dX11_image_101 (by decide) ?_
  refine z_putZ (pc := 102) dX11_image_102 (am_ob.s kC8) fw_RX11_320_11 (by decide) ⟨by decide +kernel, by decide +kernel⟩ ?_
  refine z_aload_n (pc := 105) 0 dX11_image_105 rfl rfl ?_
  refine z_getI (pc := 106) dX11_image_106 (am_ob.s kC8) fr_RX11_110_11 (by decide) ?_
  exact z_rIs dX11_image_109 rfl ⟨by decide, by decide⟩
def f11_image_L70 (N : Nat) : Nat → Int32 → am_S → Option (Int32 × am_S)
  | 0, _, _ => none
  | n + 1, x1, σ => if fF σ 8 5 ≤ x1 then (f11_image_J93 N σ) else (if am_in x1 14 = true then ((fQ σ 10 x1.toNatClampNeg).elim (none) (fun a7 => if [2, 3, 5, 6, 7, 9].contains (am_ci σ a7) = true then ((f7_keep σ a7).bind fun s11 => (f11_image_L70 N n (x1 + (1 : Int32)) s11)) else none)) else none)
theorem z11_image_L70 {l : Launch} {E : am_E} {d : Nat} {σ0 : am_S} {N : Nat} (hd : 2 ≤ d) : ∀ (n : Nat) (x1 : Int32) (σ : am_S), Z l E msC σ0 YX11_image d 0 0 70 [(0, .ref 8), (1, .int x1)] [] 0 0 σ (f11_image_L70 N n x1 σ) (fun u r s => r = some (.int u.1) ∧ s = u.2) := by
  intro n
  induction n with
  | zero => intros; exact z_none
  | succ n ih =>
    intro x1 σ
    unfold f11_image_L70
    refine z_iload_n (pc := 70) 1 dX11_image_70 rfl rfl ?_
    refine z_aload_n (pc := 71) 0 dX11_image_71 rfl rfl ?_
    refine z_getI (pc := 72) dX11_image_72 (am_ob.s kC8) fr_RX11_110_11 (by decide) ?_
    refine z_ic_ge (pc := 75) (tgt := 93) dX11_image_75 (by decide) (fun h2 => ?_) (fun h2 => ?_)
    · refine z_lv (lv' := [(0, .ref 8)]) [0] rfl ?_
      exact z11_image_J93 hd σ
    · refine z_aload_n (pc := 78) 0 dX11_image_78 rfl rfl ?_
      refine z_getQ (pc := 79) (b := 10) dX11_image_79 kC8 fr_RX11_17_11 (by decide) rfl ?_
      refine z_iload_n (pc := 82) 1 dX11_image_82 rfl rfl ?_
      refine z_qald (pc := 83) dX11_image_83 ⟨by decide, by decide⟩ (am_ar.s kC10) (fun h6 => ?_)
      refine z_elim (fun e8 => ?_) (fun a7 e8 => ?_)
      · exact z_none
      · refine z_guard (fun g9 => ?_)
        refine z_callDV (pc := 84) [.ref a7] [] rfl ⟨by decide, by decide⟩ (Nat.le_of_ble_eq_true rfl) (fun v hv => by
    rcases am_cs6 g9 with hc | hc | hc | hc | hc | hc
    · exact ⟨_, _, lk_U (Yc := YX7_keep) (n := 0) (x := yX7_keep) RX7 dX11_image_84 rfl rfl (am_ob.d hc (by decide)) rfl rfl np_X7_keep mh_RX7 (by decide) ml_RX11_318 sm_X7_keep_RX7 se_RX2_X7_keep_X7_keep im_X7_keep in_RX7 cd_X7_keep, (Nat.le_trans (by decide) hd), c7_keep hv⟩
    · exact ⟨_, _, lk_U (Yc := YX7_keep) (n := 0) (x := yX7_keep) RX7 dX11_image_84 rfl rfl (am_ob.d hc (by decide)) rfl rfl np_X7_keep mh_RX7 (by decide) ml_RX11_318 sm_X7_keep_RX7 se_RX3_X7_keep_X7_keep im_X7_keep in_RX7 cd_X7_keep, (Nat.le_trans (by decide) hd), c7_keep hv⟩
    · exact ⟨_, _, lk_U (Yc := YX7_keep) (n := 0) (x := yX7_keep) RX7 dX11_image_84 rfl rfl (am_ob.d hc (by decide)) rfl rfl np_X7_keep mh_RX7 (by decide) ml_RX11_318 sm_X7_keep_RX7 se_RX5_X7_keep_X7_keep im_X7_keep in_RX7 cd_X7_keep, (Nat.le_trans (by decide) hd), c7_keep hv⟩
    · exact ⟨_, _, lk_U (Yc := YX7_keep) (n := 0) (x := yX7_keep) RX7 dX11_image_84 rfl rfl (am_ob.d hc (by decide)) rfl rfl np_X7_keep mh_RX7 (by decide) ml_RX11_318 sm_X7_keep_RX7 se_RX6_X7_keep_X7_keep im_X7_keep in_RX7 cd_X7_keep, (Nat.le_trans (by decide) hd), c7_keep hv⟩
    · exact ⟨_, _, lk_V (Yc := YX7_keep) (n := 0) dX11_image_84 rfl rfl (am_ob.d hc (by decide)) rfl rfl np_X7_keep mh_RX7 (by decide) ml_RX11_318 im_X7_keep se_RX7_X7_keep_X7_keep in_RX7 cd_X7_keep, (Nat.le_trans (by decide) hd), c7_keep hv⟩
    · exact ⟨_, _, lk_U (Yc := YX7_keep) (n := 0) (x := yX7_keep) RX7 dX11_image_84 rfl rfl (am_ob.d hc (by decide)) rfl rfl np_X7_keep mh_RX7 (by decide) ml_RX11_318 sm_X7_keep_RX7 se_RX9_X7_keep_X7_keep im_X7_keep in_RX7 cd_X7_keep, (Nat.le_trans (by decide) hd), c7_keep hv⟩) (fun s11 h12 => ?_)
        refine z_iinc (pc := 87) (v := x1 + (1 : Int32)) (lv' := [(1, .int (x1 + (1 : Int32))), (0, .ref 8)]) 1 dX11_image_87 rfl rfl (by decide) rfl ?_
        refine z_goto (pc := 90) (tgt := 70) dX11_image_90 (by decide) ?_
        refine z_lv (lv' := [(0, .ref 8), (1, .int (x1 + (1 : Int32)))]) [1, 0] rfl ?_
        exact ih (x1 + (1 : Int32)) s11
def f11_image_J68 (N : Nat) (σ : am_S) : Option (Int32 × am_S) := f11_image_L70 N N (0 : Int32) σ
theorem z11_image_J68 {l : Launch} {E : am_E} {d : Nat} {σ0 : am_S} {N : Nat} (hd : 2 ≤ d) (σ : am_S) : Z l E msC σ0 YX11_image d 0 0 68 [(0, .ref 8)] [] 0 0 σ (f11_image_J68 N σ) (fun u r s => r = some (.int u.1) ∧ s = u.2) := by
  unfold f11_image_J68
  refine z_iconst (pc := 68) (v := (0 : Int32)) dX11_image_68 (by decide) ?_
  refine z_istore_n (pc := 69) (lv' := [(1, .int (0 : Int32)), (0, .ref 8)]) dX11_image_69 rfl (by decide) rfl ?_
  refine z_lv (lv' := [(0, .ref 8), (1, .int (0 : Int32))]) [1, 0] rfl ?_
  exact z11_image_L70 hd N (0 : Int32) σ
def f11_image_L45 (N : Nat) : Nat → Int32 → am_S → Option (Int32 × am_S)
  | 0, _, _ => none
  | n + 1, x1, σ => if fF σ 8 3 ≤ x1 then (f11_image_J68 N σ) else (if am_in x1 7 = true then ((fQ σ 9 x1.toNatClampNeg).elim (none) (fun a14 => if [1].contains (am_ci σ a14) = true then ((f1_keep σ a14).bind fun s18 => (f11_image_L45 N n (x1 + (1 : Int32)) s18)) else none)) else none)
theorem z11_image_L45 {l : Launch} {E : am_E} {d : Nat} {σ0 : am_S} {N : Nat} (hd : 2 ≤ d) : ∀ (n : Nat) (x1 : Int32) (σ : am_S), Z l E msC σ0 YX11_image d 0 0 45 [(0, .ref 8), (1, .int x1)] [] 0 0 σ (f11_image_L45 N n x1 σ) (fun u r s => r = some (.int u.1) ∧ s = u.2) := by
  intro n
  induction n with
  | zero => intros; exact z_none
  | succ n ih =>
    intro x1 σ
    unfold f11_image_L45
    refine z_iload_n (pc := 45) 1 dX11_image_45 rfl rfl ?_
    refine z_aload_n (pc := 46) 0 dX11_image_46 rfl rfl ?_
    refine z_getI (pc := 47) dX11_image_47 (am_ob.s kC8) fr_RX11_74_11 (by decide) ?_
    refine z_ic_ge (pc := 50) (tgt := 68) dX11_image_50 (by decide) (fun h1 => ?_) (fun h1 => ?_)
    · refine z_lv (lv' := [(0, .ref 8)]) [0] rfl ?_
      exact z11_image_J68 hd σ
    · refine z_aload_n (pc := 53) 0 dX11_image_53 rfl rfl ?_
      refine z_getQ (pc := 54) (b := 9) dX11_image_54 kC8 fr_RX11_11_11 (by decide) rfl ?_
      refine z_iload_n (pc := 57) 1 dX11_image_57 rfl rfl ?_
      refine z_qald (pc := 58) dX11_image_58 ⟨by decide, by decide⟩ (am_ar.s kC9) (fun h13 => ?_)
      refine z_elim (fun e15 => ?_) (fun a14 e15 => ?_)
      · exact z_none
      · refine z_guard (fun g16 => ?_)
        refine z_callVs (pc := 59) [.ref a14] [] rfl (lk_V (Yc := YX1_keep) (n := 0) dX11_image_59 rfl rfl (am_ob.d (am_c1 g16) (by decide)) rfl rfl np_X1_keep mh_RX1 (by decide) ml_RX11_315 im_X1_keep se_RX1_X1_keep_X1_keep in_RX1 cd_X1_keep) (Nat.le_trans (by decide) hd) ⟨by decide, by decide⟩ (Nat.le_of_ble_eq_true rfl) (am_kp.rf _) (fun s18 h19 => c1_keep h19) (fun s18 h19 => ?_)
        refine z_iinc (pc := 62) (v := x1 + (1 : Int32)) (lv' := [(1, .int (x1 + (1 : Int32))), (0, .ref 8)]) 1 dX11_image_62 rfl rfl (by decide) rfl ?_
        refine z_goto (pc := 65) (tgt := 45) dX11_image_65 (by decide) ?_
        refine z_lv (lv' := [(0, .ref 8), (1, .int (x1 + (1 : Int32)))]) [1, 0] rfl ?_
        exact ih (x1 + (1 : Int32)) s18
def f11_image (N : Nat) (σ : am_S) : Option (Int32 × am_S) := f11_image_L45 N N (0 : Int32) (sF (sF (sF (sF (sF σ 8 13 (fF σ 8 0)) 8 14 (fF (sF σ 8 13 (fF σ 8 0)) 8 1)) 8 15 (fF (sF (sF σ 8 13 (fF σ 8 0)) 8 14 (fF (sF σ 8 13 (fF σ 8 0)) 8 1)) 11 5)) 8 16 (fF (sF (sF (sF σ 8 13 (fF σ 8 0)) 8 14 (fF (sF σ 8 13 (fF σ 8 0)) 8 1)) 8 15 (fF (sF (sF σ 8 13 (fF σ 8 0)) 8 14 (fF (sF σ 8 13 (fF σ 8 0)) 8 1)) 11 5)) 8 3)) 8 17 (fF (sF (sF (sF (sF σ 8 13 (fF σ 8 0)) 8 14 (fF (sF σ 8 13 (fF σ 8 0)) 8 1)) 8 15 (fF (sF (sF σ 8 13 (fF σ 8 0)) 8 14 (fF (sF σ 8 13 (fF σ 8 0)) 8 1)) 11 5)) 8 16 (fF (sF (sF (sF σ 8 13 (fF σ 8 0)) 8 14 (fF (sF σ 8 13 (fF σ 8 0)) 8 1)) 8 15 (fF (sF (sF σ 8 13 (fF σ 8 0)) 8 14 (fF (sF σ 8 13 (fF σ 8 0)) 8 1)) 11 5)) 8 3)) 8 5))
theorem c11_image {l : Launch} {E : am_E} {N : Nat} {σ : am_S} {v : Int32} {σ1 : am_S} (hf : f11_image N σ = some (v, σ1)) : Ctr l E msC YX11_image (2) 0 0 [.ref 8] σ (some (.int v)) σ1 := by
  refine ctr_of (G := fun u r s => r = some (.int u.1) ∧ s = u.2) (by decide +kernel) (Nat.le_of_ble_eq_true rfl) hf ⟨rfl, rfl⟩ (fun d hd => ?_)
  refine z_eqlv (lv' := [(0, .ref 8)]) rfl ?_
  unfold f11_image
  refine z_aload_n (pc := 0) 0 dX11_image_0 rfl rfl ?_
  refine z_aload_n (pc := 1) 0 dX11_image_1 rfl rfl ?_
  refine z_getI (pc := 2) dX11_image_2 (am_ob.s kC8) fr_RX11_100_11 (by decide) ?_
  refine z_putI (pc := 5) dX11_image_5 (am_ob.s kC8) fw_RX11_300_11 (by decide) ?_
  refine z_aload_n (pc := 8) 0 dX11_image_8 rfl rfl ?_
  refine z_aload_n (pc := 9) 0 dX11_image_9 rfl rfl ?_
  refine z_getI (pc := 10) dX11_image_10 (am_ob.s kC8) fr_RX11_103_11 (by decide) ?_
  refine z_putI (pc := 13) dX11_image_13 (am_ob.s kC8) fw_RX11_303_11 (by decide) ?_
  refine z_aload_n (pc := 16) 0 dX11_image_16 rfl rfl ?_
  refine z_aload_n (pc := 17) 0 dX11_image_17 rfl rfl ?_
  refine z_getQ (pc := 18) (b := 11) dX11_image_18 kC8 fr_RX11_24_11 (by decide) rfl ?_
  refine z_getI (pc := 21) dX11_image_21 (am_ob.s kC11) fr_RX11_180_10 (by decide) ?_
  refine z_putI (pc := 24) dX11_image_24 (am_ob.s kC8) fw_RX11_306_11 (by decide) ?_
  refine z_aload_n (pc := 27) 0 dX11_image_27 rfl rfl ?_
  refine z_aload_n (pc := 28) 0 dX11_image_28 rfl rfl ?_
  refine z_getI (pc := 29) dX11_image_29 (am_ob.s kC8) fr_RX11_74_11 (by decide) ?_
  refine z_putI (pc := 32) dX11_image_32 (am_ob.s kC8) fw_RX11_309_11 (by decide) ?_
  refine z_aload_n (pc := 35) 0 dX11_image_35 rfl rfl ?_
  refine z_aload_n (pc := 36) 0 dX11_image_36 rfl rfl ?_
  refine z_getI (pc := 37) dX11_image_37 (am_ob.s kC8) fr_RX11_110_11 (by decide) ?_
  refine z_putI (pc := 40) dX11_image_40 (am_ob.s kC8) fw_RX11_312_11 (by decide) ?_
  refine z_iconst (pc := 43) (v := (0 : Int32)) dX11_image_43 (by decide) ?_
  refine z_istore_n (pc := 44) (lv' := [(1, .int (0 : Int32)), (0, .ref 8)]) dX11_image_44 rfl (by decide) rfl ?_
  refine z_lv (lv' := [(0, .ref 8), (1, .int (0 : Int32))]) [1, 0] rfl ?_
  exact z11_image_L45 hd N (0 : Int32) (sF (sF (sF (sF (sF σ 8 13 (fF σ 8 0)) 8 14 (fF (sF σ 8 13 (fF σ 8 0)) 8 1)) 8 15 (fF (sF (sF σ 8 13 (fF σ 8 0)) 8 14 (fF (sF σ 8 13 (fF σ 8 0)) 8 1)) 11 5)) 8 16 (fF (sF (sF (sF σ 8 13 (fF σ 8 0)) 8 14 (fF (sF σ 8 13 (fF σ 8 0)) 8 1)) 8 15 (fF (sF (sF σ 8 13 (fF σ 8 0)) 8 14 (fF (sF σ 8 13 (fF σ 8 0)) 8 1)) 11 5)) 8 3)) 8 17 (fF (sF (sF (sF (sF σ 8 13 (fF σ 8 0)) 8 14 (fF (sF σ 8 13 (fF σ 8 0)) 8 1)) 8 15 (fF (sF (sF σ 8 13 (fF σ 8 0)) 8 14 (fF (sF σ 8 13 (fF σ 8 0)) 8 1)) 11 5)) 8 16 (fF (sF (sF (sF σ 8 13 (fF σ 8 0)) 8 14 (fF (sF σ 8 13 (fF σ 8 0)) 8 1)) 8 15 (fF (sF (sF σ 8 13 (fF σ 8 0)) 8 14 (fF (sF σ 8 13 (fF σ 8 0)) 8 1)) 11 5)) 8 3)) 8 5))
def f11_isUnder (σ : am_S) (a0 : Nat) (x1 : Int32) : Option Bool := if x1 = (0 : Int32) then (some (true)) else (if x1 = (1 : Int32) then (if [2, 3, 5, 6, 7, 9].contains (am_ci σ a0) = true then (some ([3, 5].contains (am_ci σ a0))) else none) else (if x1 = (2 : Int32) then (if [2, 3, 5, 6, 7, 9].contains (am_ci σ a0) = true then (some ([2, 6].contains (am_ci σ a0))) else none) else (if x1 = (3 : Int32) then (if [2, 3, 5, 6, 7, 9].contains (am_ci σ a0) = true then (some ([5].contains (am_ci σ a0))) else none) else (if x1 = (4 : Int32) then (if [2, 3, 5, 6, 7, 9].contains (am_ci σ a0) = true then (some ([9].contains (am_ci σ a0))) else none) else (if x1 = (5 : Int32) then (if [2, 3, 5, 6, 7, 9].contains (am_ci σ a0) = true then (some ([2].contains (am_ci σ a0))) else none) else (some (false)))))))
theorem c11_isUnder {l : Launch} {E : am_E} {σ : am_S} {a0 : Nat} {x1 : Int32} {v : Bool} (hf : f11_isUnder σ a0 x1 = some v) : Ctr l E msC YX11_isUnder (0) 0 0 [.ref a0, .int x1] σ (some (.int (bI v))) σ := by
  refine ctr_of (G := fun u r s => r = some (.int (bI u)) ∧ s = σ) (by decide +kernel) (Nat.le_of_ble_eq_true rfl) hf ⟨rfl, rfl⟩ (fun d hd => ?_)
  refine z_eqlv (lv' := [(0, .ref a0), (1, .int x1)]) rfl ?_
  unfold f11_isUnder
  refine z_iload_n (pc := 0) 1 dX11_isUnder_0 rfl rfl ?_
  refine z_ite (fun h1 => ?_) (fun h1 => ?_)
  · refine z_tsEq (pc := 1) (0) (off := 39) (tgt := 40) dX11_isUnder_1 h1 (by decide) (by decide) (by decide) (by decide) ?_
    refine z_iconst (pc := 40) (v := (1 : Int32)) dX11_isUnder_40 (by decide) ?_
    exact z_rB (b := true) rfl dX11_isUnder_41 rfl ⟨by decide, by decide⟩
  · refine z_ite (fun h2 => ?_) (fun h2 => ?_)
    · refine z_tsEq (pc := 1) (1) (off := 41) (tgt := 42) dX11_isUnder_1 h2 (by decide) (by decide) (by decide) (by decide) ?_
      refine z_aload_n (pc := 42) 0 dX11_isUnder_42 rfl rfl ?_
      refine z_guard (fun g3 => ?_)
      refine z_inst (pc := 43) RX3 [3, 5] dX11_isUnder_43 cl_RX11_117 g3 (by decide +kernel) ?_
      exact z_rB (b := [3, 5].contains (am_ci σ a0)) rfl dX11_isUnder_46 rfl ⟨by decide, by decide⟩
    · refine z_ite (fun h4 => ?_) (fun h4 => ?_)
      · refine z_tsEq (pc := 1) (2) (off := 46) (tgt := 47) dX11_isUnder_1 h4 (by decide) (by decide) (by decide) (by decide) ?_
        refine z_aload_n (pc := 47) 0 dX11_isUnder_47 rfl rfl ?_
        refine z_guard (fun g5 => ?_)
        refine z_inst (pc := 48) RX6 [2, 6] dX11_isUnder_48 cl_RX11_122 g5 (by decide +kernel) ?_
        exact z_rB (b := [2, 6].contains (am_ci σ a0)) rfl dX11_isUnder_51 rfl ⟨by decide, by decide⟩
      · refine z_ite (fun h6 => ?_) (fun h6 => ?_)
        · refine z_tsEq (pc := 1) (3) (off := 51) (tgt := 52) dX11_isUnder_1 h6 (by decide) (by decide) (by decide) (by decide) ?_
          refine z_aload_n (pc := 52) 0 dX11_isUnder_52 rfl rfl ?_
          refine z_guard (fun g7 => ?_)
          refine z_inst (pc := 53) RX5 [5] dX11_isUnder_53 cl_RX11_125 g7 (by decide +kernel) ?_
          exact z_rB (b := [5].contains (am_ci σ a0)) rfl dX11_isUnder_56 rfl ⟨by decide, by decide⟩
        · refine z_ite (fun h8 => ?_) (fun h8 => ?_)
          · refine z_tsEq (pc := 1) (4) (off := 56) (tgt := 57) dX11_isUnder_1 h8 (by decide) (by decide) (by decide) (by decide) ?_
            refine z_aload_n (pc := 57) 0 dX11_isUnder_57 rfl rfl ?_
            refine z_guard (fun g9 => ?_)
            refine z_inst (pc := 58) RX9 [9] dX11_isUnder_58 cl_RX11_128 g9 (by decide +kernel) ?_
            exact z_rB (b := [9].contains (am_ci σ a0)) rfl dX11_isUnder_61 rfl ⟨by decide, by decide⟩
          · refine z_ite (fun h10 => ?_) (fun h10 => ?_)
            · refine z_tsEq (pc := 1) (5) (off := 61) (tgt := 62) dX11_isUnder_1 h10 (by decide) (by decide) (by decide) (by decide) ?_
              refine z_aload_n (pc := 62) 0 dX11_isUnder_62 rfl rfl ?_
              refine z_guard (fun g11 => ?_)
              refine z_inst (pc := 63) RX2 [2] dX11_isUnder_63 cl_RX11_131 g11 (by decide +kernel) ?_
              exact z_rB (b := [2].contains (am_ci σ a0)) rfl dX11_isUnder_66 rfl ⟨by decide, by decide⟩
            · refine z_tsNe (pc := 1) (tgt := 67) [0, 1, 2, 3, 4, 5] 6 dX11_isUnder_1 (by decide) (by decide) (List.forall_mem_cons.mpr ⟨h1, List.forall_mem_cons.mpr ⟨h2, List.forall_mem_cons.mpr ⟨h4, List.forall_mem_cons.mpr ⟨h6, List.forall_mem_cons.mpr ⟨h8, List.forall_mem_cons.mpr ⟨h10, List.forall_mem_nil _⟩⟩⟩⟩⟩⟩) (by decide) ?_
              refine z_iconst (pc := 67) (v := (0 : Int32)) dX11_isUnder_67 (by decide) ?_
              exact z_rB (b := false) rfl dX11_isUnder_68 rfl ⟨by decide, by decide⟩
def f11_judge_L94 (N : Nat) : Nat → Int32 → Int32 → am_S → Option (Int32 × am_S)
  | 0, _, _, _ => none
  | n + 1, x4, x5, σ => if fF σ 8 5 ≤ x5 then (some (x4, σ)) else (if am_in x5 14 = true then ((fQ σ 10 x5.toNatClampNeg).elim (if am_in x5 14 = true then (none) else none) (fun a31 => if am_in x5 14 = true then (if [2, 3, 5, 6, 7, 9].contains (am_ci σ a31) = true then (f11_judge_L94 N n x4 (x5 + (1 : Int32)) (sF σ a31 6 (fF σ 27 x5.toNatClampNeg))) else none) else none)) else none)
theorem z11_judge_L94 {l : Launch} {E : am_E} {d : Nat} {σ0 : am_S} {N : Nat} (hd : 6 ≤ d) : ∀ (n : Nat) (x4 : Int32) (x5 : Int32) (σ : am_S), Z l E msC σ0 YX11_judge d 0 0 94 [(0, .ref 8), (4, .int x4), (5, .int x5)] [] 0 0 σ (f11_judge_L94 N n x4 x5 σ) (fun u r s => r = some (.int u.1) ∧ s = u.2) := by
  intro n
  induction n with
  | zero => intros; exact z_none
  | succ n ih =>
    intro x4 x5 σ
    unfold f11_judge_L94
    refine z_iload (pc := 94) 2 dX11_judge_94 rfl ?_
    refine z_aload_n (pc := 96) 0 dX11_judge_96 rfl rfl ?_
    refine z_getI (pc := 97) dX11_judge_97 (am_ob.s kC8) fr_RX11_110_11 (by decide) ?_
    refine z_ic_ge (pc := 100) (tgt := 126) dX11_judge_100 (by decide) (fun h29 => ?_) (fun h29 => ?_)
    · refine z_iload (pc := 126) 1 dX11_judge_126 rfl ?_
      exact z_rIs dX11_judge_128 rfl ⟨by decide, by decide⟩
    · refine z_aload_n (pc := 103) 0 dX11_judge_103 rfl rfl ?_
      refine z_getQ (pc := 104) (b := 10) dX11_judge_104 kC8 fr_RX11_17_11 (by decide) rfl ?_
      refine z_iload (pc := 107) 2 dX11_judge_107 rfl ?_
      refine z_qald (pc := 109) dX11_judge_109 ⟨by decide, by decide⟩ (am_ar.s kC10) (fun h30 => ?_)
      refine z_elim (fun e32 => ?_) (fun a31 e32 => ?_)
      · refine z_aload_n (pc := 110) 0 dX11_judge_110 rfl rfl ?_
        refine z_getQ (pc := 111) (b := 27) dX11_judge_111 kC8 fr_RX11_52_11 (by decide) rfl ?_
        refine z_iload (pc := 114) 2 dX11_judge_114 rfl ?_
        refine z_iald (pc := 116) dX11_judge_116 (am_ar.s kC27) (fun h33 => ?_)
        exact z_none
      · refine z_aload_n (pc := 110) 0 dX11_judge_110 rfl rfl ?_
        refine z_getQ (pc := 111) (b := 27) dX11_judge_111 kC8 fr_RX11_52_11 (by decide) rfl ?_
        refine z_iload (pc := 114) 2 dX11_judge_114 rfl ?_
        refine z_iald (pc := 116) dX11_judge_116 (am_ar.s kC27) (fun h34 => ?_)
        refine z_guard (fun g35 => ?_)
        refine z_putIp (pc := 117) [2, 3, 5, 6, 7, 9] dX11_judge_117 g35 (by decide) fw_RX11_157_p235679 ?_
        refine z_iinc (pc := 120) (v := x5 + (1 : Int32)) (lv' := [(5, .int (x5 + (1 : Int32))), (0, .ref 8), (4, .int x4)]) 2 dX11_judge_120 rfl rfl (by decide) rfl ?_
        refine z_goto (pc := 123) (tgt := 94) dX11_judge_123 (by decide) ?_
        refine z_lv (lv' := [(0, .ref 8), (4, .int x4), (5, .int (x5 + (1 : Int32)))]) [1, 2, 0] rfl ?_
        exact ih x4 (x5 + (1 : Int32)) (sF σ a31 6 (fF σ 27 x5.toNatClampNeg))
def f11_judge_J83 (N : Nat) (x1 : Int32) (a3 : Nat) (σ : am_S) : Option (Int32 × am_S) := (f11_firstOther N σ x1 a3).bind fun (v26, s27) => (f11_judge_L94 N N v26 (0 : Int32) s27)
theorem z11_judge_J83 {l : Launch} {E : am_E} {d : Nat} {σ0 : am_S} {N : Nat} (hd : 6 ≤ d) (x1 : Int32) (a3 : Nat) (σ : am_S) : Z l E msC σ0 YX11_judge d 0 0 83 [(0, .ref 8), (1, .int x1), (3, .ref a3)] [] 0 0 σ (f11_judge_J83 N x1 a3 σ) (fun u r s => r = some (.int u.1) ∧ s = u.2) := by
  unfold f11_judge_J83
  refine z_aload_n (pc := 83) 0 dX11_judge_83 rfl rfl ?_
  refine z_iload_n (pc := 84) 1 dX11_judge_84 rfl rfl ?_
  refine z_aload_n (pc := 85) 2 dX11_judge_85 rfl rfl ?_
  refine z_callIs (pc := 86) [.ref 8, .int x1, .ref a3] [] rfl (lk_V (Yc := YX11_firstOther) (n := 2) dX11_judge_86 rfl rfl (am_ob.s kC8) rfl rfl np_X11_firstOther mh_RX11 (by decide) ml_RX11_240 im_X11_firstOther se_RX11_X11_firstOther_X11_firstOther in_RX11 cd_X11_firstOther) (Nat.le_trans (by decide) hd) ⟨by decide, by decide⟩ (Nat.le_of_ble_eq_true rfl) (am_kp.rf _) (fun v26 s27 h28 => c11_firstOther h28) (fun v26 s27 h28 => ?_)
  refine z_istore (pc := 89) (lv' := [(4, .int v26), (0, .ref 8), (1, .int x1), (3, .ref a3)]) dX11_judge_89 (by decide) rfl ?_
  refine z_iconst (pc := 91) (v := (0 : Int32)) dX11_judge_91 (by decide) ?_
  refine z_istore (pc := 92) (lv' := [(5, .int (0 : Int32)), (4, .int v26), (0, .ref 8), (1, .int x1), (3, .ref a3)]) dX11_judge_92 (by decide) rfl ?_
  refine z_lv (lv' := [(0, .ref 8), (4, .int v26), (5, .int (0 : Int32))]) [2, 1, 0] rfl ?_
  exact z11_judge_L94 hd N v26 (0 : Int32) s27
def f11_judge_L51 (N : Nat) : Nat → Int32 → Nat → Int32 → am_S → Option (Int32 × am_S)
  | 0, _, _, _, _ => none
  | n + 1, x1, a3, x4, σ => if fF σ 8 5 ≤ x4 then (f11_judge_J83 N x1 a3 σ) else (if am_in x4 14 = true then ((fQ σ 10 x4.toNatClampNeg).elim (none) (fun a37 => if [2, 3, 5, 6, 7, 9].contains (am_ci σ a37) = true then (if am_in x4 14 = true then (f11_judge_L51 N n x1 a3 (x4 + (1 : Int32)) (sF σ 27 x4.toNatClampNeg (fF σ a37 6))) else none) else none)) else none)
theorem z11_judge_L51 {l : Launch} {E : am_E} {d : Nat} {σ0 : am_S} {N : Nat} (hd : 6 ≤ d) : ∀ (n : Nat) (x1 : Int32) (a3 : Nat) (x4 : Int32) (σ : am_S), Z l E msC σ0 YX11_judge d 0 0 51 [(0, .ref 8), (1, .int x1), (3, .ref a3), (4, .int x4)] [] 0 0 σ (f11_judge_L51 N n x1 a3 x4 σ) (fun u r s => r = some (.int u.1) ∧ s = u.2) := by
  intro n
  induction n with
  | zero => intros; exact z_none
  | succ n ih =>
    intro x1 a3 x4 σ
    unfold f11_judge_L51
    refine z_iload (pc := 51) 3 dX11_judge_51 rfl ?_
    refine z_aload_n (pc := 53) 0 dX11_judge_53 rfl rfl ?_
    refine z_getI (pc := 54) dX11_judge_54 (am_ob.s kC8) fr_RX11_110_11 (by decide) ?_
    refine z_ic_ge (pc := 57) (tgt := 83) dX11_judge_57 (by decide) (fun h25 => ?_) (fun h25 => ?_)
    · refine z_lv (lv' := [(0, .ref 8), (1, .int x1), (3, .ref a3)]) [0, 1, 2] rfl ?_
      exact z11_judge_J83 hd x1 a3 σ
    · refine z_aload_n (pc := 60) 0 dX11_judge_60 rfl rfl ?_
      refine z_getQ (pc := 61) (b := 27) dX11_judge_61 kC8 fr_RX11_52_11 (by decide) rfl ?_
      refine z_iload (pc := 64) 3 dX11_judge_64 rfl ?_
      refine z_aload_n (pc := 66) 0 dX11_judge_66 rfl rfl ?_
      refine z_getQ (pc := 67) (b := 10) dX11_judge_67 kC8 fr_RX11_17_11 (by decide) rfl ?_
      refine z_iload (pc := 70) 3 dX11_judge_70 rfl ?_
      refine z_qald (pc := 72) dX11_judge_72 ⟨by decide, by decide⟩ (am_ar.s kC10) (fun h36 => ?_)
      refine z_elim (fun e38 => ?_) (fun a37 e38 => ?_)
      · exact z_none
      · refine z_guard (fun g39 => ?_)
        refine z_getIp (pc := 73) [2, 3, 5, 6, 7, 9] dX11_judge_73 g39 (by decide) fr_RX11_157_p235679 ?_
        refine z_iast (pc := 76) dX11_judge_76 (am_ar.s kC27) (fun h40 => ?_)
        refine z_iinc (pc := 77) (v := x4 + (1 : Int32)) (lv' := [(4, .int (x4 + (1 : Int32))), (0, .ref 8), (1, .int x1), (3, .ref a3)]) 3 dX11_judge_77 rfl rfl (by decide) rfl ?_
        refine z_goto (pc := 80) (tgt := 51) dX11_judge_80 (by decide) ?_
        refine z_lv (lv' := [(0, .ref 8), (1, .int x1), (3, .ref a3), (4, .int (x4 + (1 : Int32)))]) [1, 2, 3, 0] rfl ?_
        exact ih x1 a3 (x4 + (1 : Int32)) (sF σ 27 x4.toNatClampNeg (fF σ a37 6))
def f11_judge (N : Nat) (σ : am_S) (x1 : Int32) (x2 : Int32) : Option (Int32 × am_S) := (f11_sheetAt σ x2).bind fun v1 => (v1.elim ((f11_crossingAt σ x1.toInt64).bind fun v6 => (v6.elim (some ((-2 : Int32), σ)) (fun a9 => some ((-2 : Int32), σ)))) (fun a4 => (f11_crossingAt σ x1.toInt64).bind fun v11 => (v11.elim (some ((-2 : Int32), σ)) (fun a14 => if [8].contains (am_ci σ a4) = true then ((f8_isMissing σ a4).bind fun v17 => (if v17 = true then (some ((-11 : Int32), σ)) else ((f11_within (fF σ a4 1) (1 : Int32) (16 : Int32)).bind fun v21 => (if v21 = true then (f11_judge_L51 N N x1 a4 (0 : Int32) σ) else (some ((-2 : Int32), σ)))))) else none))))
theorem c11_judge {l : Launch} {E : am_E} {N : Nat} {σ : am_S} {x1 : Int32} {x2 : Int32} {v : Int32} {σ1 : am_S} (hf : f11_judge N σ x1 x2 = some (v, σ1)) : Ctr l E msC YX11_judge (6) 0 0 [.ref 8, .int x1, .int x2] σ (some (.int v)) σ1 := by
  refine ctr_of (G := fun u r s => r = some (.int u.1) ∧ s = u.2) (by decide +kernel) (Nat.le_of_ble_eq_true rfl) hf ⟨rfl, rfl⟩ (fun d hd => ?_)
  refine z_eqlv (lv' := [(0, .ref 8), (1, .int x1), (2, .int x2)]) rfl ?_
  unfold f11_judge
  refine z_aload_n (pc := 0) 0 dX11_judge_0 rfl rfl ?_
  refine z_iload_n (pc := 1) 2 dX11_judge_1 rfl rfl ?_
  refine z_callR (pc := 2) [.ref 8, .int x2] [] rfl (lk_V (Yc := YX11_sheetAt) (n := 1) dX11_judge_2 rfl rfl (am_ob.s kC8) rfl rfl np_X11_sheetAt mh_RX11 (by decide) ml_RX11_204 im_X11_sheetAt se_RX11_X11_sheetAt_X11_sheetAt in_RX11 cd_X11_sheetAt) (Nat.le_trans (by decide) hd) ⟨by decide, by decide⟩ (Nat.le_of_ble_eq_true rfl) (am_kp.rf _) (fun v1 h3 => c11_sheetAt h3) (fun v1 h3 => ?_)
  refine z_elim (fun e5 => ?_) (fun a4 e5 => ?_)
  · refine z_astore_nN (pc := 5) (lv' := [(3, .null), (0, .ref 8), (1, .int x1), (2, .int x2)]) dX11_judge_5 rfl (by decide) rfl ?_
    refine z_aload_n (pc := 6) 1 dX11_judge_6 rfl rfl ?_
    refine z_iload_n (pc := 7) 2 dX11_judge_7 rfl rfl ?_
    refine z_i2l (pc := 8) dX11_judge_8 ?_
    refine z_callR (pc := 9) [.ref 8, .long x1.toInt64] [] rfl (lk_V (Yc := YX11_crossingAt) (n := 1) dX11_judge_9 rfl rfl (am_ob.s kC8) rfl rfl np_X11_crossingAt mh_RX11 (by decide) ml_RX11_87 im_X11_crossingAt se_RX11_X11_crossingAt_X11_crossingAt in_RX11 cd_X11_crossingAt) (Nat.le_trans (by decide) hd) ⟨by decide, by decide⟩ (Nat.le_of_ble_eq_true rfl) (am_kp.rf _) (fun v6 h8 => c11_crossingAt h8) (fun v6 h8 => ?_)
    refine z_elim (fun e10 => ?_) (fun a9 e10 => ?_)
    · refine z_ifnullN (pc := 12) (tgt := 19) dX11_judge_12 (by decide) ?_
      refine z_bipush (pc := 19) (v := (-2 : Int32)) dX11_judge_19 (by decide) ?_
      exact z_rIs dX11_judge_21 rfl ⟨by decide, by decide⟩
    · refine z_ifnull (pc := 12) dX11_judge_12 ?_
      refine z_aload_nN (pc := 15) 0 dX11_judge_15 rfl rfl ?_
      refine z_ifnonnullN (pc := 16) dX11_judge_16 ?_
      refine z_bipush (pc := 19) (v := (-2 : Int32)) dX11_judge_19 (by decide) ?_
      exact z_rIs dX11_judge_21 rfl ⟨by decide, by decide⟩
  · refine z_astore_n (pc := 5) (lv' := [(3, .ref a4), (0, .ref 8), (1, .int x1), (2, .int x2)]) dX11_judge_5 rfl (by decide) rfl ?_
    refine z_aload_n (pc := 6) 1 dX11_judge_6 rfl rfl ?_
    refine z_iload_n (pc := 7) 2 dX11_judge_7 rfl rfl ?_
    refine z_i2l (pc := 8) dX11_judge_8 ?_
    refine z_callR (pc := 9) [.ref 8, .long x1.toInt64] [] rfl (lk_V (Yc := YX11_crossingAt) (n := 1) dX11_judge_9 rfl rfl (am_ob.s kC8) rfl rfl np_X11_crossingAt mh_RX11 (by decide) ml_RX11_87 im_X11_crossingAt se_RX11_X11_crossingAt_X11_crossingAt in_RX11 cd_X11_crossingAt) (Nat.le_trans (by decide) hd) ⟨by decide, by decide⟩ (Nat.le_of_ble_eq_true rfl) (am_kp.rf _) (fun v11 h13 => c11_crossingAt h13) (fun v11 h13 => ?_)
    refine z_elim (fun e15 => ?_) (fun a14 e15 => ?_)
    · refine z_ifnullN (pc := 12) (tgt := 19) dX11_judge_12 (by decide) ?_
      refine z_bipush (pc := 19) (v := (-2 : Int32)) dX11_judge_19 (by decide) ?_
      exact z_rIs dX11_judge_21 rfl ⟨by decide, by decide⟩
    · refine z_ifnull (pc := 12) dX11_judge_12 ?_
      refine z_aload_n (pc := 15) 0 dX11_judge_15 rfl rfl ?_
      refine z_ifnonnull (pc := 16) (tgt := 22) dX11_judge_16 (by decide) ?_
      refine z_aload_n (pc := 22) 0 dX11_judge_22 rfl rfl ?_
      refine z_guard (fun g16 => ?_)
      refine z_callB (pc := 23) [.ref a4] [] rfl (lk_V (Yc := YX8_isMissing) (n := 0) dX11_judge_23 rfl rfl (am_ob.d (am_c1 g16) (by decide)) rfl rfl np_X8_isMissing mh_RX8 (by decide) ml_RX11_208 im_X8_isMissing se_RX8_X8_isMissing_X8_isMissing in_RX8 cd_X8_isMissing) (Nat.le_trans (by decide) hd) ⟨by decide, by decide⟩ (Nat.le_of_ble_eq_true rfl) (am_kp.rf _) (fun v17 h19 => c8_isMissing h19) (fun v17 h19 => ?_)
      refine z_bz_eq (pc := 26) (tgt := 32) dX11_judge_26 (by decide) (fun h20 => ?_) (fun h20 => ?_)
      · refine z_bipush (pc := 29) (v := (-11 : Int32)) dX11_judge_29 (by decide) ?_
        exact z_rIs dX11_judge_31 rfl ⟨by decide, by decide⟩
      · refine z_aload_n (pc := 32) 0 dX11_judge_32 rfl rfl ?_
        refine z_getIp (pc := 33) [8] dX11_judge_33 g16 (by decide) fr_RX11_237_p8 ?_
        refine z_iconst (pc := 36) (v := (1 : Int32)) dX11_judge_36 (by decide) ?_
        refine z_bipush (pc := 37) (v := (16 : Int32)) dX11_judge_37 (by decide) ?_
        refine z_callB (pc := 39) [.int (fF σ a4 1), .int (1 : Int32), .int (16 : Int32)] [] rfl (lk_S (Yc := YX11_within) (n := 3) dX11_judge_39 rfl np_X11_within mh_RX11 (by decide) ml_RX11_66 st_X11_within in_RX11 cd_X11_within) (Nat.le_trans (by decide) hd) ⟨by decide, by decide⟩ (Nat.le_of_ble_eq_true rfl) (am_kp.rf _) (fun v21 h23 => c11_within h23) (fun v21 h23 => ?_)
        refine z_bz_ne (pc := 42) (tgt := 48) dX11_judge_42 (by decide) (fun h24 => ?_) (fun h24 => ?_)
        · refine z_iconst (pc := 48) (v := (0 : Int32)) dX11_judge_48 (by decide) ?_
          refine z_istore (pc := 49) (lv' := [(4, .int (0 : Int32)), (3, .ref a4), (0, .ref 8), (1, .int x1), (2, .int x2)]) dX11_judge_49 (by decide) rfl ?_
          refine z_lv (lv' := [(0, .ref 8), (1, .int x1), (3, .ref a4), (4, .int (0 : Int32))]) [2, 3, 1, 0] rfl ?_
          exact z11_judge_L51 hd N x1 a4 (0 : Int32) σ
        · refine z_bipush (pc := 45) (v := (-2 : Int32)) dX11_judge_45 (by decide) ?_
          exact z_rIs dX11_judge_47 rfl ⟨by decide, by decide⟩
def f11_load_J52n5n6 (N : Nat) (x1 : Int32) (x3 : Int32) (σ : am_S) : Option (Int32 × am_S) := (f11_isHour x3).bind fun v16 => (if v16 = true then ((f11_byRule N σ (6 : Int32) x1 (0 : Int32) x3 (0 : Int32)).bind fun (v20, s21) => (some ((if (1 : Int32) < (if v20 < (14 : Int32) then v20 else (14 : Int32)) then (if v20 < (14 : Int32) then v20 else (14 : Int32)) else (1 : Int32)), s21))) else (some ((-2 : Int32), σ)))
theorem z11_load_J52n5n6 {l : Launch} {E : am_E} {d : Nat} {σ0 : am_S} {N : Nat} (hd : 4 ≤ d) (x1 : Int32) (x3 : Int32) (σ : am_S) : Z l E msC σ0 YX11_load d 0 0 52 [(0, .ref 8), (1, .int x1), (3, .int x3), (5, .null), (6, .null)] [] 0 0 σ (f11_load_J52n5n6 N x1 x3 σ) (fun u r s => r = some (.int u.1) ∧ s = u.2) := by
  unfold f11_load_J52n5n6
  refine z_iload_n (pc := 52) 2 dX11_load_52 rfl rfl ?_
  refine z_callB (pc := 53) [.int x3] [] rfl (lk_S (Yc := YX11_isHour) (n := 1) dX11_load_53 rfl np_X11_isHour mh_RX11 (by decide) ml_RX11_138 st_X11_isHour in_RX11 cd_X11_isHour) (Nat.le_trans (by decide) hd) ⟨by decide, by decide⟩ (Nat.le_of_ble_eq_true rfl) (am_kp.rf _) (fun v16 h18 => c11_isHour h18) (fun v16 h18 => ?_)
  refine z_bz_ne (pc := 56) (tgt := 62) dX11_load_56 (by decide) (fun h19 => ?_) (fun h19 => ?_)
  · refine z_aloadN (pc := 62) 3 dX11_load_62 rfl ?_
    refine z_ifnullN (pc := 64) (tgt := 72) dX11_load_64 (by decide) ?_
    refine z_iconst (pc := 72) (v := (0 : Int32)) dX11_load_72 (by decide) ?_
    refine z_goto (pc := 73) (tgt := 89) dX11_load_73 (by decide) ?_
    refine z_istore (pc := 89) (lv' := [(7, .int (0 : Int32)), (0, .ref 8), (1, .int x1), (3, .int x3), (5, .null), (6, .null)]) dX11_load_89 (by decide) rfl ?_
    refine z_aload_n (pc := 91) 1 dX11_load_91 rfl rfl ?_
    refine z_bipush (pc := 92) (v := (6 : Int32)) dX11_load_92 (by decide) ?_
    refine z_iload_n (pc := 94) 2 dX11_load_94 rfl rfl ?_
    refine z_iload (pc := 95) 0 dX11_load_95 rfl ?_
    refine z_iload_n (pc := 97) 3 dX11_load_97 rfl rfl ?_
    refine z_iconst (pc := 98) (v := (0 : Int32)) dX11_load_98 (by decide) ?_
    refine z_callIs (pc := 99) [.ref 8, .int (6 : Int32), .int x1, .int (0 : Int32), .int x3, .int (0 : Int32)] [] rfl (lk_V (Yc := YX11_byRule) (n := 5) dX11_load_99 rfl rfl (am_ob.s kC8) rfl rfl np_X11_byRule mh_RX11 (by decide) ml_RX11_169 im_X11_byRule se_RX11_X11_byRule_X11_byRule in_RX11 cd_X11_byRule) (Nat.le_trans (by decide) hd) ⟨by decide, by decide⟩ (Nat.le_of_ble_eq_true rfl) (am_kp.rf _) (fun v20 s21 h22 => c11_byRule h22) (fun v20 s21 h22 => ?_)
    refine z_istore (pc := 102) (lv' := [(8, .int v20), (7, .int (0 : Int32)), (0, .ref 8), (1, .int x1), (3, .int x3), (5, .null), (6, .null)]) dX11_load_102 (by decide) rfl ?_
    refine z_iconst (pc := 104) (v := (1 : Int32)) dX11_load_104 (by decide) ?_
    refine z_bipush (pc := 105) (v := (14 : Int32)) dX11_load_105 (by decide) ?_
    refine z_iload (pc := 107) 0 dX11_load_107 rfl ?_
    refine z_min (pc := 109) dX11_load_109 ml_RX11_194 st_math_min in_math cd_math_min (Nat.le_trans (by decide) hd) (Nat.le_of_ble_eq_true rfl) ⟨by decide, by decide⟩ ?_
    refine z_max (pc := 112) dX11_load_112 ml_RX11_189 st_math_max in_math cd_math_max (Nat.le_trans (by decide) hd) (Nat.le_of_ble_eq_true rfl) ⟨by decide, by decide⟩ ?_
    exact z_rIs dX11_load_115 rfl ⟨by decide, by decide⟩
  · refine z_bipush (pc := 59) (v := (-2 : Int32)) dX11_load_59 (by decide) ?_
    exact z_rIs dX11_load_61 rfl ⟨by decide, by decide⟩
def f11_load_J52n5 (N : Nat) (x1 : Int32) (x3 : Int32) (a6 : Nat) (σ : am_S) : Option (Int32 × am_S) := (f11_isHour x3).bind fun v27 => (if v27 = true then ((f11_byRule N σ (6 : Int32) x1 (0 : Int32) x3 (0 : Int32)).bind fun (v31, s32) => (some ((if (1 : Int32) < (if v31 < (14 : Int32) then v31 else (14 : Int32)) then (if v31 < (14 : Int32) then v31 else (14 : Int32)) else (1 : Int32)), s32))) else (some ((-2 : Int32), σ)))
theorem z11_load_J52n5 {l : Launch} {E : am_E} {d : Nat} {σ0 : am_S} {N : Nat} (hd : 4 ≤ d) (x1 : Int32) (x3 : Int32) (a6 : Nat) (σ : am_S) : Z l E msC σ0 YX11_load d 0 0 52 [(0, .ref 8), (1, .int x1), (3, .int x3), (5, .null), (6, .ref a6)] [] 0 0 σ (f11_load_J52n5 N x1 x3 a6 σ) (fun u r s => r = some (.int u.1) ∧ s = u.2) := by
  unfold f11_load_J52n5
  refine z_iload_n (pc := 52) 2 dX11_load_52 rfl rfl ?_
  refine z_callB (pc := 53) [.int x3] [] rfl (lk_S (Yc := YX11_isHour) (n := 1) dX11_load_53 rfl np_X11_isHour mh_RX11 (by decide) ml_RX11_138 st_X11_isHour in_RX11 cd_X11_isHour) (Nat.le_trans (by decide) hd) ⟨by decide, by decide⟩ (Nat.le_of_ble_eq_true rfl) (am_kp.rf _) (fun v27 h29 => c11_isHour h29) (fun v27 h29 => ?_)
  refine z_bz_ne (pc := 56) (tgt := 62) dX11_load_56 (by decide) (fun h30 => ?_) (fun h30 => ?_)
  · refine z_aloadN (pc := 62) 3 dX11_load_62 rfl ?_
    refine z_ifnullN (pc := 64) (tgt := 72) dX11_load_64 (by decide) ?_
    refine z_iconst (pc := 72) (v := (0 : Int32)) dX11_load_72 (by decide) ?_
    refine z_goto (pc := 73) (tgt := 89) dX11_load_73 (by decide) ?_
    refine z_istore (pc := 89) (lv' := [(7, .int (0 : Int32)), (0, .ref 8), (1, .int x1), (3, .int x3), (5, .null), (6, .ref a6)]) dX11_load_89 (by decide) rfl ?_
    refine z_aload_n (pc := 91) 1 dX11_load_91 rfl rfl ?_
    refine z_bipush (pc := 92) (v := (6 : Int32)) dX11_load_92 (by decide) ?_
    refine z_iload_n (pc := 94) 2 dX11_load_94 rfl rfl ?_
    refine z_iload (pc := 95) 0 dX11_load_95 rfl ?_
    refine z_iload_n (pc := 97) 3 dX11_load_97 rfl rfl ?_
    refine z_iconst (pc := 98) (v := (0 : Int32)) dX11_load_98 (by decide) ?_
    refine z_callIs (pc := 99) [.ref 8, .int (6 : Int32), .int x1, .int (0 : Int32), .int x3, .int (0 : Int32)] [] rfl (lk_V (Yc := YX11_byRule) (n := 5) dX11_load_99 rfl rfl (am_ob.s kC8) rfl rfl np_X11_byRule mh_RX11 (by decide) ml_RX11_169 im_X11_byRule se_RX11_X11_byRule_X11_byRule in_RX11 cd_X11_byRule) (Nat.le_trans (by decide) hd) ⟨by decide, by decide⟩ (Nat.le_of_ble_eq_true rfl) (am_kp.rf _) (fun v31 s32 h33 => c11_byRule h33) (fun v31 s32 h33 => ?_)
    refine z_istore (pc := 102) (lv' := [(8, .int v31), (7, .int (0 : Int32)), (0, .ref 8), (1, .int x1), (3, .int x3), (5, .null), (6, .ref a6)]) dX11_load_102 (by decide) rfl ?_
    refine z_iconst (pc := 104) (v := (1 : Int32)) dX11_load_104 (by decide) ?_
    refine z_bipush (pc := 105) (v := (14 : Int32)) dX11_load_105 (by decide) ?_
    refine z_iload (pc := 107) 0 dX11_load_107 rfl ?_
    refine z_min (pc := 109) dX11_load_109 ml_RX11_194 st_math_min in_math cd_math_min (Nat.le_trans (by decide) hd) (Nat.le_of_ble_eq_true rfl) ⟨by decide, by decide⟩ ?_
    refine z_max (pc := 112) dX11_load_112 ml_RX11_189 st_math_max in_math cd_math_max (Nat.le_trans (by decide) hd) (Nat.le_of_ble_eq_true rfl) ⟨by decide, by decide⟩ ?_
    exact z_rIs dX11_load_115 rfl ⟨by decide, by decide⟩
  · refine z_bipush (pc := 59) (v := (-2 : Int32)) dX11_load_59 (by decide) ?_
    exact z_rIs dX11_load_61 rfl ⟨by decide, by decide⟩
def f11_load_J52n6 (N : Nat) (x1 : Int32) (x3 : Int32) (a5 : Nat) (σ : am_S) : Option (Int32 × am_S) := (f11_isHour x3).bind fun v43 => (if v43 = true then ((f11_byRule N σ (6 : Int32) x1 (0 : Int32) x3 (0 : Int32)).bind fun (v47, s48) => (some ((if (1 : Int32) < (if v47 < (14 : Int32) then v47 else (14 : Int32)) then (if v47 < (14 : Int32) then v47 else (14 : Int32)) else (1 : Int32)), s48))) else (some ((-2 : Int32), σ)))
theorem z11_load_J52n6 {l : Launch} {E : am_E} {d : Nat} {σ0 : am_S} {N : Nat} (hd : 4 ≤ d) (x1 : Int32) (x3 : Int32) (a5 : Nat) (σ : am_S) : Z l E msC σ0 YX11_load d 0 0 52 [(0, .ref 8), (1, .int x1), (3, .int x3), (5, .ref a5), (6, .null)] [] 0 0 σ (f11_load_J52n6 N x1 x3 a5 σ) (fun u r s => r = some (.int u.1) ∧ s = u.2) := by
  unfold f11_load_J52n6
  refine z_iload_n (pc := 52) 2 dX11_load_52 rfl rfl ?_
  refine z_callB (pc := 53) [.int x3] [] rfl (lk_S (Yc := YX11_isHour) (n := 1) dX11_load_53 rfl np_X11_isHour mh_RX11 (by decide) ml_RX11_138 st_X11_isHour in_RX11 cd_X11_isHour) (Nat.le_trans (by decide) hd) ⟨by decide, by decide⟩ (Nat.le_of_ble_eq_true rfl) (am_kp.rf _) (fun v43 h45 => c11_isHour h45) (fun v43 h45 => ?_)
  refine z_bz_ne (pc := 56) (tgt := 62) dX11_load_56 (by decide) (fun h46 => ?_) (fun h46 => ?_)
  · refine z_aload (pc := 62) 3 dX11_load_62 rfl ?_
    refine z_ifnull (pc := 64) dX11_load_64 ?_
    refine z_aloadN (pc := 67) 4 dX11_load_67 rfl ?_
    refine z_ifnonnullN (pc := 69) dX11_load_69 ?_
    refine z_iconst (pc := 72) (v := (0 : Int32)) dX11_load_72 (by decide) ?_
    refine z_goto (pc := 73) (tgt := 89) dX11_load_73 (by decide) ?_
    refine z_istore (pc := 89) (lv' := [(7, .int (0 : Int32)), (0, .ref 8), (1, .int x1), (3, .int x3), (5, .ref a5), (6, .null)]) dX11_load_89 (by decide) rfl ?_
    refine z_aload_n (pc := 91) 1 dX11_load_91 rfl rfl ?_
    refine z_bipush (pc := 92) (v := (6 : Int32)) dX11_load_92 (by decide) ?_
    refine z_iload_n (pc := 94) 2 dX11_load_94 rfl rfl ?_
    refine z_iload (pc := 95) 0 dX11_load_95 rfl ?_
    refine z_iload_n (pc := 97) 3 dX11_load_97 rfl rfl ?_
    refine z_iconst (pc := 98) (v := (0 : Int32)) dX11_load_98 (by decide) ?_
    refine z_callIs (pc := 99) [.ref 8, .int (6 : Int32), .int x1, .int (0 : Int32), .int x3, .int (0 : Int32)] [] rfl (lk_V (Yc := YX11_byRule) (n := 5) dX11_load_99 rfl rfl (am_ob.s kC8) rfl rfl np_X11_byRule mh_RX11 (by decide) ml_RX11_169 im_X11_byRule se_RX11_X11_byRule_X11_byRule in_RX11 cd_X11_byRule) (Nat.le_trans (by decide) hd) ⟨by decide, by decide⟩ (Nat.le_of_ble_eq_true rfl) (am_kp.rf _) (fun v47 s48 h49 => c11_byRule h49) (fun v47 s48 h49 => ?_)
    refine z_istore (pc := 102) (lv' := [(8, .int v47), (7, .int (0 : Int32)), (0, .ref 8), (1, .int x1), (3, .int x3), (5, .ref a5), (6, .null)]) dX11_load_102 (by decide) rfl ?_
    refine z_iconst (pc := 104) (v := (1 : Int32)) dX11_load_104 (by decide) ?_
    refine z_bipush (pc := 105) (v := (14 : Int32)) dX11_load_105 (by decide) ?_
    refine z_iload (pc := 107) 0 dX11_load_107 rfl ?_
    refine z_min (pc := 109) dX11_load_109 ml_RX11_194 st_math_min in_math cd_math_min (Nat.le_trans (by decide) hd) (Nat.le_of_ble_eq_true rfl) ⟨by decide, by decide⟩ ?_
    refine z_max (pc := 112) dX11_load_112 ml_RX11_189 st_math_max in_math cd_math_max (Nat.le_trans (by decide) hd) (Nat.le_of_ble_eq_true rfl) ⟨by decide, by decide⟩ ?_
    exact z_rIs dX11_load_115 rfl ⟨by decide, by decide⟩
  · refine z_bipush (pc := 59) (v := (-2 : Int32)) dX11_load_59 (by decide) ?_
    exact z_rIs dX11_load_61 rfl ⟨by decide, by decide⟩
def f11_load_J52 (N : Nat) (x1 : Int32) (x3 : Int32) (a5 : Nat) (a6 : Nat) (σ : am_S) : Option (Int32 × am_S) := (f11_isHour x3).bind fun v54 => (if v54 = true then (if [2, 3, 5, 6, 7, 9].contains (am_ci σ a5) = true then (if [2, 3, 5, 6, 7, 9].contains (am_ci σ a6) = true then ((f11_byRule N σ (6 : Int32) x1 (if (fF σ a5 1) < (fF σ a6 1) then (fF σ a6 1) else (fF σ a5 1)) x3 (0 : Int32)).bind fun (v60, s61) => (some ((if (1 : Int32) < (if v60 < (14 : Int32) then v60 else (14 : Int32)) then (if v60 < (14 : Int32) then v60 else (14 : Int32)) else (1 : Int32)), s61))) else none) else none) else (some ((-2 : Int32), σ)))
theorem z11_load_J52 {l : Launch} {E : am_E} {d : Nat} {σ0 : am_S} {N : Nat} (hd : 4 ≤ d) (x1 : Int32) (x3 : Int32) (a5 : Nat) (a6 : Nat) (σ : am_S) : Z l E msC σ0 YX11_load d 0 0 52 [(0, .ref 8), (1, .int x1), (3, .int x3), (5, .ref a5), (6, .ref a6)] [] 0 0 σ (f11_load_J52 N x1 x3 a5 a6 σ) (fun u r s => r = some (.int u.1) ∧ s = u.2) := by
  unfold f11_load_J52
  refine z_iload_n (pc := 52) 2 dX11_load_52 rfl rfl ?_
  refine z_callB (pc := 53) [.int x3] [] rfl (lk_S (Yc := YX11_isHour) (n := 1) dX11_load_53 rfl np_X11_isHour mh_RX11 (by decide) ml_RX11_138 st_X11_isHour in_RX11 cd_X11_isHour) (Nat.le_trans (by decide) hd) ⟨by decide, by decide⟩ (Nat.le_of_ble_eq_true rfl) (am_kp.rf _) (fun v54 h56 => c11_isHour h56) (fun v54 h56 => ?_)
  refine z_bz_ne (pc := 56) (tgt := 62) dX11_load_56 (by decide) (fun h57 => ?_) (fun h57 => ?_)
  · refine z_aload (pc := 62) 3 dX11_load_62 rfl ?_
    refine z_ifnull (pc := 64) dX11_load_64 ?_
    refine z_aload (pc := 67) 4 dX11_load_67 rfl ?_
    refine z_ifnonnull (pc := 69) (tgt := 76) dX11_load_69 (by decide) ?_
    refine z_aload (pc := 76) 3 dX11_load_76 rfl ?_
    refine z_guard (fun g58 => ?_)
    refine z_getIp (pc := 78) [2, 3, 5, 6, 7, 9] dX11_load_78 g58 (by decide) fr_RX11_145_p235679 ?_
    refine z_aload (pc := 81) 4 dX11_load_81 rfl ?_
    refine z_guard (fun g59 => ?_)
    refine z_getIp (pc := 83) [2, 3, 5, 6, 7, 9] dX11_load_83 g59 (by decide) fr_RX11_145_p235679 ?_
    refine z_max (pc := 86) dX11_load_86 ml_RX11_189 st_math_max in_math cd_math_max (Nat.le_trans (by decide) hd) (Nat.le_of_ble_eq_true rfl) ⟨by decide, by decide⟩ ?_
    refine z_istore (pc := 89) (lv' := [(7, .int (if (fF σ a5 1) < (fF σ a6 1) then (fF σ a6 1) else (fF σ a5 1))), (0, .ref 8), (1, .int x1), (3, .int x3), (5, .ref a5), (6, .ref a6)]) dX11_load_89 (by decide) rfl ?_
    refine z_aload_n (pc := 91) 1 dX11_load_91 rfl rfl ?_
    refine z_bipush (pc := 92) (v := (6 : Int32)) dX11_load_92 (by decide) ?_
    refine z_iload_n (pc := 94) 2 dX11_load_94 rfl rfl ?_
    refine z_iload (pc := 95) 0 dX11_load_95 rfl ?_
    refine z_iload_n (pc := 97) 3 dX11_load_97 rfl rfl ?_
    refine z_iconst (pc := 98) (v := (0 : Int32)) dX11_load_98 (by decide) ?_
    refine z_callIs (pc := 99) [.ref 8, .int (6 : Int32), .int x1, .int (if (fF σ a5 1) < (fF σ a6 1) then (fF σ a6 1) else (fF σ a5 1)), .int x3, .int (0 : Int32)] [] rfl (lk_V (Yc := YX11_byRule) (n := 5) dX11_load_99 rfl rfl (am_ob.s kC8) rfl rfl np_X11_byRule mh_RX11 (by decide) ml_RX11_169 im_X11_byRule se_RX11_X11_byRule_X11_byRule in_RX11 cd_X11_byRule) (Nat.le_trans (by decide) hd) ⟨by decide, by decide⟩ (Nat.le_of_ble_eq_true rfl) (am_kp.rf _) (fun v60 s61 h62 => c11_byRule h62) (fun v60 s61 h62 => ?_)
    refine z_istore (pc := 102) (lv' := [(8, .int v60), (7, .int (if (fF σ a5 1) < (fF σ a6 1) then (fF σ a6 1) else (fF σ a5 1))), (0, .ref 8), (1, .int x1), (3, .int x3), (5, .ref a5), (6, .ref a6)]) dX11_load_102 (by decide) rfl ?_
    refine z_iconst (pc := 104) (v := (1 : Int32)) dX11_load_104 (by decide) ?_
    refine z_bipush (pc := 105) (v := (14 : Int32)) dX11_load_105 (by decide) ?_
    refine z_iload (pc := 107) 0 dX11_load_107 rfl ?_
    refine z_min (pc := 109) dX11_load_109 ml_RX11_194 st_math_min in_math cd_math_min (Nat.le_trans (by decide) hd) (Nat.le_of_ble_eq_true rfl) ⟨by decide, by decide⟩ ?_
    refine z_max (pc := 112) dX11_load_112 ml_RX11_189 st_math_max in_math cd_math_max (Nat.le_trans (by decide) hd) (Nat.le_of_ble_eq_true rfl) ⟨by decide, by decide⟩ ?_
    exact z_rIs dX11_load_115 rfl ⟨by decide, by decide⟩
  · refine z_bipush (pc := 59) (v := (-2 : Int32)) dX11_load_59 (by decide) ?_
    exact z_rIs dX11_load_61 rfl ⟨by decide, by decide⟩
def f11_load (N : Nat) (σ : am_S) (x1 : Int32) (x2 : Int32) (x3 : Int32) : Option (Int32 × am_S) := if x2 = (-1 : Int32) then ((f11_oneOf σ x2).bind fun v2 => (v2.elim ((f11_otherOf σ x2).bind fun v7 => (v7.elim ((f11_within x1 (0 : Int32) (999 : Int32)).bind fun v12 => (if v12 = true then (f11_load_J52n5n6 N x1 x3 σ) else (some ((-2 : Int32), σ)))) (fun a10 => (f11_within x1 (0 : Int32) (999 : Int32)).bind fun v23 => (if v23 = true then (f11_load_J52n5 N x1 x3 a10 σ) else (some ((-2 : Int32), σ)))))) (fun a5 => (f11_otherOf σ x2).bind fun v34 => (v34.elim ((f11_within x1 (0 : Int32) (999 : Int32)).bind fun v39 => (if v39 = true then (f11_load_J52n6 N x1 x3 a5 σ) else (some ((-2 : Int32), σ)))) (fun a37 => (f11_within x1 (0 : Int32) (999 : Int32)).bind fun v50 => (if v50 = true then (f11_load_J52 N x1 x3 a5 a37 σ) else (some ((-2 : Int32), σ)))))))) else ((f11_oneOf σ x2).bind fun v63 => (v63.elim ((f11_otherOf σ x2).bind fun v68 => (v68.elim ((f11_within x1 (0 : Int32) (999 : Int32)).bind fun v73 => (if v73 = true then (some ((-2 : Int32), σ)) else (some ((-2 : Int32), σ)))) (fun a71 => (f11_within x1 (0 : Int32) (999 : Int32)).bind fun v77 => (if v77 = true then (some ((-2 : Int32), σ)) else (some ((-2 : Int32), σ)))))) (fun a66 => (f11_otherOf σ x2).bind fun v81 => (v81.elim ((f11_within x1 (0 : Int32) (999 : Int32)).bind fun v86 => (if v86 = true then (some ((-2 : Int32), σ)) else (some ((-2 : Int32), σ)))) (fun a84 => (f11_within x1 (0 : Int32) (999 : Int32)).bind fun v90 => (if v90 = true then (f11_load_J52 N x1 x3 a66 a84 σ) else (some ((-2 : Int32), σ))))))))
theorem c11_load {l : Launch} {E : am_E} {N : Nat} {σ : am_S} {x1 : Int32} {x2 : Int32} {x3 : Int32} {v : Int32} {σ1 : am_S} (hf : f11_load N σ x1 x2 x3 = some (v, σ1)) : Ctr l E msC YX11_load (4) 0 0 [.ref 8, .int x1, .int x2, .int x3] σ (some (.int v)) σ1 := by
  refine ctr_of (G := fun u r s => r = some (.int u.1) ∧ s = u.2) (by decide +kernel) (Nat.le_of_ble_eq_true rfl) hf ⟨rfl, rfl⟩ (fun d hd => ?_)
  refine z_eqlv (lv' := [(0, .ref 8), (1, .int x1), (2, .int x2), (3, .int x3)]) rfl ?_
  unfold f11_load
  refine z_iload_n (pc := 0) 2 dX11_load_0 rfl rfl ?_
  refine z_iconst (pc := 1) (v := (-1 : Int32)) dX11_load_1 (by decide) ?_
  refine z_ic_eq (pc := 2) (tgt := 9) dX11_load_2 (by decide) (fun h1 => ?_) (fun h1 => ?_)
  · refine z_iconst (pc := 9) (v := (0 : Int32)) dX11_load_9 (by decide) ?_
    refine z_istore (pc := 10) (lv' := [(4, .int (0 : Int32)), (0, .ref 8), (1, .int x1), (2, .int x2), (3, .int x3)]) dX11_load_10 (by decide) rfl ?_
    refine z_aload_n (pc := 12) 1 dX11_load_12 rfl rfl ?_
    refine z_iload_n (pc := 13) 3 dX11_load_13 rfl rfl ?_
    refine z_callR (pc := 14) [.ref 8, .int x2] [] rfl (lk_V (Yc := YX11_oneOf) (n := 1) dX11_load_14 rfl rfl (am_ob.s kC8) rfl rfl np_X11_oneOf mh_RX11 (by decide) ml_RX11_183 im_X11_oneOf se_RX11_X11_oneOf_X11_oneOf in_RX11 cd_X11_oneOf) (Nat.le_trans (by decide) hd) ⟨by decide, by decide⟩ (Nat.le_of_ble_eq_true rfl) (am_kp.rf _) (fun v2 h4 => c11_oneOf h4) (fun v2 h4 => ?_)
    refine z_elim (fun e6 => ?_) (fun a5 e6 => ?_)
    · refine z_astoreN (pc := 17) (lv' := [(5, .null), (4, .int (0 : Int32)), (0, .ref 8), (1, .int x1), (2, .int x2), (3, .int x3)]) dX11_load_17 (by decide) rfl ?_
      refine z_aload_n (pc := 19) 2 dX11_load_19 rfl rfl ?_
      refine z_iload_n (pc := 20) 4 dX11_load_20 rfl rfl ?_
      refine z_callR (pc := 21) [.ref 8, .int x2] [] rfl (lk_V (Yc := YX11_otherOf) (n := 1) dX11_load_21 rfl rfl (am_ob.s kC8) rfl rfl np_X11_otherOf mh_RX11 (by decide) ml_RX11_186 im_X11_otherOf se_RX11_X11_otherOf_X11_otherOf in_RX11 cd_X11_otherOf) (Nat.le_trans (by decide) hd) ⟨by decide, by decide⟩ (Nat.le_of_ble_eq_true rfl) (am_kp.rf _) (fun v7 h9 => c11_otherOf h9) (fun v7 h9 => ?_)
      refine z_elim (fun e11 => ?_) (fun a10 e11 => ?_)
      · refine z_astoreN (pc := 24) (lv' := [(6, .null), (5, .null), (4, .int (0 : Int32)), (0, .ref 8), (1, .int x1), (2, .int x2), (3, .int x3)]) dX11_load_24 (by decide) rfl ?_
        refine z_iload_n (pc := 26) 4 dX11_load_26 rfl rfl ?_
        refine z_iconst (pc := 27) (v := (0 : Int32)) dX11_load_27 (by decide) ?_
        refine z_sipush (pc := 28) (v := (999 : Int32)) dX11_load_28 (by decide) ?_
        refine z_callB (pc := 31) [.int x1, .int (0 : Int32), .int (999 : Int32)] [] rfl (lk_S (Yc := YX11_within) (n := 3) dX11_load_31 rfl np_X11_within mh_RX11 (by decide) ml_RX11_66 st_X11_within in_RX11 cd_X11_within) (Nat.le_trans (by decide) hd) ⟨by decide, by decide⟩ (Nat.le_of_ble_eq_true rfl) (am_kp.rf _) (fun v12 h14 => c11_within h14) (fun v12 h14 => ?_)
        refine z_bz_eq (pc := 34) (tgt := 59) dX11_load_34 (by decide) (fun h15 => ?_) (fun h15 => ?_)
        · refine z_iload (pc := 37) 2 dX11_load_37 rfl ?_
          refine z_if_eq_t (pc := 39) (tgt := 52) dX11_load_39 (by decide) (by decide) ?_
          refine z_lv (lv' := [(0, .ref 8), (1, .int x1), (3, .int x3), (5, .null), (6, .null)]) [3, 4, 6, 1, 0] rfl ?_
          exact z11_load_J52n5n6 hd x1 x3 σ
        · refine z_bipush (pc := 59) (v := (-2 : Int32)) dX11_load_59 (by decide) ?_
          exact z_rIs dX11_load_61 rfl ⟨by decide, by decide⟩
      · refine z_astore (pc := 24) (lv' := [(6, .ref a10), (5, .null), (4, .int (0 : Int32)), (0, .ref 8), (1, .int x1), (2, .int x2), (3, .int x3)]) dX11_load_24 (by decide) rfl ?_
        refine z_iload_n (pc := 26) 4 dX11_load_26 rfl rfl ?_
        refine z_iconst (pc := 27) (v := (0 : Int32)) dX11_load_27 (by decide) ?_
        refine z_sipush (pc := 28) (v := (999 : Int32)) dX11_load_28 (by decide) ?_
        refine z_callB (pc := 31) [.int x1, .int (0 : Int32), .int (999 : Int32)] [] rfl (lk_S (Yc := YX11_within) (n := 3) dX11_load_31 rfl np_X11_within mh_RX11 (by decide) ml_RX11_66 st_X11_within in_RX11 cd_X11_within) (Nat.le_trans (by decide) hd) ⟨by decide, by decide⟩ (Nat.le_of_ble_eq_true rfl) (am_kp.rf _) (fun v23 h25 => c11_within h25) (fun v23 h25 => ?_)
        refine z_bz_eq (pc := 34) (tgt := 59) dX11_load_34 (by decide) (fun h26 => ?_) (fun h26 => ?_)
        · refine z_iload (pc := 37) 2 dX11_load_37 rfl ?_
          refine z_if_eq_t (pc := 39) (tgt := 52) dX11_load_39 (by decide) (by decide) ?_
          refine z_lv (lv' := [(0, .ref 8), (1, .int x1), (3, .int x3), (5, .null), (6, .ref a10)]) [3, 4, 6, 1, 0] rfl ?_
          exact z11_load_J52n5 hd x1 x3 a10 σ
        · refine z_bipush (pc := 59) (v := (-2 : Int32)) dX11_load_59 (by decide) ?_
          exact z_rIs dX11_load_61 rfl ⟨by decide, by decide⟩
    · refine z_astore (pc := 17) (lv' := [(5, .ref a5), (4, .int (0 : Int32)), (0, .ref 8), (1, .int x1), (2, .int x2), (3, .int x3)]) dX11_load_17 (by decide) rfl ?_
      refine z_aload_n (pc := 19) 2 dX11_load_19 rfl rfl ?_
      refine z_iload_n (pc := 20) 4 dX11_load_20 rfl rfl ?_
      refine z_callR (pc := 21) [.ref 8, .int x2] [] rfl (lk_V (Yc := YX11_otherOf) (n := 1) dX11_load_21 rfl rfl (am_ob.s kC8) rfl rfl np_X11_otherOf mh_RX11 (by decide) ml_RX11_186 im_X11_otherOf se_RX11_X11_otherOf_X11_otherOf in_RX11 cd_X11_otherOf) (Nat.le_trans (by decide) hd) ⟨by decide, by decide⟩ (Nat.le_of_ble_eq_true rfl) (am_kp.rf _) (fun v34 h36 => c11_otherOf h36) (fun v34 h36 => ?_)
      refine z_elim (fun e38 => ?_) (fun a37 e38 => ?_)
      · refine z_astoreN (pc := 24) (lv' := [(6, .null), (5, .ref a5), (4, .int (0 : Int32)), (0, .ref 8), (1, .int x1), (2, .int x2), (3, .int x3)]) dX11_load_24 (by decide) rfl ?_
        refine z_iload_n (pc := 26) 4 dX11_load_26 rfl rfl ?_
        refine z_iconst (pc := 27) (v := (0 : Int32)) dX11_load_27 (by decide) ?_
        refine z_sipush (pc := 28) (v := (999 : Int32)) dX11_load_28 (by decide) ?_
        refine z_callB (pc := 31) [.int x1, .int (0 : Int32), .int (999 : Int32)] [] rfl (lk_S (Yc := YX11_within) (n := 3) dX11_load_31 rfl np_X11_within mh_RX11 (by decide) ml_RX11_66 st_X11_within in_RX11 cd_X11_within) (Nat.le_trans (by decide) hd) ⟨by decide, by decide⟩ (Nat.le_of_ble_eq_true rfl) (am_kp.rf _) (fun v39 h41 => c11_within h41) (fun v39 h41 => ?_)
        refine z_bz_eq (pc := 34) (tgt := 59) dX11_load_34 (by decide) (fun h42 => ?_) (fun h42 => ?_)
        · refine z_iload (pc := 37) 2 dX11_load_37 rfl ?_
          refine z_if_eq_t (pc := 39) (tgt := 52) dX11_load_39 (by decide) (by decide) ?_
          refine z_lv (lv' := [(0, .ref 8), (1, .int x1), (3, .int x3), (5, .ref a5), (6, .null)]) [3, 4, 6, 1, 0] rfl ?_
          exact z11_load_J52n6 hd x1 x3 a5 σ
        · refine z_bipush (pc := 59) (v := (-2 : Int32)) dX11_load_59 (by decide) ?_
          exact z_rIs dX11_load_61 rfl ⟨by decide, by decide⟩
      · refine z_astore (pc := 24) (lv' := [(6, .ref a37), (5, .ref a5), (4, .int (0 : Int32)), (0, .ref 8), (1, .int x1), (2, .int x2), (3, .int x3)]) dX11_load_24 (by decide) rfl ?_
        refine z_iload_n (pc := 26) 4 dX11_load_26 rfl rfl ?_
        refine z_iconst (pc := 27) (v := (0 : Int32)) dX11_load_27 (by decide) ?_
        refine z_sipush (pc := 28) (v := (999 : Int32)) dX11_load_28 (by decide) ?_
        refine z_callB (pc := 31) [.int x1, .int (0 : Int32), .int (999 : Int32)] [] rfl (lk_S (Yc := YX11_within) (n := 3) dX11_load_31 rfl np_X11_within mh_RX11 (by decide) ml_RX11_66 st_X11_within in_RX11 cd_X11_within) (Nat.le_trans (by decide) hd) ⟨by decide, by decide⟩ (Nat.le_of_ble_eq_true rfl) (am_kp.rf _) (fun v50 h52 => c11_within h52) (fun v50 h52 => ?_)
        refine z_bz_eq (pc := 34) (tgt := 59) dX11_load_34 (by decide) (fun h53 => ?_) (fun h53 => ?_)
        · refine z_iload (pc := 37) 2 dX11_load_37 rfl ?_
          refine z_if_eq_t (pc := 39) (tgt := 52) dX11_load_39 (by decide) (by decide) ?_
          refine z_lv (lv' := [(0, .ref 8), (1, .int x1), (3, .int x3), (5, .ref a5), (6, .ref a37)]) [3, 4, 6, 1, 0] rfl ?_
          exact z11_load_J52 hd x1 x3 a5 a37 σ
        · refine z_bipush (pc := 59) (v := (-2 : Int32)) dX11_load_59 (by decide) ?_
          exact z_rIs dX11_load_61 rfl ⟨by decide, by decide⟩
  · refine z_iconst (pc := 5) (v := (1 : Int32)) dX11_load_5 (by decide) ?_
    refine z_goto (pc := 6) (tgt := 10) dX11_load_6 (by decide) ?_
    refine z_istore (pc := 10) (lv' := [(4, .int (1 : Int32)), (0, .ref 8), (1, .int x1), (2, .int x2), (3, .int x3)]) dX11_load_10 (by decide) rfl ?_
    refine z_aload_n (pc := 12) 1 dX11_load_12 rfl rfl ?_
    refine z_iload_n (pc := 13) 3 dX11_load_13 rfl rfl ?_
    refine z_callR (pc := 14) [.ref 8, .int x2] [] rfl (lk_V (Yc := YX11_oneOf) (n := 1) dX11_load_14 rfl rfl (am_ob.s kC8) rfl rfl np_X11_oneOf mh_RX11 (by decide) ml_RX11_183 im_X11_oneOf se_RX11_X11_oneOf_X11_oneOf in_RX11 cd_X11_oneOf) (Nat.le_trans (by decide) hd) ⟨by decide, by decide⟩ (Nat.le_of_ble_eq_true rfl) (am_kp.rf _) (fun v63 h65 => c11_oneOf h65) (fun v63 h65 => ?_)
    refine z_elim (fun e67 => ?_) (fun a66 e67 => ?_)
    · refine z_astoreN (pc := 17) (lv' := [(5, .null), (4, .int (1 : Int32)), (0, .ref 8), (1, .int x1), (2, .int x2), (3, .int x3)]) dX11_load_17 (by decide) rfl ?_
      refine z_aload_n (pc := 19) 2 dX11_load_19 rfl rfl ?_
      refine z_iload_n (pc := 20) 4 dX11_load_20 rfl rfl ?_
      refine z_callR (pc := 21) [.ref 8, .int x2] [] rfl (lk_V (Yc := YX11_otherOf) (n := 1) dX11_load_21 rfl rfl (am_ob.s kC8) rfl rfl np_X11_otherOf mh_RX11 (by decide) ml_RX11_186 im_X11_otherOf se_RX11_X11_otherOf_X11_otherOf in_RX11 cd_X11_otherOf) (Nat.le_trans (by decide) hd) ⟨by decide, by decide⟩ (Nat.le_of_ble_eq_true rfl) (am_kp.rf _) (fun v68 h70 => c11_otherOf h70) (fun v68 h70 => ?_)
      refine z_elim (fun e72 => ?_) (fun a71 e72 => ?_)
      · refine z_astoreN (pc := 24) (lv' := [(6, .null), (5, .null), (4, .int (1 : Int32)), (0, .ref 8), (1, .int x1), (2, .int x2), (3, .int x3)]) dX11_load_24 (by decide) rfl ?_
        refine z_iload_n (pc := 26) 4 dX11_load_26 rfl rfl ?_
        refine z_iconst (pc := 27) (v := (0 : Int32)) dX11_load_27 (by decide) ?_
        refine z_sipush (pc := 28) (v := (999 : Int32)) dX11_load_28 (by decide) ?_
        refine z_callB (pc := 31) [.int x1, .int (0 : Int32), .int (999 : Int32)] [] rfl (lk_S (Yc := YX11_within) (n := 3) dX11_load_31 rfl np_X11_within mh_RX11 (by decide) ml_RX11_66 st_X11_within in_RX11 cd_X11_within) (Nat.le_trans (by decide) hd) ⟨by decide, by decide⟩ (Nat.le_of_ble_eq_true rfl) (am_kp.rf _) (fun v73 h75 => c11_within h75) (fun v73 h75 => ?_)
        refine z_bz_eq (pc := 34) (tgt := 59) dX11_load_34 (by decide) (fun h76 => ?_) (fun h76 => ?_)
        · refine z_iload (pc := 37) 2 dX11_load_37 rfl ?_
          refine z_if_eq_f (pc := 39) (tgt := 52) dX11_load_39 (by decide) (by decide) ?_
          refine z_aloadN (pc := 42) 1 dX11_load_42 rfl ?_
          refine z_ifnullN (pc := 44) (tgt := 59) dX11_load_44 (by decide) ?_
          refine z_bipush (pc := 59) (v := (-2 : Int32)) dX11_load_59 (by decide) ?_
          exact z_rIs dX11_load_61 rfl ⟨by decide, by decide⟩
        · refine z_bipush (pc := 59) (v := (-2 : Int32)) dX11_load_59 (by decide) ?_
          exact z_rIs dX11_load_61 rfl ⟨by decide, by decide⟩
      · refine z_astore (pc := 24) (lv' := [(6, .ref a71), (5, .null), (4, .int (1 : Int32)), (0, .ref 8), (1, .int x1), (2, .int x2), (3, .int x3)]) dX11_load_24 (by decide) rfl ?_
        refine z_iload_n (pc := 26) 4 dX11_load_26 rfl rfl ?_
        refine z_iconst (pc := 27) (v := (0 : Int32)) dX11_load_27 (by decide) ?_
        refine z_sipush (pc := 28) (v := (999 : Int32)) dX11_load_28 (by decide) ?_
        refine z_callB (pc := 31) [.int x1, .int (0 : Int32), .int (999 : Int32)] [] rfl (lk_S (Yc := YX11_within) (n := 3) dX11_load_31 rfl np_X11_within mh_RX11 (by decide) ml_RX11_66 st_X11_within in_RX11 cd_X11_within) (Nat.le_trans (by decide) hd) ⟨by decide, by decide⟩ (Nat.le_of_ble_eq_true rfl) (am_kp.rf _) (fun v77 h79 => c11_within h79) (fun v77 h79 => ?_)
        refine z_bz_eq (pc := 34) (tgt := 59) dX11_load_34 (by decide) (fun h80 => ?_) (fun h80 => ?_)
        · refine z_iload (pc := 37) 2 dX11_load_37 rfl ?_
          refine z_if_eq_f (pc := 39) (tgt := 52) dX11_load_39 (by decide) (by decide) ?_
          refine z_aloadN (pc := 42) 1 dX11_load_42 rfl ?_
          refine z_ifnullN (pc := 44) (tgt := 59) dX11_load_44 (by decide) ?_
          refine z_bipush (pc := 59) (v := (-2 : Int32)) dX11_load_59 (by decide) ?_
          exact z_rIs dX11_load_61 rfl ⟨by decide, by decide⟩
        · refine z_bipush (pc := 59) (v := (-2 : Int32)) dX11_load_59 (by decide) ?_
          exact z_rIs dX11_load_61 rfl ⟨by decide, by decide⟩
    · refine z_astore (pc := 17) (lv' := [(5, .ref a66), (4, .int (1 : Int32)), (0, .ref 8), (1, .int x1), (2, .int x2), (3, .int x3)]) dX11_load_17 (by decide) rfl ?_
      refine z_aload_n (pc := 19) 2 dX11_load_19 rfl rfl ?_
      refine z_iload_n (pc := 20) 4 dX11_load_20 rfl rfl ?_
      refine z_callR (pc := 21) [.ref 8, .int x2] [] rfl (lk_V (Yc := YX11_otherOf) (n := 1) dX11_load_21 rfl rfl (am_ob.s kC8) rfl rfl np_X11_otherOf mh_RX11 (by decide) ml_RX11_186 im_X11_otherOf se_RX11_X11_otherOf_X11_otherOf in_RX11 cd_X11_otherOf) (Nat.le_trans (by decide) hd) ⟨by decide, by decide⟩ (Nat.le_of_ble_eq_true rfl) (am_kp.rf _) (fun v81 h83 => c11_otherOf h83) (fun v81 h83 => ?_)
      refine z_elim (fun e85 => ?_) (fun a84 e85 => ?_)
      · refine z_astoreN (pc := 24) (lv' := [(6, .null), (5, .ref a66), (4, .int (1 : Int32)), (0, .ref 8), (1, .int x1), (2, .int x2), (3, .int x3)]) dX11_load_24 (by decide) rfl ?_
        refine z_iload_n (pc := 26) 4 dX11_load_26 rfl rfl ?_
        refine z_iconst (pc := 27) (v := (0 : Int32)) dX11_load_27 (by decide) ?_
        refine z_sipush (pc := 28) (v := (999 : Int32)) dX11_load_28 (by decide) ?_
        refine z_callB (pc := 31) [.int x1, .int (0 : Int32), .int (999 : Int32)] [] rfl (lk_S (Yc := YX11_within) (n := 3) dX11_load_31 rfl np_X11_within mh_RX11 (by decide) ml_RX11_66 st_X11_within in_RX11 cd_X11_within) (Nat.le_trans (by decide) hd) ⟨by decide, by decide⟩ (Nat.le_of_ble_eq_true rfl) (am_kp.rf _) (fun v86 h88 => c11_within h88) (fun v86 h88 => ?_)
        refine z_bz_eq (pc := 34) (tgt := 59) dX11_load_34 (by decide) (fun h89 => ?_) (fun h89 => ?_)
        · refine z_iload (pc := 37) 2 dX11_load_37 rfl ?_
          refine z_if_eq_f (pc := 39) (tgt := 52) dX11_load_39 (by decide) (by decide) ?_
          refine z_aload (pc := 42) 1 dX11_load_42 rfl ?_
          refine z_ifnull (pc := 44) dX11_load_44 ?_
          refine z_aloadN (pc := 47) 0 dX11_load_47 rfl ?_
          refine z_ifnullN (pc := 49) (tgt := 59) dX11_load_49 (by decide) ?_
          refine z_bipush (pc := 59) (v := (-2 : Int32)) dX11_load_59 (by decide) ?_
          exact z_rIs dX11_load_61 rfl ⟨by decide, by decide⟩
        · refine z_bipush (pc := 59) (v := (-2 : Int32)) dX11_load_59 (by decide) ?_
          exact z_rIs dX11_load_61 rfl ⟨by decide, by decide⟩
      · refine z_astore (pc := 24) (lv' := [(6, .ref a84), (5, .ref a66), (4, .int (1 : Int32)), (0, .ref 8), (1, .int x1), (2, .int x2), (3, .int x3)]) dX11_load_24 (by decide) rfl ?_
        refine z_iload_n (pc := 26) 4 dX11_load_26 rfl rfl ?_
        refine z_iconst (pc := 27) (v := (0 : Int32)) dX11_load_27 (by decide) ?_
        refine z_sipush (pc := 28) (v := (999 : Int32)) dX11_load_28 (by decide) ?_
        refine z_callB (pc := 31) [.int x1, .int (0 : Int32), .int (999 : Int32)] [] rfl (lk_S (Yc := YX11_within) (n := 3) dX11_load_31 rfl np_X11_within mh_RX11 (by decide) ml_RX11_66 st_X11_within in_RX11 cd_X11_within) (Nat.le_trans (by decide) hd) ⟨by decide, by decide⟩ (Nat.le_of_ble_eq_true rfl) (am_kp.rf _) (fun v90 h92 => c11_within h92) (fun v90 h92 => ?_)
        refine z_bz_eq (pc := 34) (tgt := 59) dX11_load_34 (by decide) (fun h93 => ?_) (fun h93 => ?_)
        · refine z_iload (pc := 37) 2 dX11_load_37 rfl ?_
          refine z_if_eq_f (pc := 39) (tgt := 52) dX11_load_39 (by decide) (by decide) ?_
          refine z_aload (pc := 42) 1 dX11_load_42 rfl ?_
          refine z_ifnull (pc := 44) dX11_load_44 ?_
          refine z_aload (pc := 47) 0 dX11_load_47 rfl ?_
          refine z_ifnull (pc := 49) dX11_load_49 ?_
          refine z_lv (lv' := [(0, .ref 8), (1, .int x1), (3, .int x3), (5, .ref a66), (6, .ref a84)]) [3, 4, 6, 1, 0] rfl ?_
          exact z11_load_J52 hd x1 x3 a66 a84 σ
        · refine z_bipush (pc := 59) (v := (-2 : Int32)) dX11_load_59 (by decide) ?_
          exact z_rIs dX11_load_61 rfl ⟨by decide, by decide⟩
def f11_lost (N : Nat) (σ : am_S) (x1 : Int32) : Option (Int32 × am_S) := (f11_crossingAt σ x1.toInt64).bind fun v1 => (v1.elim (some ((-2 : Int32), σ)) (fun a4 => if [1].contains (am_ci σ a4) = true then ((f1_become σ a4 (0 : Int32)).bind fun (v7, s8) => (if v7 = 0 then (some ((0 : Int32), s8)) else ((f4_measureThen N s8 (fF s8 8 3)).bind fun s12 => (if [1].contains (am_ci s12 a4) = true then ((f1_become s12 a4 v7).bind fun (v15, s16) => ((f4_measureNow N s16 (fF s16 8 3)).bind fun s19 => ((f4_lostMinutes N s19).bind fun v21 => (some (v21, s19))))) else none)))) else none))
theorem c11_lost {l : Launch} {E : am_E} {N : Nat} {σ : am_S} {x1 : Int32} {v : Int32} {σ1 : am_S} (hf : f11_lost N σ x1 = some (v, σ1)) : Ctr l E msC YX11_lost (3) 0 0 [.ref 8, .int x1] σ (some (.int v)) σ1 := by
  refine ctr_of (G := fun u r s => r = some (.int u.1) ∧ s = u.2) (by decide +kernel) (Nat.le_of_ble_eq_true rfl) hf ⟨rfl, rfl⟩ (fun d hd => ?_)
  refine z_eqlv (lv' := [(0, .ref 8), (1, .int x1)]) rfl ?_
  unfold f11_lost
  refine z_aload_n (pc := 0) 0 dX11_lost_0 rfl rfl ?_
  refine z_iload_n (pc := 1) 1 dX11_lost_1 rfl rfl ?_
  refine z_i2l (pc := 2) dX11_lost_2 ?_
  refine z_callR (pc := 3) [.ref 8, .long x1.toInt64] [] rfl (lk_V (Yc := YX11_crossingAt) (n := 1) dX11_lost_3 rfl rfl (am_ob.s kC8) rfl rfl np_X11_crossingAt mh_RX11 (by decide) ml_RX11_87 im_X11_crossingAt se_RX11_X11_crossingAt_X11_crossingAt in_RX11 cd_X11_crossingAt) (Nat.le_trans (by decide) hd) ⟨by decide, by decide⟩ (Nat.le_of_ble_eq_true rfl) (am_kp.rf _) (fun v1 h3 => c11_crossingAt h3) (fun v1 h3 => ?_)
  refine z_elim (fun e5 => ?_) (fun a4 e5 => ?_)
  · refine z_astore_nN (pc := 6) (lv' := [(2, .null), (0, .ref 8), (1, .int x1)]) dX11_lost_6 rfl (by decide) rfl ?_
    refine z_aload_nN (pc := 7) 0 dX11_lost_7 rfl rfl ?_
    refine z_ifnonnullN (pc := 8) dX11_lost_8 ?_
    refine z_bipush (pc := 11) (v := (-2 : Int32)) dX11_lost_11 (by decide) ?_
    exact z_rIs dX11_lost_13 rfl ⟨by decide, by decide⟩
  · refine z_astore_n (pc := 6) (lv' := [(2, .ref a4), (0, .ref 8), (1, .int x1)]) dX11_lost_6 rfl (by decide) rfl ?_
    refine z_aload_n (pc := 7) 0 dX11_lost_7 rfl rfl ?_
    refine z_ifnonnull (pc := 8) (tgt := 14) dX11_lost_8 (by decide) ?_
    refine z_aload_n (pc := 14) 0 dX11_lost_14 rfl rfl ?_
    refine z_iconst (pc := 15) (v := (0 : Int32)) dX11_lost_15 (by decide) ?_
    refine z_guard (fun g6 => ?_)
    refine z_callIs (pc := 16) [.ref a4, .int (0 : Int32)] [] rfl (lk_V (Yc := YX1_become) (n := 1) dX11_lost_16 rfl rfl (am_ob.d (am_c1 g6) (by decide)) rfl rfl np_X1_become mh_RX1 (by decide) ml_RX11_91 im_X1_become se_RX1_X1_become_X1_become in_RX1 cd_X1_become) (Nat.le_trans (by decide) hd) ⟨by decide, by decide⟩ (Nat.le_of_ble_eq_true rfl) (am_kp.rf _) (fun v7 s8 h9 => c1_become h9) (fun v7 s8 h9 => ?_)
    refine z_istore_n (pc := 19) (lv' := [(3, .int v7), (2, .ref a4), (0, .ref 8), (1, .int x1)]) dX11_lost_19 rfl (by decide) rfl ?_
    refine z_iload_n (pc := 20) 0 dX11_lost_20 rfl rfl ?_
    refine z_if_ne (pc := 21) (tgt := 26) dX11_lost_21 (by decide) (fun h10 => ?_) (fun h10 => ?_)
    · refine z_iconst (pc := 24) (v := (0 : Int32)) dX11_lost_24 (by decide) ?_
      exact z_rIs dX11_lost_25 rfl ⟨by decide, by decide⟩
    · refine z_aload_n (pc := 26) 2 dX11_lost_26 rfl rfl ?_
      refine z_getQ (pc := 27) (b := 21) dX11_lost_27 kC8 fr_RX11_42_11 (by decide) rfl ?_
      refine z_aload_n (pc := 30) 2 dX11_lost_30 rfl rfl ?_
      refine z_getQ (pc := 31) (b := 9) dX11_lost_31 kC8 fr_RX11_11_11 (by decide) rfl ?_
      refine z_aload_n (pc := 34) 2 dX11_lost_34 rfl rfl ?_
      refine z_getI (pc := 35) dX11_lost_35 (am_ob.s kC8) fr_RX11_74_11 (by decide) ?_
      refine z_callVs (pc := 38) [.ref 21, .ref 9, .int (fF s8 8 3)] [] rfl (lk_V (Yc := YX4_measureThen) (n := 2) dX11_lost_38 rfl rfl (am_ob.s kC21) rfl rfl np_X4_measureThen mh_RX4 (by decide) ml_RX11_273 im_X4_measureThen se_RX4_X4_measureThen_X4_measureThen in_RX4 cd_X4_measureThen) (Nat.le_trans (by decide) hd) ⟨by decide, by decide⟩ (Nat.le_of_ble_eq_true rfl) (am_kp.rf _) (fun s12 h13 => c4_measureThen h13) (fun s12 h13 => ?_)
      refine z_aload_n (pc := 41) 1 dX11_lost_41 rfl rfl ?_
      refine z_iload_n (pc := 42) 0 dX11_lost_42 rfl rfl ?_
      refine z_guard (fun g14 => ?_)
      refine z_callIs (pc := 43) [.ref a4, .int v7] [] rfl (lk_V (Yc := YX1_become) (n := 1) dX11_lost_43 rfl rfl (am_ob.d (am_c1 g14) (by decide)) rfl rfl np_X1_become mh_RX1 (by decide) ml_RX11_91 im_X1_become se_RX1_X1_become_X1_become in_RX1 cd_X1_become) (Nat.le_trans (by decide) hd) ⟨by decide, by decide⟩ (Nat.le_of_ble_eq_true rfl) (am_kp.rf _) (fun v15 s16 h17 => c1_become h17) (fun v15 s16 h17 => ?_)
      refine z_pop (pc := 46) dX11_lost_46 rfl ?_
      refine z_aload_n (pc := 47) 2 dX11_lost_47 rfl rfl ?_
      refine z_getQ (pc := 48) (b := 21) dX11_lost_48 kC8 fr_RX11_42_11 (by decide) rfl ?_
      refine z_aload_n (pc := 51) 2 dX11_lost_51 rfl rfl ?_
      refine z_getQ (pc := 52) (b := 9) dX11_lost_52 kC8 fr_RX11_11_11 (by decide) rfl ?_
      refine z_aload_n (pc := 55) 2 dX11_lost_55 rfl rfl ?_
      refine z_getI (pc := 56) dX11_lost_56 (am_ob.s kC8) fr_RX11_74_11 (by decide) ?_
      refine z_callVs (pc := 59) [.ref 21, .ref 9, .int (fF s16 8 3)] [] rfl (lk_V (Yc := YX4_measureNow) (n := 2) dX11_lost_59 rfl rfl (am_ob.s kC21) rfl rfl np_X4_measureNow mh_RX4 (by decide) ml_RX11_277 im_X4_measureNow se_RX4_X4_measureNow_X4_measureNow in_RX4 cd_X4_measureNow) (Nat.le_trans (by decide) hd) ⟨by decide, by decide⟩ (Nat.le_of_ble_eq_true rfl) (am_kp.rf _) (fun s19 h20 => c4_measureNow h20) (fun s19 h20 => ?_)
      refine z_aload_n (pc := 62) 2 dX11_lost_62 rfl rfl ?_
      refine z_getQ (pc := 63) (b := 21) dX11_lost_63 kC8 fr_RX11_42_11 (by decide) rfl ?_
      refine z_callI (pc := 66) [.ref 21] [] rfl (lk_V (Yc := YX4_lostMinutes) (n := 0) dX11_lost_66 rfl rfl (am_ob.s kC21) rfl rfl np_X4_lostMinutes mh_RX4 (by decide) ml_RX11_280 im_X4_lostMinutes se_RX4_X4_lostMinutes_X4_lostMinutes in_RX4 cd_X4_lostMinutes) (Nat.le_trans (by decide) hd) ⟨by decide, by decide⟩ (Nat.le_of_ble_eq_true rfl) (am_kp.rf _) (fun v21 h23 => c4_lostMinutes h23) (fun v21 h23 => ?_)
      exact z_rIs dX11_lost_69 rfl ⟨by decide, by decide⟩
def f11_newRower (σ : am_S) (x0 : Int32) (x1 : Int32) (x2 : Int32) : Option (Nat × am_S) := if x0 = (1 : Int32) then ((f3_init (am_nw σ (.inl (3, []))) σ.1.length x0 x1 x2).bind fun s3 => (some (σ.1.length, s3))) else (if x0 = (2 : Int32) then ((f6_init (am_nw σ (.inl (6, []))) σ.1.length x0 x1 x2).bind fun s7 => (some (σ.1.length, s7))) else (if x0 = (3 : Int32) then ((f5_init (am_nw σ (.inl (5, []))) σ.1.length x0 x1 x2).bind fun s11 => (some (σ.1.length, s11))) else (if x0 = (4 : Int32) then ((f9_init (am_nw σ (.inl (9, []))) σ.1.length x0 x1 x2).bind fun s15 => (some (σ.1.length, s15))) else (if x0 = (5 : Int32) then ((f2_init (am_nw σ (.inl (2, []))) σ.1.length x0 x1 x2).bind fun s19 => (some (σ.1.length, s19))) else ((f7_init (am_nw σ (.inl (7, []))) σ.1.length x0 x1 x2).bind fun s22 => (some (σ.1.length, s22)))))))
theorem c11_newRower {l : Launch} {E : am_E} {σ : am_S} {x0 : Int32} {x1 : Int32} {x2 : Int32} {v : Nat} {σ1 : am_S} (hf : f11_newRower σ x0 x1 x2 = some (v, σ1)) : Ctr l E msC YX11_newRower (4) 1 9 [.int x0, .int x1, .int x2] σ (some (.ref v)) σ1 := by
  refine ctr_of (G := fun u r s => r = some (.ref u.1) ∧ s = u.2) (by decide +kernel) (Nat.le_of_ble_eq_true rfl) hf ⟨rfl, rfl⟩ (fun d hd => ?_)
  refine z_eqlv (lv' := [(0, .int x0), (1, .int x1), (2, .int x2)]) rfl ?_
  unfold f11_newRower
  refine z_iload_n (pc := 0) 0 dX11_newRower_0 rfl rfl ?_
  refine z_ite (fun h1 => ?_) (fun h1 => ?_)
  · refine z_tsEq (pc := 1) (1) (off := 35) (tgt := 36) dX11_newRower_1 h1 (by decide) (by decide) (by decide) (by decide) ?_
    refine z_new (pc := 36) (ci := 3) dX11_newRower_36 rfl cl_RX11_117 it_RX3 in_RX3 ⟨by decide, by decide⟩ ?_
    refine z_dup (pc := 39) dX11_newRower_39 rfl ?_
    refine z_iload_n (pc := 40) 0 dX11_newRower_40 rfl rfl ?_
    refine z_iload_n (pc := 41) 1 dX11_newRower_41 rfl rfl ?_
    refine z_iload_n (pc := 42) 2 dX11_newRower_42 rfl rfl ?_
    refine z_callVs (pc := 43) [.ref σ.1.length, .int x0, .int x1, .int x2] [.ref σ.1.length] rfl (lk_I (Yc := YX3_init) (n := 3) dX11_newRower_43 rfl rfl rfl rfl np_X3_init mh_RX3 (by decide) ml_RX11_119 im_X3_init in_RX3 cd_X3_init) (Nat.le_trans (by decide) hd) ⟨by decide, by decide⟩ (Nat.le_of_ble_eq_true rfl) (am_kp.rf _) (fun s3 h4 => c3_init h4) (fun s3 h4 => ?_)
    exact z_rNs dX11_newRower_46 rfl ⟨by decide, by decide⟩
  · refine z_ite (fun h5 => ?_) (fun h5 => ?_)
    · refine z_tsEq (pc := 1) (2) (off := 46) (tgt := 47) dX11_newRower_1 h5 (by decide) (by decide) (by decide) (by decide) ?_
      refine z_new (pc := 47) (ci := 6) dX11_newRower_47 rfl cl_RX11_122 it_RX6 in_RX6 ⟨by decide, by decide⟩ ?_
      refine z_dup (pc := 50) dX11_newRower_50 rfl ?_
      refine z_iload_n (pc := 51) 0 dX11_newRower_51 rfl rfl ?_
      refine z_iload_n (pc := 52) 1 dX11_newRower_52 rfl rfl ?_
      refine z_iload_n (pc := 53) 2 dX11_newRower_53 rfl rfl ?_
      refine z_callVs (pc := 54) [.ref σ.1.length, .int x0, .int x1, .int x2] [.ref σ.1.length] rfl (lk_I (Yc := YX6_init) (n := 3) dX11_newRower_54 rfl rfl rfl rfl np_X6_init mh_RX6 (by decide) ml_RX11_124 im_X6_init in_RX6 cd_X6_init) (Nat.le_trans (by decide) hd) ⟨by decide, by decide⟩ (Nat.le_of_ble_eq_true rfl) (am_kp.rf _) (fun s7 h8 => c6_init h8) (fun s7 h8 => ?_)
      exact z_rNs dX11_newRower_57 rfl ⟨by decide, by decide⟩
    · refine z_ite (fun h9 => ?_) (fun h9 => ?_)
      · refine z_tsEq (pc := 1) (3) (off := 57) (tgt := 58) dX11_newRower_1 h9 (by decide) (by decide) (by decide) (by decide) ?_
        refine z_new (pc := 58) (ci := 5) dX11_newRower_58 rfl cl_RX11_125 it_RX5 in_RX5 ⟨by decide, by decide⟩ ?_
        refine z_dup (pc := 61) dX11_newRower_61 rfl ?_
        refine z_iload_n (pc := 62) 0 dX11_newRower_62 rfl rfl ?_
        refine z_iload_n (pc := 63) 1 dX11_newRower_63 rfl rfl ?_
        refine z_iload_n (pc := 64) 2 dX11_newRower_64 rfl rfl ?_
        refine z_callVs (pc := 65) [.ref σ.1.length, .int x0, .int x1, .int x2] [.ref σ.1.length] rfl (lk_I (Yc := YX5_init) (n := 3) dX11_newRower_65 rfl rfl rfl rfl np_X5_init mh_RX5 (by decide) ml_RX11_127 im_X5_init in_RX5 cd_X5_init) (Nat.le_trans (by decide) hd) ⟨by decide, by decide⟩ (Nat.le_of_ble_eq_true rfl) (am_kp.rf _) (fun s11 h12 => c5_init h12) (fun s11 h12 => ?_)
        exact z_rNs dX11_newRower_68 rfl ⟨by decide, by decide⟩
      · refine z_ite (fun h13 => ?_) (fun h13 => ?_)
        · refine z_tsEq (pc := 1) (4) (off := 68) (tgt := 69) dX11_newRower_1 h13 (by decide) (by decide) (by decide) (by decide) ?_
          refine z_new (pc := 69) (ci := 9) dX11_newRower_69 rfl cl_RX11_128 it_RX9 in_RX9 ⟨by decide, by decide⟩ ?_
          refine z_dup (pc := 72) dX11_newRower_72 rfl ?_
          refine z_iload_n (pc := 73) 0 dX11_newRower_73 rfl rfl ?_
          refine z_iload_n (pc := 74) 1 dX11_newRower_74 rfl rfl ?_
          refine z_iload_n (pc := 75) 2 dX11_newRower_75 rfl rfl ?_
          refine z_callVs (pc := 76) [.ref σ.1.length, .int x0, .int x1, .int x2] [.ref σ.1.length] rfl (lk_I (Yc := YX9_init) (n := 3) dX11_newRower_76 rfl rfl rfl rfl np_X9_init mh_RX9 (by decide) ml_RX11_130 im_X9_init in_RX9 cd_X9_init) (Nat.le_trans (by decide) hd) ⟨by decide, by decide⟩ (Nat.le_of_ble_eq_true rfl) (am_kp.rf _) (fun s15 h16 => c9_init h16) (fun s15 h16 => ?_)
          exact z_rNs dX11_newRower_79 rfl ⟨by decide, by decide⟩
        · refine z_ite (fun h17 => ?_) (fun h17 => ?_)
          · refine z_tsEq (pc := 1) (5) (off := 79) (tgt := 80) dX11_newRower_1 h17 (by decide) (by decide) (by decide) (by decide) ?_
            refine z_new (pc := 80) (ci := 2) dX11_newRower_80 rfl cl_RX11_131 it_RX2 in_RX2 ⟨by decide, by decide⟩ ?_
            refine z_dup (pc := 83) dX11_newRower_83 rfl ?_
            refine z_iload_n (pc := 84) 0 dX11_newRower_84 rfl rfl ?_
            refine z_iload_n (pc := 85) 1 dX11_newRower_85 rfl rfl ?_
            refine z_iload_n (pc := 86) 2 dX11_newRower_86 rfl rfl ?_
            refine z_callVs (pc := 87) [.ref σ.1.length, .int x0, .int x1, .int x2] [.ref σ.1.length] rfl (lk_I (Yc := YX2_init) (n := 3) dX11_newRower_87 rfl rfl rfl rfl np_X2_init mh_RX2 (by decide) ml_RX11_133 im_X2_init in_RX2 cd_X2_init) (Nat.le_trans (by decide) hd) ⟨by decide, by decide⟩ (Nat.le_of_ble_eq_true rfl) (am_kp.rf _) (fun s19 h20 => c2_init h20) (fun s19 h20 => ?_)
            exact z_rNs dX11_newRower_90 rfl ⟨by decide, by decide⟩
          · refine z_tsNe (pc := 1) (tgt := 91) [1, 2, 3, 4, 5] 5 dX11_newRower_1 (by decide) (by decide) (List.forall_mem_cons.mpr ⟨h1, List.forall_mem_cons.mpr ⟨h5, List.forall_mem_cons.mpr ⟨h9, List.forall_mem_cons.mpr ⟨h13, List.forall_mem_cons.mpr ⟨h17, List.forall_mem_nil _⟩⟩⟩⟩⟩) (by decide) ?_
            refine z_new (pc := 91) (ci := 7) dX11_newRower_91 rfl cl_RX11_15 it_RX7 in_RX7 ⟨by decide, by decide⟩ ?_
            refine z_dup (pc := 94) dX11_newRower_94 rfl ?_
            refine z_iload_n (pc := 95) 0 dX11_newRower_95 rfl rfl ?_
            refine z_iload_n (pc := 96) 1 dX11_newRower_96 rfl rfl ?_
            refine z_iload_n (pc := 97) 2 dX11_newRower_97 rfl rfl ?_
            refine z_callVs (pc := 98) [.ref σ.1.length, .int x0, .int x1, .int x2] [.ref σ.1.length] rfl (lk_I (Yc := YX7_init) (n := 3) dX11_newRower_98 rfl rfl rfl rfl np_X7_init mh_RX7 (by decide) ml_RX11_134 im_X7_init in_RX7 cd_X7_init) (Nat.le_trans (by decide) hd) ⟨by decide, by decide⟩ (Nat.le_of_ble_eq_true rfl) (am_kp.rf _) (fun s22 h23 => c7_init h23) (fun s22 h23 => ?_)
            exact z_rNs dX11_newRower_101 rfl ⟨by decide, by decide⟩
def f11_open_J164 (σ : am_S) (N : Nat) (x2 : Int32) (x3 : Int32) (x4 : Int32) (x5 : Int32) : Option Int32 := if x2 = 0 then (some (x3)) else (if x2 = (1 : Int32) then (some (x4)) else (some (x5)))
theorem z11_open_J164 {l : Launch} {E : am_E} {d : Nat} {N : Nat} {σ : am_S} (hd : 1 ≤ d) (x2 : Int32) (x3 : Int32) (x4 : Int32) (x5 : Int32) : Z l E msC σ YX11_open d 0 0 164 [(2, .int x2), (3, .int x3), (4, .int x4), (5, .int x5)] [] 0 0 σ (f11_open_J164 σ N x2 x3 x4 x5) (fun u r s => r = some (.int u) ∧ s = σ) := by
  unfold f11_open_J164
  refine z_iload_n (pc := 164) 0 dX11_open_164 rfl rfl ?_
  refine z_if_ne (pc := 165) (tgt := 172) dX11_open_165 (by decide) (fun h10 => ?_) (fun h10 => ?_)
  · refine z_iload_n (pc := 168) 1 dX11_open_168 rfl rfl ?_
    refine z_goto (pc := 169) (tgt := 184) dX11_open_169 (by decide) ?_
    exact z_rI dX11_open_184 rfl ⟨by decide, by decide⟩
  · refine z_iload_n (pc := 172) 0 dX11_open_172 rfl rfl ?_
    refine z_iconst (pc := 173) (v := (1 : Int32)) dX11_open_173 (by decide) ?_
    refine z_ic_ne (pc := 174) (tgt := 182) dX11_open_174 (by decide) (fun h11 => ?_) (fun h11 => ?_)
    · refine z_iload (pc := 177) 2 dX11_open_177 rfl ?_
      refine z_goto (pc := 179) (tgt := 184) dX11_open_179 (by decide) ?_
      exact z_rI dX11_open_184 rfl ⟨by decide, by decide⟩
    · refine z_iload (pc := 182) 3 dX11_open_182 rfl ?_
      exact z_rI dX11_open_184 rfl ⟨by decide, by decide⟩
def f11_open_J108 (k33 : Int32 → Int32 → Int32 → Int32 → Int32 → Int32 → Option Int32) (σ : am_S) (N : Nat) (x1 : Int32) (x2 : Int32) (x3 : Int32) (x4 : Int32) (x5 : Int32) (x6 : Int32) (x7 : Int32) (x8 : Int32) : Option Int32 := if x4 < x7 then (if x1 < x8 then (k33 x1 x2 x3 x4 x5 (x6 + (1 : Int32))) else (k33 x1 x2 x6 x7 x8 (x6 + (1 : Int32)))) else (if x7 = x4 then (if x5 ≤ x8 then (if x1 < x8 then (k33 x1 x2 x3 x4 x5 (x6 + (1 : Int32))) else (k33 x1 x2 x3 x4 x5 (x6 + (1 : Int32)))) else (if x1 < x8 then (k33 x1 x2 x3 x4 x5 (x6 + (1 : Int32))) else (k33 x1 x2 x6 x7 x8 (x6 + (1 : Int32))))) else (if x1 < x8 then (k33 x1 x2 x3 x4 x5 (x6 + (1 : Int32))) else (k33 x1 x2 x3 x4 x5 (x6 + (1 : Int32)))))
theorem z11_open_J108 {l : Launch} {E : am_E} {d : Nat} {N : Nat} {σ : am_S} (hd : 1 ≤ d) {k33 : Int32 → Int32 → Int32 → Int32 → Int32 → Int32 → Option Int32} (hk33 : ∀ (x1 : Int32) (x2 : Int32) (x3 : Int32) (x4 : Int32) (x5 : Int32) (x6 : Int32), Z l E msC σ YX11_open d 0 0 33 [(0, .ref 8), (1, .int x1), (2, .int x2), (3, .int x3), (4, .int x4), (5, .int x5), (6, .int x6)] [] 0 0 σ (k33 x1 x2 x3 x4 x5 x6) (fun u r s => r = some (.int u) ∧ s = σ)) (x1 : Int32) (x2 : Int32) (x3 : Int32) (x4 : Int32) (x5 : Int32) (x6 : Int32) (x7 : Int32) (x8 : Int32) : Z l E msC σ YX11_open d 0 0 108 [(0, .ref 8), (1, .int x1), (2, .int x2), (3, .int x3), (4, .int x4), (5, .int x5), (6, .int x6), (7, .int x7), (8, .int x8)] [] 0 0 σ (f11_open_J108 k33 σ N x1 x2 x3 x4 x5 x6 x7 x8) (fun u r s => r = some (.int u) ∧ s = σ) := by
  unfold f11_open_J108
  refine z_iload (pc := 108) 7 dX11_open_108 rfl ?_
  refine z_iload (pc := 110) 4 dX11_open_110 rfl ?_
  refine z_ic_gt (pc := 112) (tgt := 129) dX11_open_112 (by decide) (fun h13 => ?_) (fun h13 => ?_)
  · refine z_iconst (pc := 129) (v := (1 : Int32)) dX11_open_129 (by decide) ?_
    refine z_goto (pc := 130) (tgt := 134) dX11_open_130 (by decide) ?_
    refine z_istore (pc := 134) (lv' := [(9, .int (1 : Int32)), (0, .ref 8), (1, .int x1), (2, .int x2), (3, .int x3), (4, .int x4), (5, .int x5), (6, .int x6), (7, .int x7), (8, .int x8)]) dX11_open_134 (by decide) rfl ?_
    refine z_iload (pc := 136) 9 dX11_open_136 rfl ?_
    refine z_iload_n (pc := 138) 2 dX11_open_138 rfl rfl ?_
    refine z_ic_gt (pc := 139) (tgt := 158) dX11_open_139 (by decide) (fun h14 => ?_) (fun h14 => ?_)
    · refine z_iinc (pc := 158) (v := x6 + (1 : Int32)) (lv' := [(6, .int (x6 + (1 : Int32))), (9, .int (1 : Int32)), (0, .ref 8), (1, .int x1), (2, .int x2), (3, .int x3), (4, .int x4), (5, .int x5), (7, .int x7), (8, .int x8)]) 7 dX11_open_158 rfl rfl (by decide) rfl ?_
      refine z_goto (pc := 161) (tgt := 33) dX11_open_161 (by decide) ?_
      refine z_lv (lv' := [(0, .ref 8), (1, .int x1), (2, .int x2), (3, .int x3), (4, .int x4), (5, .int x5), (6, .int (x6 + (1 : Int32)))]) [2, 3, 4, 5, 6, 7, 0] rfl ?_
      exact hk33 x1 x2 x3 x4 x5 (x6 + (1 : Int32))
    · refine z_iload (pc := 142) 0 dX11_open_142 rfl ?_
      refine z_if_eq_f (pc := 144) (tgt := 158) dX11_open_144 (by decide) (by decide) ?_
      refine z_iload (pc := 147) 7 dX11_open_147 rfl ?_
      refine z_istore_n (pc := 149) (lv' := [(3, .int x6), (9, .int (1 : Int32)), (0, .ref 8), (1, .int x1), (2, .int x2), (4, .int x4), (5, .int x5), (6, .int x6), (7, .int x7), (8, .int x8)]) dX11_open_149 rfl (by decide) rfl ?_
      refine z_iload (pc := 150) 8 dX11_open_150 rfl ?_
      refine z_istore (pc := 152) (lv' := [(4, .int x7), (3, .int x6), (9, .int (1 : Int32)), (0, .ref 8), (1, .int x1), (2, .int x2), (5, .int x5), (6, .int x6), (7, .int x7), (8, .int x8)]) dX11_open_152 (by decide) rfl ?_
      refine z_iload (pc := 154) 9 dX11_open_154 rfl ?_
      refine z_istore (pc := 156) (lv' := [(5, .int x8), (4, .int x7), (3, .int x6), (9, .int (1 : Int32)), (0, .ref 8), (1, .int x1), (2, .int x2), (6, .int x6), (7, .int x7), (8, .int x8)]) dX11_open_156 (by decide) rfl ?_
      refine z_iinc (pc := 158) (v := x6 + (1 : Int32)) (lv' := [(6, .int (x6 + (1 : Int32))), (5, .int x8), (4, .int x7), (3, .int x6), (9, .int (1 : Int32)), (0, .ref 8), (1, .int x1), (2, .int x2), (7, .int x7), (8, .int x8)]) 7 dX11_open_158 rfl rfl (by decide) rfl ?_
      refine z_goto (pc := 161) (tgt := 33) dX11_open_161 (by decide) ?_
      refine z_lv (lv' := [(0, .ref 8), (1, .int x1), (2, .int x2), (3, .int x6), (4, .int x7), (5, .int x8), (6, .int (x6 + (1 : Int32)))]) [5, 6, 7, 3, 2, 1, 0] rfl ?_
      exact hk33 x1 x2 x6 x7 x8 (x6 + (1 : Int32))
  · refine z_iload (pc := 115) 7 dX11_open_115 rfl ?_
    refine z_iload (pc := 117) 4 dX11_open_117 rfl ?_
    refine z_ic_ne (pc := 119) (tgt := 133) dX11_open_119 (by decide) (fun h15 => ?_) (fun h15 => ?_)
    · refine z_iload (pc := 122) 8 dX11_open_122 rfl ?_
      refine z_iload (pc := 124) 5 dX11_open_124 rfl ?_
      refine z_ic_ge (pc := 126) (tgt := 133) dX11_open_126 (by decide) (fun h16 => ?_) (fun h16 => ?_)
      · refine z_iconst (pc := 133) (v := (0 : Int32)) dX11_open_133 (by decide) ?_
        refine z_istore (pc := 134) (lv' := [(9, .int (0 : Int32)), (0, .ref 8), (1, .int x1), (2, .int x2), (3, .int x3), (4, .int x4), (5, .int x5), (6, .int x6), (7, .int x7), (8, .int x8)]) dX11_open_134 (by decide) rfl ?_
        refine z_iload (pc := 136) 9 dX11_open_136 rfl ?_
        refine z_iload_n (pc := 138) 2 dX11_open_138 rfl rfl ?_
        refine z_ic_gt (pc := 139) (tgt := 158) dX11_open_139 (by decide) (fun h17 => ?_) (fun h17 => ?_)
        · refine z_iinc (pc := 158) (v := x6 + (1 : Int32)) (lv' := [(6, .int (x6 + (1 : Int32))), (9, .int (0 : Int32)), (0, .ref 8), (1, .int x1), (2, .int x2), (3, .int x3), (4, .int x4), (5, .int x5), (7, .int x7), (8, .int x8)]) 7 dX11_open_158 rfl rfl (by decide) rfl ?_
          refine z_goto (pc := 161) (tgt := 33) dX11_open_161 (by decide) ?_
          refine z_lv (lv' := [(0, .ref 8), (1, .int x1), (2, .int x2), (3, .int x3), (4, .int x4), (5, .int x5), (6, .int (x6 + (1 : Int32)))]) [2, 3, 4, 5, 6, 7, 0] rfl ?_
          exact hk33 x1 x2 x3 x4 x5 (x6 + (1 : Int32))
        · refine z_iload (pc := 142) 0 dX11_open_142 rfl ?_
          refine z_if_eq_t (pc := 144) (tgt := 158) dX11_open_144 (by decide) (by decide) ?_
          refine z_iinc (pc := 158) (v := x6 + (1 : Int32)) (lv' := [(6, .int (x6 + (1 : Int32))), (9, .int (0 : Int32)), (0, .ref 8), (1, .int x1), (2, .int x2), (3, .int x3), (4, .int x4), (5, .int x5), (7, .int x7), (8, .int x8)]) 7 dX11_open_158 rfl rfl (by decide) rfl ?_
          refine z_goto (pc := 161) (tgt := 33) dX11_open_161 (by decide) ?_
          refine z_lv (lv' := [(0, .ref 8), (1, .int x1), (2, .int x2), (3, .int x3), (4, .int x4), (5, .int x5), (6, .int (x6 + (1 : Int32)))]) [2, 3, 4, 5, 6, 7, 0] rfl ?_
          exact hk33 x1 x2 x3 x4 x5 (x6 + (1 : Int32))
      · refine z_iconst (pc := 129) (v := (1 : Int32)) dX11_open_129 (by decide) ?_
        refine z_goto (pc := 130) (tgt := 134) dX11_open_130 (by decide) ?_
        refine z_istore (pc := 134) (lv' := [(9, .int (1 : Int32)), (0, .ref 8), (1, .int x1), (2, .int x2), (3, .int x3), (4, .int x4), (5, .int x5), (6, .int x6), (7, .int x7), (8, .int x8)]) dX11_open_134 (by decide) rfl ?_
        refine z_iload (pc := 136) 9 dX11_open_136 rfl ?_
        refine z_iload_n (pc := 138) 2 dX11_open_138 rfl rfl ?_
        refine z_ic_gt (pc := 139) (tgt := 158) dX11_open_139 (by decide) (fun h18 => ?_) (fun h18 => ?_)
        · refine z_iinc (pc := 158) (v := x6 + (1 : Int32)) (lv' := [(6, .int (x6 + (1 : Int32))), (9, .int (1 : Int32)), (0, .ref 8), (1, .int x1), (2, .int x2), (3, .int x3), (4, .int x4), (5, .int x5), (7, .int x7), (8, .int x8)]) 7 dX11_open_158 rfl rfl (by decide) rfl ?_
          refine z_goto (pc := 161) (tgt := 33) dX11_open_161 (by decide) ?_
          refine z_lv (lv' := [(0, .ref 8), (1, .int x1), (2, .int x2), (3, .int x3), (4, .int x4), (5, .int x5), (6, .int (x6 + (1 : Int32)))]) [2, 3, 4, 5, 6, 7, 0] rfl ?_
          exact hk33 x1 x2 x3 x4 x5 (x6 + (1 : Int32))
        · refine z_iload (pc := 142) 0 dX11_open_142 rfl ?_
          refine z_if_eq_f (pc := 144) (tgt := 158) dX11_open_144 (by decide) (by decide) ?_
          refine z_iload (pc := 147) 7 dX11_open_147 rfl ?_
          refine z_istore_n (pc := 149) (lv' := [(3, .int x6), (9, .int (1 : Int32)), (0, .ref 8), (1, .int x1), (2, .int x2), (4, .int x4), (5, .int x5), (6, .int x6), (7, .int x7), (8, .int x8)]) dX11_open_149 rfl (by decide) rfl ?_
          refine z_iload (pc := 150) 8 dX11_open_150 rfl ?_
          refine z_istore (pc := 152) (lv' := [(4, .int x7), (3, .int x6), (9, .int (1 : Int32)), (0, .ref 8), (1, .int x1), (2, .int x2), (5, .int x5), (6, .int x6), (7, .int x7), (8, .int x8)]) dX11_open_152 (by decide) rfl ?_
          refine z_iload (pc := 154) 9 dX11_open_154 rfl ?_
          refine z_istore (pc := 156) (lv' := [(5, .int x8), (4, .int x7), (3, .int x6), (9, .int (1 : Int32)), (0, .ref 8), (1, .int x1), (2, .int x2), (6, .int x6), (7, .int x7), (8, .int x8)]) dX11_open_156 (by decide) rfl ?_
          refine z_iinc (pc := 158) (v := x6 + (1 : Int32)) (lv' := [(6, .int (x6 + (1 : Int32))), (5, .int x8), (4, .int x7), (3, .int x6), (9, .int (1 : Int32)), (0, .ref 8), (1, .int x1), (2, .int x2), (7, .int x7), (8, .int x8)]) 7 dX11_open_158 rfl rfl (by decide) rfl ?_
          refine z_goto (pc := 161) (tgt := 33) dX11_open_161 (by decide) ?_
          refine z_lv (lv' := [(0, .ref 8), (1, .int x1), (2, .int x2), (3, .int x6), (4, .int x7), (5, .int x8), (6, .int (x6 + (1 : Int32)))]) [5, 6, 7, 3, 2, 1, 0] rfl ?_
          exact hk33 x1 x2 x6 x7 x8 (x6 + (1 : Int32))
    · refine z_iconst (pc := 133) (v := (0 : Int32)) dX11_open_133 (by decide) ?_
      refine z_istore (pc := 134) (lv' := [(9, .int (0 : Int32)), (0, .ref 8), (1, .int x1), (2, .int x2), (3, .int x3), (4, .int x4), (5, .int x5), (6, .int x6), (7, .int x7), (8, .int x8)]) dX11_open_134 (by decide) rfl ?_
      refine z_iload (pc := 136) 9 dX11_open_136 rfl ?_
      refine z_iload_n (pc := 138) 2 dX11_open_138 rfl rfl ?_
      refine z_ic_gt (pc := 139) (tgt := 158) dX11_open_139 (by decide) (fun h19 => ?_) (fun h19 => ?_)
      · refine z_iinc (pc := 158) (v := x6 + (1 : Int32)) (lv' := [(6, .int (x6 + (1 : Int32))), (9, .int (0 : Int32)), (0, .ref 8), (1, .int x1), (2, .int x2), (3, .int x3), (4, .int x4), (5, .int x5), (7, .int x7), (8, .int x8)]) 7 dX11_open_158 rfl rfl (by decide) rfl ?_
        refine z_goto (pc := 161) (tgt := 33) dX11_open_161 (by decide) ?_
        refine z_lv (lv' := [(0, .ref 8), (1, .int x1), (2, .int x2), (3, .int x3), (4, .int x4), (5, .int x5), (6, .int (x6 + (1 : Int32)))]) [2, 3, 4, 5, 6, 7, 0] rfl ?_
        exact hk33 x1 x2 x3 x4 x5 (x6 + (1 : Int32))
      · refine z_iload (pc := 142) 0 dX11_open_142 rfl ?_
        refine z_if_eq_t (pc := 144) (tgt := 158) dX11_open_144 (by decide) (by decide) ?_
        refine z_iinc (pc := 158) (v := x6 + (1 : Int32)) (lv' := [(6, .int (x6 + (1 : Int32))), (9, .int (0 : Int32)), (0, .ref 8), (1, .int x1), (2, .int x2), (3, .int x3), (4, .int x4), (5, .int x5), (7, .int x7), (8, .int x8)]) 7 dX11_open_158 rfl rfl (by decide) rfl ?_
        refine z_goto (pc := 161) (tgt := 33) dX11_open_161 (by decide) ?_
        refine z_lv (lv' := [(0, .ref 8), (1, .int x1), (2, .int x2), (3, .int x3), (4, .int x4), (5, .int x5), (6, .int (x6 + (1 : Int32)))]) [2, 3, 4, 5, 6, 7, 0] rfl ?_
        exact hk33 x1 x2 x3 x4 x5 (x6 + (1 : Int32))
def f11_open_L53 (k33 : Int32 → Int32 → Int32 → Int32 → Int32 → Int32 → Option Int32) (σ : am_S) (N : Nat) : Nat → Int32 → Int32 → Int32 → Int32 → Int32 → Int32 → Int32 → Int32 → Int32 → Option Int32
  | 0, _, _, _, _, _, _, _, _, _ => none
  | n + 1, x1, x2, x3, x4, x5, x6, x7, x8, x9 => if fF σ 8 3 ≤ x9 then (f11_open_J108 k33 σ N x1 x2 x3 x4 x5 x6 x7 x8) else (if (x6 >>> (x9 &&& 31)) &&& (1 : Int32) = 0 then (f11_open_L53 k33 σ N n x1 x2 x3 x4 x5 x6 x7 x8 (x9 + (1 : Int32))) else (if am_in x9 7 = true then ((fQ σ 9 x9.toNatClampNeg).elim (none) (fun a22 => if [1].contains (am_ci σ a22) = true then (if am_in x9 7 = true then ((fQ σ 9 x9.toNatClampNeg).elim (none) (fun a26 => if [1].contains (am_ci σ a26) = true then ((f1_crewNeeded σ a26).bind fun v29 => (f11_open_L53 k33 σ N n x1 x2 x3 x4 x5 x6 (x7 + (fF σ a22 3)) (x8 + v29) (x9 + (1 : Int32)))) else none)) else none) else none)) else none))
theorem z11_open_L53 {l : Launch} {E : am_E} {d : Nat} {N : Nat} {σ : am_S} (hd : 1 ≤ d) {k33 : Int32 → Int32 → Int32 → Int32 → Int32 → Int32 → Option Int32} (hk33 : ∀ (x1 : Int32) (x2 : Int32) (x3 : Int32) (x4 : Int32) (x5 : Int32) (x6 : Int32), Z l E msC σ YX11_open d 0 0 33 [(0, .ref 8), (1, .int x1), (2, .int x2), (3, .int x3), (4, .int x4), (5, .int x5), (6, .int x6)] [] 0 0 σ (k33 x1 x2 x3 x4 x5 x6) (fun u r s => r = some (.int u) ∧ s = σ)) : ∀ (n : Nat) (x1 : Int32) (x2 : Int32) (x3 : Int32) (x4 : Int32) (x5 : Int32) (x6 : Int32) (x7 : Int32) (x8 : Int32) (x9 : Int32), Z l E msC σ YX11_open d 0 0 53 [(0, .ref 8), (1, .int x1), (2, .int x2), (3, .int x3), (4, .int x4), (5, .int x5), (6, .int x6), (7, .int x7), (8, .int x8), (9, .int x9)] [] 0 0 σ (f11_open_L53 k33 σ N n x1 x2 x3 x4 x5 x6 x7 x8 x9) (fun u r s => r = some (.int u) ∧ s = σ) := by
  intro n
  induction n with
  | zero => intros; exact z_none
  | succ n ih =>
    intro x1 x2 x3 x4 x5 x6 x7 x8 x9
    unfold f11_open_L53
    refine z_iload (pc := 53) 9 dX11_open_53 rfl ?_
    refine z_aload_n (pc := 55) 0 dX11_open_55 rfl rfl ?_
    refine z_getI (pc := 56) dX11_open_56 (am_ob.s kC8) fr_RX11_74_11 (by decide) ?_
    refine z_ic_ge (pc := 59) (tgt := 108) dX11_open_59 (by decide) (fun h12 => ?_) (fun h12 => ?_)
    · refine z_lv (lv' := [(0, .ref 8), (1, .int x1), (2, .int x2), (3, .int x3), (4, .int x4), (5, .int x5), (6, .int x6), (7, .int x7), (8, .int x8)]) [0, 1, 2, 3, 4, 5, 6, 7, 8] rfl ?_
      exact z11_open_J108 hd hk33 x1 x2 x3 x4 x5 x6 x7 x8
    · refine z_iload (pc := 62) 6 dX11_open_62 rfl ?_
      refine z_iload (pc := 64) 9 dX11_open_64 rfl ?_
      refine z_ishr (pc := 66) dX11_open_66 ?_
      refine z_iconst (pc := 67) (v := (1 : Int32)) dX11_open_67 (by decide) ?_
      refine z_iand (pc := 68) dX11_open_68 ?_
      refine z_if_eq (pc := 69) (tgt := 102) dX11_open_69 (by decide) (fun h20 => ?_) (fun h20 => ?_)
      · refine z_iinc (pc := 102) (v := x9 + (1 : Int32)) (lv' := [(9, .int (x9 + (1 : Int32))), (0, .ref 8), (1, .int x1), (2, .int x2), (3, .int x3), (4, .int x4), (5, .int x5), (6, .int x6), (7, .int x7), (8, .int x8)]) 9 dX11_open_102 rfl rfl (by decide) rfl ?_
        refine z_goto (pc := 105) (tgt := 53) dX11_open_105 (by decide) ?_
        refine z_lv (lv' := [(0, .ref 8), (1, .int x1), (2, .int x2), (3, .int x3), (4, .int x4), (5, .int x5), (6, .int x6), (7, .int x7), (8, .int x8), (9, .int (x9 + (1 : Int32)))]) [1, 2, 3, 4, 5, 6, 7, 8, 9, 0] rfl ?_
        exact ih x1 x2 x3 x4 x5 x6 x7 x8 (x9 + (1 : Int32))
      · refine z_iload (pc := 72) 7 dX11_open_72 rfl ?_
        refine z_aload_n (pc := 74) 0 dX11_open_74 rfl rfl ?_
        refine z_getQ (pc := 75) (b := 9) dX11_open_75 kC8 fr_RX11_11_11 (by decide) rfl ?_
        refine z_iload (pc := 78) 9 dX11_open_78 rfl ?_
        refine z_qald (pc := 80) dX11_open_80 ⟨by decide, by decide⟩ (am_ar.s kC9) (fun h21 => ?_)
        refine z_elim (fun e23 => ?_) (fun a22 e23 => ?_)
        · exact z_none
        · refine z_guard (fun g24 => ?_)
          refine z_getIp (pc := 81) [1] dX11_open_81 g24 (by decide) fr_RX11_259_p1 ?_
          refine z_iadd (pc := 84) dX11_open_84 ?_
          refine z_istore (pc := 85) (lv' := [(7, .int (x7 + (fF σ a22 3))), (0, .ref 8), (1, .int x1), (2, .int x2), (3, .int x3), (4, .int x4), (5, .int x5), (6, .int x6), (8, .int x8), (9, .int x9)]) dX11_open_85 (by decide) rfl ?_
          refine z_iload (pc := 87) 8 dX11_open_87 rfl ?_
          refine z_aload_n (pc := 89) 1 dX11_open_89 rfl rfl ?_
          refine z_getQ (pc := 90) (b := 9) dX11_open_90 kC8 fr_RX11_11_11 (by decide) rfl ?_
          refine z_iload (pc := 93) 9 dX11_open_93 rfl ?_
          refine z_qald (pc := 95) dX11_open_95 ⟨by decide, by decide⟩ (am_ar.s kC9) (fun h25 => ?_)
          refine z_elim (fun e27 => ?_) (fun a26 e27 => ?_)
          · exact z_none
          · refine z_guard (fun g28 => ?_)
            refine z_callI (pc := 96) [.ref a26] [.int x8] rfl (lk_V (Yc := YX1_crewNeeded) (n := 0) dX11_open_96 rfl rfl (am_ob.d (am_c1 g28) (by decide)) rfl rfl np_X1_crewNeeded mh_RX1 (by decide) ml_RX11_262 im_X1_crewNeeded se_RX1_X1_crewNeeded_X1_crewNeeded in_RX1 cd_X1_crewNeeded) (Nat.le_trans (by decide) hd) ⟨by decide, by decide⟩ (Nat.le_of_ble_eq_true rfl) (am_kp.rf _) (fun v29 h31 => c1_crewNeeded h31) (fun v29 h31 => ?_)
            refine z_iadd (pc := 99) dX11_open_99 ?_
            refine z_istore (pc := 100) (lv' := [(8, .int (x8 + v29)), (7, .int (x7 + (fF σ a22 3))), (0, .ref 8), (1, .int x1), (2, .int x2), (3, .int x3), (4, .int x4), (5, .int x5), (6, .int x6), (9, .int x9)]) dX11_open_100 (by decide) rfl ?_
            refine z_iinc (pc := 102) (v := x9 + (1 : Int32)) (lv' := [(9, .int (x9 + (1 : Int32))), (8, .int (x8 + v29)), (7, .int (x7 + (fF σ a22 3))), (0, .ref 8), (1, .int x1), (2, .int x2), (3, .int x3), (4, .int x4), (5, .int x5), (6, .int x6)]) 9 dX11_open_102 rfl rfl (by decide) rfl ?_
            refine z_goto (pc := 105) (tgt := 53) dX11_open_105 (by decide) ?_
            refine z_lv (lv' := [(0, .ref 8), (1, .int x1), (2, .int x2), (3, .int x3), (4, .int x4), (5, .int x5), (6, .int x6), (7, .int (x7 + (fF σ a22 3))), (8, .int (x8 + v29)), (9, .int (x9 + (1 : Int32)))]) [3, 4, 5, 6, 7, 8, 9, 2, 1, 0] rfl ?_
            exact ih x1 x2 x3 x4 x5 x6 (x7 + (fF σ a22 3)) (x8 + v29) (x9 + (1 : Int32))
def f11_open_L33 (σ : am_S) (N : Nat) : Nat → Int32 → Int32 → Int32 → Int32 → Int32 → Int32 → Option Int32
  | 0, _, _, _, _, _, _ => none
  | n + 1, x1, x2, x3, x4, x5, x6 => if (1 : Int32) <<< ((fF σ 8 3) &&& 31) ≤ x6 then (f11_open_J164 σ N x2 x3 x4 x5) else (f11_open_L53 (f11_open_L33 σ N n) σ N N x1 x2 x3 x4 x5 x6 (0 : Int32) (0 : Int32) (0 : Int32))
theorem z11_open_L33 {l : Launch} {E : am_E} {d : Nat} {N : Nat} {σ : am_S} (hd : 1 ≤ d) : ∀ (n : Nat) (x1 : Int32) (x2 : Int32) (x3 : Int32) (x4 : Int32) (x5 : Int32) (x6 : Int32), Z l E msC σ YX11_open d 0 0 33 [(0, .ref 8), (1, .int x1), (2, .int x2), (3, .int x3), (4, .int x4), (5, .int x5), (6, .int x6)] [] 0 0 σ (f11_open_L33 σ N n x1 x2 x3 x4 x5 x6) (fun u r s => r = some (.int u) ∧ s = σ) := by
  intro n
  induction n with
  | zero => intros; exact z_none
  | succ n ih =>
    intro x1 x2 x3 x4 x5 x6
    unfold f11_open_L33
    refine z_iload (pc := 33) 6 dX11_open_33 rfl ?_
    refine z_iconst (pc := 35) (v := (1 : Int32)) dX11_open_35 (by decide) ?_
    refine z_aload_n (pc := 36) 0 dX11_open_36 rfl rfl ?_
    refine z_getI (pc := 37) dX11_open_37 (am_ob.s kC8) fr_RX11_74_11 (by decide) ?_
    refine z_ishl (pc := 40) dX11_open_40 ?_
    refine z_ic_ge (pc := 41) (tgt := 164) dX11_open_41 (by decide) (fun h9 => ?_) (fun h9 => ?_)
    · refine z_lv (lv' := [(2, .int x2), (3, .int x3), (4, .int x4), (5, .int x5)]) [2, 3, 4, 5] rfl ?_
      exact z11_open_J164 hd x2 x3 x4 x5
    · refine z_iconst (pc := 44) (v := (0 : Int32)) dX11_open_44 (by decide) ?_
      refine z_istore (pc := 45) (lv' := [(7, .int (0 : Int32)), (0, .ref 8), (1, .int x1), (2, .int x2), (3, .int x3), (4, .int x4), (5, .int x5), (6, .int x6)]) dX11_open_45 (by decide) rfl ?_
      refine z_iconst (pc := 47) (v := (0 : Int32)) dX11_open_47 (by decide) ?_
      refine z_istore (pc := 48) (lv' := [(8, .int (0 : Int32)), (7, .int (0 : Int32)), (0, .ref 8), (1, .int x1), (2, .int x2), (3, .int x3), (4, .int x4), (5, .int x5), (6, .int x6)]) dX11_open_48 (by decide) rfl ?_
      refine z_iconst (pc := 50) (v := (0 : Int32)) dX11_open_50 (by decide) ?_
      refine z_istore (pc := 51) (lv' := [(9, .int (0 : Int32)), (8, .int (0 : Int32)), (7, .int (0 : Int32)), (0, .ref 8), (1, .int x1), (2, .int x2), (3, .int x3), (4, .int x4), (5, .int x5), (6, .int x6)]) dX11_open_51 (by decide) rfl ?_
      refine z_lv (lv' := [(0, .ref 8), (1, .int x1), (2, .int x2), (3, .int x3), (4, .int x4), (5, .int x5), (6, .int x6), (7, .int (0 : Int32)), (8, .int (0 : Int32)), (9, .int (0 : Int32))]) [3, 4, 5, 6, 7, 8, 9, 2, 1, 0] rfl ?_
      exact z11_open_L53 hd (fun x1 x2 x3 x4 x5 x6 => ih x1 x2 x3 x4 x5 x6) N x1 x2 x3 x4 x5 x6 (0 : Int32) (0 : Int32) (0 : Int32)
def f11_open (N : Nat) (σ : am_S) (x1 : Int32) (x2 : Int32) : Option Int32 := (f11_within x1 (0 : Int32) (42 : Int32)).bind fun v1 => (if v1 = true then ((f11_within x2 (0 : Int32) (2 : Int32)).bind fun v5 => (if v5 = true then (f11_open_L33 σ N N x1 x2 (0 : Int32) (0 : Int32) (0 : Int32) (1 : Int32)) else (some ((-2 : Int32))))) else (some ((-2 : Int32))))
theorem c11_open {l : Launch} {E : am_E} {N : Nat} {σ : am_S} {x1 : Int32} {x2 : Int32} {v : Int32} (hf : f11_open N σ x1 x2 = some v) : Ctr l E msC YX11_open (1) 0 0 [.ref 8, .int x1, .int x2] σ (some (.int v)) σ := by
  refine ctr_of (G := fun u r s => r = some (.int u) ∧ s = σ) (by decide +kernel) (Nat.le_of_ble_eq_true rfl) hf ⟨rfl, rfl⟩ (fun d hd => ?_)
  refine z_eqlv (lv' := [(0, .ref 8), (1, .int x1), (2, .int x2)]) rfl ?_
  unfold f11_open
  refine z_iload_n (pc := 0) 1 dX11_open_0 rfl rfl ?_
  refine z_iconst (pc := 1) (v := (0 : Int32)) dX11_open_1 (by decide) ?_
  refine z_bipush (pc := 2) (v := (42 : Int32)) dX11_open_2 (by decide) ?_
  refine z_callB (pc := 4) [.int x1, .int (0 : Int32), .int (42 : Int32)] [] rfl (lk_S (Yc := YX11_within) (n := 3) dX11_open_4 rfl np_X11_within mh_RX11 (by decide) ml_RX11_66 st_X11_within in_RX11 cd_X11_within) (Nat.le_trans (by decide) hd) ⟨by decide, by decide⟩ (Nat.le_of_ble_eq_true rfl) (am_kp.rf _) (fun v1 h3 => c11_within h3) (fun v1 h3 => ?_)
  refine z_bz_eq (pc := 7) (tgt := 19) dX11_open_7 (by decide) (fun h4 => ?_) (fun h4 => ?_)
  · refine z_iload_n (pc := 10) 2 dX11_open_10 rfl rfl ?_
    refine z_iconst (pc := 11) (v := (0 : Int32)) dX11_open_11 (by decide) ?_
    refine z_iconst (pc := 12) (v := (2 : Int32)) dX11_open_12 (by decide) ?_
    refine z_callB (pc := 13) [.int x2, .int (0 : Int32), .int (2 : Int32)] [] rfl (lk_S (Yc := YX11_within) (n := 3) dX11_open_13 rfl np_X11_within mh_RX11 (by decide) ml_RX11_66 st_X11_within in_RX11 cd_X11_within) (Nat.le_trans (by decide) hd) ⟨by decide, by decide⟩ (Nat.le_of_ble_eq_true rfl) (am_kp.rf _) (fun v5 h7 => c11_within h7) (fun v5 h7 => ?_)
    refine z_bz_ne (pc := 16) (tgt := 22) dX11_open_16 (by decide) (fun h8 => ?_) (fun h8 => ?_)
    · refine z_iconst (pc := 22) (v := (0 : Int32)) dX11_open_22 (by decide) ?_
      refine z_istore_n (pc := 23) (lv' := [(3, .int (0 : Int32)), (0, .ref 8), (1, .int x1), (2, .int x2)]) dX11_open_23 rfl (by decide) rfl ?_
      refine z_iconst (pc := 24) (v := (0 : Int32)) dX11_open_24 (by decide) ?_
      refine z_istore (pc := 25) (lv' := [(4, .int (0 : Int32)), (3, .int (0 : Int32)), (0, .ref 8), (1, .int x1), (2, .int x2)]) dX11_open_25 (by decide) rfl ?_
      refine z_iconst (pc := 27) (v := (0 : Int32)) dX11_open_27 (by decide) ?_
      refine z_istore (pc := 28) (lv' := [(5, .int (0 : Int32)), (4, .int (0 : Int32)), (3, .int (0 : Int32)), (0, .ref 8), (1, .int x1), (2, .int x2)]) dX11_open_28 (by decide) rfl ?_
      refine z_iconst (pc := 30) (v := (1 : Int32)) dX11_open_30 (by decide) ?_
      refine z_istore (pc := 31) (lv' := [(6, .int (1 : Int32)), (5, .int (0 : Int32)), (4, .int (0 : Int32)), (3, .int (0 : Int32)), (0, .ref 8), (1, .int x1), (2, .int x2)]) dX11_open_31 (by decide) rfl ?_
      refine z_lv (lv' := [(0, .ref 8), (1, .int x1), (2, .int x2), (3, .int (0 : Int32)), (4, .int (0 : Int32)), (5, .int (0 : Int32)), (6, .int (1 : Int32))]) [4, 5, 6, 3, 2, 1, 0] rfl ?_
      exact z11_open_L33 hd N x1 x2 (0 : Int32) (0 : Int32) (0 : Int32) (1 : Int32)
    · refine z_bipush (pc := 19) (v := (-2 : Int32)) dX11_open_19 (by decide) ?_
      exact z_rI dX11_open_21 rfl ⟨by decide, by decide⟩
  · refine z_bipush (pc := 19) (v := (-2 : Int32)) dX11_open_19 (by decide) ?_
    exact z_rI dX11_open_21 rfl ⟨by decide, by decide⟩
def f11_path (σ : am_S) (x1 : Int32) (x2 : Int32) : Option (Int32 × am_S) := (f4_areTwo x1).bind fun v1 => (if v1 = true then ((f11_within x2 (0 : Int32) (99 : Int32)).bind fun v5 => (if v5 = true then ((f4_takePath σ x1 x2).bind fun (v9, s10) => (some (v9, s10))) else (some ((-2 : Int32), σ)))) else (some ((-2 : Int32), σ)))
theorem c11_path {l : Launch} {E : am_E} {σ : am_S} {x1 : Int32} {x2 : Int32} {v : Int32} {σ1 : am_S} (hf : f11_path σ x1 x2 = some (v, σ1)) : Ctr l E msC YX11_path (2) 0 0 [.ref 8, .int x1, .int x2] σ (some (.int v)) σ1 := by
  refine ctr_of (G := fun u r s => r = some (.int u.1) ∧ s = u.2) (by decide +kernel) (Nat.le_of_ble_eq_true rfl) hf ⟨rfl, rfl⟩ (fun d hd => ?_)
  refine z_eqlv (lv' := [(0, .ref 8), (1, .int x1), (2, .int x2)]) rfl ?_
  unfold f11_path
  refine z_iload_n (pc := 0) 1 dX11_path_0 rfl rfl ?_
  refine z_callB (pc := 1) [.int x1] [] rfl (lk_S (Yc := YX4_areTwo) (n := 1) dX11_path_1 rfl np_X4_areTwo mh_RX4 (by decide) ml_RX11_70 st_X4_areTwo in_RX4 cd_X4_areTwo) (Nat.le_trans (by decide) hd) ⟨by decide, by decide⟩ (Nat.le_of_ble_eq_true rfl) (am_kp.rf _) (fun v1 h3 => c4_areTwo h3) (fun v1 h3 => ?_)
  refine z_bz_eq (pc := 4) (tgt := 21) dX11_path_4 (by decide) (fun h4 => ?_) (fun h4 => ?_)
  · refine z_iload_n (pc := 7) 2 dX11_path_7 rfl rfl ?_
    refine z_iconst (pc := 8) (v := (0 : Int32)) dX11_path_8 (by decide) ?_
    refine z_bipush (pc := 9) (v := (99 : Int32)) dX11_path_9 (by decide) ?_
    refine z_callB (pc := 11) [.int x2, .int (0 : Int32), .int (99 : Int32)] [] rfl (lk_S (Yc := YX11_within) (n := 3) dX11_path_11 rfl np_X11_within mh_RX11 (by decide) ml_RX11_66 st_X11_within in_RX11 cd_X11_within) (Nat.le_trans (by decide) hd) ⟨by decide, by decide⟩ (Nat.le_of_ble_eq_true rfl) (am_kp.rf _) (fun v5 h7 => c11_within h7) (fun v5 h7 => ?_)
    refine z_bz_eq (pc := 14) (tgt := 21) dX11_path_14 (by decide) (fun h8 => ?_) (fun h8 => ?_)
    · refine z_iconst (pc := 17) (v := (1 : Int32)) dX11_path_17 (by decide) ?_
      refine z_goto (pc := 18) (tgt := 22) dX11_path_18 (by decide) ?_
      refine z_istore_n (pc := 22) (lv' := [(3, .int (1 : Int32)), (0, .ref 8), (1, .int x1), (2, .int x2)]) dX11_path_22 rfl (by decide) rfl ?_
      refine z_iload_n (pc := 23) 0 dX11_path_23 rfl rfl ?_
      refine z_if_eq_f (pc := 24) (tgt := 39) dX11_path_24 (by decide) (by decide) ?_
      refine z_aload_n (pc := 27) 1 dX11_path_27 rfl rfl ?_
      refine z_getQ (pc := 28) (b := 21) dX11_path_28 kC8 fr_RX11_42_11 (by decide) rfl ?_
      refine z_iload_n (pc := 31) 2 dX11_path_31 rfl rfl ?_
      refine z_iload_n (pc := 32) 3 dX11_path_32 rfl rfl ?_
      refine z_callIs (pc := 33) [.ref 21, .int x1, .int x2] [] rfl (lk_V (Yc := YX4_takePath) (n := 2) dX11_path_33 rfl rfl (am_ob.s kC21) rfl rfl np_X4_takePath mh_RX4 (by decide) ml_RX11_265 im_X4_takePath se_RX4_X4_takePath_X4_takePath in_RX4 cd_X4_takePath) (Nat.le_trans (by decide) hd) ⟨by decide, by decide⟩ (Nat.le_of_ble_eq_true rfl) (am_kp.rf _) (fun v9 s10 h11 => c4_takePath h11) (fun v9 s10 h11 => ?_)
      refine z_goto (pc := 36) (tgt := 41) dX11_path_36 (by decide) ?_
      exact z_rIs dX11_path_41 rfl ⟨by decide, by decide⟩
    · refine z_iconst (pc := 21) (v := (0 : Int32)) dX11_path_21 (by decide) ?_
      refine z_istore_n (pc := 22) (lv' := [(3, .int (0 : Int32)), (0, .ref 8), (1, .int x1), (2, .int x2)]) dX11_path_22 rfl (by decide) rfl ?_
      refine z_iload_n (pc := 23) 0 dX11_path_23 rfl rfl ?_
      refine z_if_eq_t (pc := 24) (tgt := 39) dX11_path_24 (by decide) (by decide) ?_
      refine z_bipush (pc := 39) (v := (-2 : Int32)) dX11_path_39 (by decide) ?_
      exact z_rIs dX11_path_41 rfl ⟨by decide, by decide⟩
  · refine z_iconst (pc := 21) (v := (0 : Int32)) dX11_path_21 (by decide) ?_
    refine z_istore_n (pc := 22) (lv' := [(3, .int (0 : Int32)), (0, .ref 8), (1, .int x1), (2, .int x2)]) dX11_path_22 rfl (by decide) rfl ?_
    refine z_iload_n (pc := 23) 0 dX11_path_23 rfl rfl ?_
    refine z_if_eq_t (pc := 24) (tgt := 39) dX11_path_24 (by decide) (by decide) ?_
    refine z_bipush (pc := 39) (v := (-2 : Int32)) dX11_path_39 (by decide) ?_
    exact z_rIs dX11_path_41 rfl ⟨by decide, by decide⟩
def f11_turn (N : Nat) (σ : am_S) (x1 : Int32) (x2 : Int32) : Option (Int32 × am_S) := (f11_crossingAt σ x1.toInt64).bind fun v1 => (v1.elim (some ((-2 : Int32), σ)) (fun a4 => (f11_isHour x2).bind fun v6 => (if v6 = true then ((f11_dueTwo N σ x1 x2).bind fun (v10, s11) => (some (v10, s11))) else (some ((-2 : Int32), σ)))))
theorem c11_turn {l : Launch} {E : am_E} {N : Nat} {σ : am_S} {x1 : Int32} {x2 : Int32} {v : Int32} {σ1 : am_S} (hf : f11_turn N σ x1 x2 = some (v, σ1)) : Ctr l E msC YX11_turn (5) 0 0 [.ref 8, .int x1, .int x2] σ (some (.int v)) σ1 := by
  refine ctr_of (G := fun u r s => r = some (.int u.1) ∧ s = u.2) (by decide +kernel) (Nat.le_of_ble_eq_true rfl) hf ⟨rfl, rfl⟩ (fun d hd => ?_)
  refine z_eqlv (lv' := [(0, .ref 8), (1, .int x1), (2, .int x2)]) rfl ?_
  unfold f11_turn
  refine z_aload_n (pc := 0) 0 dX11_turn_0 rfl rfl ?_
  refine z_iload_n (pc := 1) 1 dX11_turn_1 rfl rfl ?_
  refine z_i2l (pc := 2) dX11_turn_2 ?_
  refine z_callR (pc := 3) [.ref 8, .long x1.toInt64] [] rfl (lk_V (Yc := YX11_crossingAt) (n := 1) dX11_turn_3 rfl rfl (am_ob.s kC8) rfl rfl np_X11_crossingAt mh_RX11 (by decide) ml_RX11_87 im_X11_crossingAt se_RX11_X11_crossingAt_X11_crossingAt in_RX11 cd_X11_crossingAt) (Nat.le_trans (by decide) hd) ⟨by decide, by decide⟩ (Nat.le_of_ble_eq_true rfl) (am_kp.rf _) (fun v1 h3 => c11_crossingAt h3) (fun v1 h3 => ?_)
  refine z_elim (fun e5 => ?_) (fun a4 e5 => ?_)
  · refine z_ifnullN (pc := 6) (tgt := 25) dX11_turn_6 (by decide) ?_
    refine z_bipush (pc := 25) (v := (-2 : Int32)) dX11_turn_25 (by decide) ?_
    exact z_rIs dX11_turn_27 rfl ⟨by decide, by decide⟩
  · refine z_ifnull (pc := 6) dX11_turn_6 ?_
    refine z_iload_n (pc := 9) 2 dX11_turn_9 rfl rfl ?_
    refine z_callB (pc := 10) [.int x2] [] rfl (lk_S (Yc := YX11_isHour) (n := 1) dX11_turn_10 rfl np_X11_isHour mh_RX11 (by decide) ml_RX11_138 st_X11_isHour in_RX11 cd_X11_isHour) (Nat.le_trans (by decide) hd) ⟨by decide, by decide⟩ (Nat.le_of_ble_eq_true rfl) (am_kp.rf _) (fun v6 h8 => c11_isHour h8) (fun v6 h8 => ?_)
    refine z_bz_eq (pc := 13) (tgt := 25) dX11_turn_13 (by decide) (fun h9 => ?_) (fun h9 => ?_)
    · refine z_aload_n (pc := 16) 0 dX11_turn_16 rfl rfl ?_
      refine z_iload_n (pc := 17) 1 dX11_turn_17 rfl rfl ?_
      refine z_iload_n (pc := 18) 2 dX11_turn_18 rfl rfl ?_
      refine z_callIs (pc := 19) [.ref 8, .int x1, .int x2] [] rfl (lk_V (Yc := YX11_dueTwo) (n := 2) dX11_turn_19 rfl rfl (am_ob.s kC8) rfl rfl np_X11_dueTwo mh_RX11 (by decide) ml_RX11_227 im_X11_dueTwo se_RX11_X11_dueTwo_X11_dueTwo in_RX11 cd_X11_dueTwo) (Nat.le_trans (by decide) hd) ⟨by decide, by decide⟩ (Nat.le_of_ble_eq_true rfl) (am_kp.rf _) (fun v10 s11 h12 => c11_dueTwo h12) (fun v10 s11 h12 => ?_)
      refine z_goto (pc := 22) (tgt := 27) dX11_turn_22 (by decide) ?_
      exact z_rIs dX11_turn_27 rfl ⟨by decide, by decide⟩
    · refine z_bipush (pc := 25) (v := (-2 : Int32)) dX11_turn_25 (by decide) ?_
      exact z_rIs dX11_turn_27 rfl ⟨by decide, by decide⟩
def f11_rowed (N : Nat) (σ : am_S) (x1 : Int32) (x2 : Int32) : Option (Int32 × am_S) := (f11_turn N σ x1 x2).bind fun (v1, s2) => ((f11_oneMore s2 v1).bind fun s5 => (some (v1, s5)))
theorem c11_rowed {l : Launch} {E : am_E} {N : Nat} {σ : am_S} {x1 : Int32} {x2 : Int32} {v : Int32} {σ1 : am_S} (hf : f11_rowed N σ x1 x2 = some (v, σ1)) : Ctr l E msC YX11_rowed (6) 0 0 [.ref 8, .int x1, .int x2] σ (some (.int v)) σ1 := by
  refine ctr_of (G := fun u r s => r = some (.int u.1) ∧ s = u.2) (by decide +kernel) (Nat.le_of_ble_eq_true rfl) hf ⟨rfl, rfl⟩ (fun d hd => ?_)
  refine z_eqlv (lv' := [(0, .ref 8), (1, .int x1), (2, .int x2)]) rfl ?_
  unfold f11_rowed
  refine z_aload_n (pc := 0) 0 dX11_rowed_0 rfl rfl ?_
  refine z_iload_n (pc := 1) 1 dX11_rowed_1 rfl rfl ?_
  refine z_iload_n (pc := 2) 2 dX11_rowed_2 rfl rfl ?_
  refine z_callIs (pc := 3) [.ref 8, .int x1, .int x2] [] rfl (lk_V (Yc := YX11_turn) (n := 2) dX11_rowed_3 rfl rfl (am_ob.s kC8) rfl rfl np_X11_turn mh_RX11 (by decide) ml_RX11_230 im_X11_turn se_RX11_X11_turn_X11_turn in_RX11 cd_X11_turn) (Nat.le_trans (by decide) hd) ⟨by decide, by decide⟩ (Nat.le_of_ble_eq_true rfl) (am_kp.rf _) (fun v1 s2 h3 => c11_turn h3) (fun v1 s2 h3 => ?_)
  refine z_istore_n (pc := 6) (lv' := [(3, .int v1), (0, .ref 8), (1, .int x1), (2, .int x2)]) dX11_rowed_6 rfl (by decide) rfl ?_
  refine z_aload_n (pc := 7) 1 dX11_rowed_7 rfl rfl ?_
  refine z_iload_n (pc := 8) 0 dX11_rowed_8 rfl rfl ?_
  refine z_callVs (pc := 9) [.ref 8, .int v1] [] rfl (lk_V (Yc := YX11_oneMore) (n := 1) dX11_rowed_9 rfl rfl (am_ob.s kC8) rfl rfl np_X11_oneMore mh_RX11 (by decide) ml_RX11_233 im_X11_oneMore se_RX11_X11_oneMore_X11_oneMore in_RX11 cd_X11_oneMore) (Nat.le_trans (by decide) hd) ⟨by decide, by decide⟩ (Nat.le_of_ble_eq_true rfl) (am_kp.rf _) (fun s5 h6 => c11_oneMore h6) (fun s5 h6 => ?_)
  refine z_iload_n (pc := 12) 0 dX11_rowed_12 rfl rfl ?_
  exact z_rIs dX11_rowed_13 rfl ⟨by decide, by decide⟩
def f11_rower (σ : am_S) (x1 : Int32) (x2 : Int32) (x3 : Int32) : Option (Int32 × am_S) := (f11_within x1 (0 : Int32) (5 : Int32)).bind fun v1 => (if v1 = true then ((f11_within x2 (1400 : Int32) (9099 : Int32)).bind fun v5 => (if v5 = true then ((f11_crossingAt σ ((x2 - x2 / (10 : Int32) * (10 : Int32)).toInt64)).bind fun v9 => (v9.elim (some ((-2 : Int32), σ)) (fun a12 => if x3 = (-1 : Int32) then (if fF σ 8 5 < (14 : Int32) then ((f11_newRower σ x1 x2 x3).bind fun (v16, s17) => (if [2, 3, 5, 6, 7, 9].contains (am_ci s17 v16) = true then (if am_in (fF σ 8 5) 14 = true then (some ((fF (sF (sQ s17 10 (fF σ 8 5).toNatClampNeg (some v16)) 8 5 ((fF (sQ s17 10 (fF σ 8 5).toNatClampNeg (some v16)) 8 5) + (1 : Int32))) 8 5) - (1 : Int32), sF (sQ s17 10 (fF σ 8 5).toNatClampNeg (some v16)) 8 5 ((fF (sQ s17 10 (fF σ 8 5).toNatClampNeg (some v16)) 8 5) + (1 : Int32)))) else none) else none)) else (some ((-4 : Int32), σ))) else ((f11_rowerAt σ x3).bind fun v21 => (v21.elim (some ((-2 : Int32), σ)) (fun a24 => if fF σ 8 5 < (14 : Int32) then ((f11_newRower σ x1 x2 x3).bind fun (v27, s28) => (if [2, 3, 5, 6, 7, 9].contains (am_ci s28 v27) = true then (if am_in (fF σ 8 5) 14 = true then (some ((fF (sF (sQ s28 10 (fF σ 8 5).toNatClampNeg (some v27)) 8 5 ((fF (sQ s28 10 (fF σ 8 5).toNatClampNeg (some v27)) 8 5) + (1 : Int32))) 8 5) - (1 : Int32), sF (sQ s28 10 (fF σ 8 5).toNatClampNeg (some v27)) 8 5 ((fF (sQ s28 10 (fF σ 8 5).toNatClampNeg (some v27)) 8 5) + (1 : Int32)))) else none) else none)) else (some ((-4 : Int32), σ)))))))) else (some ((-2 : Int32), σ)))) else (some ((-2 : Int32), σ)))
theorem c11_rower {l : Launch} {E : am_E} {σ : am_S} {x1 : Int32} {x2 : Int32} {x3 : Int32} {v : Int32} {σ1 : am_S} (hf : f11_rower σ x1 x2 x3 = some (v, σ1)) : Ctr l E msC YX11_rower (5) 1 9 [.ref 8, .int x1, .int x2, .int x3] σ (some (.int v)) σ1 := by
  refine ctr_of (G := fun u r s => r = some (.int u.1) ∧ s = u.2) (by decide +kernel) (Nat.le_of_ble_eq_true rfl) hf ⟨rfl, rfl⟩ (fun d hd => ?_)
  refine z_eqlv (lv' := [(0, .ref 8), (1, .int x1), (2, .int x2), (3, .int x3)]) rfl ?_
  unfold f11_rower
  refine z_iload_n (pc := 0) 1 dX11_rower_0 rfl rfl ?_
  refine z_iconst (pc := 1) (v := (0 : Int32)) dX11_rower_1 (by decide) ?_
  refine z_iconst (pc := 2) (v := (5 : Int32)) dX11_rower_2 (by decide) ?_
  refine z_callB (pc := 3) [.int x1, .int (0 : Int32), .int (5 : Int32)] [] rfl (lk_S (Yc := YX11_within) (n := 3) dX11_rower_3 rfl np_X11_within mh_RX11 (by decide) ml_RX11_66 st_X11_within in_RX11 cd_X11_within) (Nat.le_trans (by decide) hd) ⟨by decide, by decide⟩ (Nat.le_of_ble_eq_true rfl) (am_kp.rf _) (fun v1 h3 => c11_within h3) (fun v1 h3 => ?_)
  refine z_bz_eq (pc := 6) (tgt := 47) dX11_rower_6 (by decide) (fun h4 => ?_) (fun h4 => ?_)
  · refine z_iload_n (pc := 9) 2 dX11_rower_9 rfl rfl ?_
    refine z_sipush (pc := 10) (v := (1400 : Int32)) dX11_rower_10 (by decide) ?_
    refine z_sipush (pc := 13) (v := (9099 : Int32)) dX11_rower_13 (by decide) ?_
    refine z_callB (pc := 16) [.int x2, .int (1400 : Int32), .int (9099 : Int32)] [] rfl (lk_S (Yc := YX11_within) (n := 3) dX11_rower_16 rfl np_X11_within mh_RX11 (by decide) ml_RX11_66 st_X11_within in_RX11 cd_X11_within) (Nat.le_trans (by decide) hd) ⟨by decide, by decide⟩ (Nat.le_of_ble_eq_true rfl) (am_kp.rf _) (fun v5 h7 => c11_within h7) (fun v5 h7 => ?_)
    refine z_bz_eq (pc := 19) (tgt := 47) dX11_rower_19 (by decide) (fun h8 => ?_) (fun h8 => ?_)
    · refine z_aload_n (pc := 22) 0 dX11_rower_22 rfl rfl ?_
      refine z_iload_n (pc := 23) 2 dX11_rower_23 rfl rfl ?_
      refine z_bipush (pc := 24) (v := (10 : Int32)) dX11_rower_24 (by decide) ?_
      refine z_irem (pc := 26) dX11_rower_26 (by decide) ?_
      refine z_i2l (pc := 27) dX11_rower_27 ?_
      refine z_callR (pc := 28) [.ref 8, .long ((x2 - x2 / (10 : Int32) * (10 : Int32)).toInt64)] [] rfl (lk_V (Yc := YX11_crossingAt) (n := 1) dX11_rower_28 rfl rfl (am_ob.s kC8) rfl rfl np_X11_crossingAt mh_RX11 (by decide) ml_RX11_87 im_X11_crossingAt se_RX11_X11_crossingAt_X11_crossingAt in_RX11 cd_X11_crossingAt) (Nat.le_trans (by decide) hd) ⟨by decide, by decide⟩ (Nat.le_of_ble_eq_true rfl) (am_kp.rf _) (fun v9 h11 => c11_crossingAt h11) (fun v9 h11 => ?_)
      refine z_elim (fun e13 => ?_) (fun a12 e13 => ?_)
      · refine z_ifnullN (pc := 31) (tgt := 47) dX11_rower_31 (by decide) ?_
        refine z_bipush (pc := 47) (v := (-2 : Int32)) dX11_rower_47 (by decide) ?_
        exact z_rIs dX11_rower_49 rfl ⟨by decide, by decide⟩
      · refine z_ifnull (pc := 31) dX11_rower_31 ?_
        refine z_iload_n (pc := 34) 3 dX11_rower_34 rfl rfl ?_
        refine z_iconst (pc := 35) (v := (-1 : Int32)) dX11_rower_35 (by decide) ?_
        refine z_ic_eq (pc := 36) (tgt := 50) dX11_rower_36 (by decide) (fun h14 => ?_) (fun h14 => ?_)
        · refine z_aload_n (pc := 50) 0 dX11_rower_50 rfl rfl ?_
          refine z_getI (pc := 51) dX11_rower_51 (am_ob.s kC8) fr_RX11_110_11 (by decide) ?_
          refine z_bipush (pc := 54) (v := (14 : Int32)) dX11_rower_54 (by decide) ?_
          refine z_ic_lt (pc := 56) (tgt := 62) dX11_rower_56 (by decide) (fun h15 => ?_) (fun h15 => ?_)
          · refine z_aload_n (pc := 62) 0 dX11_rower_62 rfl rfl ?_
            refine z_getQ (pc := 63) (b := 10) dX11_rower_63 kC8 fr_RX11_17_11 (by decide) rfl ?_
            refine z_aload_n (pc := 66) 0 dX11_rower_66 rfl rfl ?_
            refine z_getI (pc := 67) dX11_rower_67 (am_ob.s kC8) fr_RX11_110_11 (by decide) ?_
            refine z_iload_n (pc := 70) 1 dX11_rower_70 rfl rfl ?_
            refine z_iload_n (pc := 71) 2 dX11_rower_71 rfl rfl ?_
            refine z_iload_n (pc := 72) 3 dX11_rower_72 rfl rfl ?_
            refine z_callNs (pc := 73) [.int x1, .int x2, .int x3] [.int (fF σ 8 5), .ref 10] rfl (lk_S (Yc := YX11_newRower) (n := 3) dX11_rower_73 rfl np_X11_newRower mh_RX11 (by decide) ml_RX11_113 st_X11_newRower in_RX11 cd_X11_newRower) (Nat.le_trans (by decide) hd) ⟨by decide, by decide⟩ (Nat.le_of_ble_eq_true rfl) (am_kp.rf _) (fun v16 s17 h18 => c11_newRower h18) (fun v16 s17 h18 => ?_)
            refine z_guard (fun g20 => ?_)
            refine z_astqp (pc := 76) [2, 3, 5, 6, 7, 9] dX11_rower_76 ⟨by decide, by decide⟩ rfl (am_ar.s kC10) g20 (by decide) (by decide +kernel) (fun h19 => ?_)
            refine z_aload_n (pc := 77) 0 dX11_rower_77 rfl rfl ?_
            refine z_dup (pc := 78) dX11_rower_78 rfl ?_
            refine z_getI (pc := 79) dX11_rower_79 (am_ob.s kC8) fr_RX11_110_11 (by decide) ?_
            refine z_iconst (pc := 82) (v := (1 : Int32)) dX11_rower_82 (by decide) ?_
            refine z_iadd (pc := 83) dX11_rower_83 ?_
            refine z_putI (pc := 84) dX11_rower_84 (am_ob.s kC8) fw_RX11_110_11 (by decide) ?_
            refine z_aload_n (pc := 87) 0 dX11_rower_87 rfl rfl ?_
            refine z_getI (pc := 88) dX11_rower_88 (am_ob.s kC8) fr_RX11_110_11 (by decide) ?_
            refine z_iconst (pc := 91) (v := (1 : Int32)) dX11_rower_91 (by decide) ?_
            refine z_isub (pc := 92) dX11_rower_92 ?_
            exact z_rIs dX11_rower_93 rfl ⟨by decide, by decide⟩
          · refine z_bipush (pc := 59) (v := (-4 : Int32)) dX11_rower_59 (by decide) ?_
            exact z_rIs dX11_rower_61 rfl ⟨by decide, by decide⟩
        · refine z_aload_n (pc := 39) 0 dX11_rower_39 rfl rfl ?_
          refine z_iload_n (pc := 40) 3 dX11_rower_40 rfl rfl ?_
          refine z_callR (pc := 41) [.ref 8, .int x3] [] rfl (lk_V (Yc := YX11_rowerAt) (n := 1) dX11_rower_41 rfl rfl (am_ob.s kC8) rfl rfl np_X11_rowerAt mh_RX11 (by decide) ml_RX11_106 im_X11_rowerAt se_RX11_X11_rowerAt_X11_rowerAt in_RX11 cd_X11_rowerAt) (Nat.le_trans (by decide) hd) ⟨by decide, by decide⟩ (Nat.le_of_ble_eq_true rfl) (am_kp.rf _) (fun v21 h23 => c11_rowerAt h23) (fun v21 h23 => ?_)
          refine z_elim (fun e25 => ?_) (fun a24 e25 => ?_)
          · refine z_ifnonnullN (pc := 44) dX11_rower_44 ?_
            refine z_bipush (pc := 47) (v := (-2 : Int32)) dX11_rower_47 (by decide) ?_
            exact z_rIs dX11_rower_49 rfl ⟨by decide, by decide⟩
          · refine z_ifnonnull (pc := 44) (tgt := 50) dX11_rower_44 (by decide) ?_
            refine z_aload_n (pc := 50) 0 dX11_rower_50 rfl rfl ?_
            refine z_getI (pc := 51) dX11_rower_51 (am_ob.s kC8) fr_RX11_110_11 (by decide) ?_
            refine z_bipush (pc := 54) (v := (14 : Int32)) dX11_rower_54 (by decide) ?_
            refine z_ic_lt (pc := 56) (tgt := 62) dX11_rower_56 (by decide) (fun h26 => ?_) (fun h26 => ?_)
            · refine z_aload_n (pc := 62) 0 dX11_rower_62 rfl rfl ?_
              refine z_getQ (pc := 63) (b := 10) dX11_rower_63 kC8 fr_RX11_17_11 (by decide) rfl ?_
              refine z_aload_n (pc := 66) 0 dX11_rower_66 rfl rfl ?_
              refine z_getI (pc := 67) dX11_rower_67 (am_ob.s kC8) fr_RX11_110_11 (by decide) ?_
              refine z_iload_n (pc := 70) 1 dX11_rower_70 rfl rfl ?_
              refine z_iload_n (pc := 71) 2 dX11_rower_71 rfl rfl ?_
              refine z_iload_n (pc := 72) 3 dX11_rower_72 rfl rfl ?_
              refine z_callNs (pc := 73) [.int x1, .int x2, .int x3] [.int (fF σ 8 5), .ref 10] rfl (lk_S (Yc := YX11_newRower) (n := 3) dX11_rower_73 rfl np_X11_newRower mh_RX11 (by decide) ml_RX11_113 st_X11_newRower in_RX11 cd_X11_newRower) (Nat.le_trans (by decide) hd) ⟨by decide, by decide⟩ (Nat.le_of_ble_eq_true rfl) (am_kp.rf _) (fun v27 s28 h29 => c11_newRower h29) (fun v27 s28 h29 => ?_)
              refine z_guard (fun g31 => ?_)
              refine z_astqp (pc := 76) [2, 3, 5, 6, 7, 9] dX11_rower_76 ⟨by decide, by decide⟩ rfl (am_ar.s kC10) g31 (by decide) (by decide +kernel) (fun h30 => ?_)
              refine z_aload_n (pc := 77) 0 dX11_rower_77 rfl rfl ?_
              refine z_dup (pc := 78) dX11_rower_78 rfl ?_
              refine z_getI (pc := 79) dX11_rower_79 (am_ob.s kC8) fr_RX11_110_11 (by decide) ?_
              refine z_iconst (pc := 82) (v := (1 : Int32)) dX11_rower_82 (by decide) ?_
              refine z_iadd (pc := 83) dX11_rower_83 ?_
              refine z_putI (pc := 84) dX11_rower_84 (am_ob.s kC8) fw_RX11_110_11 (by decide) ?_
              refine z_aload_n (pc := 87) 0 dX11_rower_87 rfl rfl ?_
              refine z_getI (pc := 88) dX11_rower_88 (am_ob.s kC8) fr_RX11_110_11 (by decide) ?_
              refine z_iconst (pc := 91) (v := (1 : Int32)) dX11_rower_91 (by decide) ?_
              refine z_isub (pc := 92) dX11_rower_92 ?_
              exact z_rIs dX11_rower_93 rfl ⟨by decide, by decide⟩
            · refine z_bipush (pc := 59) (v := (-4 : Int32)) dX11_rower_59 (by decide) ?_
              exact z_rIs dX11_rower_61 rfl ⟨by decide, by decide⟩
    · refine z_bipush (pc := 47) (v := (-2 : Int32)) dX11_rower_47 (by decide) ?_
      exact z_rIs dX11_rower_49 rfl ⟨by decide, by decide⟩
  · refine z_bipush (pc := 47) (v := (-2 : Int32)) dX11_rower_47 (by decide) ?_
    exact z_rIs dX11_rower_49 rfl ⟨by decide, by decide⟩
theorem am_k12a {x : Int32} (h : 0 ≤ x) (h2 : x ≤ 12) : x.toNatClampNeg ≤ 12 := by
  obtain ⟨j, hj, rfl⟩ := nI_of2 (M := 12) (n := 12) (by decide) (Int32.not_lt.mpr h) h2
  rw [nI_clamp (by omega)]; exact hj
theorem am_k12 {x y : Int32} (h : 0 ≤ x) (h2 : y ≤ 12) (h3 : ¬ y ≤ x) : 0 ≤ x + 1 ∧ x + 1 ≤ 12 ∧ (x + 1).toNatClampNeg = x.toNatClampNeg + 1 ∧ x.toNatClampNeg + 1 ≤ 12 := by
  obtain ⟨j, hj, rfl⟩ := nI_of2 (M := 12) (n := 12) (x := x) (by decide) (Int32.not_lt.mpr h) (Int32.le_of_lt (Int32.lt_of_lt_of_le (Int32.not_le.mp h3) h2))
  have hj2 : j < 12 := by
    rcases Nat.lt_or_ge j 12 with q | q
    · exact q
    · have e : j = 12 := by omega
      subst e
      exact absurd (show y ≤ nI 12 from h2) h3
  rw [nI_1, nI_clamp (by omega), nI_clamp (by omega)]
  exact ⟨nI_pos' (by omega), nI_le (b := 12) (by omega) (by omega), rfl, by omega⟩
theorem am_within12 {x : Int32} (h : f11_within x (0 : Int32) (12 : Int32) = some true) : x ≤ 12 := by
  unfold f11_within at h
  by_cases h1 : x < 0
  · rw [if_pos h1] at h; cases h
  · rw [if_neg h1] at h
    by_cases h2 : (12 : Int32) < x
    · rw [if_pos h2] at h; cases h
    · exact Int32.not_lt.mp h2
def f11_rowers_L64 (N : Nat) : Nat → Int32 → Int32 → Nat → Int32 → Int32 → am_S → Option (Int32 × am_S)
  | 0, _, _, _, _, _, _ => none
  | n + 1, x3, x4, a5, x6, x7, σ => if x4 ≤ x7 then (some (x6, σ)) else (if [8].contains (am_ci σ a5) = true then ((f8_holds σ a5 (x3 + ((3 : Int32) * x7)) (3 : Int32)).bind fun v22 => (if v22 = true then ((f8_item σ a5 (x3 + ((3 : Int32) * x7))).bind fun v26 => ((f8_item σ a5 ((x3 + ((3 : Int32) * x7)) + (1 : Int32))).bind fun v29 => ((f8_item σ a5 ((x3 + ((3 : Int32) * x7)) + (2 : Int32))).bind fun v32 => ((f11_rower σ v26 v29 v32).bind fun (v35, s36) => (if v35 < 0 then (f11_rowers_L64 N n x3 x4 a5 (x6 + (0 : Int32)) (x7 + (1 : Int32)) s36) else (f11_rowers_L64 N n x3 x4 a5 (x6 + (1 : Int32)) (x7 + (1 : Int32)) s36)))))) else (some ((-12 : Int32), σ)))) else none)
theorem z11_rowers_L64 {l : Launch} {E : am_E} {d : Nat} {σ0 : am_S} {N : Nat} (hd : 6 ≤ d) : ∀ (n : Nat) (x3 : Int32) (x4 : Int32) (a5 : Nat) (x6 : Int32) (x7 : Int32) (σ : am_S), x4 ≤ 12 → 0 ≤ x7 → x7 ≤ 12 → Z l E msC σ0 YX11_rowers d 12 108 64 [(0, .ref 8), (3, .int x3), (4, .int x4), (5, .ref a5), (6, .int x6), (7, .int x7)] [] x7.toNatClampNeg (9 * x7.toNatClampNeg) σ (f11_rowers_L64 N n x3 x4 a5 x6 x7 σ) (fun u r s => r = some (.int u.1) ∧ s = u.2) := by
  intro n
  induction n with
  | zero => intros; exact z_none
  | succ n ih =>
    intro x3 x4 a5 x6 x7 σ hx4 hx7 hx8
    have hb0 := am_k12a hx7 hx8
    unfold f11_rowers_L64
    refine z_iload (pc := 64) 5 dX11_rowers_64 rfl ?_
    refine z_iload (pc := 66) 2 dX11_rowers_66 rfl ?_
    refine z_ic_ge (pc := 68) (tgt := 141) dX11_rowers_68 (by decide) (fun h20 => ?_) (fun h20 => ?_)
    · refine z_iload (pc := 141) 4 dX11_rowers_141 rfl ?_
      exact z_rIs dX11_rowers_143 rfl ⟨by omega, by omega⟩
    · obtain ⟨hb1, hb2, hb3, hb4⟩ := am_k12 hx7 hx4 h20
      refine z_iload_n (pc := 71) 1 dX11_rowers_71 rfl rfl ?_
      refine z_iconst (pc := 72) (v := (3 : Int32)) dX11_rowers_72 (by decide) ?_
      refine z_iload (pc := 73) 5 dX11_rowers_73 rfl ?_
      refine z_imul (pc := 75) dX11_rowers_75 ?_
      refine z_iadd (pc := 76) dX11_rowers_76 ?_
      refine z_istore (pc := 77) (lv' := [(8, .int (x3 + ((3 : Int32) * x7))), (0, .ref 8), (3, .int x3), (4, .int x4), (5, .ref a5), (6, .int x6), (7, .int x7)]) dX11_rowers_77 (by decide) rfl ?_
      refine z_aload (pc := 79) 4 dX11_rowers_79 rfl ?_
      refine z_iload (pc := 81) 0 dX11_rowers_81 rfl ?_
      refine z_iconst (pc := 83) (v := (3 : Int32)) dX11_rowers_83 (by decide) ?_
      refine z_guard (fun g21 => ?_)
      refine z_callB (pc := 84) [.ref a5, .int (x3 + ((3 : Int32) * x7)), .int (3 : Int32)] [] rfl (lk_V (Yc := YX8_holds) (n := 2) dX11_rowers_84 rfl rfl (am_ob.d (am_c1 g21) (by decide)) rfl rfl np_X8_holds mh_RX8 (by decide) ml_RX11_351 im_X8_holds se_RX8_X8_holds_X8_holds in_RX8 cd_X8_holds) (Nat.le_trans (by decide) hd) ⟨by omega, by omega⟩ (Nat.le_of_ble_eq_true rfl) (am_kp.rf _) (fun v22 h24 => c8_holds h24) (fun v22 h24 => ?_)
      refine z_bz_ne (pc := 87) (tgt := 93) dX11_rowers_87 (by decide) (fun h25 => ?_) (fun h25 => ?_)
      · refine z_iload (pc := 93) 5 dX11_rowers_93 rfl ?_
        refine z_aload_n (pc := 95) 1 dX11_rowers_95 rfl rfl ?_
        refine z_aload (pc := 96) 4 dX11_rowers_96 rfl ?_
        refine z_iload (pc := 98) 0 dX11_rowers_98 rfl ?_
        refine z_callI (pc := 100) [.ref a5, .int (x3 + ((3 : Int32) * x7))] [.ref 8, .int x6] rfl (lk_V (Yc := YX8_item) (n := 1) dX11_rowers_100 rfl rfl (am_ob.d (am_c1 g21) (by decide)) rfl rfl np_X8_item mh_RX8 (by decide) ml_RX11_244 im_X8_item se_RX8_X8_item_X8_item in_RX8 cd_X8_item) (Nat.le_trans (by decide) hd) ⟨by omega, by omega⟩ (Nat.le_of_ble_eq_true rfl) (am_kp.rf _) (fun v26 h28 => c8_item h28) (fun v26 h28 => ?_)
        refine z_aload (pc := 103) 4 dX11_rowers_103 rfl ?_
        refine z_iload (pc := 105) 0 dX11_rowers_105 rfl ?_
        refine z_iconst (pc := 107) (v := (1 : Int32)) dX11_rowers_107 (by decide) ?_
        refine z_iadd (pc := 108) dX11_rowers_108 ?_
        refine z_callI (pc := 109) [.ref a5, .int ((x3 + ((3 : Int32) * x7)) + (1 : Int32))] [.int v26, .ref 8, .int x6] rfl (lk_V (Yc := YX8_item) (n := 1) dX11_rowers_109 rfl rfl (am_ob.d (am_c1 g21) (by decide)) rfl rfl np_X8_item mh_RX8 (by decide) ml_RX11_244 im_X8_item se_RX8_X8_item_X8_item in_RX8 cd_X8_item) (Nat.le_trans (by decide) hd) ⟨by omega, by omega⟩ (Nat.le_of_ble_eq_true rfl) (am_kp.rf _) (fun v29 h31 => c8_item h31) (fun v29 h31 => ?_)
        refine z_aload (pc := 112) 4 dX11_rowers_112 rfl ?_
        refine z_iload (pc := 114) 0 dX11_rowers_114 rfl ?_
        refine z_iconst (pc := 116) (v := (2 : Int32)) dX11_rowers_116 (by decide) ?_
        refine z_iadd (pc := 117) dX11_rowers_117 ?_
        refine z_callI (pc := 118) [.ref a5, .int ((x3 + ((3 : Int32) * x7)) + (2 : Int32))] [.int v29, .int v26, .ref 8, .int x6] rfl (lk_V (Yc := YX8_item) (n := 1) dX11_rowers_118 rfl rfl (am_ob.d (am_c1 g21) (by decide)) rfl rfl np_X8_item mh_RX8 (by decide) ml_RX11_244 im_X8_item se_RX8_X8_item_X8_item in_RX8 cd_X8_item) (Nat.le_trans (by decide) hd) ⟨by omega, by omega⟩ (Nat.le_of_ble_eq_true rfl) (am_kp.rf _) (fun v32 h34 => c8_item h34) (fun v32 h34 => ?_)
        refine z_callIs (pc := 121) [.ref 8, .int v26, .int v29, .int v32] [.int x6] rfl (lk_V (Yc := YX11_rower) (n := 3) dX11_rowers_121 rfl rfl (am_ob.s kC8) rfl rfl np_X11_rower mh_RX11 (by decide) ml_RX11_363 im_X11_rower se_RX11_X11_rower_X11_rower in_RX11 cd_X11_rower) (Nat.le_trans (by decide) hd) ⟨by omega, by omega⟩ (Nat.le_of_ble_eq_true rfl) (am_kp.rf _) (fun v35 s36 h37 => c11_rower h37) (fun v35 s36 h37 => ?_)
        refine z_if_lt (pc := 124) (tgt := 131) dX11_rowers_124 (by decide) (fun h38 => ?_) (fun h38 => ?_)
        · refine z_iconst (pc := 131) (v := (0 : Int32)) dX11_rowers_131 (by decide) ?_
          refine z_iadd (pc := 132) dX11_rowers_132 ?_
          refine z_istore (pc := 133) (lv' := [(6, .int (x6 + (0 : Int32))), (8, .int (x3 + ((3 : Int32) * x7))), (0, .ref 8), (3, .int x3), (4, .int x4), (5, .ref a5), (7, .int x7)]) dX11_rowers_133 (by decide) rfl ?_
          refine z_iinc (pc := 135) (v := x7 + (1 : Int32)) (lv' := [(7, .int (x7 + (1 : Int32))), (6, .int (x6 + (0 : Int32))), (8, .int (x3 + ((3 : Int32) * x7))), (0, .ref 8), (3, .int x3), (4, .int x4), (5, .ref a5)]) 6 dX11_rowers_135 rfl rfl (by decide) rfl ?_
          refine z_goto (pc := 138) (tgt := 64) dX11_rowers_138 (by decide) ?_
          refine z_lv (lv' := [(0, .ref 8), (3, .int x3), (4, .int x4), (5, .ref a5), (6, .int (x6 + (0 : Int32))), (7, .int (x7 + (1 : Int32)))]) [3, 4, 5, 6, 1, 0] rfl ?_
          exact z_cu ⟨by omega, by omega⟩ (ih x3 x4 a5 (x6 + (0 : Int32)) (x7 + (1 : Int32)) s36 hx4 hb1 hb2)
        · refine z_iconst (pc := 127) (v := (1 : Int32)) dX11_rowers_127 (by decide) ?_
          refine z_goto (pc := 128) (tgt := 132) dX11_rowers_128 (by decide) ?_
          refine z_iadd (pc := 132) dX11_rowers_132 ?_
          refine z_istore (pc := 133) (lv' := [(6, .int (x6 + (1 : Int32))), (8, .int (x3 + ((3 : Int32) * x7))), (0, .ref 8), (3, .int x3), (4, .int x4), (5, .ref a5), (7, .int x7)]) dX11_rowers_133 (by decide) rfl ?_
          refine z_iinc (pc := 135) (v := x7 + (1 : Int32)) (lv' := [(7, .int (x7 + (1 : Int32))), (6, .int (x6 + (1 : Int32))), (8, .int (x3 + ((3 : Int32) * x7))), (0, .ref 8), (3, .int x3), (4, .int x4), (5, .ref a5)]) 6 dX11_rowers_135 rfl rfl (by decide) rfl ?_
          refine z_goto (pc := 138) (tgt := 64) dX11_rowers_138 (by decide) ?_
          refine z_lv (lv' := [(0, .ref 8), (3, .int x3), (4, .int x4), (5, .ref a5), (6, .int (x6 + (1 : Int32))), (7, .int (x7 + (1 : Int32)))]) [3, 4, 5, 6, 1, 0] rfl ?_
          exact z_cu ⟨by omega, by omega⟩ (ih x3 x4 a5 (x6 + (1 : Int32)) (x7 + (1 : Int32)) s36 hx4 hb1 hb2)
      · refine z_bipush (pc := 90) (v := (-12 : Int32)) dX11_rowers_90 (by decide) ?_
        exact z_rIs dX11_rowers_92 rfl ⟨by omega, by omega⟩
def f11_rowers (N : Nat) (σ : am_S) (x1 : Int32) (x2 : Int32) (x3 : Int32) (x4 : Int32) : Option (Int32 × am_S) := (f11_sheetAt σ x1).bind fun v1 => (v1.elim (some ((-2 : Int32), σ)) (fun a4 => (f11_within x2 (0 : Int32) (2 : Int32)).bind fun v6 => (if v6 = true then ((f11_within x4 (0 : Int32) (12 : Int32)).bind fun v10 => (if v10 = true then (if [8].contains (am_ci σ a4) = true then ((f8_isMissing σ a4).bind fun v15 => (if v15 = true then (some ((-11 : Int32), σ)) else (if fF σ a4 0 = x2 then (f11_rowers_L64 N N x3 x4 a4 (0 : Int32) (0 : Int32) σ) else (some ((-13 : Int32), σ))))) else none) else (some ((-2 : Int32), σ)))) else (some ((-2 : Int32), σ)))))
theorem c11_rowers {l : Launch} {E : am_E} {N : Nat} {σ : am_S} {x1 : Int32} {x2 : Int32} {x3 : Int32} {x4 : Int32} {v : Int32} {σ1 : am_S} (hf : f11_rowers N σ x1 x2 x3 x4 = some (v, σ1)) : Ctr l E msC YX11_rowers (6) 12 108 [.ref 8, .int x1, .int x2, .int x3, .int x4] σ (some (.int v)) σ1 := by
  refine ctr_of (G := fun u r s => r = some (.int u.1) ∧ s = u.2) (by decide +kernel) (Nat.le_of_ble_eq_true rfl) hf ⟨rfl, rfl⟩ (fun d hd => ?_)
  refine z_eqlv (lv' := [(0, .ref 8), (1, .int x1), (2, .int x2), (3, .int x3), (4, .int x4)]) rfl ?_
  unfold f11_rowers
  refine z_aload_n (pc := 0) 0 dX11_rowers_0 rfl rfl ?_
  refine z_iload_n (pc := 1) 1 dX11_rowers_1 rfl rfl ?_
  refine z_callR (pc := 2) [.ref 8, .int x1] [] rfl (lk_V (Yc := YX11_sheetAt) (n := 1) dX11_rowers_2 rfl rfl (am_ob.s kC8) rfl rfl np_X11_sheetAt mh_RX11 (by decide) ml_RX11_204 im_X11_sheetAt se_RX11_X11_sheetAt_X11_sheetAt in_RX11 cd_X11_sheetAt) (Nat.le_trans (by decide) hd) ⟨by decide, by decide⟩ (Nat.le_of_ble_eq_true rfl) (am_kp.rf _) (fun v1 h3 => c11_sheetAt h3) (fun v1 h3 => ?_)
  refine z_elim (fun e5 => ?_) (fun a4 e5 => ?_)
  · refine z_astoreN (pc := 5) (lv' := [(5, .null), (0, .ref 8), (1, .int x1), (2, .int x2), (3, .int x3), (4, .int x4)]) dX11_rowers_5 (by decide) rfl ?_
    refine z_aloadN (pc := 7) 0 dX11_rowers_7 rfl ?_
    refine z_ifnullN (pc := 9) (tgt := 32) dX11_rowers_9 (by decide) ?_
    refine z_bipush (pc := 32) (v := (-2 : Int32)) dX11_rowers_32 (by decide) ?_
    exact z_rIs dX11_rowers_34 rfl ⟨by decide, by decide⟩
  · refine z_astore (pc := 5) (lv' := [(5, .ref a4), (0, .ref 8), (1, .int x1), (2, .int x2), (3, .int x3), (4, .int x4)]) dX11_rowers_5 (by decide) rfl ?_
    refine z_aload (pc := 7) 0 dX11_rowers_7 rfl ?_
    refine z_ifnull (pc := 9) dX11_rowers_9 ?_
    refine z_iload_n (pc := 12) 3 dX11_rowers_12 rfl rfl ?_
    refine z_iconst (pc := 13) (v := (0 : Int32)) dX11_rowers_13 (by decide) ?_
    refine z_iconst (pc := 14) (v := (2 : Int32)) dX11_rowers_14 (by decide) ?_
    refine z_callB (pc := 15) [.int x2, .int (0 : Int32), .int (2 : Int32)] [] rfl (lk_S (Yc := YX11_within) (n := 3) dX11_rowers_15 rfl np_X11_within mh_RX11 (by decide) ml_RX11_66 st_X11_within in_RX11 cd_X11_within) (Nat.le_trans (by decide) hd) ⟨by decide, by decide⟩ (Nat.le_of_ble_eq_true rfl) (am_kp.rf _) (fun v6 h8 => c11_within h8) (fun v6 h8 => ?_)
    refine z_bz_eq (pc := 18) (tgt := 32) dX11_rowers_18 (by decide) (fun h9 => ?_) (fun h9 => ?_)
    · refine z_iload (pc := 21) 5 dX11_rowers_21 rfl ?_
      refine z_iconst (pc := 23) (v := (0 : Int32)) dX11_rowers_23 (by decide) ?_
      refine z_bipush (pc := 24) (v := (12 : Int32)) dX11_rowers_24 (by decide) ?_
      refine z_callB (pc := 26) [.int x4, .int (0 : Int32), .int (12 : Int32)] [] rfl (lk_S (Yc := YX11_within) (n := 3) dX11_rowers_26 rfl np_X11_within mh_RX11 (by decide) ml_RX11_66 st_X11_within in_RX11 cd_X11_within) (Nat.le_trans (by decide) hd) ⟨by decide, by decide⟩ (Nat.le_of_ble_eq_true rfl) (am_kp.rf _) (fun v10 h12 => c11_within h12) (fun v10 h12 => ?_)
      refine z_bz_ne (pc := 29) (tgt := 35) dX11_rowers_29 (by decide) (fun h13 => ?_) (fun h13 => ?_)
      · refine z_aload (pc := 35) 0 dX11_rowers_35 rfl ?_
        refine z_guard (fun g14 => ?_)
        refine z_callB (pc := 37) [.ref a4] [] rfl (lk_V (Yc := YX8_isMissing) (n := 0) dX11_rowers_37 rfl rfl (am_ob.d (am_c1 g14) (by decide)) rfl rfl np_X8_isMissing mh_RX8 (by decide) ml_RX11_208 im_X8_isMissing se_RX8_X8_isMissing_X8_isMissing in_RX8 cd_X8_isMissing) (Nat.le_trans (by decide) hd) ⟨by decide, by decide⟩ (Nat.le_of_ble_eq_true rfl) (am_kp.rf _) (fun v15 h17 => c8_isMissing h17) (fun v15 h17 => ?_)
        refine z_bz_eq (pc := 40) (tgt := 46) dX11_rowers_40 (by decide) (fun h18 => ?_) (fun h18 => ?_)
        · refine z_bipush (pc := 43) (v := (-11 : Int32)) dX11_rowers_43 (by decide) ?_
          exact z_rIs dX11_rowers_45 rfl ⟨by decide, by decide⟩
        · refine z_aload (pc := 46) 0 dX11_rowers_46 rfl ?_
          refine z_getIp (pc := 48) [8] dX11_rowers_48 g14 (by decide) fr_RX11_348_p8 ?_
          refine z_iload_n (pc := 51) 3 dX11_rowers_51 rfl rfl ?_
          refine z_ic_eq (pc := 52) (tgt := 58) dX11_rowers_52 (by decide) (fun h19 => ?_) (fun h19 => ?_)
          · refine z_iconst (pc := 58) (v := (0 : Int32)) dX11_rowers_58 (by decide) ?_
            refine z_istore (pc := 59) (lv' := [(6, .int (0 : Int32)), (5, .ref a4), (0, .ref 8), (1, .int x1), (2, .int x2), (3, .int x3), (4, .int x4)]) dX11_rowers_59 (by decide) rfl ?_
            refine z_iconst (pc := 61) (v := (0 : Int32)) dX11_rowers_61 (by decide) ?_
            refine z_istore (pc := 62) (lv' := [(7, .int (0 : Int32)), (6, .int (0 : Int32)), (5, .ref a4), (0, .ref 8), (1, .int x1), (2, .int x2), (3, .int x3), (4, .int x4)]) dX11_rowers_62 (by decide) rfl ?_
            refine z_lv (lv' := [(0, .ref 8), (3, .int x3), (4, .int x4), (5, .ref a4), (6, .int (0 : Int32)), (7, .int (0 : Int32))]) [3, 6, 7, 2, 1, 0] rfl ?_
            exact z_cu ⟨by decide, by decide⟩ (z11_rowers_L64 hd N x3 x4 a4 (0 : Int32) (0 : Int32) σ (am_within12 (by rw [← h13]; exact h12)) (by decide) (by decide))
          · refine z_bipush (pc := 55) (v := (-13 : Int32)) dX11_rowers_55 (by decide) ?_
            exact z_rIs dX11_rowers_57 rfl ⟨by decide, by decide⟩
      · refine z_bipush (pc := 32) (v := (-2 : Int32)) dX11_rowers_32 (by decide) ?_
        exact z_rIs dX11_rowers_34 rfl ⟨by decide, by decide⟩
    · refine z_bipush (pc := 32) (v := (-2 : Int32)) dX11_rowers_32 (by decide) ?_
      exact z_rIs dX11_rowers_34 rfl ⟨by decide, by decide⟩

def f11_setWater (σ : am_S) (x1 : Int32) (x2 : Int32) : Option (Int32 × am_S) := (f11_within x2 (0 : Int32) (9 : Int32)).bind fun v1 => (if v1 = true then (if x1 = 0 then (if x1 = 0 then (some (fF σ 8 0, sF σ 8 0 x2)) else (some (fF σ 8 0, sF σ 8 1 x2))) else (if x1 = 0 then (some (fF σ 8 1, sF σ 8 0 x2)) else (some (fF σ 8 1, sF σ 8 1 x2)))) else (some ((-1000 : Int32), σ)))
theorem c11_setWater {l : Launch} {E : am_E} {σ : am_S} {x1 : Int32} {x2 : Int32} {v : Int32} {σ1 : am_S} (hf : f11_setWater σ x1 x2 = some (v, σ1)) : Ctr l E msC YX11_setWater (1) 0 0 [.ref 8, .int x1, .int x2] σ (some (.int v)) σ1 := by
  refine ctr_of (G := fun u r s => r = some (.int u.1) ∧ s = u.2) (by decide +kernel) (Nat.le_of_ble_eq_true rfl) hf ⟨rfl, rfl⟩ (fun d hd => ?_)
  refine z_eqlv (lv' := [(0, .ref 8), (1, .int x1), (2, .int x2)]) rfl ?_
  unfold f11_setWater
  refine z_iload_n (pc := 0) 2 dX11_setWater_0 rfl rfl ?_
  refine z_iconst (pc := 1) (v := (0 : Int32)) dX11_setWater_1 (by decide) ?_
  refine z_bipush (pc := 2) (v := (9 : Int32)) dX11_setWater_2 (by decide) ?_
  refine z_callB (pc := 4) [.int x2, .int (0 : Int32), .int (9 : Int32)] [] rfl (lk_S (Yc := YX11_within) (n := 3) dX11_setWater_4 rfl np_X11_within mh_RX11 (by decide) ml_RX11_66 st_X11_within in_RX11 cd_X11_within) (Nat.le_trans (by decide) hd) ⟨by decide, by decide⟩ (Nat.le_of_ble_eq_true rfl) (am_kp.rf _) (fun v1 h3 => c11_within h3) (fun v1 h3 => ?_)
  refine z_bz_ne (pc := 7) (tgt := 14) dX11_setWater_7 (by decide) (fun h4 => ?_) (fun h4 => ?_)
  · refine z_iload_n (pc := 14) 1 dX11_setWater_14 rfl rfl ?_
    refine z_if_ne (pc := 15) (tgt := 25) dX11_setWater_15 (by decide) (fun h5 => ?_) (fun h5 => ?_)
    · refine z_aload_n (pc := 18) 0 dX11_setWater_18 rfl rfl ?_
      refine z_getI (pc := 19) dX11_setWater_19 (am_ob.s kC8) fr_RX11_100_11 (by decide) ?_
      refine z_goto (pc := 22) (tgt := 29) dX11_setWater_22 (by decide) ?_
      refine z_istore_n (pc := 29) (lv' := [(3, .int (fF σ 8 0)), (0, .ref 8), (1, .int x1), (2, .int x2)]) dX11_setWater_29 rfl (by decide) rfl ?_
      refine z_iload_n (pc := 30) 2 dX11_setWater_30 rfl rfl ?_
      refine z_if_ne (pc := 31) (tgt := 42) dX11_setWater_31 (by decide) (fun h6 => ?_) (fun h6 => ?_)
      · refine z_aload_n (pc := 34) 1 dX11_setWater_34 rfl rfl ?_
        refine z_iload_n (pc := 35) 3 dX11_setWater_35 rfl rfl ?_
        refine z_putI (pc := 36) dX11_setWater_36 (am_ob.s kC8) fw_RX11_100_11 (by decide) ?_
        refine z_goto (pc := 39) (tgt := 47) dX11_setWater_39 (by decide) ?_
        refine z_iload_n (pc := 47) 0 dX11_setWater_47 rfl rfl ?_
        exact z_rIs dX11_setWater_48 rfl ⟨by decide, by decide⟩
      · refine z_aload_n (pc := 42) 1 dX11_setWater_42 rfl rfl ?_
        refine z_iload_n (pc := 43) 3 dX11_setWater_43 rfl rfl ?_
        refine z_putI (pc := 44) dX11_setWater_44 (am_ob.s kC8) fw_RX11_103_11 (by decide) ?_
        refine z_iload_n (pc := 47) 0 dX11_setWater_47 rfl rfl ?_
        exact z_rIs dX11_setWater_48 rfl ⟨by decide, by decide⟩
    · refine z_aload_n (pc := 25) 0 dX11_setWater_25 rfl rfl ?_
      refine z_getI (pc := 26) dX11_setWater_26 (am_ob.s kC8) fr_RX11_103_11 (by decide) ?_
      refine z_istore_n (pc := 29) (lv' := [(3, .int (fF σ 8 1)), (0, .ref 8), (1, .int x1), (2, .int x2)]) dX11_setWater_29 rfl (by decide) rfl ?_
      refine z_iload_n (pc := 30) 2 dX11_setWater_30 rfl rfl ?_
      refine z_if_ne (pc := 31) (tgt := 42) dX11_setWater_31 (by decide) (fun h7 => ?_) (fun h7 => ?_)
      · refine z_aload_n (pc := 34) 1 dX11_setWater_34 rfl rfl ?_
        refine z_iload_n (pc := 35) 3 dX11_setWater_35 rfl rfl ?_
        refine z_putI (pc := 36) dX11_setWater_36 (am_ob.s kC8) fw_RX11_100_11 (by decide) ?_
        refine z_goto (pc := 39) (tgt := 47) dX11_setWater_39 (by decide) ?_
        refine z_iload_n (pc := 47) 0 dX11_setWater_47 rfl rfl ?_
        exact z_rIs dX11_setWater_48 rfl ⟨by decide, by decide⟩
      · refine z_aload_n (pc := 42) 1 dX11_setWater_42 rfl rfl ?_
        refine z_iload_n (pc := 43) 3 dX11_setWater_43 rfl rfl ?_
        refine z_putI (pc := 44) dX11_setWater_44 (am_ob.s kC8) fw_RX11_103_11 (by decide) ?_
        refine z_iload_n (pc := 47) 0 dX11_setWater_47 rfl rfl ?_
        exact z_rIs dX11_setWater_48 rfl ⟨by decide, by decide⟩
  · refine z_sipush (pc := 10) (v := (-1000 : Int32)) dX11_setWater_10 (by decide) ?_
    exact z_rIs dX11_setWater_13 rfl ⟨by decide, by decide⟩
def f11_set (σ : am_S) (x1 : Int32) (x2 : Int32) : Option (Int32 × am_S) := if x1 = 0 then ((f11_setWater σ x1 x2).bind fun (v2, s3) => (some (v2, s3))) else (if x1 = (1 : Int32) then ((f11_setWater σ x1 x2).bind fun (v6, s7) => (some (v6, s7))) else ((f11_crossingAt σ (x1.toInt64 - (10 : Int64))).bind fun v9 => (v9.elim ((f11_crossingAt σ (x1.toInt64 - (20 : Int64))).bind fun v14 => (v14.elim (some ((-1000 : Int32), σ)) (fun a17 => (f11_within x2 (0 : Int32) (999 : Int32)).bind fun v19 => (if v19 = true then (if [1].contains (am_ci σ a17) = true then ((f1_takeHeads σ a17 x2).bind fun (v24, s25) => (some (v24, s25))) else none) else (some ((-1000 : Int32), σ)))))) (fun a12 => (f11_within x2 (0 : Int32) (1 : Int32)).bind fun v27 => (if v27 = true then (if [1].contains (am_ci σ a12) = true then ((f1_become σ a12 x2).bind fun (v32, s33) => (some (v32, s33))) else none) else (some ((-1000 : Int32), σ)))))))
theorem c11_set {l : Launch} {E : am_E} {σ : am_S} {x1 : Int32} {x2 : Int32} {v : Int32} {σ1 : am_S} (hf : f11_set σ x1 x2 = some (v, σ1)) : Ctr l E msC YX11_set (2) 0 0 [.ref 8, .int x1, .int x2] σ (some (.int v)) σ1 := by
  refine ctr_of (G := fun u r s => r = some (.int u.1) ∧ s = u.2) (by decide +kernel) (Nat.le_of_ble_eq_true rfl) hf ⟨rfl, rfl⟩ (fun d hd => ?_)
  refine z_eqlv (lv' := [(0, .ref 8), (1, .int x1), (2, .int x2)]) rfl ?_
  unfold f11_set
  refine z_iload_n (pc := 0) 1 dX11_set_0 rfl rfl ?_
  refine z_if_eq (pc := 1) (tgt := 9) dX11_set_1 (by decide) (fun h1 => ?_) (fun h1 => ?_)
  · refine z_aload_n (pc := 9) 0 dX11_set_9 rfl rfl ?_
    refine z_iload_n (pc := 10) 1 dX11_set_10 rfl rfl ?_
    refine z_iload_n (pc := 11) 2 dX11_set_11 rfl rfl ?_
    refine z_callIs (pc := 12) [.ref 8, .int x1, .int x2] [] rfl (lk_V (Yc := YX11_setWater) (n := 2) dX11_set_12 rfl rfl (am_ob.s kC8) rfl rfl np_X11_setWater mh_RX11 (by decide) ml_RX11_81 im_X11_setWater se_RX11_X11_setWater_X11_setWater in_RX11 cd_X11_setWater) (Nat.le_trans (by decide) hd) ⟨by decide, by decide⟩ (Nat.le_of_ble_eq_true rfl) (am_kp.rf _) (fun v2 s3 h4 => c11_setWater h4) (fun v2 s3 h4 => ?_)
    exact z_rIs dX11_set_15 rfl ⟨by decide, by decide⟩
  · refine z_iload_n (pc := 4) 1 dX11_set_4 rfl rfl ?_
    refine z_iconst (pc := 5) (v := (1 : Int32)) dX11_set_5 (by decide) ?_
    refine z_ic_ne (pc := 6) (tgt := 16) dX11_set_6 (by decide) (fun h5 => ?_) (fun h5 => ?_)
    · refine z_aload_n (pc := 9) 0 dX11_set_9 rfl rfl ?_
      refine z_iload_n (pc := 10) 1 dX11_set_10 rfl rfl ?_
      refine z_iload_n (pc := 11) 2 dX11_set_11 rfl rfl ?_
      refine z_callIs (pc := 12) [.ref 8, .int x1, .int x2] [] rfl (lk_V (Yc := YX11_setWater) (n := 2) dX11_set_12 rfl rfl (am_ob.s kC8) rfl rfl np_X11_setWater mh_RX11 (by decide) ml_RX11_81 im_X11_setWater se_RX11_X11_setWater_X11_setWater in_RX11 cd_X11_setWater) (Nat.le_trans (by decide) hd) ⟨by decide, by decide⟩ (Nat.le_of_ble_eq_true rfl) (am_kp.rf _) (fun v6 s7 h8 => c11_setWater h8) (fun v6 s7 h8 => ?_)
      exact z_rIs dX11_set_15 rfl ⟨by decide, by decide⟩
    · refine z_aload_n (pc := 16) 0 dX11_set_16 rfl rfl ?_
      refine z_iload_n (pc := 17) 1 dX11_set_17 rfl rfl ?_
      refine z_i2l (pc := 18) dX11_set_18 ?_
      refine z_ldc2 (pc := 19) (v := (10 : Int64)) dX11_set_19 kl_RX11_85 ?_
      refine z_lsub (pc := 22) dX11_set_22 ?_
      refine z_callR (pc := 23) [.ref 8, .long (x1.toInt64 - (10 : Int64))] [] rfl (lk_V (Yc := YX11_crossingAt) (n := 1) dX11_set_23 rfl rfl (am_ob.s kC8) rfl rfl np_X11_crossingAt mh_RX11 (by decide) ml_RX11_87 im_X11_crossingAt se_RX11_X11_crossingAt_X11_crossingAt in_RX11 cd_X11_crossingAt) (Nat.le_trans (by decide) hd) ⟨by decide, by decide⟩ (Nat.le_of_ble_eq_true rfl) (am_kp.rf _) (fun v9 h11 => c11_crossingAt h11) (fun v9 h11 => ?_)
      refine z_elim (fun e13 => ?_) (fun a12 e13 => ?_)
      · refine z_astore_nN (pc := 26) (lv' := [(3, .null), (0, .ref 8), (1, .int x1), (2, .int x2)]) dX11_set_26 rfl (by decide) rfl ?_
        refine z_aload_nN (pc := 27) 0 dX11_set_27 rfl rfl ?_
        refine z_ifnullN (pc := 28) (tgt := 52) dX11_set_28 (by decide) ?_
        refine z_aload_n (pc := 52) 1 dX11_set_52 rfl rfl ?_
        refine z_iload_n (pc := 53) 2 dX11_set_53 rfl rfl ?_
        refine z_i2l (pc := 54) dX11_set_54 ?_
        refine z_ldc2 (pc := 55) (v := (20 : Int64)) dX11_set_55 kl_RX11_95 ?_
        refine z_lsub (pc := 58) dX11_set_58 ?_
        refine z_callR (pc := 59) [.ref 8, .long (x1.toInt64 - (20 : Int64))] [] rfl (lk_V (Yc := YX11_crossingAt) (n := 1) dX11_set_59 rfl rfl (am_ob.s kC8) rfl rfl np_X11_crossingAt mh_RX11 (by decide) ml_RX11_87 im_X11_crossingAt se_RX11_X11_crossingAt_X11_crossingAt in_RX11 cd_X11_crossingAt) (Nat.le_trans (by decide) hd) ⟨by decide, by decide⟩ (Nat.le_of_ble_eq_true rfl) (am_kp.rf _) (fun v14 h16 => c11_crossingAt h16) (fun v14 h16 => ?_)
        refine z_elim (fun e18 => ?_) (fun a17 e18 => ?_)
        · refine z_astoreN (pc := 62) (lv' := [(4, .null), (3, .null), (0, .ref 8), (1, .int x1), (2, .int x2)]) dX11_set_62 (by decide) rfl ?_
          refine z_aloadN (pc := 64) 0 dX11_set_64 rfl ?_
          refine z_ifnullN (pc := 66) (tgt := 89) dX11_set_66 (by decide) ?_
          refine z_sipush (pc := 89) (v := (-1000 : Int32)) dX11_set_89 (by decide) ?_
          exact z_rIs dX11_set_92 rfl ⟨by decide, by decide⟩
        · refine z_astore (pc := 62) (lv' := [(4, .ref a17), (3, .null), (0, .ref 8), (1, .int x1), (2, .int x2)]) dX11_set_62 (by decide) rfl ?_
          refine z_aload (pc := 64) 0 dX11_set_64 rfl ?_
          refine z_ifnull (pc := 66) dX11_set_66 ?_
          refine z_iload_n (pc := 69) 4 dX11_set_69 rfl rfl ?_
          refine z_iconst (pc := 70) (v := (0 : Int32)) dX11_set_70 (by decide) ?_
          refine z_sipush (pc := 71) (v := (999 : Int32)) dX11_set_71 (by decide) ?_
          refine z_callB (pc := 74) [.int x2, .int (0 : Int32), .int (999 : Int32)] [] rfl (lk_S (Yc := YX11_within) (n := 3) dX11_set_74 rfl np_X11_within mh_RX11 (by decide) ml_RX11_66 st_X11_within in_RX11 cd_X11_within) (Nat.le_trans (by decide) hd) ⟨by decide, by decide⟩ (Nat.le_of_ble_eq_true rfl) (am_kp.rf _) (fun v19 h21 => c11_within h21) (fun v19 h21 => ?_)
          refine z_bz_eq (pc := 77) (tgt := 89) dX11_set_77 (by decide) (fun h22 => ?_) (fun h22 => ?_)
          · refine z_aload (pc := 80) 0 dX11_set_80 rfl ?_
            refine z_iload_n (pc := 82) 4 dX11_set_82 rfl rfl ?_
            refine z_guard (fun g23 => ?_)
            refine z_callIs (pc := 83) [.ref a17, .int x2] [] rfl (lk_V (Yc := YX1_takeHeads) (n := 1) dX11_set_83 rfl rfl (am_ob.d (am_c1 g23) (by decide)) rfl rfl np_X1_takeHeads mh_RX1 (by decide) ml_RX11_97 im_X1_takeHeads se_RX1_X1_takeHeads_X1_takeHeads in_RX1 cd_X1_takeHeads) (Nat.le_trans (by decide) hd) ⟨by decide, by decide⟩ (Nat.le_of_ble_eq_true rfl) (am_kp.rf _) (fun v24 s25 h26 => c1_takeHeads h26) (fun v24 s25 h26 => ?_)
            refine z_goto (pc := 86) (tgt := 92) dX11_set_86 (by decide) ?_
            exact z_rIs dX11_set_92 rfl ⟨by decide, by decide⟩
          · refine z_sipush (pc := 89) (v := (-1000 : Int32)) dX11_set_89 (by decide) ?_
            exact z_rIs dX11_set_92 rfl ⟨by decide, by decide⟩
      · refine z_astore_n (pc := 26) (lv' := [(3, .ref a12), (0, .ref 8), (1, .int x1), (2, .int x2)]) dX11_set_26 rfl (by decide) rfl ?_
        refine z_aload_n (pc := 27) 0 dX11_set_27 rfl rfl ?_
        refine z_ifnull (pc := 28) dX11_set_28 ?_
        refine z_iload_n (pc := 31) 3 dX11_set_31 rfl rfl ?_
        refine z_iconst (pc := 32) (v := (0 : Int32)) dX11_set_32 (by decide) ?_
        refine z_iconst (pc := 33) (v := (1 : Int32)) dX11_set_33 (by decide) ?_
        refine z_callB (pc := 34) [.int x2, .int (0 : Int32), .int (1 : Int32)] [] rfl (lk_S (Yc := YX11_within) (n := 3) dX11_set_34 rfl np_X11_within mh_RX11 (by decide) ml_RX11_66 st_X11_within in_RX11 cd_X11_within) (Nat.le_trans (by decide) hd) ⟨by decide, by decide⟩ (Nat.le_of_ble_eq_true rfl) (am_kp.rf _) (fun v27 h29 => c11_within h29) (fun v27 h29 => ?_)
        refine z_bz_eq (pc := 37) (tgt := 48) dX11_set_37 (by decide) (fun h30 => ?_) (fun h30 => ?_)
        · refine z_aload_n (pc := 40) 0 dX11_set_40 rfl rfl ?_
          refine z_iload_n (pc := 41) 3 dX11_set_41 rfl rfl ?_
          refine z_guard (fun g31 => ?_)
          refine z_callIs (pc := 42) [.ref a12, .int x2] [] rfl (lk_V (Yc := YX1_become) (n := 1) dX11_set_42 rfl rfl (am_ob.d (am_c1 g31) (by decide)) rfl rfl np_X1_become mh_RX1 (by decide) ml_RX11_91 im_X1_become se_RX1_X1_become_X1_become in_RX1 cd_X1_become) (Nat.le_trans (by decide) hd) ⟨by decide, by decide⟩ (Nat.le_of_ble_eq_true rfl) (am_kp.rf _) (fun v32 s33 h34 => c1_become h34) (fun v32 s33 h34 => ?_)
          refine z_goto (pc := 45) (tgt := 51) dX11_set_45 (by decide) ?_
          exact z_rIs dX11_set_51 rfl ⟨by decide, by decide⟩
        · refine z_sipush (pc := 48) (v := (-1000 : Int32)) dX11_set_48 (by decide) ?_
          exact z_rIs dX11_set_51 rfl ⟨by decide, by decide⟩
def d_parts (σ : am_S) (a : Nat) : Option Int32 := if am_ci σ a = 2 then f2_parts σ a else (if am_ci σ a = 3 then f3_parts σ a else (if am_ci σ a = 5 then f5_parts σ a else (if am_ci σ a = 6 then f7_parts σ a else (if am_ci σ a = 7 then f7_parts σ a else (if am_ci σ a = 9 then f9_parts σ a else (none))))))
theorem d_parts_c {σ : am_S} {a : Nat} {v : Int32} (h : d_parts σ a = some v) : (am_ci σ a = 2 ∧ f2_parts σ a = some v) ∨ (am_ci σ a = 3 ∧ f3_parts σ a = some v) ∨ (am_ci σ a = 5 ∧ f5_parts σ a = some v) ∨ (am_ci σ a = 6 ∧ f7_parts σ a = some v) ∨ (am_ci σ a = 7 ∧ f7_parts σ a = some v) ∨ (am_ci σ a = 9 ∧ f9_parts σ a = some v) := by
  unfold d_parts at h
  by_cases hc : am_ci σ a = 2
  · rw [if_pos hc] at h; exact Or.inl ⟨hc, h⟩
  rw [if_neg hc] at h
  by_cases hc : am_ci σ a = 3
  · rw [if_pos hc] at h; exact Or.inr (Or.inl ⟨hc, h⟩)
  rw [if_neg hc] at h
  by_cases hc : am_ci σ a = 5
  · rw [if_pos hc] at h; exact Or.inr (Or.inr (Or.inl ⟨hc, h⟩))
  rw [if_neg hc] at h
  by_cases hc : am_ci σ a = 6
  · rw [if_pos hc] at h; exact Or.inr (Or.inr (Or.inr (Or.inl ⟨hc, h⟩)))
  rw [if_neg hc] at h
  by_cases hc : am_ci σ a = 7
  · rw [if_pos hc] at h; exact Or.inr (Or.inr (Or.inr (Or.inr (Or.inl ⟨hc, h⟩))))
  rw [if_neg hc] at h
  by_cases hc : am_ci σ a = 9
  · rw [if_pos hc] at h; exact Or.inr (Or.inr (Or.inr (Or.inr (Or.inr (⟨hc, h⟩)))))
  rw [if_neg hc] at h
  cases h
def f11_shareOf (σ : am_S) (a0 : Nat) (x1 : Int32) (x2 : Int32) : Option Int32 := if (1 : Int32) ≤ x2 then (if [2, 3, 5, 6, 7, 9].contains (am_ci σ a0) = true then ((d_parts σ a0).bind fun v3 => (if x2 = 0 then none else (some ((x1 * v3) / x2)))) else none) else (some ((0 : Int32)))
theorem c11_shareOf {l : Launch} {E : am_E} {σ : am_S} {a0 : Nat} {x1 : Int32} {x2 : Int32} {v : Int32} (hf : f11_shareOf σ a0 x1 x2 = some v) : Ctr l E msC YX11_shareOf (3) 0 0 [.ref a0, .int x1, .int x2] σ (some (.int v)) σ := by
  refine ctr_of (G := fun u r s => r = some (.int u) ∧ s = σ) (by decide +kernel) (Nat.le_of_ble_eq_true rfl) hf ⟨rfl, rfl⟩ (fun d hd => ?_)
  refine z_eqlv (lv' := [(0, .ref a0), (1, .int x1), (2, .int x2)]) rfl ?_
  unfold f11_shareOf
  refine z_iload_n (pc := 0) 2 dX11_shareOf_0 rfl rfl ?_
  refine z_iconst (pc := 1) (v := (1 : Int32)) dX11_shareOf_1 (by decide) ?_
  refine z_ic_ge (pc := 2) (tgt := 9) dX11_shareOf_2 (by decide) (fun h1 => ?_) (fun h1 => ?_)
  · refine z_iload_n (pc := 9) 1 dX11_shareOf_9 rfl rfl ?_
    refine z_aload_n (pc := 10) 0 dX11_shareOf_10 rfl rfl ?_
    refine z_guard (fun g2 => ?_)
    refine z_callDI (pc := 11) [.ref a0] [.int x1] rfl ⟨by decide, by decide⟩ (Nat.le_of_ble_eq_true rfl) (fun v hv => by
    rcases d_parts_c hv with ⟨hc, hv⟩ | ⟨hc, hv⟩ | ⟨hc, hv⟩ | ⟨hc, hv⟩ | ⟨hc, hv⟩ | ⟨hc, hv⟩
    · exact ⟨_, _, lk_O (Yc := YX2_parts) (n := 0) (x := yX7_parts) RX7 (Y0 := YX7_parts) dX11_shareOf_11 rfl rfl (am_ob.d hc (by decide)) rfl rfl np_X7_parts mh_RX7 (by decide) ml_RX11_166 sm_X7_parts_RX7 im_X7_parts cd_X7_parts se_RX2_X7_parts_X2_parts im_X2_parts in_RX2 cd_X2_parts, (Nat.le_trans (by decide) hd), c2_parts hv⟩
    · exact ⟨_, _, lk_O (Yc := YX3_parts) (n := 0) (x := yX7_parts) RX7 (Y0 := YX7_parts) dX11_shareOf_11 rfl rfl (am_ob.d hc (by decide)) rfl rfl np_X7_parts mh_RX7 (by decide) ml_RX11_166 sm_X7_parts_RX7 im_X7_parts cd_X7_parts se_RX3_X7_parts_X3_parts im_X3_parts in_RX3 cd_X3_parts, (Nat.le_trans (by decide) hd), c3_parts hv⟩
    · exact ⟨_, _, lk_O (Yc := YX5_parts) (n := 0) (x := yX7_parts) RX7 (Y0 := YX7_parts) dX11_shareOf_11 rfl rfl (am_ob.d hc (by decide)) rfl rfl np_X7_parts mh_RX7 (by decide) ml_RX11_166 sm_X7_parts_RX7 im_X7_parts cd_X7_parts se_RX5_X7_parts_X5_parts im_X5_parts in_RX5 cd_X5_parts, (Nat.le_trans (by decide) hd), c5_parts hv⟩
    · exact ⟨_, _, lk_U (Yc := YX7_parts) (n := 0) (x := yX7_parts) RX7 dX11_shareOf_11 rfl rfl (am_ob.d hc (by decide)) rfl rfl np_X7_parts mh_RX7 (by decide) ml_RX11_166 sm_X7_parts_RX7 se_RX6_X7_parts_X7_parts im_X7_parts in_RX7 cd_X7_parts, (Nat.le_trans (by decide) hd), c7_parts hv⟩
    · exact ⟨_, _, lk_V (Yc := YX7_parts) (n := 0) dX11_shareOf_11 rfl rfl (am_ob.d hc (by decide)) rfl rfl np_X7_parts mh_RX7 (by decide) ml_RX11_166 im_X7_parts se_RX7_X7_parts_X7_parts in_RX7 cd_X7_parts, (Nat.le_trans (by decide) hd), c7_parts hv⟩
    · exact ⟨_, _, lk_O (Yc := YX9_parts) (n := 0) (x := yX7_parts) RX7 (Y0 := YX7_parts) dX11_shareOf_11 rfl rfl (am_ob.d hc (by decide)) rfl rfl np_X7_parts mh_RX7 (by decide) ml_RX11_166 sm_X7_parts_RX7 im_X7_parts cd_X7_parts se_RX9_X7_parts_X9_parts im_X9_parts in_RX9 cd_X9_parts, (Nat.le_trans (by decide) hd), c9_parts hv⟩) (fun v3 h5 => ?_)
    refine z_imul (pc := 14) dX11_shareOf_14 ?_
    refine z_iload_n (pc := 15) 2 dX11_shareOf_15 rfl rfl ?_
    refine z_ite (fun _ => z_none) (fun h6 => ?_)
    refine z_idiv (pc := 16) dX11_shareOf_16 h6 ?_
    exact z_rI dX11_shareOf_17 rfl ⟨by decide, by decide⟩
  · refine z_iconst (pc := 5) (v := (0 : Int32)) dX11_shareOf_5 (by decide) ?_
    refine z_goto (pc := 6) (tgt := 17) dX11_shareOf_6 (by decide) ?_
    exact z_rI dX11_shareOf_17 rfl ⟨by decide, by decide⟩
def f11_shares_L143 (σ : am_S) (N : Nat) : Nat → Int32 → Int32 → Int32 → Int32 → Int32 → Option Int32
  | 0, _, _, _, _, _ => none
  | n + 1, x1, x2, x6, x7, x8 => if fF σ 8 5 ≤ x8 then (some (x7)) else (if am_in x8 14 = true then ((fQ σ 10 x8.toNatClampNeg).elim (none) (fun a19 => if [2, 3, 5, 6, 7, 9].contains (am_ci σ a19) = true then (if fF σ a19 3 = x1 then (if am_in x8 14 = true then ((fQ σ 10 x8.toNatClampNeg).elim (none) (fun a24 => (f11_shareOf σ a24 x2 x6).bind fun v26 => (f11_shares_L143 σ N n x1 x2 x6 (x7 - v26) (x8 + (1 : Int32))))) else none) else (f11_shares_L143 σ N n x1 x2 x6 (x7 - (0 : Int32)) (x8 + (1 : Int32)))) else none)) else none)
theorem z11_shares_L143 {l : Launch} {E : am_E} {d : Nat} {N : Nat} {σ : am_S} (hd : 4 ≤ d) : ∀ (n : Nat) (x1 : Int32) (x2 : Int32) (x6 : Int32) (x7 : Int32) (x8 : Int32), Z l E msC σ YX11_shares d 0 0 143 [(0, .ref 8), (1, .int x1), (2, .int x2), (6, .int x6), (7, .int x7), (8, .int x8)] [] 0 0 σ (f11_shares_L143 σ N n x1 x2 x6 x7 x8) (fun u r s => r = some (.int u) ∧ s = σ) := by
  intro n
  induction n with
  | zero => intros; exact z_none
  | succ n ih =>
    intro x1 x2 x6 x7 x8
    unfold f11_shares_L143
    refine z_iload (pc := 143) 5 dX11_shares_143 rfl ?_
    refine z_aload_n (pc := 145) 0 dX11_shares_145 rfl rfl ?_
    refine z_getI (pc := 146) dX11_shares_146 (am_ob.s kC8) fr_RX11_110_11 (by decide) ?_
    refine z_ic_ge (pc := 149) (tgt := 194) dX11_shares_149 (by decide) (fun h17 => ?_) (fun h17 => ?_)
    · refine z_iload (pc := 194) 4 dX11_shares_194 rfl ?_
      exact z_rI dX11_shares_196 rfl ⟨by decide, by decide⟩
    · refine z_iload (pc := 152) 4 dX11_shares_152 rfl ?_
      refine z_aload_n (pc := 154) 0 dX11_shares_154 rfl rfl ?_
      refine z_getQ (pc := 155) (b := 10) dX11_shares_155 kC8 fr_RX11_17_11 (by decide) rfl ?_
      refine z_iload (pc := 158) 5 dX11_shares_158 rfl ?_
      refine z_qald (pc := 160) dX11_shares_160 ⟨by decide, by decide⟩ (am_ar.s kC10) (fun h18 => ?_)
      refine z_elim (fun e20 => ?_) (fun a19 e20 => ?_)
      · exact z_none
      · refine z_guard (fun g21 => ?_)
        refine z_getIp (pc := 161) [2, 3, 5, 6, 7, 9] dX11_shares_161 g21 (by decide) fr_RX11_151_p235679 ?_
        refine z_iload_n (pc := 164) 1 dX11_shares_164 rfl rfl ?_
        refine z_ic_ne (pc := 165) (tgt := 184) dX11_shares_165 (by decide) (fun h22 => ?_) (fun h22 => ?_)
        · refine z_aload_n (pc := 168) 0 dX11_shares_168 rfl rfl ?_
          refine z_getQ (pc := 169) (b := 10) dX11_shares_169 kC8 fr_RX11_17_11 (by decide) rfl ?_
          refine z_iload (pc := 172) 5 dX11_shares_172 rfl ?_
          refine z_qald (pc := 174) dX11_shares_174 ⟨by decide, by decide⟩ (am_ar.s kC10) (fun h23 => ?_)
          refine z_elim (fun e25 => ?_) (fun a24 e25 => ?_)
          · refine z_iload_n (pc := 175) 2 dX11_shares_175 rfl rfl ?_
            refine z_iload (pc := 176) 3 dX11_shares_176 rfl ?_
            exact z_none
          · refine z_iload_n (pc := 175) 2 dX11_shares_175 rfl rfl ?_
            refine z_iload (pc := 176) 3 dX11_shares_176 rfl ?_
            refine z_callI (pc := 178) [.ref a24, .int x2, .int x6] [.int x7] rfl (lk_S (Yc := YX11_shareOf) (n := 3) dX11_shares_178 rfl np_X11_shareOf mh_RX11 (by decide) ml_RX11_296 st_X11_shareOf in_RX11 cd_X11_shareOf) (Nat.le_trans (by decide) hd) ⟨by decide, by decide⟩ (Nat.le_of_ble_eq_true rfl) (am_kp.rf _) (fun v26 h28 => c11_shareOf h28) (fun v26 h28 => ?_)
            refine z_goto (pc := 181) (tgt := 185) dX11_shares_181 (by decide) ?_
            refine z_isub (pc := 185) dX11_shares_185 ?_
            refine z_istore (pc := 186) (lv' := [(7, .int (x7 - v26)), (0, .ref 8), (1, .int x1), (2, .int x2), (6, .int x6), (8, .int x8)]) dX11_shares_186 (by decide) rfl ?_
            refine z_iinc (pc := 188) (v := x8 + (1 : Int32)) (lv' := [(8, .int (x8 + (1 : Int32))), (7, .int (x7 - v26)), (0, .ref 8), (1, .int x1), (2, .int x2), (6, .int x6)]) 5 dX11_shares_188 rfl rfl (by decide) rfl ?_
            refine z_goto (pc := 191) (tgt := 143) dX11_shares_191 (by decide) ?_
            refine z_lv (lv' := [(0, .ref 8), (1, .int x1), (2, .int x2), (6, .int x6), (7, .int (x7 - v26)), (8, .int (x8 + (1 : Int32)))]) [2, 3, 4, 5, 1, 0] rfl ?_
            exact ih x1 x2 x6 (x7 - v26) (x8 + (1 : Int32))
        · refine z_iconst (pc := 184) (v := (0 : Int32)) dX11_shares_184 (by decide) ?_
          refine z_isub (pc := 185) dX11_shares_185 ?_
          refine z_istore (pc := 186) (lv' := [(7, .int (x7 - (0 : Int32))), (0, .ref 8), (1, .int x1), (2, .int x2), (6, .int x6), (8, .int x8)]) dX11_shares_186 (by decide) rfl ?_
          refine z_iinc (pc := 188) (v := x8 + (1 : Int32)) (lv' := [(8, .int (x8 + (1 : Int32))), (7, .int (x7 - (0 : Int32))), (0, .ref 8), (1, .int x1), (2, .int x2), (6, .int x6)]) 5 dX11_shares_188 rfl rfl (by decide) rfl ?_
          refine z_goto (pc := 191) (tgt := 143) dX11_shares_191 (by decide) ?_
          refine z_lv (lv' := [(0, .ref 8), (1, .int x1), (2, .int x2), (6, .int x6), (7, .int (x7 - (0 : Int32))), (8, .int (x8 + (1 : Int32)))]) [2, 3, 4, 5, 1, 0] rfl ?_
          exact ih x1 x2 x6 (x7 - (0 : Int32)) (x8 + (1 : Int32))
def f11_shares_J123n4 (σ : am_S) (N : Nat) (x1 : Int32) (x2 : Int32) (x6 : Int32) : Option Int32 := f11_shares_L143 σ N N x1 x2 x6 x2 (0 : Int32)
theorem z11_shares_J123n4 {l : Launch} {E : am_E} {d : Nat} {N : Nat} {σ : am_S} (hd : 4 ≤ d) (x1 : Int32) (x2 : Int32) (x6 : Int32) : Z l E msC σ YX11_shares d 0 0 123 [(0, .ref 8), (1, .int x1), (2, .int x2), (4, .null), (6, .int x6)] [] 0 0 σ (f11_shares_J123n4 σ N x1 x2 x6) (fun u r s => r = some (.int u) ∧ s = σ) := by
  unfold f11_shares_J123n4
  refine z_aloadN (pc := 123) 3 dX11_shares_123 rfl ?_
  refine z_ifnullN (pc := 125) (tgt := 137) dX11_shares_125 (by decide) ?_
  refine z_iload_n (pc := 137) 2 dX11_shares_137 rfl rfl ?_
  refine z_istore (pc := 138) (lv' := [(7, .int x2), (0, .ref 8), (1, .int x1), (2, .int x2), (4, .null), (6, .int x6)]) dX11_shares_138 (by decide) rfl ?_
  refine z_iconst (pc := 140) (v := (0 : Int32)) dX11_shares_140 (by decide) ?_
  refine z_istore (pc := 141) (lv' := [(8, .int (0 : Int32)), (7, .int x2), (0, .ref 8), (1, .int x1), (2, .int x2), (4, .null), (6, .int x6)]) dX11_shares_141 (by decide) rfl ?_
  refine z_lv (lv' := [(0, .ref 8), (1, .int x1), (2, .int x2), (6, .int x6), (7, .int x2), (8, .int (0 : Int32))]) [2, 3, 4, 6, 1, 0] rfl ?_
  exact z11_shares_L143 hd N x1 x2 x6 x2 (0 : Int32)
def f11_shares_L75n4 (σ : am_S) (N : Nat) : Nat → Int32 → Int32 → Int32 → Int32 → Option Int32
  | 0, _, _, _, _ => none
  | n + 1, x1, x2, x6, x7 => if fF σ 8 5 ≤ x7 then (f11_shares_J123n4 σ N x1 x2 x6) else (if am_in x7 14 = true then ((fQ σ 10 x7.toNatClampNeg).elim (none) (fun a30 => if [2, 3, 5, 6, 7, 9].contains (am_ci σ a30) = true then (if fF σ a30 3 = x1 then (if am_in x7 14 = true then ((fQ σ 10 x7.toNatClampNeg).elim (none) (fun a35 => if [2, 3, 5, 6, 7, 9].contains (am_ci σ a35) = true then ((d_parts σ a35).bind fun v38 => (f11_shares_L75n4 σ N n x1 x2 (x6 + v38) (x7 + (1 : Int32)))) else none)) else none) else (f11_shares_L75n4 σ N n x1 x2 (x6 + (0 : Int32)) (x7 + (1 : Int32)))) else none)) else none)
theorem z11_shares_L75n4 {l : Launch} {E : am_E} {d : Nat} {N : Nat} {σ : am_S} (hd : 4 ≤ d) : ∀ (n : Nat) (x1 : Int32) (x2 : Int32) (x6 : Int32) (x7 : Int32), Z l E msC σ YX11_shares d 0 0 75 [(0, .ref 8), (1, .int x1), (2, .int x2), (4, .null), (6, .int x6), (7, .int x7)] [] 0 0 σ (f11_shares_L75n4 σ N n x1 x2 x6 x7) (fun u r s => r = some (.int u) ∧ s = σ) := by
  intro n
  induction n with
  | zero => intros; exact z_none
  | succ n ih =>
    intro x1 x2 x6 x7
    unfold f11_shares_L75n4
    refine z_iload (pc := 75) 5 dX11_shares_75 rfl ?_
    refine z_aload_n (pc := 77) 0 dX11_shares_77 rfl rfl ?_
    refine z_getI (pc := 78) dX11_shares_78 (am_ob.s kC8) fr_RX11_110_11 (by decide) ?_
    refine z_ic_ge (pc := 81) (tgt := 123) dX11_shares_81 (by decide) (fun h16 => ?_) (fun h16 => ?_)
    · refine z_lv (lv' := [(0, .ref 8), (1, .int x1), (2, .int x2), (4, .null), (6, .int x6)]) [0, 1, 2, 3, 4] rfl ?_
      exact z11_shares_J123n4 hd x1 x2 x6
    · refine z_iload (pc := 84) 4 dX11_shares_84 rfl ?_
      refine z_aload_n (pc := 86) 0 dX11_shares_86 rfl rfl ?_
      refine z_getQ (pc := 87) (b := 10) dX11_shares_87 kC8 fr_RX11_17_11 (by decide) rfl ?_
      refine z_iload (pc := 90) 5 dX11_shares_90 rfl ?_
      refine z_qald (pc := 92) dX11_shares_92 ⟨by decide, by decide⟩ (am_ar.s kC10) (fun h29 => ?_)
      refine z_elim (fun e31 => ?_) (fun a30 e31 => ?_)
      · exact z_none
      · refine z_guard (fun g32 => ?_)
        refine z_getIp (pc := 93) [2, 3, 5, 6, 7, 9] dX11_shares_93 g32 (by decide) fr_RX11_151_p235679 ?_
        refine z_iload_n (pc := 96) 1 dX11_shares_96 rfl rfl ?_
        refine z_ic_ne (pc := 97) (tgt := 113) dX11_shares_97 (by decide) (fun h33 => ?_) (fun h33 => ?_)
        · refine z_aload_n (pc := 100) 0 dX11_shares_100 rfl rfl ?_
          refine z_getQ (pc := 101) (b := 10) dX11_shares_101 kC8 fr_RX11_17_11 (by decide) rfl ?_
          refine z_iload (pc := 104) 5 dX11_shares_104 rfl ?_
          refine z_qald (pc := 106) dX11_shares_106 ⟨by decide, by decide⟩ (am_ar.s kC10) (fun h34 => ?_)
          refine z_elim (fun e36 => ?_) (fun a35 e36 => ?_)
          · exact z_none
          · refine z_guard (fun g37 => ?_)
            refine z_callDI (pc := 107) [.ref a35] [.int x6] rfl ⟨by decide, by decide⟩ (Nat.le_of_ble_eq_true rfl) (fun v hv => by
    rcases d_parts_c hv with ⟨hc, hv⟩ | ⟨hc, hv⟩ | ⟨hc, hv⟩ | ⟨hc, hv⟩ | ⟨hc, hv⟩ | ⟨hc, hv⟩
    · exact ⟨_, _, lk_O (Yc := YX2_parts) (n := 0) (x := yX7_parts) RX7 (Y0 := YX7_parts) dX11_shares_107 rfl rfl (am_ob.d hc (by decide)) rfl rfl np_X7_parts mh_RX7 (by decide) ml_RX11_166 sm_X7_parts_RX7 im_X7_parts cd_X7_parts se_RX2_X7_parts_X2_parts im_X2_parts in_RX2 cd_X2_parts, (Nat.le_trans (by decide) hd), c2_parts hv⟩
    · exact ⟨_, _, lk_O (Yc := YX3_parts) (n := 0) (x := yX7_parts) RX7 (Y0 := YX7_parts) dX11_shares_107 rfl rfl (am_ob.d hc (by decide)) rfl rfl np_X7_parts mh_RX7 (by decide) ml_RX11_166 sm_X7_parts_RX7 im_X7_parts cd_X7_parts se_RX3_X7_parts_X3_parts im_X3_parts in_RX3 cd_X3_parts, (Nat.le_trans (by decide) hd), c3_parts hv⟩
    · exact ⟨_, _, lk_O (Yc := YX5_parts) (n := 0) (x := yX7_parts) RX7 (Y0 := YX7_parts) dX11_shares_107 rfl rfl (am_ob.d hc (by decide)) rfl rfl np_X7_parts mh_RX7 (by decide) ml_RX11_166 sm_X7_parts_RX7 im_X7_parts cd_X7_parts se_RX5_X7_parts_X5_parts im_X5_parts in_RX5 cd_X5_parts, (Nat.le_trans (by decide) hd), c5_parts hv⟩
    · exact ⟨_, _, lk_U (Yc := YX7_parts) (n := 0) (x := yX7_parts) RX7 dX11_shares_107 rfl rfl (am_ob.d hc (by decide)) rfl rfl np_X7_parts mh_RX7 (by decide) ml_RX11_166 sm_X7_parts_RX7 se_RX6_X7_parts_X7_parts im_X7_parts in_RX7 cd_X7_parts, (Nat.le_trans (by decide) hd), c7_parts hv⟩
    · exact ⟨_, _, lk_V (Yc := YX7_parts) (n := 0) dX11_shares_107 rfl rfl (am_ob.d hc (by decide)) rfl rfl np_X7_parts mh_RX7 (by decide) ml_RX11_166 im_X7_parts se_RX7_X7_parts_X7_parts in_RX7 cd_X7_parts, (Nat.le_trans (by decide) hd), c7_parts hv⟩
    · exact ⟨_, _, lk_O (Yc := YX9_parts) (n := 0) (x := yX7_parts) RX7 (Y0 := YX7_parts) dX11_shares_107 rfl rfl (am_ob.d hc (by decide)) rfl rfl np_X7_parts mh_RX7 (by decide) ml_RX11_166 sm_X7_parts_RX7 im_X7_parts cd_X7_parts se_RX9_X7_parts_X9_parts im_X9_parts in_RX9 cd_X9_parts, (Nat.le_trans (by decide) hd), c9_parts hv⟩) (fun v38 h40 => ?_)
            refine z_goto (pc := 110) (tgt := 114) dX11_shares_110 (by decide) ?_
            refine z_iadd (pc := 114) dX11_shares_114 ?_
            refine z_istore (pc := 115) (lv' := [(6, .int (x6 + v38)), (0, .ref 8), (1, .int x1), (2, .int x2), (4, .null), (7, .int x7)]) dX11_shares_115 (by decide) rfl ?_
            refine z_iinc (pc := 117) (v := x7 + (1 : Int32)) (lv' := [(7, .int (x7 + (1 : Int32))), (6, .int (x6 + v38)), (0, .ref 8), (1, .int x1), (2, .int x2), (4, .null)]) 5 dX11_shares_117 rfl rfl (by decide) rfl ?_
            refine z_goto (pc := 120) (tgt := 75) dX11_shares_120 (by decide) ?_
            refine z_lv (lv' := [(0, .ref 8), (1, .int x1), (2, .int x2), (4, .null), (6, .int (x6 + v38)), (7, .int (x7 + (1 : Int32)))]) [2, 3, 4, 5, 1, 0] rfl ?_
            exact ih x1 x2 (x6 + v38) (x7 + (1 : Int32))
        · refine z_iconst (pc := 113) (v := (0 : Int32)) dX11_shares_113 (by decide) ?_
          refine z_iadd (pc := 114) dX11_shares_114 ?_
          refine z_istore (pc := 115) (lv' := [(6, .int (x6 + (0 : Int32))), (0, .ref 8), (1, .int x1), (2, .int x2), (4, .null), (7, .int x7)]) dX11_shares_115 (by decide) rfl ?_
          refine z_iinc (pc := 117) (v := x7 + (1 : Int32)) (lv' := [(7, .int (x7 + (1 : Int32))), (6, .int (x6 + (0 : Int32))), (0, .ref 8), (1, .int x1), (2, .int x2), (4, .null)]) 5 dX11_shares_117 rfl rfl (by decide) rfl ?_
          refine z_goto (pc := 120) (tgt := 75) dX11_shares_120 (by decide) ?_
          refine z_lv (lv' := [(0, .ref 8), (1, .int x1), (2, .int x2), (4, .null), (6, .int (x6 + (0 : Int32))), (7, .int (x7 + (1 : Int32)))]) [2, 3, 4, 5, 1, 0] rfl ?_
          exact ih x1 x2 (x6 + (0 : Int32)) (x7 + (1 : Int32))
def f11_shares_J123 (σ : am_S) (N : Nat) (x1 : Int32) (x2 : Int32) (a4 : Nat) (x6 : Int32) : Option Int32 := (f11_shareOf σ a4 x2 x6).bind fun v62 => (some (v62))
theorem z11_shares_J123 {l : Launch} {E : am_E} {d : Nat} {N : Nat} {σ : am_S} (hd : 4 ≤ d) (x1 : Int32) (x2 : Int32) (a4 : Nat) (x6 : Int32) : Z l E msC σ YX11_shares d 0 0 123 [(0, .ref 8), (1, .int x1), (2, .int x2), (4, .ref a4), (6, .int x6)] [] 0 0 σ (f11_shares_J123 σ N x1 x2 a4 x6) (fun u r s => r = some (.int u) ∧ s = σ) := by
  unfold f11_shares_J123
  refine z_aload (pc := 123) 3 dX11_shares_123 rfl ?_
  refine z_ifnull (pc := 125) dX11_shares_125 ?_
  refine z_aload (pc := 128) 3 dX11_shares_128 rfl ?_
  refine z_iload_n (pc := 130) 2 dX11_shares_130 rfl rfl ?_
  refine z_iload (pc := 131) 4 dX11_shares_131 rfl ?_
  refine z_callI (pc := 133) [.ref a4, .int x2, .int x6] [] rfl (lk_S (Yc := YX11_shareOf) (n := 3) dX11_shares_133 rfl np_X11_shareOf mh_RX11 (by decide) ml_RX11_296 st_X11_shareOf in_RX11 cd_X11_shareOf) (Nat.le_trans (by decide) hd) ⟨by decide, by decide⟩ (Nat.le_of_ble_eq_true rfl) (am_kp.rf _) (fun v62 h64 => c11_shareOf h64) (fun v62 h64 => ?_)
  exact z_rI dX11_shares_136 rfl ⟨by decide, by decide⟩
def f11_shares_L75 (σ : am_S) (N : Nat) : Nat → Int32 → Int32 → Nat → Int32 → Int32 → Option Int32
  | 0, _, _, _, _, _ => none
  | n + 1, x1, x2, a4, x6, x7 => if fF σ 8 5 ≤ x7 then (f11_shares_J123 σ N x1 x2 a4 x6) else (if am_in x7 14 = true then ((fQ σ 10 x7.toNatClampNeg).elim (none) (fun a66 => if [2, 3, 5, 6, 7, 9].contains (am_ci σ a66) = true then (if fF σ a66 3 = x1 then (if am_in x7 14 = true then ((fQ σ 10 x7.toNatClampNeg).elim (none) (fun a71 => if [2, 3, 5, 6, 7, 9].contains (am_ci σ a71) = true then ((d_parts σ a71).bind fun v74 => (f11_shares_L75 σ N n x1 x2 a4 (x6 + v74) (x7 + (1 : Int32)))) else none)) else none) else (f11_shares_L75 σ N n x1 x2 a4 (x6 + (0 : Int32)) (x7 + (1 : Int32)))) else none)) else none)
theorem z11_shares_L75 {l : Launch} {E : am_E} {d : Nat} {N : Nat} {σ : am_S} (hd : 4 ≤ d) : ∀ (n : Nat) (x1 : Int32) (x2 : Int32) (a4 : Nat) (x6 : Int32) (x7 : Int32), Z l E msC σ YX11_shares d 0 0 75 [(0, .ref 8), (1, .int x1), (2, .int x2), (4, .ref a4), (6, .int x6), (7, .int x7)] [] 0 0 σ (f11_shares_L75 σ N n x1 x2 a4 x6 x7) (fun u r s => r = some (.int u) ∧ s = σ) := by
  intro n
  induction n with
  | zero => intros; exact z_none
  | succ n ih =>
    intro x1 x2 a4 x6 x7
    unfold f11_shares_L75
    refine z_iload (pc := 75) 5 dX11_shares_75 rfl ?_
    refine z_aload_n (pc := 77) 0 dX11_shares_77 rfl rfl ?_
    refine z_getI (pc := 78) dX11_shares_78 (am_ob.s kC8) fr_RX11_110_11 (by decide) ?_
    refine z_ic_ge (pc := 81) (tgt := 123) dX11_shares_81 (by decide) (fun h61 => ?_) (fun h61 => ?_)
    · refine z_lv (lv' := [(0, .ref 8), (1, .int x1), (2, .int x2), (4, .ref a4), (6, .int x6)]) [0, 1, 2, 3, 4] rfl ?_
      exact z11_shares_J123 hd x1 x2 a4 x6
    · refine z_iload (pc := 84) 4 dX11_shares_84 rfl ?_
      refine z_aload_n (pc := 86) 0 dX11_shares_86 rfl rfl ?_
      refine z_getQ (pc := 87) (b := 10) dX11_shares_87 kC8 fr_RX11_17_11 (by decide) rfl ?_
      refine z_iload (pc := 90) 5 dX11_shares_90 rfl ?_
      refine z_qald (pc := 92) dX11_shares_92 ⟨by decide, by decide⟩ (am_ar.s kC10) (fun h65 => ?_)
      refine z_elim (fun e67 => ?_) (fun a66 e67 => ?_)
      · exact z_none
      · refine z_guard (fun g68 => ?_)
        refine z_getIp (pc := 93) [2, 3, 5, 6, 7, 9] dX11_shares_93 g68 (by decide) fr_RX11_151_p235679 ?_
        refine z_iload_n (pc := 96) 1 dX11_shares_96 rfl rfl ?_
        refine z_ic_ne (pc := 97) (tgt := 113) dX11_shares_97 (by decide) (fun h69 => ?_) (fun h69 => ?_)
        · refine z_aload_n (pc := 100) 0 dX11_shares_100 rfl rfl ?_
          refine z_getQ (pc := 101) (b := 10) dX11_shares_101 kC8 fr_RX11_17_11 (by decide) rfl ?_
          refine z_iload (pc := 104) 5 dX11_shares_104 rfl ?_
          refine z_qald (pc := 106) dX11_shares_106 ⟨by decide, by decide⟩ (am_ar.s kC10) (fun h70 => ?_)
          refine z_elim (fun e72 => ?_) (fun a71 e72 => ?_)
          · exact z_none
          · refine z_guard (fun g73 => ?_)
            refine z_callDI (pc := 107) [.ref a71] [.int x6] rfl ⟨by decide, by decide⟩ (Nat.le_of_ble_eq_true rfl) (fun v hv => by
    rcases d_parts_c hv with ⟨hc, hv⟩ | ⟨hc, hv⟩ | ⟨hc, hv⟩ | ⟨hc, hv⟩ | ⟨hc, hv⟩ | ⟨hc, hv⟩
    · exact ⟨_, _, lk_O (Yc := YX2_parts) (n := 0) (x := yX7_parts) RX7 (Y0 := YX7_parts) dX11_shares_107 rfl rfl (am_ob.d hc (by decide)) rfl rfl np_X7_parts mh_RX7 (by decide) ml_RX11_166 sm_X7_parts_RX7 im_X7_parts cd_X7_parts se_RX2_X7_parts_X2_parts im_X2_parts in_RX2 cd_X2_parts, (Nat.le_trans (by decide) hd), c2_parts hv⟩
    · exact ⟨_, _, lk_O (Yc := YX3_parts) (n := 0) (x := yX7_parts) RX7 (Y0 := YX7_parts) dX11_shares_107 rfl rfl (am_ob.d hc (by decide)) rfl rfl np_X7_parts mh_RX7 (by decide) ml_RX11_166 sm_X7_parts_RX7 im_X7_parts cd_X7_parts se_RX3_X7_parts_X3_parts im_X3_parts in_RX3 cd_X3_parts, (Nat.le_trans (by decide) hd), c3_parts hv⟩
    · exact ⟨_, _, lk_O (Yc := YX5_parts) (n := 0) (x := yX7_parts) RX7 (Y0 := YX7_parts) dX11_shares_107 rfl rfl (am_ob.d hc (by decide)) rfl rfl np_X7_parts mh_RX7 (by decide) ml_RX11_166 sm_X7_parts_RX7 im_X7_parts cd_X7_parts se_RX5_X7_parts_X5_parts im_X5_parts in_RX5 cd_X5_parts, (Nat.le_trans (by decide) hd), c5_parts hv⟩
    · exact ⟨_, _, lk_U (Yc := YX7_parts) (n := 0) (x := yX7_parts) RX7 dX11_shares_107 rfl rfl (am_ob.d hc (by decide)) rfl rfl np_X7_parts mh_RX7 (by decide) ml_RX11_166 sm_X7_parts_RX7 se_RX6_X7_parts_X7_parts im_X7_parts in_RX7 cd_X7_parts, (Nat.le_trans (by decide) hd), c7_parts hv⟩
    · exact ⟨_, _, lk_V (Yc := YX7_parts) (n := 0) dX11_shares_107 rfl rfl (am_ob.d hc (by decide)) rfl rfl np_X7_parts mh_RX7 (by decide) ml_RX11_166 im_X7_parts se_RX7_X7_parts_X7_parts in_RX7 cd_X7_parts, (Nat.le_trans (by decide) hd), c7_parts hv⟩
    · exact ⟨_, _, lk_O (Yc := YX9_parts) (n := 0) (x := yX7_parts) RX7 (Y0 := YX7_parts) dX11_shares_107 rfl rfl (am_ob.d hc (by decide)) rfl rfl np_X7_parts mh_RX7 (by decide) ml_RX11_166 sm_X7_parts_RX7 im_X7_parts cd_X7_parts se_RX9_X7_parts_X9_parts im_X9_parts in_RX9 cd_X9_parts, (Nat.le_trans (by decide) hd), c9_parts hv⟩) (fun v74 h76 => ?_)
            refine z_goto (pc := 110) (tgt := 114) dX11_shares_110 (by decide) ?_
            refine z_iadd (pc := 114) dX11_shares_114 ?_
            refine z_istore (pc := 115) (lv' := [(6, .int (x6 + v74)), (0, .ref 8), (1, .int x1), (2, .int x2), (4, .ref a4), (7, .int x7)]) dX11_shares_115 (by decide) rfl ?_
            refine z_iinc (pc := 117) (v := x7 + (1 : Int32)) (lv' := [(7, .int (x7 + (1 : Int32))), (6, .int (x6 + v74)), (0, .ref 8), (1, .int x1), (2, .int x2), (4, .ref a4)]) 5 dX11_shares_117 rfl rfl (by decide) rfl ?_
            refine z_goto (pc := 120) (tgt := 75) dX11_shares_120 (by decide) ?_
            refine z_lv (lv' := [(0, .ref 8), (1, .int x1), (2, .int x2), (4, .ref a4), (6, .int (x6 + v74)), (7, .int (x7 + (1 : Int32)))]) [2, 3, 4, 5, 1, 0] rfl ?_
            exact ih x1 x2 a4 (x6 + v74) (x7 + (1 : Int32))
        · refine z_iconst (pc := 113) (v := (0 : Int32)) dX11_shares_113 (by decide) ?_
          refine z_iadd (pc := 114) dX11_shares_114 ?_
          refine z_istore (pc := 115) (lv' := [(6, .int (x6 + (0 : Int32))), (0, .ref 8), (1, .int x1), (2, .int x2), (4, .ref a4), (7, .int x7)]) dX11_shares_115 (by decide) rfl ?_
          refine z_iinc (pc := 117) (v := x7 + (1 : Int32)) (lv' := [(7, .int (x7 + (1 : Int32))), (6, .int (x6 + (0 : Int32))), (0, .ref 8), (1, .int x1), (2, .int x2), (4, .ref a4)]) 5 dX11_shares_117 rfl rfl (by decide) rfl ?_
          refine z_goto (pc := 120) (tgt := 75) dX11_shares_120 (by decide) ?_
          refine z_lv (lv' := [(0, .ref 8), (1, .int x1), (2, .int x2), (4, .ref a4), (6, .int (x6 + (0 : Int32))), (7, .int (x7 + (1 : Int32)))]) [2, 3, 4, 5, 1, 0] rfl ?_
          exact ih x1 x2 a4 (x6 + (0 : Int32)) (x7 + (1 : Int32))
def f11_shares (N : Nat) (σ : am_S) (x1 : Int32) (x2 : Int32) (x3 : Int32) : Option Int32 := (f11_rowerAt σ x3).bind fun v1 => (v1.elim (if x3 = (-1 : Int32) then ((f11_crossingAt σ x1.toInt64).bind fun v7 => (v7.elim (some ((-2 : Int32))) (fun a10 => (f11_within x2 (0 : Int32) (99999 : Int32)).bind fun v12 => (if v12 = true then (f11_shares_L75n4 σ N N x1 x2 (0 : Int32) (0 : Int32)) else (some ((-2 : Int32))))))) else ((f11_crossingAt σ x1.toInt64).bind fun v41 => (v41.elim (some ((-2 : Int32))) (fun a44 => (f11_within x2 (0 : Int32) (99999 : Int32)).bind fun v46 => (if v46 = true then (some ((-2 : Int32))) else (some ((-2 : Int32)))))))) (fun a4 => if [2, 3, 5, 6, 7, 9].contains (am_ci σ a4) = true then (if fF σ a4 3 = x1 then ((f11_crossingAt σ x1.toInt64).bind fun v52 => (v52.elim (some ((-2 : Int32))) (fun a55 => (f11_within x2 (0 : Int32) (99999 : Int32)).bind fun v57 => (if v57 = true then (f11_shares_L75 σ N N x1 x2 a4 (0 : Int32) (0 : Int32)) else (some ((-2 : Int32))))))) else ((f11_crossingAt σ x1.toInt64).bind fun v77 => (v77.elim (some ((-2 : Int32))) (fun a80 => (f11_within x2 (0 : Int32) (99999 : Int32)).bind fun v82 => (if v82 = true then (some ((-2 : Int32))) else (some ((-2 : Int32)))))))) else none))
theorem c11_shares {l : Launch} {E : am_E} {N : Nat} {σ : am_S} {x1 : Int32} {x2 : Int32} {x3 : Int32} {v : Int32} (hf : f11_shares N σ x1 x2 x3 = some v) : Ctr l E msC YX11_shares (4) 0 0 [.ref 8, .int x1, .int x2, .int x3] σ (some (.int v)) σ := by
  refine ctr_of (G := fun u r s => r = some (.int u) ∧ s = σ) (by decide +kernel) (Nat.le_of_ble_eq_true rfl) hf ⟨rfl, rfl⟩ (fun d hd => ?_)
  refine z_eqlv (lv' := [(0, .ref 8), (1, .int x1), (2, .int x2), (3, .int x3)]) rfl ?_
  unfold f11_shares
  refine z_aload_n (pc := 0) 0 dX11_shares_0 rfl rfl ?_
  refine z_iload_n (pc := 1) 3 dX11_shares_1 rfl rfl ?_
  refine z_callR (pc := 2) [.ref 8, .int x3] [] rfl (lk_V (Yc := YX11_rowerAt) (n := 1) dX11_shares_2 rfl rfl (am_ob.s kC8) rfl rfl np_X11_rowerAt mh_RX11 (by decide) ml_RX11_106 im_X11_rowerAt se_RX11_X11_rowerAt_X11_rowerAt in_RX11 cd_X11_rowerAt) (Nat.le_trans (by decide) hd) ⟨by decide, by decide⟩ (Nat.le_of_ble_eq_true rfl) (am_kp.rf _) (fun v1 h3 => c11_rowerAt h3) (fun v1 h3 => ?_)
  refine z_elim (fun e5 => ?_) (fun a4 e5 => ?_)
  · refine z_astoreN (pc := 5) (lv' := [(4, .null), (0, .ref 8), (1, .int x1), (2, .int x2), (3, .int x3)]) dX11_shares_5 (by decide) rfl ?_
    refine z_aloadN (pc := 7) 0 dX11_shares_7 rfl ?_
    refine z_ifnonnullN (pc := 9) dX11_shares_9 ?_
    refine z_iload_n (pc := 12) 4 dX11_shares_12 rfl rfl ?_
    refine z_iconst (pc := 13) (v := (-1 : Int32)) dX11_shares_13 (by decide) ?_
    refine z_ic_ne (pc := 14) (tgt := 21) dX11_shares_14 (by decide) (fun h6 => ?_) (fun h6 => ?_)
    · refine z_iconst (pc := 17) (v := (1 : Int32)) dX11_shares_17 (by decide) ?_
      refine z_goto (pc := 18) (tgt := 39) dX11_shares_18 (by decide) ?_
      refine z_istore (pc := 39) (lv' := [(5, .int (1 : Int32)), (4, .null), (0, .ref 8), (1, .int x1), (2, .int x2), (3, .int x3)]) dX11_shares_39 (by decide) rfl ?_
      refine z_aload_n (pc := 41) 2 dX11_shares_41 rfl rfl ?_
      refine z_iload_n (pc := 42) 3 dX11_shares_42 rfl rfl ?_
      refine z_i2l (pc := 43) dX11_shares_43 ?_
      refine z_callR (pc := 44) [.ref 8, .long x1.toInt64] [] rfl (lk_V (Yc := YX11_crossingAt) (n := 1) dX11_shares_44 rfl rfl (am_ob.s kC8) rfl rfl np_X11_crossingAt mh_RX11 (by decide) ml_RX11_87 im_X11_crossingAt se_RX11_X11_crossingAt_X11_crossingAt in_RX11 cd_X11_crossingAt) (Nat.le_trans (by decide) hd) ⟨by decide, by decide⟩ (Nat.le_of_ble_eq_true rfl) (am_kp.rf _) (fun v7 h9 => c11_crossingAt h9) (fun v7 h9 => ?_)
      refine z_elim (fun e11 => ?_) (fun a10 e11 => ?_)
      · refine z_ifnullN (pc := 47) (tgt := 66) dX11_shares_47 (by decide) ?_
        refine z_bipush (pc := 66) (v := (-2 : Int32)) dX11_shares_66 (by decide) ?_
        exact z_rI dX11_shares_68 rfl ⟨by decide, by decide⟩
      · refine z_ifnull (pc := 47) dX11_shares_47 ?_
        refine z_iload_n (pc := 50) 4 dX11_shares_50 rfl rfl ?_
        refine z_iconst (pc := 51) (v := (0 : Int32)) dX11_shares_51 (by decide) ?_
        refine z_ldcw (pc := 52) (v := (99999 : Int32)) dX11_shares_52 ki_RX11_292 ?_
        refine z_callB (pc := 55) [.int x2, .int (0 : Int32), .int (99999 : Int32)] [] rfl (lk_S (Yc := YX11_within) (n := 3) dX11_shares_55 rfl np_X11_within mh_RX11 (by decide) ml_RX11_66 st_X11_within in_RX11 cd_X11_within) (Nat.le_trans (by decide) hd) ⟨by decide, by decide⟩ (Nat.le_of_ble_eq_true rfl) (am_kp.rf _) (fun v12 h14 => c11_within h14) (fun v12 h14 => ?_)
        refine z_bz_eq (pc := 58) (tgt := 66) dX11_shares_58 (by decide) (fun h15 => ?_) (fun h15 => ?_)
        · refine z_iload (pc := 61) 0 dX11_shares_61 rfl ?_
          refine z_if_ne_t (pc := 63) (tgt := 69) dX11_shares_63 (by decide) (by decide) ?_
          refine z_iconst (pc := 69) (v := (0 : Int32)) dX11_shares_69 (by decide) ?_
          refine z_istore (pc := 70) (lv' := [(6, .int (0 : Int32)), (5, .int (1 : Int32)), (4, .null), (0, .ref 8), (1, .int x1), (2, .int x2), (3, .int x3)]) dX11_shares_70 (by decide) rfl ?_
          refine z_iconst (pc := 72) (v := (0 : Int32)) dX11_shares_72 (by decide) ?_
          refine z_istore (pc := 73) (lv' := [(7, .int (0 : Int32)), (6, .int (0 : Int32)), (5, .int (1 : Int32)), (4, .null), (0, .ref 8), (1, .int x1), (2, .int x2), (3, .int x3)]) dX11_shares_73 (by decide) rfl ?_
          refine z_lv (lv' := [(0, .ref 8), (1, .int x1), (2, .int x2), (4, .null), (6, .int (0 : Int32)), (7, .int (0 : Int32))]) [4, 5, 6, 3, 1, 0] rfl ?_
          exact z11_shares_L75n4 hd N x1 x2 (0 : Int32) (0 : Int32)
        · refine z_bipush (pc := 66) (v := (-2 : Int32)) dX11_shares_66 (by decide) ?_
          exact z_rI dX11_shares_68 rfl ⟨by decide, by decide⟩
    · refine z_iconst (pc := 21) (v := (0 : Int32)) dX11_shares_21 (by decide) ?_
      refine z_goto (pc := 22) (tgt := 39) dX11_shares_22 (by decide) ?_
      refine z_istore (pc := 39) (lv' := [(5, .int (0 : Int32)), (4, .null), (0, .ref 8), (1, .int x1), (2, .int x2), (3, .int x3)]) dX11_shares_39 (by decide) rfl ?_
      refine z_aload_n (pc := 41) 2 dX11_shares_41 rfl rfl ?_
      refine z_iload_n (pc := 42) 3 dX11_shares_42 rfl rfl ?_
      refine z_i2l (pc := 43) dX11_shares_43 ?_
      refine z_callR (pc := 44) [.ref 8, .long x1.toInt64] [] rfl (lk_V (Yc := YX11_crossingAt) (n := 1) dX11_shares_44 rfl rfl (am_ob.s kC8) rfl rfl np_X11_crossingAt mh_RX11 (by decide) ml_RX11_87 im_X11_crossingAt se_RX11_X11_crossingAt_X11_crossingAt in_RX11 cd_X11_crossingAt) (Nat.le_trans (by decide) hd) ⟨by decide, by decide⟩ (Nat.le_of_ble_eq_true rfl) (am_kp.rf _) (fun v41 h43 => c11_crossingAt h43) (fun v41 h43 => ?_)
      refine z_elim (fun e45 => ?_) (fun a44 e45 => ?_)
      · refine z_ifnullN (pc := 47) (tgt := 66) dX11_shares_47 (by decide) ?_
        refine z_bipush (pc := 66) (v := (-2 : Int32)) dX11_shares_66 (by decide) ?_
        exact z_rI dX11_shares_68 rfl ⟨by decide, by decide⟩
      · refine z_ifnull (pc := 47) dX11_shares_47 ?_
        refine z_iload_n (pc := 50) 4 dX11_shares_50 rfl rfl ?_
        refine z_iconst (pc := 51) (v := (0 : Int32)) dX11_shares_51 (by decide) ?_
        refine z_ldcw (pc := 52) (v := (99999 : Int32)) dX11_shares_52 ki_RX11_292 ?_
        refine z_callB (pc := 55) [.int x2, .int (0 : Int32), .int (99999 : Int32)] [] rfl (lk_S (Yc := YX11_within) (n := 3) dX11_shares_55 rfl np_X11_within mh_RX11 (by decide) ml_RX11_66 st_X11_within in_RX11 cd_X11_within) (Nat.le_trans (by decide) hd) ⟨by decide, by decide⟩ (Nat.le_of_ble_eq_true rfl) (am_kp.rf _) (fun v46 h48 => c11_within h48) (fun v46 h48 => ?_)
        refine z_bz_eq (pc := 58) (tgt := 66) dX11_shares_58 (by decide) (fun h49 => ?_) (fun h49 => ?_)
        · refine z_iload (pc := 61) 0 dX11_shares_61 rfl ?_
          refine z_if_ne_f (pc := 63) (tgt := 69) dX11_shares_63 (by decide) (by decide) ?_
          refine z_bipush (pc := 66) (v := (-2 : Int32)) dX11_shares_66 (by decide) ?_
          exact z_rI dX11_shares_68 rfl ⟨by decide, by decide⟩
        · refine z_bipush (pc := 66) (v := (-2 : Int32)) dX11_shares_66 (by decide) ?_
          exact z_rI dX11_shares_68 rfl ⟨by decide, by decide⟩
  · refine z_astore (pc := 5) (lv' := [(4, .ref a4), (0, .ref 8), (1, .int x1), (2, .int x2), (3, .int x3)]) dX11_shares_5 (by decide) rfl ?_
    refine z_aload (pc := 7) 0 dX11_shares_7 rfl ?_
    refine z_ifnonnull (pc := 9) (tgt := 25) dX11_shares_9 (by decide) ?_
    refine z_aload (pc := 25) 0 dX11_shares_25 rfl ?_
    refine z_guard (fun g50 => ?_)
    refine z_getIp (pc := 27) [2, 3, 5, 6, 7, 9] dX11_shares_27 g50 (by decide) fr_RX11_151_p235679 ?_
    refine z_iload_n (pc := 30) 2 dX11_shares_30 rfl rfl ?_
    refine z_ic_ne (pc := 31) (tgt := 38) dX11_shares_31 (by decide) (fun h51 => ?_) (fun h51 => ?_)
    · refine z_iconst (pc := 34) (v := (1 : Int32)) dX11_shares_34 (by decide) ?_
      refine z_goto (pc := 35) (tgt := 39) dX11_shares_35 (by decide) ?_
      refine z_istore (pc := 39) (lv' := [(5, .int (1 : Int32)), (4, .ref a4), (0, .ref 8), (1, .int x1), (2, .int x2), (3, .int x3)]) dX11_shares_39 (by decide) rfl ?_
      refine z_aload_n (pc := 41) 2 dX11_shares_41 rfl rfl ?_
      refine z_iload_n (pc := 42) 3 dX11_shares_42 rfl rfl ?_
      refine z_i2l (pc := 43) dX11_shares_43 ?_
      refine z_callR (pc := 44) [.ref 8, .long x1.toInt64] [] rfl (lk_V (Yc := YX11_crossingAt) (n := 1) dX11_shares_44 rfl rfl (am_ob.s kC8) rfl rfl np_X11_crossingAt mh_RX11 (by decide) ml_RX11_87 im_X11_crossingAt se_RX11_X11_crossingAt_X11_crossingAt in_RX11 cd_X11_crossingAt) (Nat.le_trans (by decide) hd) ⟨by decide, by decide⟩ (Nat.le_of_ble_eq_true rfl) (am_kp.rf _) (fun v52 h54 => c11_crossingAt h54) (fun v52 h54 => ?_)
      refine z_elim (fun e56 => ?_) (fun a55 e56 => ?_)
      · refine z_ifnullN (pc := 47) (tgt := 66) dX11_shares_47 (by decide) ?_
        refine z_bipush (pc := 66) (v := (-2 : Int32)) dX11_shares_66 (by decide) ?_
        exact z_rI dX11_shares_68 rfl ⟨by decide, by decide⟩
      · refine z_ifnull (pc := 47) dX11_shares_47 ?_
        refine z_iload_n (pc := 50) 4 dX11_shares_50 rfl rfl ?_
        refine z_iconst (pc := 51) (v := (0 : Int32)) dX11_shares_51 (by decide) ?_
        refine z_ldcw (pc := 52) (v := (99999 : Int32)) dX11_shares_52 ki_RX11_292 ?_
        refine z_callB (pc := 55) [.int x2, .int (0 : Int32), .int (99999 : Int32)] [] rfl (lk_S (Yc := YX11_within) (n := 3) dX11_shares_55 rfl np_X11_within mh_RX11 (by decide) ml_RX11_66 st_X11_within in_RX11 cd_X11_within) (Nat.le_trans (by decide) hd) ⟨by decide, by decide⟩ (Nat.le_of_ble_eq_true rfl) (am_kp.rf _) (fun v57 h59 => c11_within h59) (fun v57 h59 => ?_)
        refine z_bz_eq (pc := 58) (tgt := 66) dX11_shares_58 (by decide) (fun h60 => ?_) (fun h60 => ?_)
        · refine z_iload (pc := 61) 0 dX11_shares_61 rfl ?_
          refine z_if_ne_t (pc := 63) (tgt := 69) dX11_shares_63 (by decide) (by decide) ?_
          refine z_iconst (pc := 69) (v := (0 : Int32)) dX11_shares_69 (by decide) ?_
          refine z_istore (pc := 70) (lv' := [(6, .int (0 : Int32)), (5, .int (1 : Int32)), (4, .ref a4), (0, .ref 8), (1, .int x1), (2, .int x2), (3, .int x3)]) dX11_shares_70 (by decide) rfl ?_
          refine z_iconst (pc := 72) (v := (0 : Int32)) dX11_shares_72 (by decide) ?_
          refine z_istore (pc := 73) (lv' := [(7, .int (0 : Int32)), (6, .int (0 : Int32)), (5, .int (1 : Int32)), (4, .ref a4), (0, .ref 8), (1, .int x1), (2, .int x2), (3, .int x3)]) dX11_shares_73 (by decide) rfl ?_
          refine z_lv (lv' := [(0, .ref 8), (1, .int x1), (2, .int x2), (4, .ref a4), (6, .int (0 : Int32)), (7, .int (0 : Int32))]) [4, 5, 6, 3, 1, 0] rfl ?_
          exact z11_shares_L75 hd N x1 x2 a4 (0 : Int32) (0 : Int32)
        · refine z_bipush (pc := 66) (v := (-2 : Int32)) dX11_shares_66 (by decide) ?_
          exact z_rI dX11_shares_68 rfl ⟨by decide, by decide⟩
    · refine z_iconst (pc := 38) (v := (0 : Int32)) dX11_shares_38 (by decide) ?_
      refine z_istore (pc := 39) (lv' := [(5, .int (0 : Int32)), (4, .ref a4), (0, .ref 8), (1, .int x1), (2, .int x2), (3, .int x3)]) dX11_shares_39 (by decide) rfl ?_
      refine z_aload_n (pc := 41) 2 dX11_shares_41 rfl rfl ?_
      refine z_iload_n (pc := 42) 3 dX11_shares_42 rfl rfl ?_
      refine z_i2l (pc := 43) dX11_shares_43 ?_
      refine z_callR (pc := 44) [.ref 8, .long x1.toInt64] [] rfl (lk_V (Yc := YX11_crossingAt) (n := 1) dX11_shares_44 rfl rfl (am_ob.s kC8) rfl rfl np_X11_crossingAt mh_RX11 (by decide) ml_RX11_87 im_X11_crossingAt se_RX11_X11_crossingAt_X11_crossingAt in_RX11 cd_X11_crossingAt) (Nat.le_trans (by decide) hd) ⟨by decide, by decide⟩ (Nat.le_of_ble_eq_true rfl) (am_kp.rf _) (fun v77 h79 => c11_crossingAt h79) (fun v77 h79 => ?_)
      refine z_elim (fun e81 => ?_) (fun a80 e81 => ?_)
      · refine z_ifnullN (pc := 47) (tgt := 66) dX11_shares_47 (by decide) ?_
        refine z_bipush (pc := 66) (v := (-2 : Int32)) dX11_shares_66 (by decide) ?_
        exact z_rI dX11_shares_68 rfl ⟨by decide, by decide⟩
      · refine z_ifnull (pc := 47) dX11_shares_47 ?_
        refine z_iload_n (pc := 50) 4 dX11_shares_50 rfl rfl ?_
        refine z_iconst (pc := 51) (v := (0 : Int32)) dX11_shares_51 (by decide) ?_
        refine z_ldcw (pc := 52) (v := (99999 : Int32)) dX11_shares_52 ki_RX11_292 ?_
        refine z_callB (pc := 55) [.int x2, .int (0 : Int32), .int (99999 : Int32)] [] rfl (lk_S (Yc := YX11_within) (n := 3) dX11_shares_55 rfl np_X11_within mh_RX11 (by decide) ml_RX11_66 st_X11_within in_RX11 cd_X11_within) (Nat.le_trans (by decide) hd) ⟨by decide, by decide⟩ (Nat.le_of_ble_eq_true rfl) (am_kp.rf _) (fun v82 h84 => c11_within h84) (fun v82 h84 => ?_)
        refine z_bz_eq (pc := 58) (tgt := 66) dX11_shares_58 (by decide) (fun h85 => ?_) (fun h85 => ?_)
        · refine z_iload (pc := 61) 0 dX11_shares_61 rfl ?_
          refine z_if_ne_f (pc := 63) (tgt := 69) dX11_shares_63 (by decide) (by decide) ?_
          refine z_bipush (pc := 66) (v := (-2 : Int32)) dX11_shares_66 (by decide) ?_
          exact z_rI dX11_shares_68 rfl ⟨by decide, by decide⟩
        · refine z_bipush (pc := 66) (v := (-2 : Int32)) dX11_shares_66 (by decide) ?_
          exact z_rI dX11_shares_68 rfl ⟨by decide, by decide⟩
def f11_sheet (N : Nat) (σ : am_S) (x1 : Int32) (x2 : Int32) (x3 : Int32) : Option (Int32 × am_S) := (f11_sheetAt σ x1).bind fun v1 => (v1.elim (some ((-2 : Int32), σ)) (fun a4 => (f11_within x2 (-1 : Int32) (2 : Int32)).bind fun v6 => (if v6 = true then (if x2 = (-1 : Int32) then (if x2 = (-1 : Int32) then (if [8].contains (am_ci σ a4) = true then ((f8_become N σ a4 x2 x3).bind fun s14 => (some ((1 : Int32), s14))) else none) else (if 0 ≤ x3 then (if [8].contains (am_ci σ a4) = true then ((f8_become N σ a4 x2 x3).bind fun s19 => (some ((1 : Int32), s19))) else none) else (some ((-14 : Int32), σ)))) else (if x3 ≤ (40 : Int32) then (if x2 = (-1 : Int32) then (if [8].contains (am_ci σ a4) = true then ((f8_become N σ a4 x2 x3).bind fun s25 => (some ((1 : Int32), s25))) else none) else (if 0 ≤ x3 then (if [8].contains (am_ci σ a4) = true then ((f8_become N σ a4 x2 x3).bind fun s30 => (some ((1 : Int32), s30))) else none) else (some ((-14 : Int32), σ)))) else (some ((-2 : Int32), σ)))) else (some ((-2 : Int32), σ)))))
theorem c11_sheet {l : Launch} {E : am_E} {N : Nat} {σ : am_S} {x1 : Int32} {x2 : Int32} {x3 : Int32} {v : Int32} {σ1 : am_S} (hf : f11_sheet N σ x1 x2 x3 = some (v, σ1)) : Ctr l E msC YX11_sheet (2) 0 0 [.ref 8, .int x1, .int x2, .int x3] σ (some (.int v)) σ1 := by
  refine ctr_of (G := fun u r s => r = some (.int u.1) ∧ s = u.2) (by decide +kernel) (Nat.le_of_ble_eq_true rfl) hf ⟨rfl, rfl⟩ (fun d hd => ?_)
  refine z_eqlv (lv' := [(0, .ref 8), (1, .int x1), (2, .int x2), (3, .int x3)]) rfl ?_
  unfold f11_sheet
  refine z_aload_n (pc := 0) 0 dX11_sheet_0 rfl rfl ?_
  refine z_iload_n (pc := 1) 1 dX11_sheet_1 rfl rfl ?_
  refine z_callR (pc := 2) [.ref 8, .int x1] [] rfl (lk_V (Yc := YX11_sheetAt) (n := 1) dX11_sheet_2 rfl rfl (am_ob.s kC8) rfl rfl np_X11_sheetAt mh_RX11 (by decide) ml_RX11_204 im_X11_sheetAt se_RX11_X11_sheetAt_X11_sheetAt in_RX11 cd_X11_sheetAt) (Nat.le_trans (by decide) hd) ⟨by decide, by decide⟩ (Nat.le_of_ble_eq_true rfl) (am_kp.rf _) (fun v1 h3 => c11_sheetAt h3) (fun v1 h3 => ?_)
  refine z_elim (fun e5 => ?_) (fun a4 e5 => ?_)
  · refine z_astoreN (pc := 5) (lv' := [(4, .null), (0, .ref 8), (1, .int x1), (2, .int x2), (3, .int x3)]) dX11_sheet_5 (by decide) rfl ?_
    refine z_aloadN (pc := 7) 0 dX11_sheet_7 rfl ?_
    refine z_ifnullN (pc := 9) (tgt := 32) dX11_sheet_9 (by decide) ?_
    refine z_bipush (pc := 32) (v := (-2 : Int32)) dX11_sheet_32 (by decide) ?_
    exact z_rIs dX11_sheet_34 rfl ⟨by decide, by decide⟩
  · refine z_astore (pc := 5) (lv' := [(4, .ref a4), (0, .ref 8), (1, .int x1), (2, .int x2), (3, .int x3)]) dX11_sheet_5 (by decide) rfl ?_
    refine z_aload (pc := 7) 0 dX11_sheet_7 rfl ?_
    refine z_ifnull (pc := 9) dX11_sheet_9 ?_
    refine z_iload_n (pc := 12) 3 dX11_sheet_12 rfl rfl ?_
    refine z_iconst (pc := 13) (v := (-1 : Int32)) dX11_sheet_13 (by decide) ?_
    refine z_iconst (pc := 14) (v := (2 : Int32)) dX11_sheet_14 (by decide) ?_
    refine z_callB (pc := 15) [.int x2, .int (-1 : Int32), .int (2 : Int32)] [] rfl (lk_S (Yc := YX11_within) (n := 3) dX11_sheet_15 rfl np_X11_within mh_RX11 (by decide) ml_RX11_66 st_X11_within in_RX11 cd_X11_within) (Nat.le_trans (by decide) hd) ⟨by decide, by decide⟩ (Nat.le_of_ble_eq_true rfl) (am_kp.rf _) (fun v6 h8 => c11_within h8) (fun v6 h8 => ?_)
    refine z_bz_eq (pc := 18) (tgt := 32) dX11_sheet_18 (by decide) (fun h9 => ?_) (fun h9 => ?_)
    · refine z_iload_n (pc := 21) 3 dX11_sheet_21 rfl rfl ?_
      refine z_iconst (pc := 22) (v := (-1 : Int32)) dX11_sheet_22 (by decide) ?_
      refine z_ic_eq (pc := 23) (tgt := 35) dX11_sheet_23 (by decide) (fun h10 => ?_) (fun h10 => ?_)
      · refine z_iload_n (pc := 35) 3 dX11_sheet_35 rfl rfl ?_
        refine z_iconst (pc := 36) (v := (-1 : Int32)) dX11_sheet_36 (by decide) ?_
        refine z_ic_eq (pc := 37) (tgt := 47) dX11_sheet_37 (by decide) (fun h11 => ?_) (fun h11 => ?_)
        · refine z_aload (pc := 47) 0 dX11_sheet_47 rfl ?_
          refine z_iload_n (pc := 49) 3 dX11_sheet_49 rfl rfl ?_
          refine z_iload_n (pc := 50) 4 dX11_sheet_50 rfl rfl ?_
          refine z_guard (fun g12 => ?_)
          refine z_callVs (pc := 51) [.ref a4, .int x2, .int x3] [] rfl (lk_V (Yc := YX8_become) (n := 2) dX11_sheet_51 rfl rfl (am_ob.d (am_c1 g12) (by decide)) rfl rfl np_X8_become mh_RX8 (by decide) ml_RX11_342 im_X8_become se_RX8_X8_become_X8_become in_RX8 cd_X8_become) (Nat.le_trans (by decide) hd) ⟨by decide, by decide⟩ (Nat.le_of_ble_eq_true rfl) (am_kp.rf _) (fun s14 h15 => c8_become h15) (fun s14 h15 => ?_)
          refine z_iconst (pc := 54) (v := (1 : Int32)) dX11_sheet_54 (by decide) ?_
          exact z_rIs dX11_sheet_55 rfl ⟨by decide, by decide⟩
        · refine z_iload_n (pc := 40) 4 dX11_sheet_40 rfl rfl ?_
          refine z_if_ge (pc := 41) (tgt := 47) dX11_sheet_41 (by decide) (fun h16 => ?_) (fun h16 => ?_)
          · refine z_aload (pc := 47) 0 dX11_sheet_47 rfl ?_
            refine z_iload_n (pc := 49) 3 dX11_sheet_49 rfl rfl ?_
            refine z_iload_n (pc := 50) 4 dX11_sheet_50 rfl rfl ?_
            refine z_guard (fun g17 => ?_)
            refine z_callVs (pc := 51) [.ref a4, .int x2, .int x3] [] rfl (lk_V (Yc := YX8_become) (n := 2) dX11_sheet_51 rfl rfl (am_ob.d (am_c1 g17) (by decide)) rfl rfl np_X8_become mh_RX8 (by decide) ml_RX11_342 im_X8_become se_RX8_X8_become_X8_become in_RX8 cd_X8_become) (Nat.le_trans (by decide) hd) ⟨by decide, by decide⟩ (Nat.le_of_ble_eq_true rfl) (am_kp.rf _) (fun s19 h20 => c8_become h20) (fun s19 h20 => ?_)
            refine z_iconst (pc := 54) (v := (1 : Int32)) dX11_sheet_54 (by decide) ?_
            exact z_rIs dX11_sheet_55 rfl ⟨by decide, by decide⟩
          · refine z_bipush (pc := 44) (v := (-14 : Int32)) dX11_sheet_44 (by decide) ?_
            exact z_rIs dX11_sheet_46 rfl ⟨by decide, by decide⟩
      · refine z_iload_n (pc := 26) 4 dX11_sheet_26 rfl rfl ?_
        refine z_bipush (pc := 27) (v := (40 : Int32)) dX11_sheet_27 (by decide) ?_
        refine z_ic_le (pc := 29) (tgt := 35) dX11_sheet_29 (by decide) (fun h21 => ?_) (fun h21 => ?_)
        · refine z_iload_n (pc := 35) 3 dX11_sheet_35 rfl rfl ?_
          refine z_iconst (pc := 36) (v := (-1 : Int32)) dX11_sheet_36 (by decide) ?_
          refine z_ic_eq (pc := 37) (tgt := 47) dX11_sheet_37 (by decide) (fun h22 => ?_) (fun h22 => ?_)
          · refine z_aload (pc := 47) 0 dX11_sheet_47 rfl ?_
            refine z_iload_n (pc := 49) 3 dX11_sheet_49 rfl rfl ?_
            refine z_iload_n (pc := 50) 4 dX11_sheet_50 rfl rfl ?_
            refine z_guard (fun g23 => ?_)
            refine z_callVs (pc := 51) [.ref a4, .int x2, .int x3] [] rfl (lk_V (Yc := YX8_become) (n := 2) dX11_sheet_51 rfl rfl (am_ob.d (am_c1 g23) (by decide)) rfl rfl np_X8_become mh_RX8 (by decide) ml_RX11_342 im_X8_become se_RX8_X8_become_X8_become in_RX8 cd_X8_become) (Nat.le_trans (by decide) hd) ⟨by decide, by decide⟩ (Nat.le_of_ble_eq_true rfl) (am_kp.rf _) (fun s25 h26 => c8_become h26) (fun s25 h26 => ?_)
            refine z_iconst (pc := 54) (v := (1 : Int32)) dX11_sheet_54 (by decide) ?_
            exact z_rIs dX11_sheet_55 rfl ⟨by decide, by decide⟩
          · refine z_iload_n (pc := 40) 4 dX11_sheet_40 rfl rfl ?_
            refine z_if_ge (pc := 41) (tgt := 47) dX11_sheet_41 (by decide) (fun h27 => ?_) (fun h27 => ?_)
            · refine z_aload (pc := 47) 0 dX11_sheet_47 rfl ?_
              refine z_iload_n (pc := 49) 3 dX11_sheet_49 rfl rfl ?_
              refine z_iload_n (pc := 50) 4 dX11_sheet_50 rfl rfl ?_
              refine z_guard (fun g28 => ?_)
              refine z_callVs (pc := 51) [.ref a4, .int x2, .int x3] [] rfl (lk_V (Yc := YX8_become) (n := 2) dX11_sheet_51 rfl rfl (am_ob.d (am_c1 g28) (by decide)) rfl rfl np_X8_become mh_RX8 (by decide) ml_RX11_342 im_X8_become se_RX8_X8_become_X8_become in_RX8 cd_X8_become) (Nat.le_trans (by decide) hd) ⟨by decide, by decide⟩ (Nat.le_of_ble_eq_true rfl) (am_kp.rf _) (fun s30 h31 => c8_become h31) (fun s30 h31 => ?_)
              refine z_iconst (pc := 54) (v := (1 : Int32)) dX11_sheet_54 (by decide) ?_
              exact z_rIs dX11_sheet_55 rfl ⟨by decide, by decide⟩
            · refine z_bipush (pc := 44) (v := (-14 : Int32)) dX11_sheet_44 (by decide) ?_
              exact z_rIs dX11_sheet_46 rfl ⟨by decide, by decide⟩
        · refine z_bipush (pc := 32) (v := (-2 : Int32)) dX11_sheet_32 (by decide) ?_
          exact z_rIs dX11_sheet_34 rfl ⟨by decide, by decide⟩
    · refine z_bipush (pc := 32) (v := (-2 : Int32)) dX11_sheet_32 (by decide) ?_
      exact z_rIs dX11_sheet_34 rfl ⟨by decide, by decide⟩
def f11_taken (σ : am_S) (x1 : Int32) (x2 : Int32) : Option Int32 := (f11_within x2 (0 : Int32) (5 : Int32)).bind fun v1 => (if v1 = true then ((f11_rowerAt σ x1).bind fun v5 => (v5.elim (some ((-11 : Int32))) (fun a8 => (f11_isUnder σ a8 x2).bind fun v10 => (if v10 = true then (if [2, 3, 5, 6, 7, 9].contains (am_ci σ a8) = true then (some (fF σ a8 2)) else none) else (some ((-13 : Int32))))))) else (some ((-2 : Int32))))
theorem c11_taken {l : Launch} {E : am_E} {σ : am_S} {x1 : Int32} {x2 : Int32} {v : Int32} (hf : f11_taken σ x1 x2 = some v) : Ctr l E msC YX11_taken (1) 0 0 [.ref 8, .int x1, .int x2] σ (some (.int v)) σ := by
  refine ctr_of (G := fun u r s => r = some (.int u) ∧ s = σ) (by decide +kernel) (Nat.le_of_ble_eq_true rfl) hf ⟨rfl, rfl⟩ (fun d hd => ?_)
  refine z_eqlv (lv' := [(0, .ref 8), (1, .int x1), (2, .int x2)]) rfl ?_
  unfold f11_taken
  refine z_iload_n (pc := 0) 2 dX11_taken_0 rfl rfl ?_
  refine z_iconst (pc := 1) (v := (0 : Int32)) dX11_taken_1 (by decide) ?_
  refine z_iconst (pc := 2) (v := (5 : Int32)) dX11_taken_2 (by decide) ?_
  refine z_callB (pc := 3) [.int x2, .int (0 : Int32), .int (5 : Int32)] [] rfl (lk_S (Yc := YX11_within) (n := 3) dX11_taken_3 rfl np_X11_within mh_RX11 (by decide) ml_RX11_66 st_X11_within in_RX11 cd_X11_within) (Nat.le_trans (by decide) hd) ⟨by decide, by decide⟩ (Nat.le_of_ble_eq_true rfl) (am_kp.rf _) (fun v1 h3 => c11_within h3) (fun v1 h3 => ?_)
  refine z_bz_ne (pc := 6) (tgt := 12) dX11_taken_6 (by decide) (fun h4 => ?_) (fun h4 => ?_)
  · refine z_aload_n (pc := 12) 0 dX11_taken_12 rfl rfl ?_
    refine z_iload_n (pc := 13) 1 dX11_taken_13 rfl rfl ?_
    refine z_callR (pc := 14) [.ref 8, .int x1] [] rfl (lk_V (Yc := YX11_rowerAt) (n := 1) dX11_taken_14 rfl rfl (am_ob.s kC8) rfl rfl np_X11_rowerAt mh_RX11 (by decide) ml_RX11_106 im_X11_rowerAt se_RX11_X11_rowerAt_X11_rowerAt in_RX11 cd_X11_rowerAt) (Nat.le_trans (by decide) hd) ⟨by decide, by decide⟩ (Nat.le_of_ble_eq_true rfl) (am_kp.rf _) (fun v5 h7 => c11_rowerAt h7) (fun v5 h7 => ?_)
    refine z_elim (fun e9 => ?_) (fun a8 e9 => ?_)
    · refine z_astore_nN (pc := 17) (lv' := [(3, .null), (0, .ref 8), (1, .int x1), (2, .int x2)]) dX11_taken_17 rfl (by decide) rfl ?_
      refine z_aload_nN (pc := 18) 0 dX11_taken_18 rfl rfl ?_
      refine z_ifnonnullN (pc := 19) dX11_taken_19 ?_
      refine z_bipush (pc := 22) (v := (-11 : Int32)) dX11_taken_22 (by decide) ?_
      exact z_rI dX11_taken_24 rfl ⟨by decide, by decide⟩
    · refine z_astore_n (pc := 17) (lv' := [(3, .ref a8), (0, .ref 8), (1, .int x1), (2, .int x2)]) dX11_taken_17 rfl (by decide) rfl ?_
      refine z_aload_n (pc := 18) 0 dX11_taken_18 rfl rfl ?_
      refine z_ifnonnull (pc := 19) (tgt := 25) dX11_taken_19 (by decide) ?_
      refine z_aload_n (pc := 25) 0 dX11_taken_25 rfl rfl ?_
      refine z_iload_n (pc := 26) 3 dX11_taken_26 rfl rfl ?_
      refine z_callB (pc := 27) [.ref a8, .int x2] [] rfl (lk_S (Yc := YX11_isUnder) (n := 2) dX11_taken_27 rfl np_X11_isUnder mh_RX11 (by decide) ml_RX11_367 st_X11_isUnder in_RX11 cd_X11_isUnder) (Nat.le_trans (by decide) hd) ⟨by decide, by decide⟩ (Nat.le_of_ble_eq_true rfl) (am_kp.rf _) (fun v10 h12 => c11_isUnder h12) (fun v10 h12 => ?_)
      refine z_bz_eq (pc := 30) (tgt := 40) dX11_taken_30 (by decide) (fun h13 => ?_) (fun h13 => ?_)
      · refine z_aload_n (pc := 33) 0 dX11_taken_33 rfl rfl ?_
        refine z_guard (fun g14 => ?_)
        refine z_getIp (pc := 34) [2, 3, 5, 6, 7, 9] dX11_taken_34 g14 (by decide) fr_RX11_148_p235679 ?_
        refine z_goto (pc := 37) (tgt := 42) dX11_taken_37 (by decide) ?_
        exact z_rI dX11_taken_42 rfl ⟨by decide, by decide⟩
      · refine z_bipush (pc := 40) (v := (-13 : Int32)) dX11_taken_40 (by decide) ?_
        exact z_rI dX11_taken_42 rfl ⟨by decide, by decide⟩
  · refine z_bipush (pc := 9) (v := (-2 : Int32)) dX11_taken_9 (by decide) ?_
    exact z_rI dX11_taken_11 rfl ⟨by decide, by decide⟩
def f11_takes (σ : am_S) (x1 : Int32) (x2 : Int32) : Option Int32 := (f11_crossingAt σ x1.toInt64).bind fun v1 => (v1.elim ((f11_oneOf σ x2).bind fun v6 => (v6.elim ((f11_otherOf σ x2).bind fun v11 => (v11.elim (some ((-2 : Int32))) (fun a14 => some ((-2 : Int32))))) (fun a9 => (f11_otherOf σ x2).bind fun v16 => (v16.elim (some ((-2 : Int32))) (fun a19 => some ((-2 : Int32))))))) (fun a4 => (f11_oneOf σ x2).bind fun v21 => (v21.elim ((f11_otherOf σ x2).bind fun v26 => (v26.elim (some ((-2 : Int32))) (fun a29 => some ((-2 : Int32))))) (fun a24 => (f11_otherOf σ x2).bind fun v31 => (v31.elim (some ((-2 : Int32))) (fun a34 => if [2, 3, 5, 6, 7, 9].contains (am_ci σ a24) = true then (if [2, 3, 5, 6, 7, 9].contains (am_ci σ a34) = true then (if a24 = a34 then (some ((-2 : Int32))) else (if [1].contains (am_ci σ a4) = true then ((f7_toldPace σ a24).bind fun v40 => ((f7_toldPace σ a34).bind fun v43 => (if (1 : Int32) ≤ v40 + v43 then (if v40 + v43 = 0 then none else (some (((((fF σ a4 0) + ((2 : Int32) * (fF σ 8 1))) + (v40 + v43)) - (1 : Int32)) / (v40 + v43)))) else (some ((-2 : Int32)))))) else none)) else none) else none))))))
theorem c11_takes {l : Launch} {E : am_E} {σ : am_S} {x1 : Int32} {x2 : Int32} {v : Int32} (hf : f11_takes σ x1 x2 = some v) : Ctr l E msC YX11_takes (4) 0 0 [.ref 8, .int x1, .int x2] σ (some (.int v)) σ := by
  refine ctr_of (G := fun u r s => r = some (.int u) ∧ s = σ) (by decide +kernel) (Nat.le_of_ble_eq_true rfl) hf ⟨rfl, rfl⟩ (fun d hd => ?_)
  refine z_eqlv (lv' := [(0, .ref 8), (1, .int x1), (2, .int x2)]) rfl ?_
  unfold f11_takes
  refine z_aload_n (pc := 0) 0 dX11_takes_0 rfl rfl ?_
  refine z_iload_n (pc := 1) 1 dX11_takes_1 rfl rfl ?_
  refine z_i2l (pc := 2) dX11_takes_2 ?_
  refine z_callR (pc := 3) [.ref 8, .long x1.toInt64] [] rfl (lk_V (Yc := YX11_crossingAt) (n := 1) dX11_takes_3 rfl rfl (am_ob.s kC8) rfl rfl np_X11_crossingAt mh_RX11 (by decide) ml_RX11_87 im_X11_crossingAt se_RX11_X11_crossingAt_X11_crossingAt in_RX11 cd_X11_crossingAt) (Nat.le_trans (by decide) hd) ⟨by decide, by decide⟩ (Nat.le_of_ble_eq_true rfl) (am_kp.rf _) (fun v1 h3 => c11_crossingAt h3) (fun v1 h3 => ?_)
  refine z_elim (fun e5 => ?_) (fun a4 e5 => ?_)
  · refine z_astore_nN (pc := 6) (lv' := [(3, .null), (0, .ref 8), (1, .int x1), (2, .int x2)]) dX11_takes_6 rfl (by decide) rfl ?_
    refine z_aload_n (pc := 7) 1 dX11_takes_7 rfl rfl ?_
    refine z_iload_n (pc := 8) 3 dX11_takes_8 rfl rfl ?_
    refine z_callR (pc := 9) [.ref 8, .int x2] [] rfl (lk_V (Yc := YX11_oneOf) (n := 1) dX11_takes_9 rfl rfl (am_ob.s kC8) rfl rfl np_X11_oneOf mh_RX11 (by decide) ml_RX11_183 im_X11_oneOf se_RX11_X11_oneOf_X11_oneOf in_RX11 cd_X11_oneOf) (Nat.le_trans (by decide) hd) ⟨by decide, by decide⟩ (Nat.le_of_ble_eq_true rfl) (am_kp.rf _) (fun v6 h8 => c11_oneOf h8) (fun v6 h8 => ?_)
    refine z_elim (fun e10 => ?_) (fun a9 e10 => ?_)
    · refine z_astoreN (pc := 12) (lv' := [(4, .null), (3, .null), (0, .ref 8), (1, .int x1), (2, .int x2)]) dX11_takes_12 (by decide) rfl ?_
      refine z_aload_n (pc := 14) 2 dX11_takes_14 rfl rfl ?_
      refine z_iload_n (pc := 15) 4 dX11_takes_15 rfl rfl ?_
      refine z_callR (pc := 16) [.ref 8, .int x2] [] rfl (lk_V (Yc := YX11_otherOf) (n := 1) dX11_takes_16 rfl rfl (am_ob.s kC8) rfl rfl np_X11_otherOf mh_RX11 (by decide) ml_RX11_186 im_X11_otherOf se_RX11_X11_otherOf_X11_otherOf in_RX11 cd_X11_otherOf) (Nat.le_trans (by decide) hd) ⟨by decide, by decide⟩ (Nat.le_of_ble_eq_true rfl) (am_kp.rf _) (fun v11 h13 => c11_otherOf h13) (fun v11 h13 => ?_)
      refine z_elim (fun e15 => ?_) (fun a14 e15 => ?_)
      · refine z_astoreN (pc := 19) (lv' := [(5, .null), (4, .null), (3, .null), (0, .ref 8), (1, .int x1), (2, .int x2)]) dX11_takes_19 (by decide) rfl ?_
        refine z_aload_nN (pc := 21) 2 dX11_takes_21 rfl rfl ?_
        refine z_ifnullN (pc := 22) (tgt := 42) dX11_takes_22 (by decide) ?_
        refine z_bipush (pc := 42) (v := (-2 : Int32)) dX11_takes_42 (by decide) ?_
        exact z_rI dX11_takes_44 rfl ⟨by decide, by decide⟩
      · refine z_astore (pc := 19) (lv' := [(5, .ref a14), (4, .null), (3, .null), (0, .ref 8), (1, .int x1), (2, .int x2)]) dX11_takes_19 (by decide) rfl ?_
        refine z_aload_nN (pc := 21) 2 dX11_takes_21 rfl rfl ?_
        refine z_ifnullN (pc := 22) (tgt := 42) dX11_takes_22 (by decide) ?_
        refine z_bipush (pc := 42) (v := (-2 : Int32)) dX11_takes_42 (by decide) ?_
        exact z_rI dX11_takes_44 rfl ⟨by decide, by decide⟩
    · refine z_astore (pc := 12) (lv' := [(4, .ref a9), (3, .null), (0, .ref 8), (1, .int x1), (2, .int x2)]) dX11_takes_12 (by decide) rfl ?_
      refine z_aload_n (pc := 14) 2 dX11_takes_14 rfl rfl ?_
      refine z_iload_n (pc := 15) 4 dX11_takes_15 rfl rfl ?_
      refine z_callR (pc := 16) [.ref 8, .int x2] [] rfl (lk_V (Yc := YX11_otherOf) (n := 1) dX11_takes_16 rfl rfl (am_ob.s kC8) rfl rfl np_X11_otherOf mh_RX11 (by decide) ml_RX11_186 im_X11_otherOf se_RX11_X11_otherOf_X11_otherOf in_RX11 cd_X11_otherOf) (Nat.le_trans (by decide) hd) ⟨by decide, by decide⟩ (Nat.le_of_ble_eq_true rfl) (am_kp.rf _) (fun v16 h18 => c11_otherOf h18) (fun v16 h18 => ?_)
      refine z_elim (fun e20 => ?_) (fun a19 e20 => ?_)
      · refine z_astoreN (pc := 19) (lv' := [(5, .null), (4, .ref a9), (3, .null), (0, .ref 8), (1, .int x1), (2, .int x2)]) dX11_takes_19 (by decide) rfl ?_
        refine z_aload_nN (pc := 21) 2 dX11_takes_21 rfl rfl ?_
        refine z_ifnullN (pc := 22) (tgt := 42) dX11_takes_22 (by decide) ?_
        refine z_bipush (pc := 42) (v := (-2 : Int32)) dX11_takes_42 (by decide) ?_
        exact z_rI dX11_takes_44 rfl ⟨by decide, by decide⟩
      · refine z_astore (pc := 19) (lv' := [(5, .ref a19), (4, .ref a9), (3, .null), (0, .ref 8), (1, .int x1), (2, .int x2)]) dX11_takes_19 (by decide) rfl ?_
        refine z_aload_nN (pc := 21) 2 dX11_takes_21 rfl rfl ?_
        refine z_ifnullN (pc := 22) (tgt := 42) dX11_takes_22 (by decide) ?_
        refine z_bipush (pc := 42) (v := (-2 : Int32)) dX11_takes_42 (by decide) ?_
        exact z_rI dX11_takes_44 rfl ⟨by decide, by decide⟩
  · refine z_astore_n (pc := 6) (lv' := [(3, .ref a4), (0, .ref 8), (1, .int x1), (2, .int x2)]) dX11_takes_6 rfl (by decide) rfl ?_
    refine z_aload_n (pc := 7) 1 dX11_takes_7 rfl rfl ?_
    refine z_iload_n (pc := 8) 3 dX11_takes_8 rfl rfl ?_
    refine z_callR (pc := 9) [.ref 8, .int x2] [] rfl (lk_V (Yc := YX11_oneOf) (n := 1) dX11_takes_9 rfl rfl (am_ob.s kC8) rfl rfl np_X11_oneOf mh_RX11 (by decide) ml_RX11_183 im_X11_oneOf se_RX11_X11_oneOf_X11_oneOf in_RX11 cd_X11_oneOf) (Nat.le_trans (by decide) hd) ⟨by decide, by decide⟩ (Nat.le_of_ble_eq_true rfl) (am_kp.rf _) (fun v21 h23 => c11_oneOf h23) (fun v21 h23 => ?_)
    refine z_elim (fun e25 => ?_) (fun a24 e25 => ?_)
    · refine z_astoreN (pc := 12) (lv' := [(4, .null), (3, .ref a4), (0, .ref 8), (1, .int x1), (2, .int x2)]) dX11_takes_12 (by decide) rfl ?_
      refine z_aload_n (pc := 14) 2 dX11_takes_14 rfl rfl ?_
      refine z_iload_n (pc := 15) 4 dX11_takes_15 rfl rfl ?_
      refine z_callR (pc := 16) [.ref 8, .int x2] [] rfl (lk_V (Yc := YX11_otherOf) (n := 1) dX11_takes_16 rfl rfl (am_ob.s kC8) rfl rfl np_X11_otherOf mh_RX11 (by decide) ml_RX11_186 im_X11_otherOf se_RX11_X11_otherOf_X11_otherOf in_RX11 cd_X11_otherOf) (Nat.le_trans (by decide) hd) ⟨by decide, by decide⟩ (Nat.le_of_ble_eq_true rfl) (am_kp.rf _) (fun v26 h28 => c11_otherOf h28) (fun v26 h28 => ?_)
      refine z_elim (fun e30 => ?_) (fun a29 e30 => ?_)
      · refine z_astoreN (pc := 19) (lv' := [(5, .null), (4, .null), (3, .ref a4), (0, .ref 8), (1, .int x1), (2, .int x2)]) dX11_takes_19 (by decide) rfl ?_
        refine z_aload_n (pc := 21) 2 dX11_takes_21 rfl rfl ?_
        refine z_ifnull (pc := 22) dX11_takes_22 ?_
        refine z_aloadN (pc := 25) 1 dX11_takes_25 rfl ?_
        refine z_ifnullN (pc := 27) (tgt := 42) dX11_takes_27 (by decide) ?_
        refine z_bipush (pc := 42) (v := (-2 : Int32)) dX11_takes_42 (by decide) ?_
        exact z_rI dX11_takes_44 rfl ⟨by decide, by decide⟩
      · refine z_astore (pc := 19) (lv' := [(5, .ref a29), (4, .null), (3, .ref a4), (0, .ref 8), (1, .int x1), (2, .int x2)]) dX11_takes_19 (by decide) rfl ?_
        refine z_aload_n (pc := 21) 2 dX11_takes_21 rfl rfl ?_
        refine z_ifnull (pc := 22) dX11_takes_22 ?_
        refine z_aloadN (pc := 25) 1 dX11_takes_25 rfl ?_
        refine z_ifnullN (pc := 27) (tgt := 42) dX11_takes_27 (by decide) ?_
        refine z_bipush (pc := 42) (v := (-2 : Int32)) dX11_takes_42 (by decide) ?_
        exact z_rI dX11_takes_44 rfl ⟨by decide, by decide⟩
    · refine z_astore (pc := 12) (lv' := [(4, .ref a24), (3, .ref a4), (0, .ref 8), (1, .int x1), (2, .int x2)]) dX11_takes_12 (by decide) rfl ?_
      refine z_aload_n (pc := 14) 2 dX11_takes_14 rfl rfl ?_
      refine z_iload_n (pc := 15) 4 dX11_takes_15 rfl rfl ?_
      refine z_callR (pc := 16) [.ref 8, .int x2] [] rfl (lk_V (Yc := YX11_otherOf) (n := 1) dX11_takes_16 rfl rfl (am_ob.s kC8) rfl rfl np_X11_otherOf mh_RX11 (by decide) ml_RX11_186 im_X11_otherOf se_RX11_X11_otherOf_X11_otherOf in_RX11 cd_X11_otherOf) (Nat.le_trans (by decide) hd) ⟨by decide, by decide⟩ (Nat.le_of_ble_eq_true rfl) (am_kp.rf _) (fun v31 h33 => c11_otherOf h33) (fun v31 h33 => ?_)
      refine z_elim (fun e35 => ?_) (fun a34 e35 => ?_)
      · refine z_astoreN (pc := 19) (lv' := [(5, .null), (4, .ref a24), (3, .ref a4), (0, .ref 8), (1, .int x1), (2, .int x2)]) dX11_takes_19 (by decide) rfl ?_
        refine z_aload_n (pc := 21) 2 dX11_takes_21 rfl rfl ?_
        refine z_ifnull (pc := 22) dX11_takes_22 ?_
        refine z_aload (pc := 25) 1 dX11_takes_25 rfl ?_
        refine z_ifnull (pc := 27) dX11_takes_27 ?_
        refine z_aloadN (pc := 30) 0 dX11_takes_30 rfl ?_
        refine z_ifnullN (pc := 32) (tgt := 42) dX11_takes_32 (by decide) ?_
        refine z_bipush (pc := 42) (v := (-2 : Int32)) dX11_takes_42 (by decide) ?_
        exact z_rI dX11_takes_44 rfl ⟨by decide, by decide⟩
      · refine z_astore (pc := 19) (lv' := [(5, .ref a34), (4, .ref a24), (3, .ref a4), (0, .ref 8), (1, .int x1), (2, .int x2)]) dX11_takes_19 (by decide) rfl ?_
        refine z_aload_n (pc := 21) 2 dX11_takes_21 rfl rfl ?_
        refine z_ifnull (pc := 22) dX11_takes_22 ?_
        refine z_aload (pc := 25) 1 dX11_takes_25 rfl ?_
        refine z_ifnull (pc := 27) dX11_takes_27 ?_
        refine z_aload (pc := 30) 0 dX11_takes_30 rfl ?_
        refine z_ifnull (pc := 32) dX11_takes_32 ?_
        refine z_aload (pc := 35) 1 dX11_takes_35 rfl ?_
        refine z_aload (pc := 37) 0 dX11_takes_37 rfl ?_
        refine z_guard (fun g36 => ?_)
        refine z_guard (fun g37 => ?_)
        refine z_acne (pc := 39) (tgt := 45) dX11_takes_39 (by decide) (am_cis_ob g36 (by decide)) (am_cis_ob g37 (by decide)) (fun h38 => ?_) (fun h38 => ?_)
        · refine z_bipush (pc := 42) (v := (-2 : Int32)) dX11_takes_42 (by decide) ?_
          exact z_rI dX11_takes_44 rfl ⟨by decide, by decide⟩
        · refine z_aload_n (pc := 45) 2 dX11_takes_45 rfl rfl ?_
          refine z_guard (fun g39 => ?_)
          refine z_getIp (pc := 46) [1] dX11_takes_46 g39 (by decide) fr_RX11_197_p1 ?_
          refine z_iconst (pc := 49) (v := (2 : Int32)) dX11_takes_49 (by decide) ?_
          refine z_aload_n (pc := 50) 3 dX11_takes_50 rfl rfl ?_
          refine z_getI (pc := 51) dX11_takes_51 (am_ob.s kC8) fr_RX11_103_11 (by decide) ?_
          refine z_imul (pc := 54) dX11_takes_54 ?_
          refine z_iadd (pc := 55) dX11_takes_55 ?_
          refine z_istore (pc := 56) (lv' := [(6, .int ((fF σ a4 0) + ((2 : Int32) * (fF σ 8 1)))), (5, .ref a34), (4, .ref a24), (3, .ref a4), (0, .ref 8), (1, .int x1), (2, .int x2)]) dX11_takes_56 (by decide) rfl ?_
          refine z_aload (pc := 58) 2 dX11_takes_58 rfl ?_
          refine z_callDI (pc := 60) [.ref a24] [] rfl ⟨by decide, by decide⟩ (Nat.le_of_ble_eq_true rfl) (fun v hv => by
    rcases am_cs6 g36 with hc | hc | hc | hc | hc | hc
    · exact ⟨_, _, lk_U (Yc := YX7_toldPace) (n := 0) (x := yX7_toldPace) RX7 dX11_takes_60 rfl rfl (am_ob.d hc (by decide)) rfl rfl np_X7_toldPace mh_RX7 (by decide) ml_RX11_160 sm_X7_toldPace_RX7 se_RX2_X7_toldPace_X7_toldPace im_X7_toldPace in_RX7 cd_X7_toldPace, (Nat.le_trans (by decide) hd), c7_toldPace hv⟩
    · exact ⟨_, _, lk_U (Yc := YX7_toldPace) (n := 0) (x := yX7_toldPace) RX7 dX11_takes_60 rfl rfl (am_ob.d hc (by decide)) rfl rfl np_X7_toldPace mh_RX7 (by decide) ml_RX11_160 sm_X7_toldPace_RX7 se_RX3_X7_toldPace_X7_toldPace im_X7_toldPace in_RX7 cd_X7_toldPace, (Nat.le_trans (by decide) hd), c7_toldPace hv⟩
    · exact ⟨_, _, lk_U (Yc := YX7_toldPace) (n := 0) (x := yX7_toldPace) RX7 dX11_takes_60 rfl rfl (am_ob.d hc (by decide)) rfl rfl np_X7_toldPace mh_RX7 (by decide) ml_RX11_160 sm_X7_toldPace_RX7 se_RX5_X7_toldPace_X7_toldPace im_X7_toldPace in_RX7 cd_X7_toldPace, (Nat.le_trans (by decide) hd), c7_toldPace hv⟩
    · exact ⟨_, _, lk_U (Yc := YX7_toldPace) (n := 0) (x := yX7_toldPace) RX7 dX11_takes_60 rfl rfl (am_ob.d hc (by decide)) rfl rfl np_X7_toldPace mh_RX7 (by decide) ml_RX11_160 sm_X7_toldPace_RX7 se_RX6_X7_toldPace_X7_toldPace im_X7_toldPace in_RX7 cd_X7_toldPace, (Nat.le_trans (by decide) hd), c7_toldPace hv⟩
    · exact ⟨_, _, lk_V (Yc := YX7_toldPace) (n := 0) dX11_takes_60 rfl rfl (am_ob.d hc (by decide)) rfl rfl np_X7_toldPace mh_RX7 (by decide) ml_RX11_160 im_X7_toldPace se_RX7_X7_toldPace_X7_toldPace in_RX7 cd_X7_toldPace, (Nat.le_trans (by decide) hd), c7_toldPace hv⟩
    · exact ⟨_, _, lk_U (Yc := YX7_toldPace) (n := 0) (x := yX7_toldPace) RX7 dX11_takes_60 rfl rfl (am_ob.d hc (by decide)) rfl rfl np_X7_toldPace mh_RX7 (by decide) ml_RX11_160 sm_X7_toldPace_RX7 se_RX9_X7_toldPace_X7_toldPace im_X7_toldPace in_RX7 cd_X7_toldPace, (Nat.le_trans (by decide) hd), c7_toldPace hv⟩) (fun v40 h42 => ?_)
          refine z_aload (pc := 63) 1 dX11_takes_63 rfl ?_
          refine z_callDI (pc := 65) [.ref a34] [.int v40] rfl ⟨by decide, by decide⟩ (Nat.le_of_ble_eq_true rfl) (fun v hv => by
    rcases am_cs6 g37 with hc | hc | hc | hc | hc | hc
    · exact ⟨_, _, lk_U (Yc := YX7_toldPace) (n := 0) (x := yX7_toldPace) RX7 dX11_takes_65 rfl rfl (am_ob.d hc (by decide)) rfl rfl np_X7_toldPace mh_RX7 (by decide) ml_RX11_160 sm_X7_toldPace_RX7 se_RX2_X7_toldPace_X7_toldPace im_X7_toldPace in_RX7 cd_X7_toldPace, (Nat.le_trans (by decide) hd), c7_toldPace hv⟩
    · exact ⟨_, _, lk_U (Yc := YX7_toldPace) (n := 0) (x := yX7_toldPace) RX7 dX11_takes_65 rfl rfl (am_ob.d hc (by decide)) rfl rfl np_X7_toldPace mh_RX7 (by decide) ml_RX11_160 sm_X7_toldPace_RX7 se_RX3_X7_toldPace_X7_toldPace im_X7_toldPace in_RX7 cd_X7_toldPace, (Nat.le_trans (by decide) hd), c7_toldPace hv⟩
    · exact ⟨_, _, lk_U (Yc := YX7_toldPace) (n := 0) (x := yX7_toldPace) RX7 dX11_takes_65 rfl rfl (am_ob.d hc (by decide)) rfl rfl np_X7_toldPace mh_RX7 (by decide) ml_RX11_160 sm_X7_toldPace_RX7 se_RX5_X7_toldPace_X7_toldPace im_X7_toldPace in_RX7 cd_X7_toldPace, (Nat.le_trans (by decide) hd), c7_toldPace hv⟩
    · exact ⟨_, _, lk_U (Yc := YX7_toldPace) (n := 0) (x := yX7_toldPace) RX7 dX11_takes_65 rfl rfl (am_ob.d hc (by decide)) rfl rfl np_X7_toldPace mh_RX7 (by decide) ml_RX11_160 sm_X7_toldPace_RX7 se_RX6_X7_toldPace_X7_toldPace im_X7_toldPace in_RX7 cd_X7_toldPace, (Nat.le_trans (by decide) hd), c7_toldPace hv⟩
    · exact ⟨_, _, lk_V (Yc := YX7_toldPace) (n := 0) dX11_takes_65 rfl rfl (am_ob.d hc (by decide)) rfl rfl np_X7_toldPace mh_RX7 (by decide) ml_RX11_160 im_X7_toldPace se_RX7_X7_toldPace_X7_toldPace in_RX7 cd_X7_toldPace, (Nat.le_trans (by decide) hd), c7_toldPace hv⟩
    · exact ⟨_, _, lk_U (Yc := YX7_toldPace) (n := 0) (x := yX7_toldPace) RX7 dX11_takes_65 rfl rfl (am_ob.d hc (by decide)) rfl rfl np_X7_toldPace mh_RX7 (by decide) ml_RX11_160 sm_X7_toldPace_RX7 se_RX9_X7_toldPace_X7_toldPace im_X7_toldPace in_RX7 cd_X7_toldPace, (Nat.le_trans (by decide) hd), c7_toldPace hv⟩) (fun v43 h45 => ?_)
          refine z_iadd (pc := 68) dX11_takes_68 ?_
          refine z_istore (pc := 69) (lv' := [(7, .int (v40 + v43)), (6, .int ((fF σ a4 0) + ((2 : Int32) * (fF σ 8 1)))), (5, .ref a34), (4, .ref a24), (3, .ref a4), (0, .ref 8), (1, .int x1), (2, .int x2)]) dX11_takes_69 (by decide) rfl ?_
          refine z_iload (pc := 71) 0 dX11_takes_71 rfl ?_
          refine z_iconst (pc := 73) (v := (1 : Int32)) dX11_takes_73 (by decide) ?_
          refine z_ic_ge (pc := 74) (tgt := 82) dX11_takes_74 (by decide) (fun h46 => ?_) (fun h46 => ?_)
          · refine z_iload (pc := 82) 1 dX11_takes_82 rfl ?_
            refine z_iload (pc := 84) 0 dX11_takes_84 rfl ?_
            refine z_iadd (pc := 86) dX11_takes_86 ?_
            refine z_iconst (pc := 87) (v := (1 : Int32)) dX11_takes_87 (by decide) ?_
            refine z_isub (pc := 88) dX11_takes_88 ?_
            refine z_iload (pc := 89) 0 dX11_takes_89 rfl ?_
            refine z_ite (fun _ => z_none) (fun h47 => ?_)
            refine z_idiv (pc := 91) dX11_takes_91 h47 ?_
            exact z_rI dX11_takes_92 rfl ⟨by decide, by decide⟩
          · refine z_bipush (pc := 77) (v := (-2 : Int32)) dX11_takes_77 (by decide) ?_
            refine z_goto (pc := 79) (tgt := 92) dX11_takes_79 (by decide) ?_
            exact z_rI dX11_takes_92 rfl ⟨by decide, by decide⟩
def f11_text (N : Nat) (σ : am_S) : Option (Int32 × am_S) := (f10_readTape N σ).bind fun (v1, s2) => (some (v1, s2))
theorem c11_text {l : Launch} {E : am_E} {N : Nat} {σ : am_S} {v : Int32} {σ1 : am_S} (hf : f11_text N σ = some (v, σ1)) : Ctr l E msC YX11_text (113) 0 0 [.ref 8] σ (some (.int v)) σ1 := by
  refine ctr_of (G := fun u r s => r = some (.int u.1) ∧ s = u.2) (by decide +kernel) (Nat.le_of_ble_eq_true rfl) hf ⟨rfl, rfl⟩ (fun d hd => ?_)
  refine z_eqlv (lv' := [(0, .ref 8)]) rfl ?_
  unfold f11_text
  refine z_aload_n (pc := 0) 0 dX11_text_0 rfl rfl ?_
  refine z_getQ (pc := 1) (b := 11) dX11_text_1 kC8 fr_RX11_24_11 (by decide) rfl ?_
  refine z_callIs (pc := 4) [.ref 11] [] rfl (lk_V (Yc := YX10_readTape) (n := 0) dX11_text_4 rfl rfl (am_ob.s kC11) rfl rfl np_X10_readTape mh_RX10 (by decide) ml_RX11_62 im_X10_readTape se_RX10_X10_readTape_X10_readTape in_RX10 cd_X10_readTape) (Nat.le_trans (by decide) hd) ⟨by decide, by decide⟩ (Nat.le_of_ble_eq_true rfl) (am_kp.rf _) (fun v1 s2 h3 => c10_readTape h3) (fun v1 s2 h3 => ?_)
  exact z_rIs dX11_text_7 rfl ⟨by decide, by decide⟩
def f11_told (N : Nat) (σ : am_S) (x1 : Int32) (x2 : Int32) (x3 : Int32) : Option (Int32 × am_S) := (f11_rowerAt σ x1).bind fun v1 => (v1.elim (some ((-1000000 : Int32), σ)) (fun a4 => (f11_isHour x2).bind fun v6 => (if v6 = true then (if x3 = (0 : Int32) then (if [2, 3, 5, 6, 7, 9].contains (am_ci σ a4) = true then (some (fF σ a4 0, σ)) else none) else (if x3 = (1 : Int32) then (if [2, 3, 5, 6, 7, 9].contains (am_ci σ a4) = true then (some (fF σ a4 1, σ)) else none) else (if x3 = (2 : Int32) then (if [2, 3, 5, 6, 7, 9].contains (am_ci σ a4) = true then (some (fF σ a4 2, σ)) else none) else (if x3 = (3 : Int32) then (if [2, 3, 5, 6, 7, 9].contains (am_ci σ a4) = true then (some (fF σ a4 3, σ)) else none) else (if x3 = (4 : Int32) then (if [2, 3, 5, 6, 7, 9].contains (am_ci σ a4) = true then (some (fF σ a4 4, σ)) else none) else (if x3 = (5 : Int32) then (if [2, 3, 5, 6, 7, 9].contains (am_ci σ a4) = true then (some (fF σ a4 5, σ)) else none) else (if x3 = (6 : Int32) then (if [2, 3, 5, 6, 7, 9].contains (am_ci σ a4) = true then (some (fF σ a4 6, σ)) else none) else (if x3 = (7 : Int32) then (if [2, 3, 5, 6, 7, 9].contains (am_ci σ a4) = true then ((f7_toldPace σ a4).bind fun v26 => (some (v26, σ))) else none) else (if x3 = (8 : Int32) then (if [2, 3, 5, 6, 7, 9].contains (am_ci σ a4) = true then ((d_may σ a4 x2).bind fun v31 => (if v31 = true then (some ((1 : Int32), σ)) else (some ((0 : Int32), σ)))) else none) else (if x3 = (9 : Int32) then (if [2, 3, 5, 6, 7, 9].contains (am_ci σ a4) = true then ((d_parts σ a4).bind fun v37 => (some (v37, σ))) else none) else (if x3 = (10 : Int32) then (if [2, 3, 5, 6, 7, 9].contains (am_ci σ a4) = true then ((f11_byRule N σ (8 : Int32) (0 : Int32) (fF σ a4 1) x2 (fF σ a4 6)).bind fun (v42, s43) => (some (v42, s43))) else none) else (some ((-1000000 : Int32), σ))))))))))))) else (some ((-1000000 : Int32), σ)))))
theorem c11_told {l : Launch} {E : am_E} {N : Nat} {σ : am_S} {x1 : Int32} {x2 : Int32} {x3 : Int32} {v : Int32} {σ1 : am_S} (hf : f11_told N σ x1 x2 x3 = some (v, σ1)) : Ctr l E msC YX11_told (4) 0 0 [.ref 8, .int x1, .int x2, .int x3] σ (some (.int v)) σ1 := by
  refine ctr_of (G := fun u r s => r = some (.int u.1) ∧ s = u.2) (by decide +kernel) (Nat.le_of_ble_eq_true rfl) hf ⟨rfl, rfl⟩ (fun d hd => ?_)
  refine z_eqlv (lv' := [(0, .ref 8), (1, .int x1), (2, .int x2), (3, .int x3)]) rfl ?_
  unfold f11_told
  refine z_aload_n (pc := 0) 0 dX11_told_0 rfl rfl ?_
  refine z_iload_n (pc := 1) 1 dX11_told_1 rfl rfl ?_
  refine z_callR (pc := 2) [.ref 8, .int x1] [] rfl (lk_V (Yc := YX11_rowerAt) (n := 1) dX11_told_2 rfl rfl (am_ob.s kC8) rfl rfl np_X11_rowerAt mh_RX11 (by decide) ml_RX11_106 im_X11_rowerAt se_RX11_X11_rowerAt_X11_rowerAt in_RX11 cd_X11_rowerAt) (Nat.le_trans (by decide) hd) ⟨by decide, by decide⟩ (Nat.le_of_ble_eq_true rfl) (am_kp.rf _) (fun v1 h3 => c11_rowerAt h3) (fun v1 h3 => ?_)
  refine z_elim (fun e5 => ?_) (fun a4 e5 => ?_)
  · refine z_astoreN (pc := 5) (lv' := [(4, .null), (0, .ref 8), (1, .int x1), (2, .int x2), (3, .int x3)]) dX11_told_5 (by decide) rfl ?_
    refine z_aloadN (pc := 7) 0 dX11_told_7 rfl ?_
    refine z_ifnullN (pc := 9) (tgt := 19) dX11_told_9 (by decide) ?_
    refine z_ldc (pc := 19) (v := (-1000000 : Int32)) dX11_told_19 ki_RX11_141 ?_
    exact z_rIs dX11_told_21 rfl ⟨by decide, by decide⟩
  · refine z_astore (pc := 5) (lv' := [(4, .ref a4), (0, .ref 8), (1, .int x1), (2, .int x2), (3, .int x3)]) dX11_told_5 (by decide) rfl ?_
    refine z_aload (pc := 7) 0 dX11_told_7 rfl ?_
    refine z_ifnull (pc := 9) dX11_told_9 ?_
    refine z_iload_n (pc := 12) 3 dX11_told_12 rfl rfl ?_
    refine z_callB (pc := 13) [.int x2] [] rfl (lk_S (Yc := YX11_isHour) (n := 1) dX11_told_13 rfl np_X11_isHour mh_RX11 (by decide) ml_RX11_138 st_X11_isHour in_RX11 cd_X11_isHour) (Nat.le_trans (by decide) hd) ⟨by decide, by decide⟩ (Nat.le_of_ble_eq_true rfl) (am_kp.rf _) (fun v6 h8 => c11_isHour h8) (fun v6 h8 => ?_)
    refine z_bz_ne (pc := 16) (tgt := 22) dX11_told_16 (by decide) (fun h9 => ?_) (fun h9 => ?_)
    · refine z_iload_n (pc := 22) 4 dX11_told_22 rfl rfl ?_
      refine z_ite (fun h10 => ?_) (fun h10 => ?_)
      · refine z_tsEq (pc := 23) (0) (off := 57) (tgt := 80) dX11_told_23 h10 (by decide) (by decide) (by decide) (by decide) ?_
        refine z_aload (pc := 80) 0 dX11_told_80 rfl ?_
        refine z_guard (fun g11 => ?_)
        refine z_getIp (pc := 82) [2, 3, 5, 6, 7, 9] dX11_told_82 g11 (by decide) fr_RX11_142_p235679 ?_
        exact z_rIs dX11_told_85 rfl ⟨by decide, by decide⟩
      · refine z_ite (fun h12 => ?_) (fun h12 => ?_)
        · refine z_tsEq (pc := 23) (1) (off := 63) (tgt := 86) dX11_told_23 h12 (by decide) (by decide) (by decide) (by decide) ?_
          refine z_aload (pc := 86) 0 dX11_told_86 rfl ?_
          refine z_guard (fun g13 => ?_)
          refine z_getIp (pc := 88) [2, 3, 5, 6, 7, 9] dX11_told_88 g13 (by decide) fr_RX11_145_p235679 ?_
          exact z_rIs dX11_told_91 rfl ⟨by decide, by decide⟩
        · refine z_ite (fun h14 => ?_) (fun h14 => ?_)
          · refine z_tsEq (pc := 23) (2) (off := 69) (tgt := 92) dX11_told_23 h14 (by decide) (by decide) (by decide) (by decide) ?_
            refine z_aload (pc := 92) 0 dX11_told_92 rfl ?_
            refine z_guard (fun g15 => ?_)
            refine z_getIp (pc := 94) [2, 3, 5, 6, 7, 9] dX11_told_94 g15 (by decide) fr_RX11_148_p235679 ?_
            exact z_rIs dX11_told_97 rfl ⟨by decide, by decide⟩
          · refine z_ite (fun h16 => ?_) (fun h16 => ?_)
            · refine z_tsEq (pc := 23) (3) (off := 75) (tgt := 98) dX11_told_23 h16 (by decide) (by decide) (by decide) (by decide) ?_
              refine z_aload (pc := 98) 0 dX11_told_98 rfl ?_
              refine z_guard (fun g17 => ?_)
              refine z_getIp (pc := 100) [2, 3, 5, 6, 7, 9] dX11_told_100 g17 (by decide) fr_RX11_151_p235679 ?_
              exact z_rIs dX11_told_103 rfl ⟨by decide, by decide⟩
            · refine z_ite (fun h18 => ?_) (fun h18 => ?_)
              · refine z_tsEq (pc := 23) (4) (off := 81) (tgt := 104) dX11_told_23 h18 (by decide) (by decide) (by decide) (by decide) ?_
                refine z_aload (pc := 104) 0 dX11_told_104 rfl ?_
                refine z_guard (fun g19 => ?_)
                refine z_getIp (pc := 106) [2, 3, 5, 6, 7, 9] dX11_told_106 g19 (by decide) fr_RX11_154_p235679 ?_
                exact z_rIs dX11_told_109 rfl ⟨by decide, by decide⟩
              · refine z_ite (fun h20 => ?_) (fun h20 => ?_)
                · refine z_tsEq (pc := 23) (5) (off := 87) (tgt := 110) dX11_told_23 h20 (by decide) (by decide) (by decide) (by decide) ?_
                  refine z_aload (pc := 110) 0 dX11_told_110 rfl ?_
                  refine z_guard (fun g21 => ?_)
                  refine z_getIp (pc := 112) [2, 3, 5, 6, 7, 9] dX11_told_112 g21 (by decide) fr_RX11_135_p235679 ?_
                  exact z_rIs dX11_told_115 rfl ⟨by decide, by decide⟩
                · refine z_ite (fun h22 => ?_) (fun h22 => ?_)
                  · refine z_tsEq (pc := 23) (6) (off := 93) (tgt := 116) dX11_told_23 h22 (by decide) (by decide) (by decide) (by decide) ?_
                    refine z_aload (pc := 116) 0 dX11_told_116 rfl ?_
                    refine z_guard (fun g23 => ?_)
                    refine z_getIp (pc := 118) [2, 3, 5, 6, 7, 9] dX11_told_118 g23 (by decide) fr_RX11_157_p235679 ?_
                    exact z_rIs dX11_told_121 rfl ⟨by decide, by decide⟩
                  · refine z_ite (fun h24 => ?_) (fun h24 => ?_)
                    · refine z_tsEq (pc := 23) (7) (off := 99) (tgt := 122) dX11_told_23 h24 (by decide) (by decide) (by decide) (by decide) ?_
                      refine z_aload (pc := 122) 0 dX11_told_122 rfl ?_
                      refine z_guard (fun g25 => ?_)
                      refine z_callDI (pc := 124) [.ref a4] [] rfl ⟨by decide, by decide⟩ (Nat.le_of_ble_eq_true rfl) (fun v hv => by
    rcases am_cs6 g25 with hc | hc | hc | hc | hc | hc
    · exact ⟨_, _, lk_U (Yc := YX7_toldPace) (n := 0) (x := yX7_toldPace) RX7 dX11_told_124 rfl rfl (am_ob.d hc (by decide)) rfl rfl np_X7_toldPace mh_RX7 (by decide) ml_RX11_160 sm_X7_toldPace_RX7 se_RX2_X7_toldPace_X7_toldPace im_X7_toldPace in_RX7 cd_X7_toldPace, (Nat.le_trans (by decide) hd), c7_toldPace hv⟩
    · exact ⟨_, _, lk_U (Yc := YX7_toldPace) (n := 0) (x := yX7_toldPace) RX7 dX11_told_124 rfl rfl (am_ob.d hc (by decide)) rfl rfl np_X7_toldPace mh_RX7 (by decide) ml_RX11_160 sm_X7_toldPace_RX7 se_RX3_X7_toldPace_X7_toldPace im_X7_toldPace in_RX7 cd_X7_toldPace, (Nat.le_trans (by decide) hd), c7_toldPace hv⟩
    · exact ⟨_, _, lk_U (Yc := YX7_toldPace) (n := 0) (x := yX7_toldPace) RX7 dX11_told_124 rfl rfl (am_ob.d hc (by decide)) rfl rfl np_X7_toldPace mh_RX7 (by decide) ml_RX11_160 sm_X7_toldPace_RX7 se_RX5_X7_toldPace_X7_toldPace im_X7_toldPace in_RX7 cd_X7_toldPace, (Nat.le_trans (by decide) hd), c7_toldPace hv⟩
    · exact ⟨_, _, lk_U (Yc := YX7_toldPace) (n := 0) (x := yX7_toldPace) RX7 dX11_told_124 rfl rfl (am_ob.d hc (by decide)) rfl rfl np_X7_toldPace mh_RX7 (by decide) ml_RX11_160 sm_X7_toldPace_RX7 se_RX6_X7_toldPace_X7_toldPace im_X7_toldPace in_RX7 cd_X7_toldPace, (Nat.le_trans (by decide) hd), c7_toldPace hv⟩
    · exact ⟨_, _, lk_V (Yc := YX7_toldPace) (n := 0) dX11_told_124 rfl rfl (am_ob.d hc (by decide)) rfl rfl np_X7_toldPace mh_RX7 (by decide) ml_RX11_160 im_X7_toldPace se_RX7_X7_toldPace_X7_toldPace in_RX7 cd_X7_toldPace, (Nat.le_trans (by decide) hd), c7_toldPace hv⟩
    · exact ⟨_, _, lk_U (Yc := YX7_toldPace) (n := 0) (x := yX7_toldPace) RX7 dX11_told_124 rfl rfl (am_ob.d hc (by decide)) rfl rfl np_X7_toldPace mh_RX7 (by decide) ml_RX11_160 sm_X7_toldPace_RX7 se_RX9_X7_toldPace_X7_toldPace im_X7_toldPace in_RX7 cd_X7_toldPace, (Nat.le_trans (by decide) hd), c7_toldPace hv⟩) (fun v26 h28 => ?_)
                      exact z_rIs dX11_told_127 rfl ⟨by decide, by decide⟩
                    · refine z_ite (fun h29 => ?_) (fun h29 => ?_)
                      · refine z_tsEq (pc := 23) (8) (off := 105) (tgt := 128) dX11_told_23 h29 (by decide) (by decide) (by decide) (by decide) ?_
                        refine z_aload (pc := 128) 0 dX11_told_128 rfl ?_
                        refine z_iload_n (pc := 130) 3 dX11_told_130 rfl rfl ?_
                        refine z_guard (fun g30 => ?_)
                        refine z_callDB (pc := 131) [.ref a4, .int x2] [] rfl ⟨by decide, by decide⟩ (Nat.le_of_ble_eq_true rfl) (fun v hv => by
    rcases d_may_c hv with ⟨hc, hv⟩ | ⟨hc, hv⟩ | ⟨hc, hv⟩ | ⟨hc, hv⟩ | ⟨hc, hv⟩ | ⟨hc, hv⟩
    · exact ⟨_, _, lk_O (Yc := YX2_may) (n := 1) (x := yX7_may) RX7 (Y0 := YX7_may) dX11_told_131 rfl rfl (am_ob.d hc (by decide)) rfl rfl np_X7_may mh_RX7 (by decide) ml_RX11_163 sm_X7_may_RX7 im_X7_may cd_X7_may se_RX2_X7_may_X2_may im_X2_may in_RX2 cd_X2_may, (Nat.le_trans (by decide) hd), c2_may hv⟩
    · exact ⟨_, _, lk_O (Yc := YX3_may) (n := 1) (x := yX7_may) RX7 (Y0 := YX7_may) dX11_told_131 rfl rfl (am_ob.d hc (by decide)) rfl rfl np_X7_may mh_RX7 (by decide) ml_RX11_163 sm_X7_may_RX7 im_X7_may cd_X7_may se_RX3_X7_may_X3_may im_X3_may in_RX3 cd_X3_may, (Nat.le_trans (by decide) hd), c3_may hv⟩
    · exact ⟨_, _, lk_O (Yc := YX5_may) (n := 1) (x := yX7_may) RX7 (Y0 := YX7_may) dX11_told_131 rfl rfl (am_ob.d hc (by decide)) rfl rfl np_X7_may mh_RX7 (by decide) ml_RX11_163 sm_X7_may_RX7 im_X7_may cd_X7_may se_RX5_X7_may_X5_may im_X5_may in_RX5 cd_X5_may, (Nat.le_trans (by decide) hd), c5_may hv⟩
    · exact ⟨_, _, lk_O (Yc := YX6_may) (n := 1) (x := yX7_may) RX7 (Y0 := YX7_may) dX11_told_131 rfl rfl (am_ob.d hc (by decide)) rfl rfl np_X7_may mh_RX7 (by decide) ml_RX11_163 sm_X7_may_RX7 im_X7_may cd_X7_may se_RX6_X7_may_X6_may im_X6_may in_RX6 cd_X6_may, (Nat.le_trans (by decide) hd), c6_may hv⟩
    · exact ⟨_, _, lk_V (Yc := YX7_may) (n := 1) dX11_told_131 rfl rfl (am_ob.d hc (by decide)) rfl rfl np_X7_may mh_RX7 (by decide) ml_RX11_163 im_X7_may se_RX7_X7_may_X7_may in_RX7 cd_X7_may, (Nat.le_trans (by decide) hd), c7_may hv⟩
    · exact ⟨_, _, lk_O (Yc := YX9_may) (n := 1) (x := yX7_may) RX7 (Y0 := YX7_may) dX11_told_131 rfl rfl (am_ob.d hc (by decide)) rfl rfl np_X7_may mh_RX7 (by decide) ml_RX11_163 sm_X7_may_RX7 im_X7_may cd_X7_may se_RX9_X7_may_X9_may im_X9_may in_RX9 cd_X9_may, (Nat.le_trans (by decide) hd), c9_may hv⟩) (fun v31 h33 => ?_)
                        refine z_bz_eq (pc := 134) (tgt := 141) dX11_told_134 (by decide) (fun h34 => ?_) (fun h34 => ?_)
                        · refine z_iconst (pc := 137) (v := (1 : Int32)) dX11_told_137 (by decide) ?_
                          refine z_goto (pc := 138) (tgt := 142) dX11_told_138 (by decide) ?_
                          exact z_rIs dX11_told_142 rfl ⟨by decide, by decide⟩
                        · refine z_iconst (pc := 141) (v := (0 : Int32)) dX11_told_141 (by decide) ?_
                          exact z_rIs dX11_told_142 rfl ⟨by decide, by decide⟩
                      · refine z_ite (fun h35 => ?_) (fun h35 => ?_)
                        · refine z_tsEq (pc := 23) (9) (off := 120) (tgt := 143) dX11_told_23 h35 (by decide) (by decide) (by decide) (by decide) ?_
                          refine z_aload (pc := 143) 0 dX11_told_143 rfl ?_
                          refine z_guard (fun g36 => ?_)
                          refine z_callDI (pc := 145) [.ref a4] [] rfl ⟨by decide, by decide⟩ (Nat.le_of_ble_eq_true rfl) (fun v hv => by
    rcases d_parts_c hv with ⟨hc, hv⟩ | ⟨hc, hv⟩ | ⟨hc, hv⟩ | ⟨hc, hv⟩ | ⟨hc, hv⟩ | ⟨hc, hv⟩
    · exact ⟨_, _, lk_O (Yc := YX2_parts) (n := 0) (x := yX7_parts) RX7 (Y0 := YX7_parts) dX11_told_145 rfl rfl (am_ob.d hc (by decide)) rfl rfl np_X7_parts mh_RX7 (by decide) ml_RX11_166 sm_X7_parts_RX7 im_X7_parts cd_X7_parts se_RX2_X7_parts_X2_parts im_X2_parts in_RX2 cd_X2_parts, (Nat.le_trans (by decide) hd), c2_parts hv⟩
    · exact ⟨_, _, lk_O (Yc := YX3_parts) (n := 0) (x := yX7_parts) RX7 (Y0 := YX7_parts) dX11_told_145 rfl rfl (am_ob.d hc (by decide)) rfl rfl np_X7_parts mh_RX7 (by decide) ml_RX11_166 sm_X7_parts_RX7 im_X7_parts cd_X7_parts se_RX3_X7_parts_X3_parts im_X3_parts in_RX3 cd_X3_parts, (Nat.le_trans (by decide) hd), c3_parts hv⟩
    · exact ⟨_, _, lk_O (Yc := YX5_parts) (n := 0) (x := yX7_parts) RX7 (Y0 := YX7_parts) dX11_told_145 rfl rfl (am_ob.d hc (by decide)) rfl rfl np_X7_parts mh_RX7 (by decide) ml_RX11_166 sm_X7_parts_RX7 im_X7_parts cd_X7_parts se_RX5_X7_parts_X5_parts im_X5_parts in_RX5 cd_X5_parts, (Nat.le_trans (by decide) hd), c5_parts hv⟩
    · exact ⟨_, _, lk_U (Yc := YX7_parts) (n := 0) (x := yX7_parts) RX7 dX11_told_145 rfl rfl (am_ob.d hc (by decide)) rfl rfl np_X7_parts mh_RX7 (by decide) ml_RX11_166 sm_X7_parts_RX7 se_RX6_X7_parts_X7_parts im_X7_parts in_RX7 cd_X7_parts, (Nat.le_trans (by decide) hd), c7_parts hv⟩
    · exact ⟨_, _, lk_V (Yc := YX7_parts) (n := 0) dX11_told_145 rfl rfl (am_ob.d hc (by decide)) rfl rfl np_X7_parts mh_RX7 (by decide) ml_RX11_166 im_X7_parts se_RX7_X7_parts_X7_parts in_RX7 cd_X7_parts, (Nat.le_trans (by decide) hd), c7_parts hv⟩
    · exact ⟨_, _, lk_O (Yc := YX9_parts) (n := 0) (x := yX7_parts) RX7 (Y0 := YX7_parts) dX11_told_145 rfl rfl (am_ob.d hc (by decide)) rfl rfl np_X7_parts mh_RX7 (by decide) ml_RX11_166 sm_X7_parts_RX7 im_X7_parts cd_X7_parts se_RX9_X7_parts_X9_parts im_X9_parts in_RX9 cd_X9_parts, (Nat.le_trans (by decide) hd), c9_parts hv⟩) (fun v37 h39 => ?_)
                          exact z_rIs dX11_told_148 rfl ⟨by decide, by decide⟩
                        · refine z_ite (fun h40 => ?_) (fun h40 => ?_)
                          · refine z_tsEq (pc := 23) (10) (off := 126) (tgt := 149) dX11_told_23 h40 (by decide) (by decide) (by decide) (by decide) ?_
                            refine z_aload_n (pc := 149) 1 dX11_told_149 rfl rfl ?_
                            refine z_bipush (pc := 150) (v := (8 : Int32)) dX11_told_150 (by decide) ?_
                            refine z_iconst (pc := 152) (v := (0 : Int32)) dX11_told_152 (by decide) ?_
                            refine z_aload (pc := 153) 0 dX11_told_153 rfl ?_
                            refine z_guard (fun g41 => ?_)
                            refine z_getIp (pc := 155) [2, 3, 5, 6, 7, 9] dX11_told_155 g41 (by decide) fr_RX11_145_p235679 ?_
                            refine z_iload_n (pc := 158) 3 dX11_told_158 rfl rfl ?_
                            refine z_aload (pc := 159) 0 dX11_told_159 rfl ?_
                            refine z_getIp (pc := 161) [2, 3, 5, 6, 7, 9] dX11_told_161 g41 (by decide) fr_RX11_157_p235679 ?_
                            refine z_callIs (pc := 164) [.ref 8, .int (8 : Int32), .int (0 : Int32), .int (fF σ a4 1), .int x2, .int (fF σ a4 6)] [] rfl (lk_V (Yc := YX11_byRule) (n := 5) dX11_told_164 rfl rfl (am_ob.s kC8) rfl rfl np_X11_byRule mh_RX11 (by decide) ml_RX11_169 im_X11_byRule se_RX11_X11_byRule_X11_byRule in_RX11 cd_X11_byRule) (Nat.le_trans (by decide) hd) ⟨by decide, by decide⟩ (Nat.le_of_ble_eq_true rfl) (am_kp.rf _) (fun v42 s43 h44 => c11_byRule h44) (fun v42 s43 h44 => ?_)
                            exact z_rIs dX11_told_167 rfl ⟨by decide, by decide⟩
                          · refine z_tsNe (pc := 23) (tgt := 168) [0, 1, 2, 3, 4, 5, 6, 7, 8, 9, 10] 11 dX11_told_23 (by decide) (by decide) (List.forall_mem_cons.mpr ⟨h10, List.forall_mem_cons.mpr ⟨h12, List.forall_mem_cons.mpr ⟨h14, List.forall_mem_cons.mpr ⟨h16, List.forall_mem_cons.mpr ⟨h18, List.forall_mem_cons.mpr ⟨h20, List.forall_mem_cons.mpr ⟨h22, List.forall_mem_cons.mpr ⟨h24, List.forall_mem_cons.mpr ⟨h29, List.forall_mem_cons.mpr ⟨h35, List.forall_mem_cons.mpr ⟨h40, List.forall_mem_nil _⟩⟩⟩⟩⟩⟩⟩⟩⟩⟩⟩) (by decide) ?_
                            refine z_ldc (pc := 168) (v := (-1000000 : Int32)) dX11_told_168 ki_RX11_141 ?_
                            exact z_rIs dX11_told_170 rfl ⟨by decide, by decide⟩
    · refine z_ldc (pc := 19) (v := (-1000000 : Int32)) dX11_told_19 ki_RX11_141 ?_
      exact z_rIs dX11_told_21 rfl ⟨by decide, by decide⟩
def f11_waits (N : Nat) (σ : am_S) (x1 : Int32) (x2 : Int32) (x3 : Int32) (x4 : Int32) : Option (Int32 × am_S) := (f11_sheetAt σ x1).bind fun v1 => (v1.elim (some ((-2 : Int32), σ)) (fun a4 => (f11_within x2 (1 : Int32) (9 : Int32)).bind fun v6 => (if v6 = true then ((f11_within x3 (1 : Int32) (14 : Int32)).bind fun v10 => (if v10 = true then ((f11_within x4 (0 : Int32) (1 : Int32)).bind fun v14 => (if v14 = true then (if [8].contains (am_ci σ a4) = true then ((f8_isMissing σ a4).bind fun v19 => (if v19 = true then (some ((-11 : Int32), σ)) else ((f0_awaits N σ a4).bind fun (v23, s24) => (if v23 = true then ((f0_bestPlan N s24 x2 x3).bind fun (v27, s28) => (if x4 = 0 then ((f0_waitsOf v27).bind fun v31 => (some (v31, s28))) else ((f0_minutesOf v27).bind fun v34 => (some (v34, s28))))) else (some ((-2 : Int32), s24)))))) else none) else (some ((-2 : Int32), σ)))) else (some ((-2 : Int32), σ)))) else (some ((-2 : Int32), σ)))))
theorem c11_waits {l : Launch} {E : am_E} {N : Nat} {σ : am_S} {x1 : Int32} {x2 : Int32} {x3 : Int32} {x4 : Int32} {v : Int32} {σ1 : am_S} (hf : f11_waits N σ x1 x2 x3 x4 = some (v, σ1)) : Ctr l E msC YX11_waits (4) 0 0 [.ref 8, .int x1, .int x2, .int x3, .int x4] σ (some (.int v)) σ1 := by
  refine ctr_of (G := fun u r s => r = some (.int u.1) ∧ s = u.2) (by decide +kernel) (Nat.le_of_ble_eq_true rfl) hf ⟨rfl, rfl⟩ (fun d hd => ?_)
  refine z_eqlv (lv' := [(0, .ref 8), (1, .int x1), (2, .int x2), (3, .int x3), (4, .int x4)]) rfl ?_
  unfold f11_waits
  refine z_aload_n (pc := 0) 0 dX11_waits_0 rfl rfl ?_
  refine z_iload_n (pc := 1) 1 dX11_waits_1 rfl rfl ?_
  refine z_callR (pc := 2) [.ref 8, .int x1] [] rfl (lk_V (Yc := YX11_sheetAt) (n := 1) dX11_waits_2 rfl rfl (am_ob.s kC8) rfl rfl np_X11_sheetAt mh_RX11 (by decide) ml_RX11_204 im_X11_sheetAt se_RX11_X11_sheetAt_X11_sheetAt in_RX11 cd_X11_sheetAt) (Nat.le_trans (by decide) hd) ⟨by decide, by decide⟩ (Nat.le_of_ble_eq_true rfl) (am_kp.rf _) (fun v1 h3 => c11_sheetAt h3) (fun v1 h3 => ?_)
  refine z_elim (fun e5 => ?_) (fun a4 e5 => ?_)
  · refine z_astoreN (pc := 5) (lv' := [(5, .null), (0, .ref 8), (1, .int x1), (2, .int x2), (3, .int x3), (4, .int x4)]) dX11_waits_5 (by decide) rfl ?_
    refine z_aloadN (pc := 7) 0 dX11_waits_7 rfl ?_
    refine z_ifnullN (pc := 9) (tgt := 42) dX11_waits_9 (by decide) ?_
    refine z_bipush (pc := 42) (v := (-2 : Int32)) dX11_waits_42 (by decide) ?_
    exact z_rIs dX11_waits_44 rfl ⟨by decide, by decide⟩
  · refine z_astore (pc := 5) (lv' := [(5, .ref a4), (0, .ref 8), (1, .int x1), (2, .int x2), (3, .int x3), (4, .int x4)]) dX11_waits_5 (by decide) rfl ?_
    refine z_aload (pc := 7) 0 dX11_waits_7 rfl ?_
    refine z_ifnull (pc := 9) dX11_waits_9 ?_
    refine z_iload_n (pc := 12) 3 dX11_waits_12 rfl rfl ?_
    refine z_iconst (pc := 13) (v := (1 : Int32)) dX11_waits_13 (by decide) ?_
    refine z_bipush (pc := 14) (v := (9 : Int32)) dX11_waits_14 (by decide) ?_
    refine z_callB (pc := 16) [.int x2, .int (1 : Int32), .int (9 : Int32)] [] rfl (lk_S (Yc := YX11_within) (n := 3) dX11_waits_16 rfl np_X11_within mh_RX11 (by decide) ml_RX11_66 st_X11_within in_RX11 cd_X11_within) (Nat.le_trans (by decide) hd) ⟨by decide, by decide⟩ (Nat.le_of_ble_eq_true rfl) (am_kp.rf _) (fun v6 h8 => c11_within h8) (fun v6 h8 => ?_)
    refine z_bz_eq (pc := 19) (tgt := 42) dX11_waits_19 (by decide) (fun h9 => ?_) (fun h9 => ?_)
    · refine z_iload_n (pc := 22) 4 dX11_waits_22 rfl rfl ?_
      refine z_iconst (pc := 23) (v := (1 : Int32)) dX11_waits_23 (by decide) ?_
      refine z_bipush (pc := 24) (v := (14 : Int32)) dX11_waits_24 (by decide) ?_
      refine z_callB (pc := 26) [.int x3, .int (1 : Int32), .int (14 : Int32)] [] rfl (lk_S (Yc := YX11_within) (n := 3) dX11_waits_26 rfl np_X11_within mh_RX11 (by decide) ml_RX11_66 st_X11_within in_RX11 cd_X11_within) (Nat.le_trans (by decide) hd) ⟨by decide, by decide⟩ (Nat.le_of_ble_eq_true rfl) (am_kp.rf _) (fun v10 h12 => c11_within h12) (fun v10 h12 => ?_)
      refine z_bz_eq (pc := 29) (tgt := 42) dX11_waits_29 (by decide) (fun h13 => ?_) (fun h13 => ?_)
      · refine z_iload (pc := 32) 5 dX11_waits_32 rfl ?_
        refine z_iconst (pc := 34) (v := (0 : Int32)) dX11_waits_34 (by decide) ?_
        refine z_iconst (pc := 35) (v := (1 : Int32)) dX11_waits_35 (by decide) ?_
        refine z_callB (pc := 36) [.int x4, .int (0 : Int32), .int (1 : Int32)] [] rfl (lk_S (Yc := YX11_within) (n := 3) dX11_waits_36 rfl np_X11_within mh_RX11 (by decide) ml_RX11_66 st_X11_within in_RX11 cd_X11_within) (Nat.le_trans (by decide) hd) ⟨by decide, by decide⟩ (Nat.le_of_ble_eq_true rfl) (am_kp.rf _) (fun v14 h16 => c11_within h16) (fun v14 h16 => ?_)
        refine z_bz_ne (pc := 39) (tgt := 45) dX11_waits_39 (by decide) (fun h17 => ?_) (fun h17 => ?_)
        · refine z_aload (pc := 45) 0 dX11_waits_45 rfl ?_
          refine z_guard (fun g18 => ?_)
          refine z_callB (pc := 47) [.ref a4] [] rfl (lk_V (Yc := YX8_isMissing) (n := 0) dX11_waits_47 rfl rfl (am_ob.d (am_c1 g18) (by decide)) rfl rfl np_X8_isMissing mh_RX8 (by decide) ml_RX11_208 im_X8_isMissing se_RX8_X8_isMissing_X8_isMissing in_RX8 cd_X8_isMissing) (Nat.le_trans (by decide) hd) ⟨by decide, by decide⟩ (Nat.le_of_ble_eq_true rfl) (am_kp.rf _) (fun v19 h21 => c8_isMissing h21) (fun v19 h21 => ?_)
          refine z_bz_eq (pc := 50) (tgt := 56) dX11_waits_50 (by decide) (fun h22 => ?_) (fun h22 => ?_)
          · refine z_bipush (pc := 53) (v := (-11 : Int32)) dX11_waits_53 (by decide) ?_
            exact z_rIs dX11_waits_55 rfl ⟨by decide, by decide⟩
          · refine z_aload_n (pc := 56) 1 dX11_waits_56 rfl rfl ?_
            refine z_getQ (pc := 57) (b := 17) dX11_waits_57 kC8 fr_RX11_35_11 (by decide) rfl ?_
            refine z_aload (pc := 60) 0 dX11_waits_60 rfl ?_
            refine z_callBs (pc := 62) [.ref 17, .ref a4] [] rfl (lk_V (Yc := YX0_awaits) (n := 1) dX11_waits_62 rfl rfl (am_ob.s kC17) rfl rfl np_X0_awaits mh_RX0 (by decide) ml_RX11_212 im_X0_awaits se_RX0_X0_awaits_X0_awaits in_RX0 cd_X0_awaits) (Nat.le_trans (by decide) hd) ⟨by decide, by decide⟩ (Nat.le_of_ble_eq_true rfl) (am_kp.rf _) (fun v23 s24 h25 => c0_awaits h25) (fun v23 s24 h25 => ?_)
            refine z_bz_ne (pc := 65) (tgt := 71) dX11_waits_65 (by decide) (fun h26 => ?_) (fun h26 => ?_)
            · refine z_aload_n (pc := 71) 1 dX11_waits_71 rfl rfl ?_
              refine z_getQ (pc := 72) (b := 17) dX11_waits_72 kC8 fr_RX11_35_11 (by decide) rfl ?_
              refine z_iload_n (pc := 75) 3 dX11_waits_75 rfl rfl ?_
              refine z_iload_n (pc := 76) 4 dX11_waits_76 rfl rfl ?_
              refine z_callLs (pc := 77) [.ref 17, .int x2, .int x3] [] rfl (lk_V (Yc := YX0_bestPlan) (n := 2) dX11_waits_77 rfl rfl (am_ob.s kC17) rfl rfl np_X0_bestPlan mh_RX0 (by decide) ml_RX11_216 im_X0_bestPlan se_RX0_X0_bestPlan_X0_bestPlan in_RX0 cd_X0_bestPlan) (Nat.le_trans (by decide) hd) ⟨by decide, by decide⟩ (Nat.le_of_ble_eq_true rfl) (am_kp.rf _) (fun v27 s28 h29 => c0_bestPlan h29) (fun v27 s28 h29 => ?_)
              refine z_lstore (pc := 80) (lv' := [(6, .long v27), (5, .ref a4), (0, .ref 8), (1, .int x1), (2, .int x2), (3, .int x3), (4, .int x4)]) dX11_waits_80 (by decide) rfl ?_
              refine z_iload (pc := 82) 6 dX11_waits_82 rfl ?_
              refine z_if_ne (pc := 84) (tgt := 95) dX11_waits_84 (by decide) (fun h30 => ?_) (fun h30 => ?_)
              · refine z_lload (pc := 87) 0 dX11_waits_87 rfl ?_
                refine z_callI (pc := 89) [.long v27] [] rfl (lk_S (Yc := YX0_waitsOf) (n := 1) dX11_waits_89 rfl np_X0_waitsOf mh_RX0 (by decide) ml_RX11_220 st_X0_waitsOf in_RX0 cd_X0_waitsOf) (Nat.le_trans (by decide) hd) ⟨by decide, by decide⟩ (Nat.le_of_ble_eq_true rfl) (am_kp.rf _) (fun v31 h33 => c0_waitsOf h33) (fun v31 h33 => ?_)
                refine z_goto (pc := 92) (tgt := 100) dX11_waits_92 (by decide) ?_
                exact z_rIs dX11_waits_100 rfl ⟨by decide, by decide⟩
              · refine z_lload (pc := 95) 0 dX11_waits_95 rfl ?_
                refine z_callI (pc := 97) [.long v27] [] rfl (lk_S (Yc := YX0_minutesOf) (n := 1) dX11_waits_97 rfl np_X0_minutesOf mh_RX0 (by decide) ml_RX11_224 st_X0_minutesOf in_RX0 cd_X0_minutesOf) (Nat.le_trans (by decide) hd) ⟨by decide, by decide⟩ (Nat.le_of_ble_eq_true rfl) (am_kp.rf _) (fun v34 h36 => c0_minutesOf h36) (fun v34 h36 => ?_)
                exact z_rIs dX11_waits_100 rfl ⟨by decide, by decide⟩
            · refine z_bipush (pc := 68) (v := (-2 : Int32)) dX11_waits_68 (by decide) ?_
              exact z_rIs dX11_waits_70 rfl ⟨by decide, by decide⟩
        · refine z_bipush (pc := 42) (v := (-2 : Int32)) dX11_waits_42 (by decide) ?_
          exact z_rIs dX11_waits_44 rfl ⟨by decide, by decide⟩
      · refine z_bipush (pc := 42) (v := (-2 : Int32)) dX11_waits_42 (by decide) ?_
        exact z_rIs dX11_waits_44 rfl ⟨by decide, by decide⟩
    · refine z_bipush (pc := 42) (v := (-2 : Int32)) dX11_waits_42 (by decide) ?_
      exact z_rIs dX11_waits_44 rfl ⟨by decide, by decide⟩
