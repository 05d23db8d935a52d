def f10_addBytes_L18 (N : Nat) : Nat → Int32 → Int64 → Int32 → am_S → Option (Int32 × am_S)
  | 0, _, _, _, _ => none
  | n + 1, x1, l2, x4, σ => if x1 ≤ x4 then (some (fF σ 11 1, σ)) else (if am_in (fF σ 11 1) 160 = true then (f10_addBytes_L18 N n x1 l2 (x4 + (1 : Int32)) (sF (sF σ 12 (fF σ 11 1).toNatClampNeg (((l2 >>> (((8 : Int32) * x4).toInt64 &&& 63)).toInt32).toInt8.toInt32).toInt8.toInt32) 11 1 ((fF (sF σ 12 (fF σ 11 1).toNatClampNeg (((l2 >>> (((8 : Int32) * x4).toInt64 &&& 63)).toInt32).toInt8.toInt32).toInt8.toInt32) 11 1) + (1 : Int32)))) else none)
theorem z10_addBytes_L18 {l : Launch} {E : am_E} {d : Nat} {σ0 : am_S} {N : Nat} (hd : 0 ≤ d) : ∀ (n : Nat) (x1 : Int32) (l2 : Int64) (x4 : Int32) (σ : am_S), Z l E msC σ0 YX10_addBytes d 0 0 18 [(0, .ref 11), (1, .int x1), (2, .long l2), (4, .int x4)] [] 0 0 σ (f10_addBytes_L18 N n x1 l2 x4 σ) (fun u r s => r = some (.int u.1) ∧ s = u.2) := by
  intro n
  induction n with
  | zero => intros; exact z_none
  | succ n ih =>
    intro x1 l2 x4 σ
    unfold f10_addBytes_L18
    refine z_iload (pc := 18) 3 dX10_addBytes_18 rfl ?_
    refine z_iload_n (pc := 20) 1 dX10_addBytes_20 rfl rfl ?_
    refine z_ic_ge (pc := 21) (tgt := 58) dX10_addBytes_21 (by decide) (fun h2 => ?_) (fun h2 => ?_)
    · refine z_aload_n (pc := 58) 0 dX10_addBytes_58 rfl rfl ?_
      refine z_getI (pc := 59) dX10_addBytes_59 (am_ob.s kC11) fr_RX10_25_10 (by decide) ?_
      exact z_rIs dX10_addBytes_62 rfl ⟨by decide, by decide⟩
    · refine z_aload_n (pc := 24) 0 dX10_addBytes_24 rfl rfl ?_
      refine z_getQ (pc := 25) (b := 12) dX10_addBytes_25 kC11 fr_RX10_11_10 (by decide) rfl ?_
      refine z_aload_n (pc := 28) 0 dX10_addBytes_28 rfl rfl ?_
      refine z_getI (pc := 29) dX10_addBytes_29 (am_ob.s kC11) fr_RX10_25_10 (by decide) ?_
      refine z_lload_n (pc := 32) 2 dX10_addBytes_32 rfl rfl ?_
      refine z_bipush (pc := 33) (v := (8 : Int32)) dX10_addBytes_33 (by decide) ?_
      refine z_iload (pc := 35) 3 dX10_addBytes_35 rfl ?_
      refine z_imul (pc := 37) dX10_addBytes_37 ?_
      refine z_lshr (pc := 38) dX10_addBytes_38 ?_
      refine z_l2i (pc := 39) dX10_addBytes_39 ?_
      refine z_i2b (pc := 40) dX10_addBytes_40 ?_
      refine z_bast (pc := 41) dX10_addBytes_41 (am_ar.s kC12) (fun h3 => ?_)
      refine z_aload_n (pc := 42) 0 dX10_addBytes_42 rfl rfl ?_
      refine z_dup (pc := 43) dX10_addBytes_43 rfl ?_
      refine z_getI (pc := 44) dX10_addBytes_44 (am_ob.s kC11) fr_RX10_25_10 (by decide) ?_
      refine z_iconst (pc := 47) (v := (1 : Int32)) dX10_addBytes_47 (by decide) ?_
      refine z_iadd (pc := 48) dX10_addBytes_48 ?_
      refine z_putI (pc := 49) dX10_addBytes_49 (am_ob.s kC11) fw_RX10_25_10 (by decide) ?_
      refine z_iinc (pc := 52) (v := x4 + (1 : Int32)) (lv' := [(4, .int (x4 + (1 : Int32))), (0, .ref 11), (1, .int x1), (2, .long l2)]) 3 dX10_addBytes_52 rfl rfl (by decide) rfl ?_
      refine z_goto (pc := 55) (tgt := 18) dX10_addBytes_55 (by decide) ?_
      refine z_lv (lv' := [(0, .ref 11), (1, .int x1), (2, .long l2), (4, .int (x4 + (1 : Int32)))]) [1, 2, 3, 0] rfl ?_
      exact ih x1 l2 (x4 + (1 : Int32)) (sF (sF σ 12 (fF σ 11 1).toNatClampNeg (((l2 >>> (((8 : Int32) * x4).toInt64 &&& 63)).toInt32).toInt8.toInt32).toInt8.toInt32) 11 1 ((fF (sF σ 12 (fF σ 11 1).toNatClampNeg (((l2 >>> (((8 : Int32) * x4).toInt64 &&& 63)).toInt32).toInt8.toInt32).toInt8.toInt32) 11 1) + (1 : Int32)))
def f10_addBytes (N : Nat) (σ : am_S) (x1 : Int32) (x2 : Int64) : Option (Int32 × am_S) := if x1 ≤ (160 : Int32) - (fF σ 11 1) then (f10_addBytes_L18 N N x1 x2 (0 : Int32) σ) else (some ((-4 : Int32), σ))
theorem c10_addBytes {l : Launch} {E : am_E} {N : Nat} {σ : am_S} {x1 : Int32} {x2 : Int64} {v : Int32} {σ1 : am_S} (hf : f10_addBytes N σ x1 x2 = some (v, σ1)) : Ctr l E msC YX10_addBytes (0) 0 0 [.ref 11, .int x1, .long x2] σ (some (.int v)) σ1 := by
  refine ctr_of (G := fun u r s => r = some (.int u.1) ∧ s = u.2) (by decide +kernel) (Nat.le_of_ble_eq_true rfl) hf ⟨rfl, rfl⟩ (fun d hd => ?_)
  refine z_eqlv (lv' := [(0, .ref 11), (1, .int x1), (2, .long x2)]) rfl ?_
  unfold f10_addBytes
  refine z_iload_n (pc := 0) 1 dX10_addBytes_0 rfl rfl ?_
  refine z_sipush (pc := 1) (v := (160 : Int32)) dX10_addBytes_1 (by decide) ?_
  refine z_aload_n (pc := 4) 0 dX10_addBytes_4 rfl rfl ?_
  refine z_getI (pc := 5) dX10_addBytes_5 (am_ob.s kC11) fr_RX10_25_10 (by decide) ?_
  refine z_isub (pc := 8) dX10_addBytes_8 ?_
  refine z_ic_le (pc := 9) (tgt := 15) dX10_addBytes_9 (by decide) (fun h1 => ?_) (fun h1 => ?_)
  · refine z_iconst (pc := 15) (v := (0 : Int32)) dX10_addBytes_15 (by decide) ?_
    refine z_istore (pc := 16) (lv' := [(4, .int (0 : Int32)), (0, .ref 11), (1, .int x1), (2, .long x2)]) dX10_addBytes_16 (by decide) rfl ?_
    refine z_lv (lv' := [(0, .ref 11), (1, .int x1), (2, .long x2), (4, .int (0 : Int32))]) [1, 2, 3, 0] rfl ?_
    exact z10_addBytes_L18 hd N x1 x2 (0 : Int32) σ
  · refine z_bipush (pc := 12) (v := (-4 : Int32)) dX10_addBytes_12 (by decide) ?_
    exact z_rIs dX10_addBytes_14 rfl ⟨by decide, by decide⟩
def f10_addSigns_L2 (N : Nat) : Nat → Int32 → am_S → Option am_S
  | 0, _, _ => none
  | n + 1, x2, σ => (s_len 1).bind fun v1 => (if v1 ≤ x2 then (some (σ)) else ((s_at 1 x2).bind fun v4 => ((f10_addBytes N σ (1 : Int32) v4.toInt64).bind fun (v6, s7) => (f10_addSigns_L2 N n (x2 + (1 : Int32)) s7))))
theorem z10_addSigns_L2 {l : Launch} {E : am_E} {d : Nat} {σ0 : am_S} {N : Nat} (hd : 7 ≤ d) : ∀ (n : Nat) (x2 : Int32) (σ : am_S), Z l E msC σ0 YX10_addSigns d 0 0 2 [(0, .ref 11), (1, .ref 1), (2, .int x2)] [] 0 0 σ (f10_addSigns_L2 N n x2 σ) (fun u r s => r = none ∧ s = u) := by
  intro n
  induction n with
  | zero => intros; exact z_none
  | succ n ih =>
    intro x2 σ
    unfold f10_addSigns_L2
    refine z_iload_n (pc := 2) 2 dX10_addSigns_2 rfl rfl ?_
    refine z_aload_n (pc := 3) 1 dX10_addSigns_3 rfl rfl ?_
    refine z_callI (pc := 4) [.ref 1] [.int x2] rfl (lk_str (Yc := YJ0_length_8abf5) dX10_addSigns_4 rfl rfl np_J0_length_8abf5 (by decide) rfl mh_RJ0 (by decide) ml_RX10_29 im_J0_length_8abf5 se_RJ0_J0_length_8abf5_J0_length_8abf5 in_RJ0 cd_J0_length_8abf5) (Nat.le_trans (by decide) hd) ⟨by decide, by decide⟩ (Nat.le_of_ble_eq_true rfl) (am_kp.rf _) (fun v1 h2 => cs_len (by decide) h2) (fun v1 h2 => ?_)
    refine z_ic_ge (pc := 7) (tgt := 28) dX10_addSigns_7 (by decide) (fun h3 => ?_) (fun h3 => ?_)
    · exact z_rVs dX10_addSigns_28 rfl ⟨by decide, by decide⟩
    · refine z_aload_n (pc := 10) 0 dX10_addSigns_10 rfl rfl ?_
      refine z_iconst (pc := 11) (v := (1 : Int32)) dX10_addSigns_11 (by decide) ?_
      refine z_aload_n (pc := 12) 1 dX10_addSigns_12 rfl rfl ?_
      refine z_iload_n (pc := 13) 2 dX10_addSigns_13 rfl rfl ?_
      refine z_callI (pc := 14) [.ref 1, .int x2] [.int (1 : Int32), .ref 11] rfl (lk_str (Yc := YJ0_charAt_5068e) dX10_addSigns_14 rfl rfl np_J0_charAt_5068e (by decide) rfl mh_RJ0 (by decide) ml_RX10_35 im_J0_charAt_5068e se_RJ0_J0_charAt_5068e_J0_charAt_5068e in_RJ0 cd_J0_charAt_5068e) (Nat.le_trans (by decide) hd) ⟨by decide, by decide⟩ (Nat.le_of_ble_eq_true rfl) (am_kp.rf _) (fun v4 h5 => cs_at (by decide) h5) (fun v4 h5 => ?_)
      refine z_i2l (pc := 17) dX10_addSigns_17 ?_
      refine z_callIs (pc := 18) [.ref 11, .int (1 : Int32), .long v4.toInt64] [] rfl (lk_V (Yc := YX10_addBytes) (n := 2) dX10_addSigns_18 rfl rfl (am_ob.s kC11) rfl rfl np_X10_addBytes mh_RX10 (by decide) ml_RX10_39 im_X10_addBytes se_RX10_X10_addBytes_X10_addBytes in_RX10 cd_X10_addBytes) (Nat.le_trans (by decide) hd) ⟨by decide, by decide⟩ (Nat.le_of_ble_eq_true rfl) (am_kp.rf _) (fun v6 s7 h8 => c10_addBytes h8) (fun v6 s7 h8 => ?_)
      refine z_pop (pc := 21) dX10_addSigns_21 rfl ?_
      refine z_iinc (pc := 22) (v := x2 + (1 : Int32)) (lv' := [(2, .int (x2 + (1 : Int32))), (0, .ref 11), (1, .ref 1)]) 2 dX10_addSigns_22 rfl rfl (by decide) rfl ?_
      refine z_goto (pc := 25) (tgt := 2) dX10_addSigns_25 (by decide) ?_
      refine z_lv (lv' := [(0, .ref 11), (1, .ref 1), (2, .int (x2 + (1 : Int32)))]) [1, 2, 0] rfl ?_
      exact ih (x2 + (1 : Int32)) s7
def f10_addSigns (N : Nat) (σ : am_S) : Option am_S := f10_addSigns_L2 N N (0 : Int32) σ
theorem c10_addSigns {l : Launch} {E : am_E} {N : Nat} {σ : am_S} {σ1 : am_S} (hf : f10_addSigns N σ = some σ1) : Ctr l E msC YX10_addSigns (7) 0 0 [.ref 11, .ref 1] σ none σ1 := by
  refine ctr_of (G := fun u r s => r = none ∧ s = u) (by decide +kernel) (Nat.le_of_ble_eq_true rfl) hf ⟨rfl, rfl⟩ (fun d hd => ?_)
  refine z_eqlv (lv' := [(0, .ref 11), (1, .ref 1)]) rfl ?_
  unfold f10_addSigns
  refine z_iconst (pc := 0) (v := (0 : Int32)) dX10_addSigns_0 (by decide) ?_
  refine z_istore_n (pc := 1) (lv' := [(2, .int (0 : Int32)), (0, .ref 11), (1, .ref 1)]) dX10_addSigns_1 rfl (by decide) rfl ?_
  refine z_lv (lv' := [(0, .ref 11), (1, .ref 1), (2, .int (0 : Int32))]) [1, 2, 0] rfl ?_
  exact z10_addSigns_L2 hd N (0 : Int32) σ
def f10_joined (x0 : Int32) (x1 : Int32) (x2 : Int32) : Option Int32 := if x0 = (9 : Int32) then (if x1 = 0 then (if x2 = 0 then (some ((0 : Int32))) else (some ((1 : Int32)))) else (some ((1 : Int32)))) else (if x0 = (10 : Int32) then (if x1 = 0 then (some ((0 : Int32))) else (if x2 = 0 then (some ((0 : Int32))) else (some ((1 : Int32))))) else (if x0 = (43 : Int32) then (some (x1 + x2)) else (if x0 = (45 : Int32) then (some (x1 - x2)) else (if x0 = (60 : Int32) then (if x2 ≤ x1 then (some ((0 : Int32))) else (some ((1 : Int32)))) else (if x0 = (61 : Int32) then (if x1 = x2 then (some ((1 : Int32))) else (some ((0 : Int32)))) else (some (x1 * x2)))))))
theorem c10_joined {l : Launch} {E : am_E} {σ : am_S} {x0 : Int32} {x1 : Int32} {x2 : Int32} {v : Int32} (hf : f10_joined x0 x1 x2 = some v) : Ctr l E msC YX10_joined (0) 0 0 [.int x0, .int x1, .int x2] σ (some (.int v)) σ := by
  refine ctr_of (G := fun u r s => r = some (.int u) ∧ s = σ) (by decide +kernel) (Nat.le_of_ble_eq_true rfl) hf ⟨rfl, rfl⟩ (fun d hd => ?_)
  refine z_eqlv (lv' := [(0, .int x0), (1, .int x1), (2, .int x2)]) rfl ?_
  unfold f10_joined
  refine z_iload_n (pc := 0) 0 dX10_joined_0 rfl rfl ?_
  refine z_ite (fun h1 => ?_) (fun h1 => ?_)
  · refine z_lkEq (pc := 1) (9) (off := 59) (tgt := 60) dX10_joined_1 (by decide) h1 (by decide) (by decide) ?_
    refine z_iload_n (pc := 60) 1 dX10_joined_60 rfl rfl ?_
    refine z_if_ne (pc := 61) (tgt := 68) dX10_joined_61 (by decide) (fun h2 => ?_) (fun h2 => ?_)
    · refine z_iload_n (pc := 64) 2 dX10_joined_64 rfl rfl ?_
      refine z_if_eq (pc := 65) (tgt := 72) dX10_joined_65 (by decide) (fun h3 => ?_) (fun h3 => ?_)
      · refine z_iconst (pc := 72) (v := (0 : Int32)) dX10_joined_72 (by decide) ?_
        exact z_rI dX10_joined_73 rfl ⟨by decide, by decide⟩
      · refine z_iconst (pc := 68) (v := (1 : Int32)) dX10_joined_68 (by decide) ?_
        refine z_goto (pc := 69) (tgt := 73) dX10_joined_69 (by decide) ?_
        exact z_rI dX10_joined_73 rfl ⟨by decide, by decide⟩
    · refine z_iconst (pc := 68) (v := (1 : Int32)) dX10_joined_68 (by decide) ?_
      refine z_goto (pc := 69) (tgt := 73) dX10_joined_69 (by decide) ?_
      exact z_rI dX10_joined_73 rfl ⟨by decide, by decide⟩
  · refine z_ite (fun h4 => ?_) (fun h4 => ?_)
    · refine z_lkEq (pc := 1) (10) (off := 73) (tgt := 74) dX10_joined_1 (by decide) h4 (by decide) (by decide) ?_
      refine z_iload_n (pc := 74) 1 dX10_joined_74 rfl rfl ?_
      refine z_if_eq (pc := 75) (tgt := 86) dX10_joined_75 (by decide) (fun h5 => ?_) (fun h5 => ?_)
      · refine z_iconst (pc := 86) (v := (0 : Int32)) dX10_joined_86 (by decide) ?_
        exact z_rI dX10_joined_87 rfl ⟨by decide, by decide⟩
      · refine z_iload_n (pc := 78) 2 dX10_joined_78 rfl rfl ?_
        refine z_if_eq (pc := 79) (tgt := 86) dX10_joined_79 (by decide) (fun h6 => ?_) (fun h6 => ?_)
        · refine z_iconst (pc := 86) (v := (0 : Int32)) dX10_joined_86 (by decide) ?_
          exact z_rI dX10_joined_87 rfl ⟨by decide, by decide⟩
        · refine z_iconst (pc := 82) (v := (1 : Int32)) dX10_joined_82 (by decide) ?_
          refine z_goto (pc := 83) (tgt := 87) dX10_joined_83 (by decide) ?_
          exact z_rI dX10_joined_87 rfl ⟨by decide, by decide⟩
    · refine z_ite (fun h7 => ?_) (fun h7 => ?_)
      · refine z_lkEq (pc := 1) (43) (off := 109) (tgt := 110) dX10_joined_1 (by decide) h7 (by decide) (by decide) ?_
        refine z_iload_n (pc := 110) 1 dX10_joined_110 rfl rfl ?_
        refine z_iload_n (pc := 111) 2 dX10_joined_111 rfl rfl ?_
        refine z_iadd (pc := 112) dX10_joined_112 ?_
        exact z_rI dX10_joined_113 rfl ⟨by decide, by decide⟩
      · refine z_ite (fun h8 => ?_) (fun h8 => ?_)
        · refine z_lkEq (pc := 1) (45) (off := 113) (tgt := 114) dX10_joined_1 (by decide) h8 (by decide) (by decide) ?_
          refine z_iload_n (pc := 114) 1 dX10_joined_114 rfl rfl ?_
          refine z_iload_n (pc := 115) 2 dX10_joined_115 rfl rfl ?_
          refine z_isub (pc := 116) dX10_joined_116 ?_
          exact z_rI dX10_joined_117 rfl ⟨by decide, by decide⟩
        · refine z_ite (fun h9 => ?_) (fun h9 => ?_)
          · refine z_lkEq (pc := 1) (60) (off := 87) (tgt := 88) dX10_joined_1 (by decide) h9 (by decide) (by decide) ?_
            refine z_iload_n (pc := 88) 1 dX10_joined_88 rfl rfl ?_
            refine z_iload_n (pc := 89) 2 dX10_joined_89 rfl rfl ?_
            refine z_ic_ge (pc := 90) (tgt := 97) dX10_joined_90 (by decide) (fun h10 => ?_) (fun h10 => ?_)
            · refine z_iconst (pc := 97) (v := (0 : Int32)) dX10_joined_97 (by decide) ?_
              exact z_rI dX10_joined_98 rfl ⟨by decide, by decide⟩
            · refine z_iconst (pc := 93) (v := (1 : Int32)) dX10_joined_93 (by decide) ?_
              refine z_goto (pc := 94) (tgt := 98) dX10_joined_94 (by decide) ?_
              exact z_rI dX10_joined_98 rfl ⟨by decide, by decide⟩
          · refine z_ite (fun h11 => ?_) (fun h11 => ?_)
            · refine z_lkEq (pc := 1) (61) (off := 98) (tgt := 99) dX10_joined_1 (by decide) h11 (by decide) (by decide) ?_
              refine z_iload_n (pc := 99) 1 dX10_joined_99 rfl rfl ?_
              refine z_iload_n (pc := 100) 2 dX10_joined_100 rfl rfl ?_
              refine z_ic_ne (pc := 101) (tgt := 108) dX10_joined_101 (by decide) (fun h12 => ?_) (fun h12 => ?_)
              · refine z_iconst (pc := 104) (v := (1 : Int32)) dX10_joined_104 (by decide) ?_
                refine z_goto (pc := 105) (tgt := 109) dX10_joined_105 (by decide) ?_
                exact z_rI dX10_joined_109 rfl ⟨by decide, by decide⟩
              · refine z_iconst (pc := 108) (v := (0 : Int32)) dX10_joined_108 (by decide) ?_
                exact z_rI dX10_joined_109 rfl ⟨by decide, by decide⟩
            · refine z_lookup (pc := 1) (off := 117) (tgt := 118) dX10_joined_1 (by decide) (am_lkX10_joined h1 h4 h7 h8 h9 h11) (by decide) ?_
              refine z_iload_n (pc := 118) 1 dX10_joined_118 rfl rfl ?_
              refine z_iload_n (pc := 119) 2 dX10_joined_119 rfl rfl ?_
              refine z_imul (pc := 120) dX10_joined_120 ?_
              exact z_rI dX10_joined_121 rfl ⟨by decide, by decide⟩
def f10_doStep (σ : am_S) (x1 : Int32) (x2 : Int32) : Option (Int32 × am_S) := if x1 - (10000 : Int32) < 0 then (if (64 : Int32) ≤ x2 then (some (x2, σ)) else (if 0 ≤ x1 - (10000 : Int32) then (if am_in (x1 - (10000 : Int32)) 6 = true then (if am_in x2 64 = true then (some (x2 + (1 : Int32), sF σ 15 x2.toNatClampNeg (fF σ 16 (x1 - (10000 : Int32)).toNatClampNeg))) else none) else none) else (if am_in x2 64 = true then (some (x2 + (1 : Int32), sF σ 15 x2.toNatClampNeg x1)) else none))) else (if (6 : Int32) ≤ x1 - (10000 : Int32) then (if x1 - (10000 : Int32) = (11 : Int32) then (if x2 ≤ 0 then (some (x2, σ)) else (if am_in (x2 - (1 : Int32)) 64 = true then (if x1 - (10000 : Int32) = (15 : Int32) then (if am_in (x2 - (1 : Int32)) 64 = true then (some (x2, sF σ 15 (x2 - (1 : Int32)).toNatClampNeg (-(fF σ 15 (x2 - (1 : Int32)).toNatClampNeg)))) else none) else (if fF σ 15 (x2 - (1 : Int32)).toNatClampNeg = 0 then (if am_in (x2 - (1 : Int32)) 64 = true then (some (x2, sF σ 15 (x2 - (1 : Int32)).toNatClampNeg (1 : Int32))) else none) else (if am_in (x2 - (1 : Int32)) 64 = true then (some (x2, sF σ 15 (x2 - (1 : Int32)).toNatClampNeg (0 : Int32))) else none))) else none)) else (if x1 - (10000 : Int32) = (15 : Int32) then (if x2 ≤ 0 then (some (x2, σ)) else (if am_in (x2 - (1 : Int32)) 64 = true then (if x1 - (10000 : Int32) = (15 : Int32) then (if am_in (x2 - (1 : Int32)) 64 = true then (some (x2, sF σ 15 (x2 - (1 : Int32)).toNatClampNeg (-(fF σ 15 (x2 - (1 : Int32)).toNatClampNeg)))) else none) else (if fF σ 15 (x2 - (1 : Int32)).toNatClampNeg = 0 then (if am_in (x2 - (1 : Int32)) 64 = true then (some (x2, sF σ 15 (x2 - (1 : Int32)).toNatClampNeg (1 : Int32))) else none) else (if am_in (x2 - (1 : Int32)) 64 = true then (some (x2, sF σ 15 (x2 - (1 : Int32)).toNatClampNeg (0 : Int32))) else none))) else none)) else (if x2 ≤ (1 : Int32) then (some (x2, σ)) else (if am_in (x2 - (2 : Int32)) 64 = true then (if am_in (x2 - (1 : Int32)) 64 = true then ((f10_joined (x1 - (10000 : Int32)) (fF σ 15 (x2 - (2 : Int32)).toNatClampNeg) (fF σ 15 (x2 - (1 : Int32)).toNatClampNeg)).bind fun v27 => (if am_in (x2 - (2 : Int32)) 64 = true then (some (x2 - (1 : Int32), sF σ 15 (x2 - (2 : Int32)).toNatClampNeg v27)) else none)) else none) else none)))) else (if (64 : Int32) ≤ x2 then (some (x2, σ)) else (if 0 ≤ x1 - (10000 : Int32) then (if am_in (x1 - (10000 : Int32)) 6 = true then (if am_in x2 64 = true then (some (x2 + (1 : Int32), sF σ 15 x2.toNatClampNeg (fF σ 16 (x1 - (10000 : Int32)).toNatClampNeg))) else none) else none) else (if am_in x2 64 = true then (some (x2 + (1 : Int32), sF σ 15 x2.toNatClampNeg x1)) else none))))
theorem c10_doStep {l : Launch} {E : am_E} {σ : am_S} {x1 : Int32} {x2 : Int32} {v : Int32} {σ1 : am_S} (hf : f10_doStep σ x1 x2 = some (v, σ1)) : Ctr l E msC YX10_doStep (1) 0 0 [.ref 11, .int x1, .int x2, .ref 16] σ (some (.int v)) σ1 := by
  refine ctr_of (G := fun u r s => r = some (.int u.1) ∧ s = u.2) (by decide +kernel) (Nat.le_of_ble_eq_true rfl) hf ⟨rfl, rfl⟩ (fun d hd => ?_)
  refine z_eqlv (lv' := [(0, .ref 11), (1, .int x1), (2, .int x2), (3, .ref 16)]) rfl ?_
  unfold f10_doStep
  refine z_iload_n (pc := 0) 1 dX10_doStep_0 rfl rfl ?_
  refine z_sipush (pc := 1) (v := (10000 : Int32)) dX10_doStep_1 (by decide) ?_
  refine z_isub (pc := 4) dX10_doStep_4 ?_
  refine z_istore (pc := 5) (lv' := [(4, .int (x1 - (10000 : Int32))), (0, .ref 11), (1, .int x1), (2, .int x2), (3, .ref 16)]) dX10_doStep_5 (by decide) rfl ?_
  refine z_iload (pc := 7) 0 dX10_doStep_7 rfl ?_
  refine z_if_lt (pc := 9) (tgt := 19) dX10_doStep_9 (by decide) (fun h1 => ?_) (fun h1 => ?_)
  · refine z_iload_n (pc := 19) 3 dX10_doStep_19 rfl rfl ?_
    refine z_bipush (pc := 20) (v := (64 : Int32)) dX10_doStep_20 (by decide) ?_
    refine z_ic_ge (pc := 22) (tgt := 48) dX10_doStep_22 (by decide) (fun h2 => ?_) (fun h2 => ?_)
    · refine z_iload_n (pc := 48) 3 dX10_doStep_48 rfl rfl ?_
      exact z_rIs dX10_doStep_49 rfl ⟨by decide, by decide⟩
    · refine z_aload_n (pc := 25) 1 dX10_doStep_25 rfl rfl ?_
      refine z_getQ (pc := 26) (b := 15) dX10_doStep_26 kC11 fr_RX10_22_10 (by decide) rfl ?_
      refine z_iload_n (pc := 29) 3 dX10_doStep_29 rfl rfl ?_
      refine z_iload (pc := 30) 0 dX10_doStep_30 rfl ?_
      refine z_if_ge (pc := 32) (tgt := 39) dX10_doStep_32 (by decide) (fun h3 => ?_) (fun h3 => ?_)
      · refine z_aload_n (pc := 39) 4 dX10_doStep_39 rfl rfl ?_
        refine z_iload (pc := 40) 0 dX10_doStep_40 rfl ?_
        refine z_iald (pc := 42) dX10_doStep_42 (am_ar.s kC16) (fun h4 => ?_)
        refine z_iast (pc := 43) dX10_doStep_43 (am_ar.s kC15) (fun h5 => ?_)
        refine z_iload_n (pc := 44) 3 dX10_doStep_44 rfl rfl ?_
        refine z_iconst (pc := 45) (v := (1 : Int32)) dX10_doStep_45 (by decide) ?_
        refine z_iadd (pc := 46) dX10_doStep_46 ?_
        exact z_rIs dX10_doStep_47 rfl ⟨by decide, by decide⟩
      · refine z_iload_n (pc := 35) 2 dX10_doStep_35 rfl rfl ?_
        refine z_goto (pc := 36) (tgt := 43) dX10_doStep_36 (by decide) ?_
        refine z_iast (pc := 43) dX10_doStep_43 (am_ar.s kC15) (fun h6 => ?_)
        refine z_iload_n (pc := 44) 3 dX10_doStep_44 rfl rfl ?_
        refine z_iconst (pc := 45) (v := (1 : Int32)) dX10_doStep_45 (by decide) ?_
        refine z_iadd (pc := 46) dX10_doStep_46 ?_
        exact z_rIs dX10_doStep_47 rfl ⟨by decide, by decide⟩
  · refine z_iload (pc := 12) 0 dX10_doStep_12 rfl ?_
    refine z_aload_n (pc := 14) 4 dX10_doStep_14 rfl rfl ?_
    refine z_alen (pc := 15) dX10_doStep_15 (by decide) (am_ar.s kC16) (v := (6 : Int32)) (by decide) ?_
    refine z_ic_ge (pc := 16) (tgt := 50) dX10_doStep_16 (by decide) (fun h7 => ?_) (fun h7 => ?_)
    · refine z_iload (pc := 50) 0 dX10_doStep_50 rfl ?_
      refine z_bipush (pc := 52) (v := (11 : Int32)) dX10_doStep_52 (by decide) ?_
      refine z_ic_eq (pc := 54) (tgt := 64) dX10_doStep_54 (by decide) (fun h8 => ?_) (fun h8 => ?_)
      · refine z_iload_n (pc := 64) 3 dX10_doStep_64 rfl rfl ?_
        refine z_if_le (pc := 65) (tgt := 109) dX10_doStep_65 (by decide) (fun h9 => ?_) (fun h9 => ?_)
        · refine z_iload_n (pc := 109) 3 dX10_doStep_109 rfl rfl ?_
          exact z_rIs dX10_doStep_110 rfl ⟨by decide, by decide⟩
        · refine z_aload_n (pc := 68) 1 dX10_doStep_68 rfl rfl ?_
          refine z_getQ (pc := 69) (b := 15) dX10_doStep_69 kC11 fr_RX10_22_10 (by decide) rfl ?_
          refine z_iload_n (pc := 72) 3 dX10_doStep_72 rfl rfl ?_
          refine z_iconst (pc := 73) (v := (1 : Int32)) dX10_doStep_73 (by decide) ?_
          refine z_isub (pc := 74) dX10_doStep_74 ?_
          refine z_iald (pc := 75) dX10_doStep_75 (am_ar.s kC15) (fun h10 => ?_)
          refine z_istore (pc := 76) (lv' := [(5, .int (fF σ 15 (x2 - (1 : Int32)).toNatClampNeg)), (4, .int (x1 - (10000 : Int32))), (0, .ref 11), (1, .int x1), (2, .int x2), (3, .ref 16)]) dX10_doStep_76 (by decide) rfl ?_
          refine z_aload_n (pc := 78) 2 dX10_doStep_78 rfl rfl ?_
          refine z_getQ (pc := 79) (b := 15) dX10_doStep_79 kC11 fr_RX10_22_10 (by decide) rfl ?_
          refine z_iload_n (pc := 82) 4 dX10_doStep_82 rfl rfl ?_
          refine z_iconst (pc := 83) (v := (1 : Int32)) dX10_doStep_83 (by decide) ?_
          refine z_isub (pc := 84) dX10_doStep_84 ?_
          refine z_iload (pc := 85) 1 dX10_doStep_85 rfl ?_
          refine z_bipush (pc := 87) (v := (15 : Int32)) dX10_doStep_87 (by decide) ?_
          refine z_ic_ne (pc := 89) (tgt := 98) dX10_doStep_89 (by decide) (fun h11 => ?_) (fun h11 => ?_)
          · refine z_iload (pc := 92) 0 dX10_doStep_92 rfl ?_
            refine z_ineg (pc := 94) dX10_doStep_94 ?_
            refine z_goto (pc := 95) (tgt := 108) dX10_doStep_95 (by decide) ?_
            refine z_iast (pc := 108) dX10_doStep_108 (am_ar.s kC15) (fun h12 => ?_)
            refine z_iload_n (pc := 109) 4 dX10_doStep_109 rfl rfl ?_
            exact z_rIs dX10_doStep_110 rfl ⟨by decide, by decide⟩
          · refine z_iload (pc := 98) 0 dX10_doStep_98 rfl ?_
            refine z_if_ne (pc := 100) (tgt := 107) dX10_doStep_100 (by decide) (fun h13 => ?_) (fun h13 => ?_)
            · refine z_iconst (pc := 103) (v := (1 : Int32)) dX10_doStep_103 (by decide) ?_
              refine z_goto (pc := 104) (tgt := 108) dX10_doStep_104 (by decide) ?_
              refine z_iast (pc := 108) dX10_doStep_108 (am_ar.s kC15) (fun h14 => ?_)
              refine z_iload_n (pc := 109) 4 dX10_doStep_109 rfl rfl ?_
              exact z_rIs dX10_doStep_110 rfl ⟨by decide, by decide⟩
            · refine z_iconst (pc := 107) (v := (0 : Int32)) dX10_doStep_107 (by decide) ?_
              refine z_iast (pc := 108) dX10_doStep_108 (am_ar.s kC15) (fun h15 => ?_)
              refine z_iload_n (pc := 109) 4 dX10_doStep_109 rfl rfl ?_
              exact z_rIs dX10_doStep_110 rfl ⟨by decide, by decide⟩
      · refine z_iload (pc := 57) 0 dX10_doStep_57 rfl ?_
        refine z_bipush (pc := 59) (v := (15 : Int32)) dX10_doStep_59 (by decide) ?_
        refine z_ic_ne (pc := 61) (tgt := 111) dX10_doStep_61 (by decide) (fun h16 => ?_) (fun h16 => ?_)
        · refine z_iload_n (pc := 64) 3 dX10_doStep_64 rfl rfl ?_
          refine z_if_le (pc := 65) (tgt := 109) dX10_doStep_65 (by decide) (fun h17 => ?_) (fun h17 => ?_)
          · refine z_iload_n (pc := 109) 3 dX10_doStep_109 rfl rfl ?_
            exact z_rIs dX10_doStep_110 rfl ⟨by decide, by decide⟩
          · refine z_aload_n (pc := 68) 1 dX10_doStep_68 rfl rfl ?_
            refine z_getQ (pc := 69) (b := 15) dX10_doStep_69 kC11 fr_RX10_22_10 (by decide) rfl ?_
            refine z_iload_n (pc := 72) 3 dX10_doStep_72 rfl rfl ?_
            refine z_iconst (pc := 73) (v := (1 : Int32)) dX10_doStep_73 (by decide) ?_
            refine z_isub (pc := 74) dX10_doStep_74 ?_
            refine z_iald (pc := 75) dX10_doStep_75 (am_ar.s kC15) (fun h18 => ?_)
            refine z_istore (pc := 76) (lv' := [(5, .int (fF σ 15 (x2 - (1 : Int32)).toNatClampNeg)), (4, .int (x1 - (10000 : Int32))), (0, .ref 11), (1, .int x1), (2, .int x2), (3, .ref 16)]) dX10_doStep_76 (by decide) rfl ?_
            refine z_aload_n (pc := 78) 2 dX10_doStep_78 rfl rfl ?_
            refine z_getQ (pc := 79) (b := 15) dX10_doStep_79 kC11 fr_RX10_22_10 (by decide) rfl ?_
            refine z_iload_n (pc := 82) 4 dX10_doStep_82 rfl rfl ?_
            refine z_iconst (pc := 83) (v := (1 : Int32)) dX10_doStep_83 (by decide) ?_
            refine z_isub (pc := 84) dX10_doStep_84 ?_
            refine z_iload (pc := 85) 1 dX10_doStep_85 rfl ?_
            refine z_bipush (pc := 87) (v := (15 : Int32)) dX10_doStep_87 (by decide) ?_
            refine z_ic_ne (pc := 89) (tgt := 98) dX10_doStep_89 (by decide) (fun h19 => ?_) (fun h19 => ?_)
            · refine z_iload (pc := 92) 0 dX10_doStep_92 rfl ?_
              refine z_ineg (pc := 94) dX10_doStep_94 ?_
              refine z_goto (pc := 95) (tgt := 108) dX10_doStep_95 (by decide) ?_
              refine z_iast (pc := 108) dX10_doStep_108 (am_ar.s kC15) (fun h20 => ?_)
              refine z_iload_n (pc := 109) 4 dX10_doStep_109 rfl rfl ?_
              exact z_rIs dX10_doStep_110 rfl ⟨by decide, by decide⟩
            · refine z_iload (pc := 98) 0 dX10_doStep_98 rfl ?_
              refine z_if_ne (pc := 100) (tgt := 107) dX10_doStep_100 (by decide) (fun h21 => ?_) (fun h21 => ?_)
              · refine z_iconst (pc := 103) (v := (1 : Int32)) dX10_doStep_103 (by decide) ?_
                refine z_goto (pc := 104) (tgt := 108) dX10_doStep_104 (by decide) ?_
                refine z_iast (pc := 108) dX10_doStep_108 (am_ar.s kC15) (fun h22 => ?_)
                refine z_iload_n (pc := 109) 4 dX10_doStep_109 rfl rfl ?_
                exact z_rIs dX10_doStep_110 rfl ⟨by decide, by decide⟩
              · refine z_iconst (pc := 107) (v := (0 : Int32)) dX10_doStep_107 (by decide) ?_
                refine z_iast (pc := 108) dX10_doStep_108 (am_ar.s kC15) (fun h23 => ?_)
                refine z_iload_n (pc := 109) 4 dX10_doStep_109 rfl rfl ?_
                exact z_rIs dX10_doStep_110 rfl ⟨by decide, by decide⟩
        · refine z_iload_n (pc := 111) 3 dX10_doStep_111 rfl rfl ?_
          refine z_iconst (pc := 112) (v := (1 : Int32)) dX10_doStep_112 (by decide) ?_
          refine z_ic_le (pc := 113) (tgt := 149) dX10_doStep_113 (by decide) (fun h24 => ?_) (fun h24 => ?_)
          · refine z_iload_n (pc := 149) 3 dX10_doStep_149 rfl rfl ?_
            exact z_rIs dX10_doStep_150 rfl ⟨by decide, by decide⟩
          · refine z_aload_n (pc := 116) 1 dX10_doStep_116 rfl rfl ?_
            refine z_getQ (pc := 117) (b := 15) dX10_doStep_117 kC11 fr_RX10_22_10 (by decide) rfl ?_
            refine z_iload_n (pc := 120) 3 dX10_doStep_120 rfl rfl ?_
            refine z_iconst (pc := 121) (v := (2 : Int32)) dX10_doStep_121 (by decide) ?_
            refine z_isub (pc := 122) dX10_doStep_122 ?_
            refine z_iload (pc := 123) 0 dX10_doStep_123 rfl ?_
            refine z_aload_n (pc := 125) 1 dX10_doStep_125 rfl rfl ?_
            refine z_getQ (pc := 126) (b := 15) dX10_doStep_126 kC11 fr_RX10_22_10 (by decide) rfl ?_
            refine z_iload_n (pc := 129) 3 dX10_doStep_129 rfl rfl ?_
            refine z_iconst (pc := 130) (v := (2 : Int32)) dX10_doStep_130 (by decide) ?_
            refine z_isub (pc := 131) dX10_doStep_131 ?_
            refine z_iald (pc := 132) dX10_doStep_132 (am_ar.s kC15) (fun h25 => ?_)
            refine z_aload_n (pc := 133) 1 dX10_doStep_133 rfl rfl ?_
            refine z_getQ (pc := 134) (b := 15) dX10_doStep_134 kC11 fr_RX10_22_10 (by decide) rfl ?_
            refine z_iload_n (pc := 137) 3 dX10_doStep_137 rfl rfl ?_
            refine z_iconst (pc := 138) (v := (1 : Int32)) dX10_doStep_138 (by decide) ?_
            refine z_isub (pc := 139) dX10_doStep_139 ?_
            refine z_iald (pc := 140) dX10_doStep_140 (am_ar.s kC15) (fun h26 => ?_)
            refine z_callI (pc := 141) [.int (x1 - (10000 : Int32)), .int (fF σ 15 (x2 - (2 : Int32)).toNatClampNeg), .int (fF σ 15 (x2 - (1 : Int32)).toNatClampNeg)] [.int (x2 - (2 : Int32)), .ref 15] rfl (lk_S (Yc := YX10_joined) (n := 3) dX10_doStep_141 rfl np_X10_joined mh_RX10 (by decide) ml_RX10_123 st_X10_joined in_RX10 cd_X10_joined) (Nat.le_trans (by decide) hd) ⟨by decide, by decide⟩ (Nat.le_of_ble_eq_true rfl) (am_kp.rf _) (fun v27 h29 => c10_joined h29) (fun v27 h29 => ?_)
            refine z_iast (pc := 144) dX10_doStep_144 (am_ar.s kC15) (fun h30 => ?_)
            refine z_iload_n (pc := 145) 3 dX10_doStep_145 rfl rfl ?_
            refine z_iconst (pc := 146) (v := (1 : Int32)) dX10_doStep_146 (by decide) ?_
            refine z_isub (pc := 147) dX10_doStep_147 ?_
            exact z_rIs dX10_doStep_148 rfl ⟨by decide, by decide⟩
    · refine z_iload_n (pc := 19) 3 dX10_doStep_19 rfl rfl ?_
      refine z_bipush (pc := 20) (v := (64 : Int32)) dX10_doStep_20 (by decide) ?_
      refine z_ic_ge (pc := 22) (tgt := 48) dX10_doStep_22 (by decide) (fun h31 => ?_) (fun h31 => ?_)
      · refine z_iload_n (pc := 48) 3 dX10_doStep_48 rfl rfl ?_
        exact z_rIs dX10_doStep_49 rfl ⟨by decide, by decide⟩
      · refine z_aload_n (pc := 25) 1 dX10_doStep_25 rfl rfl ?_
        refine z_getQ (pc := 26) (b := 15) dX10_doStep_26 kC11 fr_RX10_22_10 (by decide) rfl ?_
        refine z_iload_n (pc := 29) 3 dX10_doStep_29 rfl rfl ?_
        refine z_iload (pc := 30) 0 dX10_doStep_30 rfl ?_
        refine z_if_ge (pc := 32) (tgt := 39) dX10_doStep_32 (by decide) (fun h32 => ?_) (fun h32 => ?_)
        · refine z_aload_n (pc := 39) 4 dX10_doStep_39 rfl rfl ?_
          refine z_iload (pc := 40) 0 dX10_doStep_40 rfl ?_
          refine z_iald (pc := 42) dX10_doStep_42 (am_ar.s kC16) (fun h33 => ?_)
          refine z_iast (pc := 43) dX10_doStep_43 (am_ar.s kC15) (fun h34 => ?_)
          refine z_iload_n (pc := 44) 3 dX10_doStep_44 rfl rfl ?_
          refine z_iconst (pc := 45) (v := (1 : Int32)) dX10_doStep_45 (by decide) ?_
          refine z_iadd (pc := 46) dX10_doStep_46 ?_
          exact z_rIs dX10_doStep_47 rfl ⟨by decide, by decide⟩
        · refine z_iload_n (pc := 35) 2 dX10_doStep_35 rfl rfl ?_
          refine z_goto (pc := 36) (tgt := 43) dX10_doStep_36 (by decide) ?_
          refine z_iast (pc := 43) dX10_doStep_43 (am_ar.s kC15) (fun h35 => ?_)
          refine z_iload_n (pc := 44) 3 dX10_doStep_44 rfl rfl ?_
          refine z_iconst (pc := 45) (v := (1 : Int32)) dX10_doStep_45 (by decide) ?_
          refine z_iadd (pc := 46) dX10_doStep_46 ?_
          exact z_rIs dX10_doStep_47 rfl ⟨by decide, by decide⟩
def f10_isDigit (x0 : Int32) : Option Bool := if x0 < (48 : Int32) then (some (false)) else (if (57 : Int32) < x0 then (some (false)) else (some (true)))
theorem c10_isDigit {l : Launch} {E : am_E} {σ : am_S} {x0 : Int32} {v : Bool} (hf : f10_isDigit x0 = some v) : Ctr l E msC YX10_isDigit (0) 0 0 [.int x0] σ (some (.int (bI v))) σ := by
  refine ctr_of (G := fun u r s => r = some (.int (bI u)) ∧ s = σ) (by decide +kernel) (Nat.le_of_ble_eq_true rfl) hf ⟨rfl, rfl⟩ (fun d hd => ?_)
  refine z_eqlv (lv' := [(0, .int x0)]) rfl ?_
  unfold f10_isDigit
  refine z_iload_n (pc := 0) 0 dX10_isDigit_0 rfl rfl ?_
  refine z_bipush (pc := 1) (v := (48 : Int32)) dX10_isDigit_1 (by decide) ?_
  refine z_ic_lt (pc := 3) (tgt := 16) dX10_isDigit_3 (by decide) (fun h1 => ?_) (fun h1 => ?_)
  · refine z_iconst (pc := 16) (v := (0 : Int32)) dX10_isDigit_16 (by decide) ?_
    exact z_rB (b := false) rfl dX10_isDigit_17 rfl ⟨by decide, by decide⟩
  · refine z_iload_n (pc := 6) 0 dX10_isDigit_6 rfl rfl ?_
    refine z_bipush (pc := 7) (v := (57 : Int32)) dX10_isDigit_7 (by decide) ?_
    refine z_ic_gt (pc := 9) (tgt := 16) dX10_isDigit_9 (by decide) (fun h2 => ?_) (fun h2 => ?_)
    · refine z_iconst (pc := 16) (v := (0 : Int32)) dX10_isDigit_16 (by decide) ?_
      exact z_rB (b := false) rfl dX10_isDigit_17 rfl ⟨by decide, by decide⟩
    · refine z_iconst (pc := 12) (v := (1 : Int32)) dX10_isDigit_12 (by decide) ?_
      refine z_goto (pc := 13) (tgt := 17) dX10_isDigit_13 (by decide) ?_
      exact z_rB (b := true) rfl dX10_isDigit_17 rfl ⟨by decide, by decide⟩
def f10_isLetter (x0 : Int32) : Option Bool := if x0 < (97 : Int32) then (some (false)) else (if (122 : Int32) < x0 then (some (false)) else (some (true)))
theorem c10_isLetter {l : Launch} {E : am_E} {σ : am_S} {x0 : Int32} {v : Bool} (hf : f10_isLetter x0 = some v) : Ctr l E msC YX10_isLetter (0) 0 0 [.int x0] σ (some (.int (bI v))) σ := by
  refine ctr_of (G := fun u r s => r = some (.int (bI u)) ∧ s = σ) (by decide +kernel) (Nat.le_of_ble_eq_true rfl) hf ⟨rfl, rfl⟩ (fun d hd => ?_)
  refine z_eqlv (lv' := [(0, .int x0)]) rfl ?_
  unfold f10_isLetter
  refine z_iload_n (pc := 0) 0 dX10_isLetter_0 rfl rfl ?_
  refine z_bipush (pc := 1) (v := (97 : Int32)) dX10_isLetter_1 (by decide) ?_
  refine z_ic_lt (pc := 3) (tgt := 16) dX10_isLetter_3 (by decide) (fun h1 => ?_) (fun h1 => ?_)
  · refine z_iconst (pc := 16) (v := (0 : Int32)) dX10_isLetter_16 (by decide) ?_
    exact z_rB (b := false) rfl dX10_isLetter_17 rfl ⟨by decide, by decide⟩
  · refine z_iload_n (pc := 6) 0 dX10_isLetter_6 rfl rfl ?_
    refine z_bipush (pc := 7) (v := (122 : Int32)) dX10_isLetter_7 (by decide) ?_
    refine z_ic_gt (pc := 9) (tgt := 16) dX10_isLetter_9 (by decide) (fun h2 => ?_) (fun h2 => ?_)
    · refine z_iconst (pc := 16) (v := (0 : Int32)) dX10_isLetter_16 (by decide) ?_
      exact z_rB (b := false) rfl dX10_isLetter_17 rfl ⟨by decide, by decide⟩
    · refine z_iconst (pc := 12) (v := (1 : Int32)) dX10_isLetter_12 (by decide) ?_
      refine z_goto (pc := 13) (tgt := 17) dX10_isLetter_13 (by decide) ?_
      exact z_rB (b := true) rfl dX10_isLetter_17 rfl ⟨by decide, by decide⟩
def f10_isWord_L21 (σ : am_S) (N : Nat) : Nat → Int32 → Bool → Int32 → Option Bool
  | 0, _, _, _ => none
  | n + 1, x1, x2, x3 => if (5 : Int32) ≤ x3 then (some (x2)) else (if x2 = true then (if fF σ 11 8 ≤ (fF σ 11 9) + x3 then ((s_at 2 ((x1 * (5 : Int32)) + x3)).bind fun v5 => (if (32 : Int32) = v5 then (f10_isWord_L21 σ N n x1 true (x3 + (1 : Int32))) else (f10_isWord_L21 σ N n x1 false (x3 + (1 : Int32))))) else (if am_in ((fF σ 11 9) + x3) 160 = true then ((s_at 2 ((x1 * (5 : Int32)) + x3)).bind fun v9 => (if fF σ 12 ((fF σ 11 9) + x3).toNatClampNeg = v9 then (f10_isWord_L21 σ N n x1 true (x3 + (1 : Int32))) else (f10_isWord_L21 σ N n x1 false (x3 + (1 : Int32))))) else none)) else (some (x2)))
theorem z10_isWord_L21 {l : Launch} {E : am_E} {d : Nat} {N : Nat} {σ : am_S} (hd : 7 ≤ d) : ∀ (n : Nat) (x1 : Int32) (x2 : Bool) (x3 : Int32), Z l E msC σ YX10_isWord d 0 0 21 [(0, .ref 11), (1, .int x1), (2, .int (bI x2)), (3, .int x3)] [] 0 0 σ (f10_isWord_L21 σ N n x1 x2 x3) (fun u r s => r = some (.int (bI u)) ∧ s = σ) := by
  intro n
  induction n with
  | zero => intros; exact z_none
  | succ n ih =>
    intro x1 x2 x3
    unfold f10_isWord_L21
    refine z_iload_n (pc := 21) 3 dX10_isWord_21 rfl rfl ?_
    refine z_iconst (pc := 22) (v := (5 : Int32)) dX10_isWord_22 (by decide) ?_
    refine z_ic_ge (pc := 23) (tgt := 88) dX10_isWord_23 (by decide) (fun h2 => ?_) (fun h2 => ?_)
    · refine z_iload_n (pc := 88) 2 dX10_isWord_88 rfl rfl ?_
      exact z_rB (b := x2) rfl dX10_isWord_89 rfl ⟨by decide, by decide⟩
    · refine z_iload_n (pc := 26) 2 dX10_isWord_26 rfl rfl ?_
      refine z_bz_eq (pc := 27) (tgt := 88) dX10_isWord_27 (by decide) (fun h3 => ?_) (fun h3 => ?_)
      · refine z_aload_n (pc := 30) 0 dX10_isWord_30 rfl rfl ?_
        refine z_getI (pc := 31) dX10_isWord_31 (am_ob.s kC11) fr_RX10_90_10 (by decide) ?_
        refine z_iload_n (pc := 34) 3 dX10_isWord_34 rfl rfl ?_
        refine z_iadd (pc := 35) dX10_isWord_35 ?_
        refine z_aload_n (pc := 36) 0 dX10_isWord_36 rfl rfl ?_
        refine z_getI (pc := 37) dX10_isWord_37 (am_ob.s kC11) fr_RX10_48_10 (by decide) ?_
        refine z_ic_ge (pc := 40) (tgt := 57) dX10_isWord_40 (by decide) (fun h4 => ?_) (fun h4 => ?_)
        · refine z_bipush (pc := 57) (v := (32 : Int32)) dX10_isWord_57 (by decide) ?_
          refine z_istore (pc := 59) (lv' := [(4, .int (32 : Int32)), (0, .ref 11), (1, .int x1), (2, .int (bI x2)), (3, .int x3)]) dX10_isWord_59 (by decide) rfl ?_
          refine z_iload (pc := 61) 0 dX10_isWord_61 rfl ?_
          refine z_ldcS (pc := 63) dX10_isWord_63 (str_RX10_114) ?_
          refine z_iload_n (pc := 65) 2 dX10_isWord_65 rfl rfl ?_
          refine z_iconst (pc := 66) (v := (5 : Int32)) dX10_isWord_66 (by decide) ?_
          refine z_imul (pc := 67) dX10_isWord_67 ?_
          refine z_iload_n (pc := 68) 4 dX10_isWord_68 rfl rfl ?_
          refine z_iadd (pc := 69) dX10_isWord_69 ?_
          refine z_callI (pc := 70) [.ref 2, .int ((x1 * (5 : Int32)) + x3)] [.int (32 : Int32)] rfl (lk_str (Yc := YJ0_charAt_5068e) dX10_isWord_70 rfl rfl np_J0_charAt_5068e (by decide) rfl mh_RJ0 (by decide) ml_RX10_35 im_J0_charAt_5068e se_RJ0_J0_charAt_5068e_J0_charAt_5068e in_RJ0 cd_J0_charAt_5068e) (Nat.le_trans (by decide) hd) ⟨by decide, by decide⟩ (Nat.le_of_ble_eq_true rfl) (am_kp.rf _) (fun v5 h6 => cs_at (by decide) h6) (fun v5 h6 => ?_)
          refine z_ic_ne (pc := 73) (tgt := 80) dX10_isWord_73 (by decide) (fun h7 => ?_) (fun h7 => ?_)
          · refine z_iconst (pc := 76) (v := (1 : Int32)) dX10_isWord_76 (by decide) ?_
            refine z_goto (pc := 77) (tgt := 81) dX10_isWord_77 (by decide) ?_
            refine z_istore_n (pc := 81) (lv' := [(2, .int (1 : Int32)), (4, .int (32 : Int32)), (0, .ref 11), (1, .int x1), (3, .int x3)]) dX10_isWord_81 rfl (by decide) rfl ?_
            refine z_iinc (pc := 82) (v := x3 + (1 : Int32)) (lv' := [(3, .int (x3 + (1 : Int32))), (2, .int (1 : Int32)), (4, .int (32 : Int32)), (0, .ref 11), (1, .int x1)]) 4 dX10_isWord_82 rfl rfl (by decide) rfl ?_
            refine z_goto (pc := 85) (tgt := 21) dX10_isWord_85 (by decide) ?_
            refine z_lv (lv' := [(0, .ref 11), (1, .int x1), (2, .int (bI true)), (3, .int (x3 + (1 : Int32)))]) [3, 4, 1, 0] rfl ?_
            exact ih x1 true (x3 + (1 : Int32))
          · refine z_iconst (pc := 80) (v := (0 : Int32)) dX10_isWord_80 (by decide) ?_
            refine z_istore_n (pc := 81) (lv' := [(2, .int (0 : Int32)), (4, .int (32 : Int32)), (0, .ref 11), (1, .int x1), (3, .int x3)]) dX10_isWord_81 rfl (by decide) rfl ?_
            refine z_iinc (pc := 82) (v := x3 + (1 : Int32)) (lv' := [(3, .int (x3 + (1 : Int32))), (2, .int (0 : Int32)), (4, .int (32 : Int32)), (0, .ref 11), (1, .int x1)]) 4 dX10_isWord_82 rfl rfl (by decide) rfl ?_
            refine z_goto (pc := 85) (tgt := 21) dX10_isWord_85 (by decide) ?_
            refine z_lv (lv' := [(0, .ref 11), (1, .int x1), (2, .int (bI false)), (3, .int (x3 + (1 : Int32)))]) [3, 4, 1, 0] rfl ?_
            exact ih x1 false (x3 + (1 : Int32))
        · refine z_aload_n (pc := 43) 0 dX10_isWord_43 rfl rfl ?_
          refine z_getQ (pc := 44) (b := 12) dX10_isWord_44 kC11 fr_RX10_11_10 (by decide) rfl ?_
          refine z_aload_n (pc := 47) 0 dX10_isWord_47 rfl rfl ?_
          refine z_getI (pc := 48) dX10_isWord_48 (am_ob.s kC11) fr_RX10_90_10 (by decide) ?_
          refine z_iload_n (pc := 51) 3 dX10_isWord_51 rfl rfl ?_
          refine z_iadd (pc := 52) dX10_isWord_52 ?_
          refine z_bald (pc := 53) dX10_isWord_53 (am_ar.s kC12) (fun h8 => ?_)
          refine z_goto (pc := 54) (tgt := 59) dX10_isWord_54 (by decide) ?_
          refine z_istore (pc := 59) (lv' := [(4, .int (fF σ 12 ((fF σ 11 9) + x3).toNatClampNeg)), (0, .ref 11), (1, .int x1), (2, .int (bI x2)), (3, .int x3)]) dX10_isWord_59 (by decide) rfl ?_
          refine z_iload (pc := 61) 0 dX10_isWord_61 rfl ?_
          refine z_ldcS (pc := 63) dX10_isWord_63 (str_RX10_114) ?_
          refine z_iload_n (pc := 65) 2 dX10_isWord_65 rfl rfl ?_
          refine z_iconst (pc := 66) (v := (5 : Int32)) dX10_isWord_66 (by decide) ?_
          refine z_imul (pc := 67) dX10_isWord_67 ?_
          refine z_iload_n (pc := 68) 4 dX10_isWord_68 rfl rfl ?_
          refine z_iadd (pc := 69) dX10_isWord_69 ?_
          refine z_callI (pc := 70) [.ref 2, .int ((x1 * (5 : Int32)) + x3)] [.int (fF σ 12 ((fF σ 11 9) + x3).toNatClampNeg)] rfl (lk_str (Yc := YJ0_charAt_5068e) dX10_isWord_70 rfl rfl np_J0_charAt_5068e (by decide) rfl mh_RJ0 (by decide) ml_RX10_35 im_J0_charAt_5068e se_RJ0_J0_charAt_5068e_J0_charAt_5068e in_RJ0 cd_J0_charAt_5068e) (Nat.le_trans (by decide) hd) ⟨by decide, by decide⟩ (Nat.le_of_ble_eq_true rfl) (am_kp.rf _) (fun v9 h10 => cs_at (by decide) h10) (fun v9 h10 => ?_)
          refine z_ic_ne (pc := 73) (tgt := 80) dX10_isWord_73 (by decide) (fun h11 => ?_) (fun h11 => ?_)
          · refine z_iconst (pc := 76) (v := (1 : Int32)) dX10_isWord_76 (by decide) ?_
            refine z_goto (pc := 77) (tgt := 81) dX10_isWord_77 (by decide) ?_
            refine z_istore_n (pc := 81) (lv' := [(2, .int (1 : Int32)), (4, .int (fF σ 12 ((fF σ 11 9) + x3).toNatClampNeg)), (0, .ref 11), (1, .int x1), (3, .int x3)]) dX10_isWord_81 rfl (by decide) rfl ?_
            refine z_iinc (pc := 82) (v := x3 + (1 : Int32)) (lv' := [(3, .int (x3 + (1 : Int32))), (2, .int (1 : Int32)), (4, .int (fF σ 12 ((fF σ 11 9) + x3).toNatClampNeg)), (0, .ref 11), (1, .int x1)]) 4 dX10_isWord_82 rfl rfl (by decide) rfl ?_
            refine z_goto (pc := 85) (tgt := 21) dX10_isWord_85 (by decide) ?_
            refine z_lv (lv' := [(0, .ref 11), (1, .int x1), (2, .int (bI true)), (3, .int (x3 + (1 : Int32)))]) [3, 4, 1, 0] rfl ?_
            exact ih x1 true (x3 + (1 : Int32))
          · refine z_iconst (pc := 80) (v := (0 : Int32)) dX10_isWord_80 (by decide) ?_
            refine z_istore_n (pc := 81) (lv' := [(2, .int (0 : Int32)), (4, .int (fF σ 12 ((fF σ 11 9) + x3).toNatClampNeg)), (0, .ref 11), (1, .int x1), (3, .int x3)]) dX10_isWord_81 rfl (by decide) rfl ?_
            refine z_iinc (pc := 82) (v := x3 + (1 : Int32)) (lv' := [(3, .int (x3 + (1 : Int32))), (2, .int (0 : Int32)), (4, .int (fF σ 12 ((fF σ 11 9) + x3).toNatClampNeg)), (0, .ref 11), (1, .int x1)]) 4 dX10_isWord_82 rfl rfl (by decide) rfl ?_
            refine z_goto (pc := 85) (tgt := 21) dX10_isWord_85 (by decide) ?_
            refine z_lv (lv' := [(0, .ref 11), (1, .int x1), (2, .int (bI false)), (3, .int (x3 + (1 : Int32)))]) [3, 4, 1, 0] rfl ?_
            exact ih x1 false (x3 + (1 : Int32))
      · refine z_iload_n (pc := 88) 2 dX10_isWord_88 rfl rfl ?_
        exact z_rB (b := x2) rfl dX10_isWord_89 rfl ⟨by decide, by decide⟩
def f10_isWord (N : Nat) (σ : am_S) (x1 : Int32) : Option Bool := if (5 : Int32) < (fF σ 11 8) - (fF σ 11 9) then (f10_isWord_L21 σ N N x1 false (0 : Int32)) else (f10_isWord_L21 σ N N x1 true (0 : Int32))
theorem c10_isWord {l : Launch} {E : am_E} {N : Nat} {σ : am_S} {x1 : Int32} {v : Bool} (hf : f10_isWord N σ x1 = some v) : Ctr l E msC YX10_isWord (7) 0 0 [.ref 11, .int x1] σ (some (.int (bI v))) σ := by
  refine ctr_of (G := fun u r s => r = some (.int (bI u)) ∧ s = σ) (by decide +kernel) (Nat.le_of_ble_eq_true rfl) hf ⟨rfl, rfl⟩ (fun d hd => ?_)
  refine z_eqlv (lv' := [(0, .ref 11), (1, .int x1)]) rfl ?_
  unfold f10_isWord
  refine z_aload_n (pc := 0) 0 dX10_isWord_0 rfl rfl ?_
  refine z_getI (pc := 1) dX10_isWord_1 (am_ob.s kC11) fr_RX10_48_10 (by decide) ?_
  refine z_aload_n (pc := 4) 0 dX10_isWord_4 rfl rfl ?_
  refine z_getI (pc := 5) dX10_isWord_5 (am_ob.s kC11) fr_RX10_90_10 (by decide) ?_
  refine z_isub (pc := 8) dX10_isWord_8 ?_
  refine z_iconst (pc := 9) (v := (5 : Int32)) dX10_isWord_9 (by decide) ?_
  refine z_ic_gt (pc := 10) (tgt := 17) dX10_isWord_10 (by decide) (fun h1 => ?_) (fun h1 => ?_)
  · refine z_iconst (pc := 17) (v := (0 : Int32)) dX10_isWord_17 (by decide) ?_
    refine z_istore_n (pc := 18) (lv' := [(2, .int (0 : Int32)), (0, .ref 11), (1, .int x1)]) dX10_isWord_18 rfl (by decide) rfl ?_
    refine z_iconst (pc := 19) (v := (0 : Int32)) dX10_isWord_19 (by decide) ?_
    refine z_istore_n (pc := 20) (lv' := [(3, .int (0 : Int32)), (2, .int (0 : Int32)), (0, .ref 11), (1, .int x1)]) dX10_isWord_20 rfl (by decide) rfl ?_
    refine z_lv (lv' := [(0, .ref 11), (1, .int x1), (2, .int (bI false)), (3, .int (0 : Int32))]) [2, 3, 1, 0] rfl ?_
    exact z10_isWord_L21 hd N x1 false (0 : Int32)
  · refine z_iconst (pc := 13) (v := (1 : Int32)) dX10_isWord_13 (by decide) ?_
    refine z_goto (pc := 14) (tgt := 18) dX10_isWord_14 (by decide) ?_
    refine z_istore_n (pc := 18) (lv' := [(2, .int (1 : Int32)), (0, .ref 11), (1, .int x1)]) dX10_isWord_18 rfl (by decide) rfl ?_
    refine z_iconst (pc := 19) (v := (0 : Int32)) dX10_isWord_19 (by decide) ?_
    refine z_istore_n (pc := 20) (lv' := [(3, .int (0 : Int32)), (2, .int (1 : Int32)), (0, .ref 11), (1, .int x1)]) dX10_isWord_20 rfl (by decide) rfl ?_
    refine z_lv (lv' := [(0, .ref 11), (1, .int x1), (2, .int (bI true)), (3, .int (0 : Int32))]) [2, 3, 1, 0] rfl ?_
    exact z10_isWord_L21 hd N x1 true (0 : Int32)
def f10_joins (σ : am_S) (x1 : Int32) : Option Bool := if x1 = (0 : Int32) then (if fF σ 11 10 = (9 : Int32) then (some (true)) else (some (false))) else (if x1 = (1 : Int32) then (if fF σ 11 10 = (10 : Int32) then (some (true)) else (some (false))) else (if x1 = (2 : Int32) then (if fF σ 11 10 = (60 : Int32) then (some (true)) else (if fF σ 11 10 = (61 : Int32) then (some (true)) else (some (false)))) else (if x1 = (3 : Int32) then (if fF σ 11 10 = (43 : Int32) then (some (true)) else (if fF σ 11 10 = (45 : Int32) then (some (true)) else (some (false)))) else (if x1 = (4 : Int32) then (if fF σ 11 10 = (42 : Int32) then (some (true)) else (some (false))) else (some (false))))))
theorem c10_joins {l : Launch} {E : am_E} {σ : am_S} {x1 : Int32} {v : Bool} (hf : f10_joins σ x1 = some v) : Ctr l E msC YX10_joins (0) 0 0 [.ref 11, .int x1] σ (some (.int (bI v))) σ := by
  refine ctr_of (G := fun u r s => r = some (.int (bI u)) ∧ s = σ) (by decide +kernel) (Nat.le_of_ble_eq_true rfl) hf ⟨rfl, rfl⟩ (fun d hd => ?_)
  refine z_eqlv (lv' := [(0, .ref 11), (1, .int x1)]) rfl ?_
  unfold f10_joins
  refine z_iload_n (pc := 0) 1 dX10_joins_0 rfl rfl ?_
  refine z_ite (fun h1 => ?_) (fun h1 => ?_)
  · refine z_tsEq (pc := 1) (0) (off := 35) (tgt := 36) dX10_joins_1 h1 (by decide) (by decide) (by decide) (by decide) ?_
    refine z_aload_n (pc := 36) 0 dX10_joins_36 rfl rfl ?_
    refine z_getI (pc := 37) dX10_joins_37 (am_ob.s kC11) fr_RX10_68_10 (by decide) ?_
    refine z_bipush (pc := 40) (v := (9 : Int32)) dX10_joins_40 (by decide) ?_
    refine z_ic_ne (pc := 42) (tgt := 49) dX10_joins_42 (by decide) (fun h2 => ?_) (fun h2 => ?_)
    · refine z_iconst (pc := 45) (v := (1 : Int32)) dX10_joins_45 (by decide) ?_
      refine z_goto (pc := 46) (tgt := 50) dX10_joins_46 (by decide) ?_
      exact z_rB (b := true) rfl dX10_joins_50 rfl ⟨by decide, by decide⟩
    · refine z_iconst (pc := 49) (v := (0 : Int32)) dX10_joins_49 (by decide) ?_
      exact z_rB (b := false) rfl dX10_joins_50 rfl ⟨by decide, by decide⟩
  · refine z_ite (fun h3 => ?_) (fun h3 => ?_)
    · refine z_tsEq (pc := 1) (1) (off := 50) (tgt := 51) dX10_joins_1 h3 (by decide) (by decide) (by decide) (by decide) ?_
      refine z_aload_n (pc := 51) 0 dX10_joins_51 rfl rfl ?_
      refine z_getI (pc := 52) dX10_joins_52 (am_ob.s kC11) fr_RX10_68_10 (by decide) ?_
      refine z_bipush (pc := 55) (v := (10 : Int32)) dX10_joins_55 (by decide) ?_
      refine z_ic_ne (pc := 57) (tgt := 64) dX10_joins_57 (by decide) (fun h4 => ?_) (fun h4 => ?_)
      · refine z_iconst (pc := 60) (v := (1 : Int32)) dX10_joins_60 (by decide) ?_
        refine z_goto (pc := 61) (tgt := 65) dX10_joins_61 (by decide) ?_
        exact z_rB (b := true) rfl dX10_joins_65 rfl ⟨by decide, by decide⟩
      · refine z_iconst (pc := 64) (v := (0 : Int32)) dX10_joins_64 (by decide) ?_
        exact z_rB (b := false) rfl dX10_joins_65 rfl ⟨by decide, by decide⟩
    · refine z_ite (fun h5 => ?_) (fun h5 => ?_)
      · refine z_tsEq (pc := 1) (2) (off := 65) (tgt := 66) dX10_joins_1 h5 (by decide) (by decide) (by decide) (by decide) ?_
        refine z_aload_n (pc := 66) 0 dX10_joins_66 rfl rfl ?_
        refine z_getI (pc := 67) dX10_joins_67 (am_ob.s kC11) fr_RX10_68_10 (by decide) ?_
        refine z_bipush (pc := 70) (v := (60 : Int32)) dX10_joins_70 (by decide) ?_
        refine z_ic_eq (pc := 72) (tgt := 84) dX10_joins_72 (by decide) (fun h6 => ?_) (fun h6 => ?_)
        · refine z_iconst (pc := 84) (v := (1 : Int32)) dX10_joins_84 (by decide) ?_
          refine z_goto (pc := 85) (tgt := 89) dX10_joins_85 (by decide) ?_
          exact z_rB (b := true) rfl dX10_joins_89 rfl ⟨by decide, by decide⟩
        · refine z_aload_n (pc := 75) 0 dX10_joins_75 rfl rfl ?_
          refine z_getI (pc := 76) dX10_joins_76 (am_ob.s kC11) fr_RX10_68_10 (by decide) ?_
          refine z_bipush (pc := 79) (v := (61 : Int32)) dX10_joins_79 (by decide) ?_
          refine z_ic_ne (pc := 81) (tgt := 88) dX10_joins_81 (by decide) (fun h7 => ?_) (fun h7 => ?_)
          · refine z_iconst (pc := 84) (v := (1 : Int32)) dX10_joins_84 (by decide) ?_
            refine z_goto (pc := 85) (tgt := 89) dX10_joins_85 (by decide) ?_
            exact z_rB (b := true) rfl dX10_joins_89 rfl ⟨by decide, by decide⟩
          · refine z_iconst (pc := 88) (v := (0 : Int32)) dX10_joins_88 (by decide) ?_
            exact z_rB (b := false) rfl dX10_joins_89 rfl ⟨by decide, by decide⟩
      · refine z_ite (fun h8 => ?_) (fun h8 => ?_)
        · refine z_tsEq (pc := 1) (3) (off := 89) (tgt := 90) dX10_joins_1 h8 (by decide) (by decide) (by decide) (by decide) ?_
          refine z_aload_n (pc := 90) 0 dX10_joins_90 rfl rfl ?_
          refine z_getI (pc := 91) dX10_joins_91 (am_ob.s kC11) fr_RX10_68_10 (by decide) ?_
          refine z_bipush (pc := 94) (v := (43 : Int32)) dX10_joins_94 (by decide) ?_
          refine z_ic_eq (pc := 96) (tgt := 108) dX10_joins_96 (by decide) (fun h9 => ?_) (fun h9 => ?_)
          · refine z_iconst (pc := 108) (v := (1 : Int32)) dX10_joins_108 (by decide) ?_
            refine z_goto (pc := 109) (tgt := 113) dX10_joins_109 (by decide) ?_
            exact z_rB (b := true) rfl dX10_joins_113 rfl ⟨by decide, by decide⟩
          · refine z_aload_n (pc := 99) 0 dX10_joins_99 rfl rfl ?_
            refine z_getI (pc := 100) dX10_joins_100 (am_ob.s kC11) fr_RX10_68_10 (by decide) ?_
            refine z_bipush (pc := 103) (v := (45 : Int32)) dX10_joins_103 (by decide) ?_
            refine z_ic_ne (pc := 105) (tgt := 112) dX10_joins_105 (by decide) (fun h10 => ?_) (fun h10 => ?_)
            · refine z_iconst (pc := 108) (v := (1 : Int32)) dX10_joins_108 (by decide) ?_
              refine z_goto (pc := 109) (tgt := 113) dX10_joins_109 (by decide) ?_
              exact z_rB (b := true) rfl dX10_joins_113 rfl ⟨by decide, by decide⟩
            · refine z_iconst (pc := 112) (v := (0 : Int32)) dX10_joins_112 (by decide) ?_
              exact z_rB (b := false) rfl dX10_joins_113 rfl ⟨by decide, by decide⟩
        · refine z_ite (fun h11 => ?_) (fun h11 => ?_)
          · refine z_tsEq (pc := 1) (4) (off := 113) (tgt := 114) dX10_joins_1 h11 (by decide) (by decide) (by decide) (by decide) ?_
            refine z_aload_n (pc := 114) 0 dX10_joins_114 rfl rfl ?_
            refine z_getI (pc := 115) dX10_joins_115 (am_ob.s kC11) fr_RX10_68_10 (by decide) ?_
            refine z_bipush (pc := 118) (v := (42 : Int32)) dX10_joins_118 (by decide) ?_
            refine z_ic_ne (pc := 120) (tgt := 127) dX10_joins_120 (by decide) (fun h12 => ?_) (fun h12 => ?_)
            · refine z_iconst (pc := 123) (v := (1 : Int32)) dX10_joins_123 (by decide) ?_
              refine z_goto (pc := 124) (tgt := 128) dX10_joins_124 (by decide) ?_
              exact z_rB (b := true) rfl dX10_joins_128 rfl ⟨by decide, by decide⟩
            · refine z_iconst (pc := 127) (v := (0 : Int32)) dX10_joins_127 (by decide) ?_
              exact z_rB (b := false) rfl dX10_joins_128 rfl ⟨by decide, by decide⟩
          · refine z_tsNe (pc := 1) (tgt := 129) [0, 1, 2, 3, 4] 5 dX10_joins_1 (by decide) (by decide) (List.forall_mem_cons.mpr ⟨h1, List.forall_mem_cons.mpr ⟨h3, List.forall_mem_cons.mpr ⟨h5, List.forall_mem_cons.mpr ⟨h8, List.forall_mem_cons.mpr ⟨h11, List.forall_mem_nil _⟩⟩⟩⟩⟩) (by decide) ?_
            refine z_iconst (pc := 129) (v := (0 : Int32)) dX10_joins_129 (by decide) ?_
            exact z_rB (b := false) rfl dX10_joins_130 rfl ⟨by decide, by decide⟩
def f10_takeWord_L47 (N : Nat) : Nat → Int32 → am_S → Option am_S
  | 0, _, _ => none
  | n + 1, x1, σ => if (12 : Int32) ≤ x1 then (some (σ)) else ((f10_isWord N σ x1).bind fun v3 => (if v3 = true then (f10_takeWord_L47 N n (x1 + (1 : Int32)) (sF σ 11 10 x1)) else (f10_takeWord_L47 N n (x1 + (1 : Int32)) σ)))
theorem z10_takeWord_L47 {l : Launch} {E : am_E} {d : Nat} {σ0 : am_S} {N : Nat} (hd : 8 ≤ d) : ∀ (n : Nat) (x1 : Int32) (σ : am_S), Z l E msC σ0 YX10_takeWord d 0 0 47 [(0, .ref 11), (1, .int x1)] [] 0 0 σ (f10_takeWord_L47 N n x1 σ) (fun u r s => r = none ∧ s = u) := by
  intro n
  induction n with
  | zero => intros; exact z_none
  | succ n ih =>
    intro x1 σ
    unfold f10_takeWord_L47
    refine z_iload_n (pc := 47) 1 dX10_takeWord_47 rfl rfl ?_
    refine z_bipush (pc := 48) (v := (12 : Int32)) dX10_takeWord_48 (by decide) ?_
    refine z_ic_ge (pc := 50) (tgt := 72) dX10_takeWord_50 (by decide) (fun h2 => ?_) (fun h2 => ?_)
    · exact z_rVs dX10_takeWord_72 rfl ⟨by decide, by decide⟩
    · refine z_aload_n (pc := 53) 0 dX10_takeWord_53 rfl rfl ?_
      refine z_iload_n (pc := 54) 1 dX10_takeWord_54 rfl rfl ?_
      refine z_callB (pc := 55) [.ref 11, .int x1] [] rfl (lk_V (Yc := YX10_isWord) (n := 1) dX10_takeWord_55 rfl rfl (am_ob.s kC11) rfl rfl np_X10_isWord mh_RX10 (by decide) ml_RX10_111 im_X10_isWord se_RX10_X10_isWord_X10_isWord in_RX10 cd_X10_isWord) (Nat.le_trans (by decide) hd) ⟨by decide, by decide⟩ (Nat.le_of_ble_eq_true rfl) (am_kp.rf _) (fun v3 h5 => c10_isWord h5) (fun v3 h5 => ?_)
      refine z_bz_eq (pc := 58) (tgt := 66) dX10_takeWord_58 (by decide) (fun h6 => ?_) (fun h6 => ?_)
      · refine z_aload_n (pc := 61) 0 dX10_takeWord_61 rfl rfl ?_
        refine z_iload_n (pc := 62) 1 dX10_takeWord_62 rfl rfl ?_
        refine z_putI (pc := 63) dX10_takeWord_63 (am_ob.s kC11) fw_RX10_68_10 (by decide) ?_
        refine z_iinc (pc := 66) (v := x1 + (1 : Int32)) (lv' := [(1, .int (x1 + (1 : Int32))), (0, .ref 11)]) 1 dX10_takeWord_66 rfl rfl (by decide) rfl ?_
        refine z_goto (pc := 69) (tgt := 47) dX10_takeWord_69 (by decide) ?_
        refine z_lv (lv' := [(0, .ref 11), (1, .int (x1 + (1 : Int32)))]) [1, 0] rfl ?_
        exact ih (x1 + (1 : Int32)) (sF σ 11 10 x1)
      · refine z_iinc (pc := 66) (v := x1 + (1 : Int32)) (lv' := [(1, .int (x1 + (1 : Int32))), (0, .ref 11)]) 1 dX10_takeWord_66 rfl rfl (by decide) rfl ?_
        refine z_goto (pc := 69) (tgt := 47) dX10_takeWord_69 (by decide) ?_
        refine z_lv (lv' := [(0, .ref 11), (1, .int (x1 + (1 : Int32)))]) [1, 0] rfl ?_
        exact ih (x1 + (1 : Int32)) σ
def f10_takeWord_J39 (N : Nat) (σ : am_S) : Option am_S := f10_takeWord_L47 N N (0 : Int32) (sF σ 11 10 (14 : Int32))
theorem z10_takeWord_J39 {l : Launch} {E : am_E} {d : Nat} {σ0 : am_S} {N : Nat} (hd : 8 ≤ d) (σ : am_S) : Z l E msC σ0 YX10_takeWord d 0 0 39 [(0, .ref 11)] [] 0 0 σ (f10_takeWord_J39 N σ) (fun u r s => r = none ∧ s = u) := by
  unfold f10_takeWord_J39
  refine z_aload_n (pc := 39) 0 dX10_takeWord_39 rfl rfl ?_
  refine z_bipush (pc := 40) (v := (14 : Int32)) dX10_takeWord_40 (by decide) ?_
  refine z_putI (pc := 42) dX10_takeWord_42 (am_ob.s kC11) fw_RX10_68_10 (by decide) ?_
  refine z_iconst (pc := 45) (v := (0 : Int32)) dX10_takeWord_45 (by decide) ?_
  refine z_istore_n (pc := 46) (lv' := [(1, .int (0 : Int32)), (0, .ref 11)]) dX10_takeWord_46 rfl (by decide) rfl ?_
  refine z_lv (lv' := [(0, .ref 11), (1, .int (0 : Int32))]) [1, 0] rfl ?_
  exact z10_takeWord_L47 hd N (0 : Int32) (sF σ 11 10 (14 : Int32))
def f10_takeWord_L0 (N : Nat) : Nat → am_S → Option am_S
  | 0, _ => none
  | n + 1, σ => if fF σ 11 1 ≤ fF σ 11 8 then (f10_takeWord_J39 N σ) else (if am_in (fF σ 11 8) 160 = true then ((f10_isLetter (fF σ 12 (fF σ 11 8).toNatClampNeg)).bind fun v8 => (if v8 = true then (f10_takeWord_L0 N n (sF σ 11 8 ((fF σ 11 8) + (1 : Int32)))) else (f10_takeWord_J39 N σ))) else none)
theorem z10_takeWord_L0 {l : Launch} {E : am_E} {d : Nat} {σ0 : am_S} {N : Nat} (hd : 8 ≤ d) : ∀ (n : Nat) (σ : am_S), Z l E msC σ0 YX10_takeWord d 0 0 0 [(0, .ref 11)] [] 0 0 σ (f10_takeWord_L0 N n σ) (fun u r s => r = none ∧ s = u) := by
  intro n
  induction n with
  | zero => intros; exact z_none
  | succ n ih =>
    intro σ
    unfold f10_takeWord_L0
    refine z_aload_n (pc := 0) 0 dX10_takeWord_0 rfl rfl ?_
    refine z_getI (pc := 1) dX10_takeWord_1 (am_ob.s kC11) fr_RX10_48_10 (by decide) ?_
    refine z_aload_n (pc := 4) 0 dX10_takeWord_4 rfl rfl ?_
    refine z_getI (pc := 5) dX10_takeWord_5 (am_ob.s kC11) fr_RX10_25_10 (by decide) ?_
    refine z_ic_ge (pc := 8) (tgt := 39) dX10_takeWord_8 (by decide) (fun h1 => ?_) (fun h1 => ?_)
    · refine z_lv (lv' := [(0, .ref 11)]) [0] rfl ?_
      exact z10_takeWord_J39 hd σ
    · refine z_aload_n (pc := 11) 0 dX10_takeWord_11 rfl rfl ?_
      refine z_getQ (pc := 12) (b := 12) dX10_takeWord_12 kC11 fr_RX10_11_10 (by decide) rfl ?_
      refine z_aload_n (pc := 15) 0 dX10_takeWord_15 rfl rfl ?_
      refine z_getI (pc := 16) dX10_takeWord_16 (am_ob.s kC11) fr_RX10_48_10 (by decide) ?_
      refine z_bald (pc := 19) dX10_takeWord_19 (am_ar.s kC12) (fun h7 => ?_)
      refine z_callB (pc := 20) [.int (fF σ 12 (fF σ 11 8).toNatClampNeg)] [] rfl (lk_S (Yc := YX10_isLetter) (n := 1) dX10_takeWord_20 rfl np_X10_isLetter mh_RX10 (by decide) ml_RX10_93 st_X10_isLetter in_RX10 cd_X10_isLetter) (Nat.le_trans (by decide) hd) ⟨by decide, by decide⟩ (Nat.le_of_ble_eq_true rfl) (am_kp.rf _) (fun v8 h10 => c10_isLetter h10) (fun v8 h10 => ?_)
      refine z_bz_eq (pc := 23) (tgt := 39) dX10_takeWord_23 (by decide) (fun h11 => ?_) (fun h11 => ?_)
      · refine z_aload_n (pc := 26) 0 dX10_takeWord_26 rfl rfl ?_
        refine z_dup (pc := 27) dX10_takeWord_27 rfl ?_
        refine z_getI (pc := 28) dX10_takeWord_28 (am_ob.s kC11) fr_RX10_48_10 (by decide) ?_
        refine z_iconst (pc := 31) (v := (1 : Int32)) dX10_takeWord_31 (by decide) ?_
        refine z_iadd (pc := 32) dX10_takeWord_32 ?_
        refine z_putI (pc := 33) dX10_takeWord_33 (am_ob.s kC11) fw_RX10_48_10 (by decide) ?_
        refine z_goto (pc := 36) (tgt := 0) dX10_takeWord_36 (by decide) ?_
        refine z_lv (lv' := [(0, .ref 11)]) [0] rfl ?_
        exact ih (sF σ 11 8 ((fF σ 11 8) + (1 : Int32)))
      · refine z_lv (lv' := [(0, .ref 11)]) [0] rfl ?_
        exact z10_takeWord_J39 hd σ
def f10_takeWord (N : Nat) (σ : am_S) : Option am_S := f10_takeWord_L0 N N σ
theorem c10_takeWord {l : Launch} {E : am_E} {N : Nat} {σ : am_S} {σ1 : am_S} (hf : f10_takeWord N σ = some σ1) : Ctr l E msC YX10_takeWord (8) 0 0 [.ref 11] σ none σ1 := by
  refine ctr_of (G := fun u r s => r = none ∧ s = u) (by decide +kernel) (Nat.le_of_ble_eq_true rfl) hf ⟨rfl, rfl⟩ (fun d hd => ?_)
  refine z_eqlv (lv' := [(0, .ref 11)]) rfl ?_
  unfold f10_takeWord
  refine z_lv (lv' := [(0, .ref 11)]) [0] rfl ?_
  exact z10_takeWord_L0 hd N σ
def f10_takeNumber_J68 (N : Nat) (σ : am_S) : Option am_S := if (fF σ 11 8) - (fF σ 11 9) ≤ (4 : Int32) then (some (sF σ 11 10 (12 : Int32))) else (some (sF σ 11 10 (14 : Int32)))
theorem z10_takeNumber_J68 {l : Launch} {E : am_E} {d : Nat} {σ0 : am_S} {N : Nat} (hd : 1 ≤ d) (σ : am_S) : Z l E msC σ0 YX10_takeNumber d 0 0 68 [(0, .ref 11)] [] 0 0 σ (f10_takeNumber_J68 N σ) (fun u r s => r = none ∧ s = u) := by
  unfold f10_takeNumber_J68
  refine z_aload_n (pc := 68) 0 dX10_takeNumber_68 rfl rfl ?_
  refine z_aload_n (pc := 69) 0 dX10_takeNumber_69 rfl rfl ?_
  refine z_getI (pc := 70) dX10_takeNumber_70 (am_ob.s kC11) fr_RX10_48_10 (by decide) ?_
  refine z_aload_n (pc := 73) 0 dX10_takeNumber_73 rfl rfl ?_
  refine z_getI (pc := 74) dX10_takeNumber_74 (am_ob.s kC11) fr_RX10_90_10 (by decide) ?_
  refine z_isub (pc := 77) dX10_takeNumber_77 ?_
  refine z_iconst (pc := 78) (v := (4 : Int32)) dX10_takeNumber_78 (by decide) ?_
  refine z_ic_le (pc := 79) (tgt := 87) dX10_takeNumber_79 (by decide) (fun h2 => ?_) (fun h2 => ?_)
  · refine z_bipush (pc := 87) (v := (12 : Int32)) dX10_takeNumber_87 (by decide) ?_
    refine z_putI (pc := 89) dX10_takeNumber_89 (am_ob.s kC11) fw_RX10_68_10 (by decide) ?_
    exact z_rVs dX10_takeNumber_92 rfl ⟨by decide, by decide⟩
  · refine z_bipush (pc := 82) (v := (14 : Int32)) dX10_takeNumber_82 (by decide) ?_
    refine z_goto (pc := 84) (tgt := 89) dX10_takeNumber_84 (by decide) ?_
    refine z_putI (pc := 89) dX10_takeNumber_89 (am_ob.s kC11) fw_RX10_68_10 (by decide) ?_
    exact z_rVs dX10_takeNumber_92 rfl ⟨by decide, by decide⟩
def f10_takeNumber_L5 (N : Nat) : Nat → am_S → Option am_S
  | 0, _ => none
  | n + 1, σ => if fF σ 11 1 ≤ fF σ 11 8 then (f10_takeNumber_J68 N σ) else (if am_in (fF σ 11 8) 160 = true then ((f10_isDigit (fF σ 12 (fF σ 11 8).toNatClampNeg)).bind fun v4 => (if v4 = true then (if am_in (fF σ 11 8) 160 = true then (f10_takeNumber_L5 N n (sF (sF σ 11 11 ((((fF σ 11 11) * (10 : Int32)) + (fF σ 12 (fF σ 11 8).toNatClampNeg)) - (48 : Int32))) 11 8 ((fF (sF σ 11 11 ((((fF σ 11 11) * (10 : Int32)) + (fF σ 12 (fF σ 11 8).toNatClampNeg)) - (48 : Int32))) 11 8) + (1 : Int32)))) else none) else (f10_takeNumber_J68 N σ))) else none)
theorem z10_takeNumber_L5 {l : Launch} {E : am_E} {d : Nat} {σ0 : am_S} {N : Nat} (hd : 1 ≤ d) : ∀ (n : Nat) (σ : am_S), Z l E msC σ0 YX10_takeNumber d 0 0 5 [(0, .ref 11)] [] 0 0 σ (f10_takeNumber_L5 N n σ) (fun u r s => r = none ∧ s = u) := by
  intro n
  induction n with
  | zero => intros; exact z_none
  | succ n ih =>
    intro σ
    unfold f10_takeNumber_L5
    refine z_aload_n (pc := 5) 0 dX10_takeNumber_5 rfl rfl ?_
    refine z_getI (pc := 6) dX10_takeNumber_6 (am_ob.s kC11) fr_RX10_48_10 (by decide) ?_
    refine z_aload_n (pc := 9) 0 dX10_takeNumber_9 rfl rfl ?_
    refine z_getI (pc := 10) dX10_takeNumber_10 (am_ob.s kC11) fr_RX10_25_10 (by decide) ?_
    refine z_ic_ge (pc := 13) (tgt := 68) dX10_takeNumber_13 (by decide) (fun h1 => ?_) (fun h1 => ?_)
    · refine z_lv (lv' := [(0, .ref 11)]) [0] rfl ?_
      exact z10_takeNumber_J68 hd σ
    · refine z_aload_n (pc := 16) 0 dX10_takeNumber_16 rfl rfl ?_
      refine z_getQ (pc := 17) (b := 12) dX10_takeNumber_17 kC11 fr_RX10_11_10 (by decide) rfl ?_
      refine z_aload_n (pc := 20) 0 dX10_takeNumber_20 rfl rfl ?_
      refine z_getI (pc := 21) dX10_takeNumber_21 (am_ob.s kC11) fr_RX10_48_10 (by decide) ?_
      refine z_bald (pc := 24) dX10_takeNumber_24 (am_ar.s kC12) (fun h3 => ?_)
      refine z_callB (pc := 25) [.int (fF σ 12 (fF σ 11 8).toNatClampNeg)] [] rfl (lk_S (Yc := YX10_isDigit) (n := 1) dX10_takeNumber_25 rfl np_X10_isDigit mh_RX10 (by decide) ml_RX10_99 st_X10_isDigit in_RX10 cd_X10_isDigit) (Nat.le_trans (by decide) hd) ⟨by decide, by decide⟩ (Nat.le_of_ble_eq_true rfl) (am_kp.rf _) (fun v4 h6 => c10_isDigit h6) (fun v4 h6 => ?_)
      refine z_bz_eq (pc := 28) (tgt := 68) dX10_takeNumber_28 (by decide) (fun h7 => ?_) (fun h7 => ?_)
      · refine z_aload_n (pc := 31) 0 dX10_takeNumber_31 rfl rfl ?_
        refine z_aload_n (pc := 32) 0 dX10_takeNumber_32 rfl rfl ?_
        refine z_getI (pc := 33) dX10_takeNumber_33 (am_ob.s kC11) fr_RX10_83_10 (by decide) ?_
        refine z_bipush (pc := 36) (v := (10 : Int32)) dX10_takeNumber_36 (by decide) ?_
        refine z_imul (pc := 38) dX10_takeNumber_38 ?_
        refine z_aload_n (pc := 39) 0 dX10_takeNumber_39 rfl rfl ?_
        refine z_getQ (pc := 40) (b := 12) dX10_takeNumber_40 kC11 fr_RX10_11_10 (by decide) rfl ?_
        refine z_aload_n (pc := 43) 0 dX10_takeNumber_43 rfl rfl ?_
        refine z_getI (pc := 44) dX10_takeNumber_44 (am_ob.s kC11) fr_RX10_48_10 (by decide) ?_
        refine z_bald (pc := 47) dX10_takeNumber_47 (am_ar.s kC12) (fun h8 => ?_)
        refine z_iadd (pc := 48) dX10_takeNumber_48 ?_
        refine z_bipush (pc := 49) (v := (48 : Int32)) dX10_takeNumber_49 (by decide) ?_
        refine z_isub (pc := 51) dX10_takeNumber_51 ?_
        refine z_putI (pc := 52) dX10_takeNumber_52 (am_ob.s kC11) fw_RX10_83_10 (by decide) ?_
        refine z_aload_n (pc := 55) 0 dX10_takeNumber_55 rfl rfl ?_
        refine z_dup (pc := 56) dX10_takeNumber_56 rfl ?_
        refine z_getI (pc := 57) dX10_takeNumber_57 (am_ob.s kC11) fr_RX10_48_10 (by decide) ?_
        refine z_iconst (pc := 60) (v := (1 : Int32)) dX10_takeNumber_60 (by decide) ?_
        refine z_iadd (pc := 61) dX10_takeNumber_61 ?_
        refine z_putI (pc := 62) dX10_takeNumber_62 (am_ob.s kC11) fw_RX10_48_10 (by decide) ?_
        refine z_goto (pc := 65) (tgt := 5) dX10_takeNumber_65 (by decide) ?_
        refine z_lv (lv' := [(0, .ref 11)]) [0] rfl ?_
        exact ih (sF (sF σ 11 11 ((((fF σ 11 11) * (10 : Int32)) + (fF σ 12 (fF σ 11 8).toNatClampNeg)) - (48 : Int32))) 11 8 ((fF (sF σ 11 11 ((((fF σ 11 11) * (10 : Int32)) + (fF σ 12 (fF σ 11 8).toNatClampNeg)) - (48 : Int32))) 11 8) + (1 : Int32)))
      · refine z_lv (lv' := [(0, .ref 11)]) [0] rfl ?_
        exact z10_takeNumber_J68 hd σ
def f10_takeNumber (N : Nat) (σ : am_S) : Option am_S := f10_takeNumber_L5 N N (sF σ 11 11 (0 : Int32))
theorem c10_takeNumber {l : Launch} {E : am_E} {N : Nat} {σ : am_S} {σ1 : am_S} (hf : f10_takeNumber N σ = some σ1) : Ctr l E msC YX10_takeNumber (1) 0 0 [.ref 11] σ none σ1 := by
  refine ctr_of (G := fun u r s => r = none ∧ s = u) (by decide +kernel) (Nat.le_of_ble_eq_true rfl) hf ⟨rfl, rfl⟩ (fun d hd => ?_)
  refine z_eqlv (lv' := [(0, .ref 11)]) rfl ?_
  unfold f10_takeNumber
  refine z_aload_n (pc := 0) 0 dX10_takeNumber_0 rfl rfl ?_
  refine z_iconst (pc := 1) (v := (0 : Int32)) dX10_takeNumber_1 (by decide) ?_
  refine z_putI (pc := 2) dX10_takeNumber_2 (am_ob.s kC11) fw_RX10_83_10 (by decide) ?_
  refine z_lv (lv' := [(0, .ref 11)]) [0] rfl ?_
  exact z10_takeNumber_L5 hd N (sF σ 11 11 (0 : Int32))
def f10_nextToken_J52 (N : Nat) (σ : am_S) : Option am_S := if fF (sF σ 11 9 (fF σ 11 8)) 11 8 < fF (sF σ 11 9 (fF σ 11 8)) 11 1 then (if am_in (fF (sF σ 11 9 (fF σ 11 8)) 11 8) 160 = true then ((f10_isLetter (fF (sF σ 11 9 (fF σ 11 8)) 12 (fF (sF σ 11 9 (fF σ 11 8)) 11 8).toNatClampNeg)).bind fun v4 => (if v4 = true then ((f10_takeWord N (sF σ 11 9 (fF σ 11 8))).bind fun s9 => (some (s9))) else (if am_in (fF (sF σ 11 9 (fF σ 11 8)) 11 8) 160 = true then ((f10_isDigit (fF (sF σ 11 9 (fF σ 11 8)) 12 (fF (sF σ 11 9 (fF σ 11 8)) 11 8).toNatClampNeg)).bind fun v12 => (if v12 = true then ((f10_takeNumber N (sF σ 11 9 (fF σ 11 8))).bind fun s17 => (some (s17))) else (if am_in (fF (sF σ 11 9 (fF σ 11 8)) 11 8) 160 = true then (if fF (sF σ 11 9 (fF σ 11 8)) 12 (fF (sF σ 11 9 (fF σ 11 8)) 11 8).toNatClampNeg ≤ 0 then (some (sF (sF (sF σ 11 9 (fF σ 11 8)) 11 10 (14 : Int32)) 11 8 ((fF (sF (sF σ 11 9 (fF σ 11 8)) 11 10 (14 : Int32)) 11 8) + (1 : Int32)))) else ((s_ix 3 (((fF (sF σ 11 9 (fF σ 11 8)) 12 (fF (sF σ 11 9 (fF σ 11 8)) 11 8).toNatClampNeg).toUInt32 % 65536).toInt32)).bind fun v21 => (if v21 < 0 then (some (sF (sF (sF σ 11 9 (fF σ 11 8)) 11 10 (14 : Int32)) 11 8 ((fF (sF (sF σ 11 9 (fF σ 11 8)) 11 10 (14 : Int32)) 11 8) + (1 : Int32)))) else (some (sF (sF (sF σ 11 9 (fF σ 11 8)) 11 10 (fF (sF σ 11 9 (fF σ 11 8)) 12 (fF (sF σ 11 9 (fF σ 11 8)) 11 8).toNatClampNeg)) 11 8 ((fF (sF (sF σ 11 9 (fF σ 11 8)) 11 10 (fF (sF σ 11 9 (fF σ 11 8)) 12 (fF (sF σ 11 9 (fF σ 11 8)) 11 8).toNatClampNeg)) 11 8) + (1 : Int32))))))) else none))) else none))) else none) else (some (sF (sF σ 11 9 (fF σ 11 8)) 11 10 (13 : Int32)))
theorem z10_nextToken_J52 {l : Launch} {E : am_E} {d : Nat} {σ0 : am_S} {N : Nat} (hd : 9 ≤ d) (σ : am_S) : Z l E msC σ0 YX10_nextToken d 0 0 52 [(0, .ref 11)] [] 0 0 σ (f10_nextToken_J52 N σ) (fun u r s => r = none ∧ s = u) := by
  unfold f10_nextToken_J52
  refine z_aload_n (pc := 52) 0 dX10_nextToken_52 rfl rfl ?_
  refine z_aload_n (pc := 53) 0 dX10_nextToken_53 rfl rfl ?_
  refine z_getI (pc := 54) dX10_nextToken_54 (am_ob.s kC11) fr_RX10_48_10 (by decide) ?_
  refine z_putI (pc := 57) dX10_nextToken_57 (am_ob.s kC11) fw_RX10_90_10 (by decide) ?_
  refine z_aload_n (pc := 60) 0 dX10_nextToken_60 rfl rfl ?_
  refine z_getI (pc := 61) dX10_nextToken_61 (am_ob.s kC11) fr_RX10_48_10 (by decide) ?_
  refine z_aload_n (pc := 64) 0 dX10_nextToken_64 rfl rfl ?_
  refine z_getI (pc := 65) dX10_nextToken_65 (am_ob.s kC11) fr_RX10_25_10 (by decide) ?_
  refine z_ic_lt (pc := 68) (tgt := 80) dX10_nextToken_68 (by decide) (fun h2 => ?_) (fun h2 => ?_)
  · refine z_aload_n (pc := 80) 0 dX10_nextToken_80 rfl rfl ?_
    refine z_getQ (pc := 81) (b := 12) dX10_nextToken_81 kC11 fr_RX10_11_10 (by decide) rfl ?_
    refine z_aload_n (pc := 84) 0 dX10_nextToken_84 rfl rfl ?_
    refine z_getI (pc := 85) dX10_nextToken_85 (am_ob.s kC11) fr_RX10_48_10 (by decide) ?_
    refine z_bald (pc := 88) dX10_nextToken_88 (am_ar.s kC12) (fun h3 => ?_)
    refine z_callB (pc := 89) [.int (fF (sF σ 11 9 (fF σ 11 8)) 12 (fF (sF σ 11 9 (fF σ 11 8)) 11 8).toNatClampNeg)] [] rfl (lk_S (Yc := YX10_isLetter) (n := 1) dX10_nextToken_89 rfl np_X10_isLetter mh_RX10 (by decide) ml_RX10_93 st_X10_isLetter in_RX10 cd_X10_isLetter) (Nat.le_trans (by decide) hd) ⟨by decide, by decide⟩ (Nat.le_of_ble_eq_true rfl) (am_kp.rf _) (fun v4 h6 => c10_isLetter h6) (fun v4 h6 => ?_)
    refine z_bz_eq (pc := 92) (tgt := 102) dX10_nextToken_92 (by decide) (fun h7 => ?_) (fun h7 => ?_)
    · refine z_aload_n (pc := 95) 0 dX10_nextToken_95 rfl rfl ?_
      refine z_callVs (pc := 96) [.ref 11] [] rfl (lk_V (Yc := YX10_takeWord) (n := 0) dX10_nextToken_96 rfl rfl (am_ob.s kC11) rfl rfl np_X10_takeWord mh_RX10 (by decide) ml_RX10_96 im_X10_takeWord se_RX10_X10_takeWord_X10_takeWord in_RX10 cd_X10_takeWord) (Nat.le_trans (by decide) hd) ⟨by decide, by decide⟩ (Nat.le_of_ble_eq_true rfl) (am_kp.rf _) (fun s9 h10 => c10_takeWord h10) (fun s9 h10 => ?_)
      refine z_goto (pc := 99) (tgt := 168) dX10_nextToken_99 (by decide) ?_
      exact z_rVs dX10_nextToken_168 rfl ⟨by decide, by decide⟩
    · refine z_aload_n (pc := 102) 0 dX10_nextToken_102 rfl rfl ?_
      refine z_getQ (pc := 103) (b := 12) dX10_nextToken_103 kC11 fr_RX10_11_10 (by decide) rfl ?_
      refine z_aload_n (pc := 106) 0 dX10_nextToken_106 rfl rfl ?_
      refine z_getI (pc := 107) dX10_nextToken_107 (am_ob.s kC11) fr_RX10_48_10 (by decide) ?_
      refine z_bald (pc := 110) dX10_nextToken_110 (am_ar.s kC12) (fun h11 => ?_)
      refine z_callB (pc := 111) [.int (fF (sF σ 11 9 (fF σ 11 8)) 12 (fF (sF σ 11 9 (fF σ 11 8)) 11 8).toNatClampNeg)] [] rfl (lk_S (Yc := YX10_isDigit) (n := 1) dX10_nextToken_111 rfl np_X10_isDigit mh_RX10 (by decide) ml_RX10_99 st_X10_isDigit in_RX10 cd_X10_isDigit) (Nat.le_trans (by decide) hd) ⟨by decide, by decide⟩ (Nat.le_of_ble_eq_true rfl) (am_kp.rf _) (fun v12 h14 => c10_isDigit h14) (fun v12 h14 => ?_)
      refine z_bz_eq (pc := 114) (tgt := 124) dX10_nextToken_114 (by decide) (fun h15 => ?_) (fun h15 => ?_)
      · refine z_aload_n (pc := 117) 0 dX10_nextToken_117 rfl rfl ?_
        refine z_callVs (pc := 118) [.ref 11] [] rfl (lk_V (Yc := YX10_takeNumber) (n := 0) dX10_nextToken_118 rfl rfl (am_ob.s kC11) rfl rfl np_X10_takeNumber mh_RX10 (by decide) ml_RX10_102 im_X10_takeNumber se_RX10_X10_takeNumber_X10_takeNumber in_RX10 cd_X10_takeNumber) (Nat.le_trans (by decide) hd) ⟨by decide, by decide⟩ (Nat.le_of_ble_eq_true rfl) (am_kp.rf _) (fun s17 h18 => c10_takeNumber h18) (fun s17 h18 => ?_)
        refine z_goto (pc := 121) (tgt := 168) dX10_nextToken_121 (by decide) ?_
        exact z_rVs dX10_nextToken_168 rfl ⟨by decide, by decide⟩
      · refine z_aload_n (pc := 124) 0 dX10_nextToken_124 rfl rfl ?_
        refine z_getQ (pc := 125) (b := 12) dX10_nextToken_125 kC11 fr_RX10_11_10 (by decide) rfl ?_
        refine z_aload_n (pc := 128) 0 dX10_nextToken_128 rfl rfl ?_
        refine z_getI (pc := 129) dX10_nextToken_129 (am_ob.s kC11) fr_RX10_48_10 (by decide) ?_
        refine z_bald (pc := 132) dX10_nextToken_132 (am_ar.s kC12) (fun h19 => ?_)
        refine z_istore_n (pc := 133) (lv' := [(1, .int (fF (sF σ 11 9 (fF σ 11 8)) 12 (fF (sF σ 11 9 (fF σ 11 8)) 11 8).toNatClampNeg)), (0, .ref 11)]) dX10_nextToken_133 rfl (by decide) rfl ?_
        refine z_aload_n (pc := 134) 1 dX10_nextToken_134 rfl rfl ?_
        refine z_iload_n (pc := 135) 0 dX10_nextToken_135 rfl rfl ?_
        refine z_if_le (pc := 136) (tgt := 153) dX10_nextToken_136 (by decide) (fun h20 => ?_) (fun h20 => ?_)
        · refine z_bipush (pc := 153) (v := (14 : Int32)) dX10_nextToken_153 (by decide) ?_
          refine z_putI (pc := 155) dX10_nextToken_155 (am_ob.s kC11) fw_RX10_68_10 (by decide) ?_
          refine z_aload_n (pc := 158) 1 dX10_nextToken_158 rfl rfl ?_
          refine z_dup (pc := 159) dX10_nextToken_159 rfl ?_
          refine z_getI (pc := 160) dX10_nextToken_160 (am_ob.s kC11) fr_RX10_48_10 (by decide) ?_
          refine z_iconst (pc := 163) (v := (1 : Int32)) dX10_nextToken_163 (by decide) ?_
          refine z_iadd (pc := 164) dX10_nextToken_164 ?_
          refine z_putI (pc := 165) dX10_nextToken_165 (am_ob.s kC11) fw_RX10_48_10 (by decide) ?_
          exact z_rVs dX10_nextToken_168 rfl ⟨by decide, by decide⟩
        · refine z_ldcS (pc := 139) dX10_nextToken_139 (str_RX10_105) ?_
          refine z_iload_n (pc := 141) 0 dX10_nextToken_141 rfl rfl ?_
          refine z_i2c (pc := 142) dX10_nextToken_142 ?_
          refine z_callI (pc := 143) [.ref 3, .int (((fF (sF σ 11 9 (fF σ 11 8)) 12 (fF (sF σ 11 9 (fF σ 11 8)) 11 8).toNatClampNeg).toUInt32 % 65536).toInt32)] [.ref 11] rfl (lk_str (Yc := YJ0_indexOf_0f7a4) dX10_nextToken_143 rfl rfl np_J0_indexOf_0f7a4 (by decide) rfl mh_RJ0 (by decide) ml_RX10_107 im_J0_indexOf_0f7a4 se_RJ0_J0_indexOf_0f7a4_J0_indexOf_0f7a4 in_RJ0 cd_J0_indexOf_0f7a4) (Nat.le_trans (by decide) hd) ⟨by decide, by decide⟩ (Nat.le_of_ble_eq_true rfl) (am_kp.rf _) (fun v21 h22 => cs_ix (by decide) h22) (fun v21 h22 => ?_)
          refine z_if_lt (pc := 146) (tgt := 153) dX10_nextToken_146 (by decide) (fun h23 => ?_) (fun h23 => ?_)
          · refine z_bipush (pc := 153) (v := (14 : Int32)) dX10_nextToken_153 (by decide) ?_
            refine z_putI (pc := 155) dX10_nextToken_155 (am_ob.s kC11) fw_RX10_68_10 (by decide) ?_
            refine z_aload_n (pc := 158) 1 dX10_nextToken_158 rfl rfl ?_
            refine z_dup (pc := 159) dX10_nextToken_159 rfl ?_
            refine z_getI (pc := 160) dX10_nextToken_160 (am_ob.s kC11) fr_RX10_48_10 (by decide) ?_
            refine z_iconst (pc := 163) (v := (1 : Int32)) dX10_nextToken_163 (by decide) ?_
            refine z_iadd (pc := 164) dX10_nextToken_164 ?_
            refine z_putI (pc := 165) dX10_nextToken_165 (am_ob.s kC11) fw_RX10_48_10 (by decide) ?_
            exact z_rVs dX10_nextToken_168 rfl ⟨by decide, by decide⟩
          · refine z_iload_n (pc := 149) 0 dX10_nextToken_149 rfl rfl ?_
            refine z_goto (pc := 150) (tgt := 155) dX10_nextToken_150 (by decide) ?_
            refine z_putI (pc := 155) dX10_nextToken_155 (am_ob.s kC11) fw_RX10_68_10 (by decide) ?_
            refine z_aload_n (pc := 158) 1 dX10_nextToken_158 rfl rfl ?_
            refine z_dup (pc := 159) dX10_nextToken_159 rfl ?_
            refine z_getI (pc := 160) dX10_nextToken_160 (am_ob.s kC11) fr_RX10_48_10 (by decide) ?_
            refine z_iconst (pc := 163) (v := (1 : Int32)) dX10_nextToken_163 (by decide) ?_
            refine z_iadd (pc := 164) dX10_nextToken_164 ?_
            refine z_putI (pc := 165) dX10_nextToken_165 (am_ob.s kC11) fw_RX10_48_10 (by decide) ?_
            exact z_rVs dX10_nextToken_168 rfl ⟨by decide, by decide⟩
  · refine z_aload_n (pc := 71) 0 dX10_nextToken_71 rfl rfl ?_
    refine z_bipush (pc := 72) (v := (13 : Int32)) dX10_nextToken_72 (by decide) ?_
    refine z_putI (pc := 74) dX10_nextToken_74 (am_ob.s kC11) fw_RX10_68_10 (by decide) ?_
    refine z_goto (pc := 77) (tgt := 168) dX10_nextToken_77 (by decide) ?_
    exact z_rVs dX10_nextToken_168 rfl ⟨by decide, by decide⟩
def f10_nextToken_L0 (N : Nat) : Nat → am_S → Option am_S
  | 0, _ => none
  | n + 1, σ => if fF σ 11 1 ≤ fF σ 11 8 then (f10_nextToken_J52 N σ) else (if am_in (fF σ 11 8) 160 = true then (if fF σ 12 (fF σ 11 8).toNatClampNeg = (32 : Int32) then (f10_nextToken_L0 N n (sF σ 11 8 ((fF σ 11 8) + (1 : Int32)))) else (if am_in (fF σ 11 8) 160 = true then (if fF σ 12 (fF σ 11 8).toNatClampNeg = (10 : Int32) then (f10_nextToken_L0 N n (sF σ 11 8 ((fF σ 11 8) + (1 : Int32)))) else (f10_nextToken_J52 N σ)) else none)) else none)
theorem z10_nextToken_L0 {l : Launch} {E : am_E} {d : Nat} {σ0 : am_S} {N : Nat} (hd : 9 ≤ d) : ∀ (n : Nat) (σ : am_S), Z l E msC σ0 YX10_nextToken d 0 0 0 [(0, .ref 11)] [] 0 0 σ (f10_nextToken_L0 N n σ) (fun u r s => r = none ∧ s = u) := by
  intro n
  induction n with
  | zero => intros; exact z_none
  | succ n ih =>
    intro σ
    unfold f10_nextToken_L0
    refine z_aload_n (pc := 0) 0 dX10_nextToken_0 rfl rfl ?_
    refine z_getI (pc := 1) dX10_nextToken_1 (am_ob.s kC11) fr_RX10_48_10 (by decide) ?_
    refine z_aload_n (pc := 4) 0 dX10_nextToken_4 rfl rfl ?_
    refine z_getI (pc := 5) dX10_nextToken_5 (am_ob.s kC11) fr_RX10_25_10 (by decide) ?_
    refine z_ic_ge (pc := 8) (tgt := 52) dX10_nextToken_8 (by decide) (fun h1 => ?_) (fun h1 => ?_)
    · refine z_lv (lv' := [(0, .ref 11)]) [0] rfl ?_
      exact z10_nextToken_J52 hd σ
    · refine z_aload_n (pc := 11) 0 dX10_nextToken_11 rfl rfl ?_
      refine z_getQ (pc := 12) (b := 12) dX10_nextToken_12 kC11 fr_RX10_11_10 (by decide) rfl ?_
      refine z_aload_n (pc := 15) 0 dX10_nextToken_15 rfl rfl ?_
      refine z_getI (pc := 16) dX10_nextToken_16 (am_ob.s kC11) fr_RX10_48_10 (by decide) ?_
      refine z_bald (pc := 19) dX10_nextToken_19 (am_ar.s kC12) (fun h24 => ?_)
      refine z_bipush (pc := 20) (v := (32 : Int32)) dX10_nextToken_20 (by decide) ?_
      refine z_ic_eq (pc := 22) (tgt := 39) dX10_nextToken_22 (by decide) (fun h25 => ?_) (fun h25 => ?_)
      · refine z_aload_n (pc := 39) 0 dX10_nextToken_39 rfl rfl ?_
        refine z_dup (pc := 40) dX10_nextToken_40 rfl ?_
        refine z_getI (pc := 41) dX10_nextToken_41 (am_ob.s kC11) fr_RX10_48_10 (by decide) ?_
        refine z_iconst (pc := 44) (v := (1 : Int32)) dX10_nextToken_44 (by decide) ?_
        refine z_iadd (pc := 45) dX10_nextToken_45 ?_
        refine z_putI (pc := 46) dX10_nextToken_46 (am_ob.s kC11) fw_RX10_48_10 (by decide) ?_
        refine z_goto (pc := 49) (tgt := 0) dX10_nextToken_49 (by decide) ?_
        refine z_lv (lv' := [(0, .ref 11)]) [0] rfl ?_
        exact ih (sF σ 11 8 ((fF σ 11 8) + (1 : Int32)))
      · refine z_aload_n (pc := 25) 0 dX10_nextToken_25 rfl rfl ?_
        refine z_getQ (pc := 26) (b := 12) dX10_nextToken_26 kC11 fr_RX10_11_10 (by decide) rfl ?_
        refine z_aload_n (pc := 29) 0 dX10_nextToken_29 rfl rfl ?_
        refine z_getI (pc := 30) dX10_nextToken_30 (am_ob.s kC11) fr_RX10_48_10 (by decide) ?_
        refine z_bald (pc := 33) dX10_nextToken_33 (am_ar.s kC12) (fun h26 => ?_)
        refine z_bipush (pc := 34) (v := (10 : Int32)) dX10_nextToken_34 (by decide) ?_
        refine z_ic_ne (pc := 36) (tgt := 52) dX10_nextToken_36 (by decide) (fun h27 => ?_) (fun h27 => ?_)
        · refine z_aload_n (pc := 39) 0 dX10_nextToken_39 rfl rfl ?_
          refine z_dup (pc := 40) dX10_nextToken_40 rfl ?_
          refine z_getI (pc := 41) dX10_nextToken_41 (am_ob.s kC11) fr_RX10_48_10 (by decide) ?_
          refine z_iconst (pc := 44) (v := (1 : Int32)) dX10_nextToken_44 (by decide) ?_
          refine z_iadd (pc := 45) dX10_nextToken_45 ?_
          refine z_putI (pc := 46) dX10_nextToken_46 (am_ob.s kC11) fw_RX10_48_10 (by decide) ?_
          refine z_goto (pc := 49) (tgt := 0) dX10_nextToken_49 (by decide) ?_
          refine z_lv (lv' := [(0, .ref 11)]) [0] rfl ?_
          exact ih (sF σ 11 8 ((fF σ 11 8) + (1 : Int32)))
        · refine z_lv (lv' := [(0, .ref 11)]) [0] rfl ?_
          exact z10_nextToken_J52 hd σ
def f10_nextToken (N : Nat) (σ : am_S) : Option am_S := f10_nextToken_L0 N N σ
theorem c10_nextToken {l : Launch} {E : am_E} {N : Nat} {σ : am_S} {σ1 : am_S} (hf : f10_nextToken N σ = some σ1) : Ctr l E msC YX10_nextToken (9) 0 0 [.ref 11] σ none σ1 := by
  refine ctr_of (G := fun u r s => r = none ∧ s = u) (by decide +kernel) (Nat.le_of_ble_eq_true rfl) hf ⟨rfl, rfl⟩ (fun d hd => ?_)
  refine z_eqlv (lv' := [(0, .ref 11)]) rfl ?_
  unfold f10_nextToken
  refine z_lv (lv' := [(0, .ref 11)]) [0] rfl ?_
  exact z10_nextToken_L0 hd N σ
def f10_refuse (σ : am_S) : Option am_S := if fF σ 11 12 = (-1 : Int32) then (some (sF (sF σ 11 12 (fF σ 11 9)) 11 10 (14 : Int32))) else (some (sF σ 11 10 (14 : Int32)))
theorem c10_refuse {l : Launch} {E : am_E} {σ : am_S} {σ1 : am_S} (hf : f10_refuse σ = some σ1) : Ctr l E msC YX10_refuse (0) 0 0 [.ref 11] σ none σ1 := by
  refine ctr_of (G := fun u r s => r = none ∧ s = u) (by decide +kernel) (Nat.le_of_ble_eq_true rfl) hf ⟨rfl, rfl⟩ (fun d hd => ?_)
  refine z_eqlv (lv' := [(0, .ref 11)]) rfl ?_
  unfold f10_refuse
  refine z_aload_n (pc := 0) 0 dX10_refuse_0 rfl rfl ?_
  refine z_getI (pc := 1) dX10_refuse_1 (am_ob.s kC11) fr_RX10_51_10 (by decide) ?_
  refine z_iconst (pc := 4) (v := (-1 : Int32)) dX10_refuse_4 (by decide) ?_
  refine z_ic_ne (pc := 5) (tgt := 16) dX10_refuse_5 (by decide) (fun h1 => ?_) (fun h1 => ?_)
  · refine z_aload_n (pc := 8) 0 dX10_refuse_8 rfl rfl ?_
    refine z_aload_n (pc := 9) 0 dX10_refuse_9 rfl rfl ?_
    refine z_getI (pc := 10) dX10_refuse_10 (am_ob.s kC11) fr_RX10_90_10 (by decide) ?_
    refine z_putI (pc := 13) dX10_refuse_13 (am_ob.s kC11) fw_RX10_51_10 (by decide) ?_
    refine z_aload_n (pc := 16) 0 dX10_refuse_16 rfl rfl ?_
    refine z_bipush (pc := 17) (v := (14 : Int32)) dX10_refuse_17 (by decide) ?_
    refine z_putI (pc := 19) dX10_refuse_19 (am_ob.s kC11) fw_RX10_68_10 (by decide) ?_
    exact z_rVs dX10_refuse_22 rfl ⟨by decide, by decide⟩
  · refine z_aload_n (pc := 16) 0 dX10_refuse_16 rfl rfl ?_
    refine z_bipush (pc := 17) (v := (14 : Int32)) dX10_refuse_17 (by decide) ?_
    refine z_putI (pc := 19) dX10_refuse_19 (am_ob.s kC11) fw_RX10_68_10 (by decide) ?_
    exact z_rVs dX10_refuse_22 rfl ⟨by decide, by decide⟩
def f10_pass (N : Nat) (σ : am_S) (x1 : Int32) : Option am_S := if fF σ 11 10 = x1 then ((f10_nextToken N σ).bind fun s3 => (some (s3))) else ((f10_refuse σ).bind fun s6 => (some (s6)))
theorem c10_pass {l : Launch} {E : am_E} {N : Nat} {σ : am_S} {x1 : Int32} {σ1 : am_S} (hf : f10_pass N σ x1 = some σ1) : Ctr l E msC YX10_pass (10) 0 0 [.ref 11, .int x1] σ none σ1 := by
  refine ctr_of (G := fun u r s => r = none ∧ s = u) (by decide +kernel) (Nat.le_of_ble_eq_true rfl) hf ⟨rfl, rfl⟩ (fun d hd => ?_)
  refine z_eqlv (lv' := [(0, .ref 11), (1, .int x1)]) rfl ?_
  unfold f10_pass
  refine z_aload_n (pc := 0) 0 dX10_pass_0 rfl rfl ?_
  refine z_getI (pc := 1) dX10_pass_1 (am_ob.s kC11) fr_RX10_68_10 (by decide) ?_
  refine z_iload_n (pc := 4) 1 dX10_pass_4 rfl rfl ?_
  refine z_ic_ne (pc := 5) (tgt := 15) dX10_pass_5 (by decide) (fun h1 => ?_) (fun h1 => ?_)
  · refine z_aload_n (pc := 8) 0 dX10_pass_8 rfl rfl ?_
    refine z_callVs (pc := 9) [.ref 11] [] rfl (lk_V (Yc := YX10_nextToken) (n := 0) dX10_pass_9 rfl rfl (am_ob.s kC11) rfl rfl np_X10_nextToken mh_RX10 (by decide) ml_RX10_54 im_X10_nextToken se_RX10_X10_nextToken_X10_nextToken in_RX10 cd_X10_nextToken) (Nat.le_trans (by decide) hd) ⟨by decide, by decide⟩ (Nat.le_of_ble_eq_true rfl) (am_kp.rf _) (fun s3 h4 => c10_nextToken h4) (fun s3 h4 => ?_)
    refine z_goto (pc := 12) (tgt := 19) dX10_pass_12 (by decide) ?_
    exact z_rVs dX10_pass_19 rfl ⟨by decide, by decide⟩
  · refine z_aload_n (pc := 15) 0 dX10_pass_15 rfl rfl ?_
    refine z_callVs (pc := 16) [.ref 11] [] rfl (lk_V (Yc := YX10_refuse) (n := 0) dX10_pass_16 rfl rfl (am_ob.s kC11) rfl rfl np_X10_refuse mh_RX10 (by decide) ml_RX10_71 im_X10_refuse se_RX10_X10_refuse_X10_refuse in_RX10 cd_X10_refuse) (Nat.le_trans (by decide) hd) ⟨by decide, by decide⟩ (Nat.le_of_ble_eq_true rfl) (am_kp.rf _) (fun s6 h7 => c10_refuse h7) (fun s6 h7 => ?_)
    exact z_rVs dX10_pass_19 rfl ⟨by decide, by decide⟩
def f10_write (σ : am_S) (x1 : Int32) : Option am_S := if (160 : Int32) ≤ fF σ 11 7 then (some (σ)) else (if am_in (((fF σ 11 4) * (160 : Int32)) + (fF σ 11 7)) 960 = true then (some (sF (sF σ 13 (((fF σ 11 4) * (160 : Int32)) + (fF σ 11 7)).toNatClampNeg x1) 11 7 ((fF (sF σ 13 (((fF σ 11 4) * (160 : Int32)) + (fF σ 11 7)).toNatClampNeg x1) 11 7) + (1 : Int32)))) else none)
theorem c10_write {l : Launch} {E : am_E} {σ : am_S} {x1 : Int32} {σ1 : am_S} (hf : f10_write σ x1 = some σ1) : Ctr l E msC YX10_write (0) 0 0 [.ref 11, .int x1] σ none σ1 := by
  refine ctr_of (G := fun u r s => r = none ∧ s = u) (by decide +kernel) (Nat.le_of_ble_eq_true rfl) hf ⟨rfl, rfl⟩ (fun d hd => ?_)
  refine z_eqlv (lv' := [(0, .ref 11), (1, .int x1)]) rfl ?_
  unfold f10_write
  refine z_aload_n (pc := 0) 0 dX10_write_0 rfl rfl ?_
  refine z_getI (pc := 1) dX10_write_1 (am_ob.s kC11) fr_RX10_46_10 (by decide) ?_
  refine z_sipush (pc := 4) (v := (160 : Int32)) dX10_write_4 (by decide) ?_
  refine z_ic_ge (pc := 7) (tgt := 39) dX10_write_7 (by decide) (fun h1 => ?_) (fun h1 => ?_)
  · exact z_rVs dX10_write_39 rfl ⟨by decide, by decide⟩
  · refine z_aload_n (pc := 10) 0 dX10_write_10 rfl rfl ?_
    refine z_getQ (pc := 11) (b := 13) dX10_write_11 kC11 fr_RX10_15_10 (by decide) rfl ?_
    refine z_aload_n (pc := 14) 0 dX10_write_14 rfl rfl ?_
    refine z_getI (pc := 15) dX10_write_15 (am_ob.s kC11) fr_RX10_43_10 (by decide) ?_
    refine z_sipush (pc := 18) (v := (160 : Int32)) dX10_write_18 (by decide) ?_
    refine z_imul (pc := 21) dX10_write_21 ?_
    refine z_aload_n (pc := 22) 0 dX10_write_22 rfl rfl ?_
    refine z_getI (pc := 23) dX10_write_23 (am_ob.s kC11) fr_RX10_46_10 (by decide) ?_
    refine z_iadd (pc := 26) dX10_write_26 ?_
    refine z_iload_n (pc := 27) 1 dX10_write_27 rfl rfl ?_
    refine z_iast (pc := 28) dX10_write_28 (am_ar.s kC13) (fun h2 => ?_)
    refine z_aload_n (pc := 29) 0 dX10_write_29 rfl rfl ?_
    refine z_dup (pc := 30) dX10_write_30 rfl ?_
    refine z_getI (pc := 31) dX10_write_31 (am_ob.s kC11) fr_RX10_46_10 (by decide) ?_
    refine z_iconst (pc := 34) (v := (1 : Int32)) dX10_write_34 (by decide) ?_
    refine z_iadd (pc := 35) dX10_write_35 ?_
    refine z_putI (pc := 36) dX10_write_36 (am_ob.s kC11) fw_RX10_46_10 (by decide) ?_
    exact z_rVs dX10_write_39 rfl ⟨by decide, by decide⟩
def f10_readOne (N : Nat) (σ : am_S) : Option am_S := if fF σ 11 10 = (12 : Int32) then ((f10_write σ (fF σ 11 11)).bind fun s3 => ((f10_nextToken N s3).bind fun s6 => (some (s6)))) else (if fF σ 11 10 < 0 then ((f10_refuse σ).bind fun s10 => (some (s10))) else (if (6 : Int32) ≤ fF σ 11 10 then ((f10_refuse σ).bind fun s14 => (some (s14))) else ((f10_write σ ((10000 : Int32) + (fF σ 11 10))).bind fun s17 => ((f10_nextToken N s17).bind fun s20 => (some (s20))))))
theorem c10_readOne {l : Launch} {E : am_E} {N : Nat} {σ : am_S} {σ1 : am_S} (hf : f10_readOne N σ = some σ1) : Ctr l E msC YX10_readOne (10) 0 0 [.ref 11] σ none σ1 := by
  refine ctr_of (G := fun u r s => r = none ∧ s = u) (by decide +kernel) (Nat.le_of_ble_eq_true rfl) hf ⟨rfl, rfl⟩ (fun d hd => ?_)
  refine z_eqlv (lv' := [(0, .ref 11)]) rfl ?_
  unfold f10_readOne
  refine z_aload_n (pc := 0) 0 dX10_readOne_0 rfl rfl ?_
  refine z_getI (pc := 1) dX10_readOne_1 (am_ob.s kC11) fr_RX10_68_10 (by decide) ?_
  refine z_bipush (pc := 4) (v := (12 : Int32)) dX10_readOne_4 (by decide) ?_
  refine z_ic_ne (pc := 6) (tgt := 24) dX10_readOne_6 (by decide) (fun h1 => ?_) (fun h1 => ?_)
  · refine z_aload_n (pc := 9) 0 dX10_readOne_9 rfl rfl ?_
    refine z_aload_n (pc := 10) 0 dX10_readOne_10 rfl rfl ?_
    refine z_getI (pc := 11) dX10_readOne_11 (am_ob.s kC11) fr_RX10_83_10 (by decide) ?_
    refine z_callVs (pc := 14) [.ref 11, .int (fF σ 11 11)] [] rfl (lk_V (Yc := YX10_write) (n := 1) dX10_readOne_14 rfl rfl (am_ob.s kC11) rfl rfl np_X10_write mh_RX10 (by decide) ml_RX10_65 im_X10_write se_RX10_X10_write_X10_write in_RX10 cd_X10_write) (Nat.le_trans (by decide) hd) ⟨by decide, by decide⟩ (Nat.le_of_ble_eq_true rfl) (am_kp.rf _) (fun s3 h4 => c10_write h4) (fun s3 h4 => ?_)
    refine z_aload_n (pc := 17) 0 dX10_readOne_17 rfl rfl ?_
    refine z_callVs (pc := 18) [.ref 11] [] rfl (lk_V (Yc := YX10_nextToken) (n := 0) dX10_readOne_18 rfl rfl (am_ob.s kC11) rfl rfl np_X10_nextToken mh_RX10 (by decide) ml_RX10_54 im_X10_nextToken se_RX10_X10_nextToken_X10_nextToken in_RX10 cd_X10_nextToken) (Nat.le_trans (by decide) hd) ⟨by decide, by decide⟩ (Nat.le_of_ble_eq_true rfl) (am_kp.rf _) (fun s6 h7 => c10_nextToken h7) (fun s6 h7 => ?_)
    refine z_goto (pc := 21) (tgt := 63) dX10_readOne_21 (by decide) ?_
    exact z_rVs dX10_readOne_63 rfl ⟨by decide, by decide⟩
  · refine z_aload_n (pc := 24) 0 dX10_readOne_24 rfl rfl ?_
    refine z_getI (pc := 25) dX10_readOne_25 (am_ob.s kC11) fr_RX10_68_10 (by decide) ?_
    refine z_if_lt (pc := 28) (tgt := 59) dX10_readOne_28 (by decide) (fun h8 => ?_) (fun h8 => ?_)
    · refine z_aload_n (pc := 59) 0 dX10_readOne_59 rfl rfl ?_
      refine z_callVs (pc := 60) [.ref 11] [] rfl (lk_V (Yc := YX10_refuse) (n := 0) dX10_readOne_60 rfl rfl (am_ob.s kC11) rfl rfl np_X10_refuse mh_RX10 (by decide) ml_RX10_71 im_X10_refuse se_RX10_X10_refuse_X10_refuse in_RX10 cd_X10_refuse) (Nat.le_trans (by decide) hd) ⟨by decide, by decide⟩ (Nat.le_of_ble_eq_true rfl) (am_kp.rf _) (fun s10 h11 => c10_refuse h11) (fun s10 h11 => ?_)
      exact z_rVs dX10_readOne_63 rfl ⟨by decide, by decide⟩
    · refine z_aload_n (pc := 31) 0 dX10_readOne_31 rfl rfl ?_
      refine z_getI (pc := 32) dX10_readOne_32 (am_ob.s kC11) fr_RX10_68_10 (by decide) ?_
      refine z_bipush (pc := 35) (v := (6 : Int32)) dX10_readOne_35 (by decide) ?_
      refine z_ic_ge (pc := 37) (tgt := 59) dX10_readOne_37 (by decide) (fun h12 => ?_) (fun h12 => ?_)
      · refine z_aload_n (pc := 59) 0 dX10_readOne_59 rfl rfl ?_
        refine z_callVs (pc := 60) [.ref 11] [] rfl (lk_V (Yc := YX10_refuse) (n := 0) dX10_readOne_60 rfl rfl (am_ob.s kC11) rfl rfl np_X10_refuse mh_RX10 (by decide) ml_RX10_71 im_X10_refuse se_RX10_X10_refuse_X10_refuse in_RX10 cd_X10_refuse) (Nat.le_trans (by decide) hd) ⟨by decide, by decide⟩ (Nat.le_of_ble_eq_true rfl) (am_kp.rf _) (fun s14 h15 => c10_refuse h15) (fun s14 h15 => ?_)
        exact z_rVs dX10_readOne_63 rfl ⟨by decide, by decide⟩
      · refine z_aload_n (pc := 40) 0 dX10_readOne_40 rfl rfl ?_
        refine z_sipush (pc := 41) (v := (10000 : Int32)) dX10_readOne_41 (by decide) ?_
        refine z_aload_n (pc := 44) 0 dX10_readOne_44 rfl rfl ?_
        refine z_getI (pc := 45) dX10_readOne_45 (am_ob.s kC11) fr_RX10_68_10 (by decide) ?_
        refine z_iadd (pc := 48) dX10_readOne_48 ?_
        refine z_callVs (pc := 49) [.ref 11, .int ((10000 : Int32) + (fF σ 11 10))] [] rfl (lk_V (Yc := YX10_write) (n := 1) dX10_readOne_49 rfl rfl (am_ob.s kC11) rfl rfl np_X10_write mh_RX10 (by decide) ml_RX10_65 im_X10_write se_RX10_X10_write_X10_write in_RX10 cd_X10_write) (Nat.le_trans (by decide) hd) ⟨by decide, by decide⟩ (Nat.le_of_ble_eq_true rfl) (am_kp.rf _) (fun s17 h18 => c10_write h18) (fun s17 h18 => ?_)
        refine z_aload_n (pc := 52) 0 dX10_readOne_52 rfl rfl ?_
        refine z_callVs (pc := 53) [.ref 11] [] rfl (lk_V (Yc := YX10_nextToken) (n := 0) dX10_readOne_53 rfl rfl (am_ob.s kC11) rfl rfl np_X10_nextToken mh_RX10 (by decide) ml_RX10_54 im_X10_nextToken se_RX10_X10_nextToken_X10_nextToken in_RX10 cd_X10_nextToken) (Nat.le_trans (by decide) hd) ⟨by decide, by decide⟩ (Nat.le_of_ble_eq_true rfl) (am_kp.rf _) (fun s20 h21 => c10_nextToken h21) (fun s20 h21 => ?_)
        refine z_goto (pc := 56) (tgt := 63) dX10_readOne_56 (by decide) ?_
        exact z_rVs dX10_readOne_63 rfl ⟨by decide, by decide⟩
def f10_read_r (N : Nat) (r_readJoined : am_S → Int32 → Int32 → Option am_S) (r_readOpening : am_S → Int32 → Option am_S) (σ : am_S) (x1 : Int32) (x2 : Int32) : Option am_S := if x1 = (5 : Int32) then (if fF σ 11 10 = (45 : Int32) then ((r_readOpening σ x2).bind fun s5 => (some (s5))) else (if fF σ 11 10 = (40 : Int32) then ((r_readOpening σ x2).bind fun s10 => (some (s10))) else (if x1 = (5 : Int32) then ((f10_readOne N σ).bind fun s14 => (some (s14))) else ((r_readJoined σ x1 x2).bind fun s18 => (some (s18)))))) else (if x1 = (2 : Int32) then (if fF σ 11 10 = (11 : Int32) then ((r_readOpening σ x2).bind fun s24 => (some (s24))) else (if x1 = (5 : Int32) then ((f10_readOne N σ).bind fun s28 => (some (s28))) else ((r_readJoined σ x1 x2).bind fun s32 => (some (s32))))) else (if x1 = (5 : Int32) then ((f10_readOne N σ).bind fun s36 => (some (s36))) else ((r_readJoined σ x1 x2).bind fun s40 => (some (s40)))))
theorem c10_read_r {l : Launch} {E : am_E} {N : Nat} {r_readJoined : am_S → Int32 → Int32 → Option am_S} {r_readOpening : am_S → Int32 → Option am_S} {K : Nat} (hK : 11 ≤ K) (hr_readJoined : ∀ (σ : am_S) (x1 : Int32) (x2 : Int32) (σ1 : am_S), r_readJoined σ x1 x2 = some σ1 → Ctr l E msC YX10_readJoined K 0 0 [.ref 11, .int x1, .int x2] σ none σ1) (hr_readOpening : ∀ (σ : am_S) (x1 : Int32) (σ1 : am_S), r_readOpening σ x1 = some σ1 → Ctr l E msC YX10_readOpening K 0 0 [.ref 11, .int x1] σ none σ1) {σ : am_S} {x1 : Int32} {x2 : Int32} {σ1 : am_S} (hf : f10_read_r N r_readJoined r_readOpening σ x1 x2 = some σ1) : Ctr l E msC YX10_read (K + 1) 0 0 [.ref 11, .int x1, .int x2] σ none σ1 := by
  refine ctr_of (G := fun u r s => r = none ∧ s = u) (by decide +kernel) (Nat.le_of_ble_eq_true rfl) hf ⟨rfl, rfl⟩ (fun d hd => ?_)
  refine z_eqlv (lv' := [(0, .ref 11), (1, .int x1), (2, .int x2)]) rfl ?_
  unfold f10_read_r
  refine z_iload_n (pc := 0) 1 dX10_read_0 rfl rfl ?_
  refine z_iconst (pc := 1) (v := (5 : Int32)) dX10_read_1 (by decide) ?_
  refine z_ic_ne (pc := 2) (tgt := 31) dX10_read_2 (by decide) (fun h1 => ?_) (fun h1 => ?_)
  · refine z_aload_n (pc := 5) 0 dX10_read_5 rfl rfl ?_
    refine z_getI (pc := 6) dX10_read_6 (am_ob.s kC11) fr_RX10_68_10 (by decide) ?_
    refine z_bipush (pc := 9) (v := (45 : Int32)) dX10_read_9 (by decide) ?_
    refine z_ic_eq (pc := 11) (tgt := 23) dX10_read_11 (by decide) (fun h2 => ?_) (fun h2 => ?_)
    · refine z_iconst (pc := 23) (v := (1 : Int32)) dX10_read_23 (by decide) ?_
      refine z_goto (pc := 24) (tgt := 50) dX10_read_24 (by decide) ?_
      refine z_istore_n (pc := 50) (lv' := [(3, .int (1 : Int32)), (0, .ref 11), (1, .int x1), (2, .int x2)]) dX10_read_50 rfl (by decide) rfl ?_
      refine z_iload_n (pc := 51) 0 dX10_read_51 rfl rfl ?_
      refine z_if_eq_f (pc := 52) (tgt := 63) dX10_read_52 (by decide) (by decide) ?_
      refine z_aload_n (pc := 55) 1 dX10_read_55 rfl rfl ?_
      refine z_iload_n (pc := 56) 3 dX10_read_56 rfl rfl ?_
      refine z_callVs (pc := 57) [.ref 11, .int x2] [] rfl (lk_V (Yc := YX10_readOpening) (n := 1) dX10_read_57 rfl rfl (am_ob.s kC11) rfl rfl np_X10_readOpening mh_RX10 (by decide) ml_RX10_74 im_X10_readOpening se_RX10_X10_readOpening_X10_readOpening in_RX10 cd_X10_readOpening) hd ⟨by decide, by decide⟩ (Nat.le_of_ble_eq_true rfl) (am_kp.rf _) (fun s5 h6 => hr_readOpening _ _ _ h6) (fun s5 h6 => ?_)
      refine z_goto (pc := 60) (tgt := 81) dX10_read_60 (by decide) ?_
      exact z_rVs dX10_read_81 rfl ⟨by decide, by decide⟩
    · refine z_aload_n (pc := 14) 0 dX10_read_14 rfl rfl ?_
      refine z_getI (pc := 15) dX10_read_15 (am_ob.s kC11) fr_RX10_68_10 (by decide) ?_
      refine z_bipush (pc := 18) (v := (40 : Int32)) dX10_read_18 (by decide) ?_
      refine z_ic_ne (pc := 20) (tgt := 27) dX10_read_20 (by decide) (fun h7 => ?_) (fun h7 => ?_)
      · refine z_iconst (pc := 23) (v := (1 : Int32)) dX10_read_23 (by decide) ?_
        refine z_goto (pc := 24) (tgt := 50) dX10_read_24 (by decide) ?_
        refine z_istore_n (pc := 50) (lv' := [(3, .int (1 : Int32)), (0, .ref 11), (1, .int x1), (2, .int x2)]) dX10_read_50 rfl (by decide) rfl ?_
        refine z_iload_n (pc := 51) 0 dX10_read_51 rfl rfl ?_
        refine z_if_eq_f (pc := 52) (tgt := 63) dX10_read_52 (by decide) (by decide) ?_
        refine z_aload_n (pc := 55) 1 dX10_read_55 rfl rfl ?_
        refine z_iload_n (pc := 56) 3 dX10_read_56 rfl rfl ?_
        refine z_callVs (pc := 57) [.ref 11, .int x2] [] rfl (lk_V (Yc := YX10_readOpening) (n := 1) dX10_read_57 rfl rfl (am_ob.s kC11) rfl rfl np_X10_readOpening mh_RX10 (by decide) ml_RX10_74 im_X10_readOpening se_RX10_X10_readOpening_X10_readOpening in_RX10 cd_X10_readOpening) hd ⟨by decide, by decide⟩ (Nat.le_of_ble_eq_true rfl) (am_kp.rf _) (fun s10 h11 => hr_readOpening _ _ _ h11) (fun s10 h11 => ?_)
        refine z_goto (pc := 60) (tgt := 81) dX10_read_60 (by decide) ?_
        exact z_rVs dX10_read_81 rfl ⟨by decide, by decide⟩
      · refine z_iconst (pc := 27) (v := (0 : Int32)) dX10_read_27 (by decide) ?_
        refine z_goto (pc := 28) (tgt := 50) dX10_read_28 (by decide) ?_
        refine z_istore_n (pc := 50) (lv' := [(3, .int (0 : Int32)), (0, .ref 11), (1, .int x1), (2, .int x2)]) dX10_read_50 rfl (by decide) rfl ?_
        refine z_iload_n (pc := 51) 0 dX10_read_51 rfl rfl ?_
        refine z_if_eq_t (pc := 52) (tgt := 63) dX10_read_52 (by decide) (by decide) ?_
        refine z_iload_n (pc := 63) 2 dX10_read_63 rfl rfl ?_
        refine z_iconst (pc := 64) (v := (5 : Int32)) dX10_read_64 (by decide) ?_
        refine z_ic_ne (pc := 65) (tgt := 75) dX10_read_65 (by decide) (fun h12 => ?_) (fun h12 => ?_)
        · refine z_aload_n (pc := 68) 1 dX10_read_68 rfl rfl ?_
          refine z_callVs (pc := 69) [.ref 11] [] rfl (lk_V (Yc := YX10_readOne) (n := 0) dX10_read_69 rfl rfl (am_ob.s kC11) rfl rfl np_X10_readOne mh_RX10 (by decide) ml_RX10_77 im_X10_readOne se_RX10_X10_readOne_X10_readOne in_RX10 cd_X10_readOne) (by omega) ⟨by decide, by decide⟩ (Nat.le_of_ble_eq_true rfl) (am_kp.rf _) (fun s14 h15 => c10_readOne h15) (fun s14 h15 => ?_)
          refine z_goto (pc := 72) (tgt := 81) dX10_read_72 (by decide) ?_
          exact z_rVs dX10_read_81 rfl ⟨by decide, by decide⟩
        · refine z_aload_n (pc := 75) 1 dX10_read_75 rfl rfl ?_
          refine z_iload_n (pc := 76) 2 dX10_read_76 rfl rfl ?_
          refine z_iload_n (pc := 77) 3 dX10_read_77 rfl rfl ?_
          refine z_callVs (pc := 78) [.ref 11, .int x1, .int x2] [] rfl (lk_V (Yc := YX10_readJoined) (n := 2) dX10_read_78 rfl rfl (am_ob.s kC11) rfl rfl np_X10_readJoined mh_RX10 (by decide) ml_RX10_80 im_X10_readJoined se_RX10_X10_readJoined_X10_readJoined in_RX10 cd_X10_readJoined) hd ⟨by decide, by decide⟩ (Nat.le_of_ble_eq_true rfl) (am_kp.rf _) (fun s18 h19 => hr_readJoined _ _ _ _ h19) (fun s18 h19 => ?_)
          exact z_rVs dX10_read_81 rfl ⟨by decide, by decide⟩
  · refine z_iload_n (pc := 31) 1 dX10_read_31 rfl rfl ?_
    refine z_iconst (pc := 32) (v := (2 : Int32)) dX10_read_32 (by decide) ?_
    refine z_ic_ne (pc := 33) (tgt := 49) dX10_read_33 (by decide) (fun h20 => ?_) (fun h20 => ?_)
    · refine z_aload_n (pc := 36) 0 dX10_read_36 rfl rfl ?_
      refine z_getI (pc := 37) dX10_read_37 (am_ob.s kC11) fr_RX10_68_10 (by decide) ?_
      refine z_bipush (pc := 40) (v := (11 : Int32)) dX10_read_40 (by decide) ?_
      refine z_ic_ne (pc := 42) (tgt := 49) dX10_read_42 (by decide) (fun h21 => ?_) (fun h21 => ?_)
      · refine z_iconst (pc := 45) (v := (1 : Int32)) dX10_read_45 (by decide) ?_
        refine z_goto (pc := 46) (tgt := 50) dX10_read_46 (by decide) ?_
        refine z_istore_n (pc := 50) (lv' := [(3, .int (1 : Int32)), (0, .ref 11), (1, .int x1), (2, .int x2)]) dX10_read_50 rfl (by decide) rfl ?_
        refine z_iload_n (pc := 51) 0 dX10_read_51 rfl rfl ?_
        refine z_if_eq_f (pc := 52) (tgt := 63) dX10_read_52 (by decide) (by decide) ?_
        refine z_aload_n (pc := 55) 1 dX10_read_55 rfl rfl ?_
        refine z_iload_n (pc := 56) 3 dX10_read_56 rfl rfl ?_
        refine z_callVs (pc := 57) [.ref 11, .int x2] [] rfl (lk_V (Yc := YX10_readOpening) (n := 1) dX10_read_57 rfl rfl (am_ob.s kC11) rfl rfl np_X10_readOpening mh_RX10 (by decide) ml_RX10_74 im_X10_readOpening se_RX10_X10_readOpening_X10_readOpening in_RX10 cd_X10_readOpening) hd ⟨by decide, by decide⟩ (Nat.le_of_ble_eq_true rfl) (am_kp.rf _) (fun s24 h25 => hr_readOpening _ _ _ h25) (fun s24 h25 => ?_)
        refine z_goto (pc := 60) (tgt := 81) dX10_read_60 (by decide) ?_
        exact z_rVs dX10_read_81 rfl ⟨by decide, by decide⟩
      · refine z_iconst (pc := 49) (v := (0 : Int32)) dX10_read_49 (by decide) ?_
        refine z_istore_n (pc := 50) (lv' := [(3, .int (0 : Int32)), (0, .ref 11), (1, .int x1), (2, .int x2)]) dX10_read_50 rfl (by decide) rfl ?_
        refine z_iload_n (pc := 51) 0 dX10_read_51 rfl rfl ?_
        refine z_if_eq_t (pc := 52) (tgt := 63) dX10_read_52 (by decide) (by decide) ?_
        refine z_iload_n (pc := 63) 2 dX10_read_63 rfl rfl ?_
        refine z_iconst (pc := 64) (v := (5 : Int32)) dX10_read_64 (by decide) ?_
        refine z_ic_ne (pc := 65) (tgt := 75) dX10_read_65 (by decide) (fun h26 => ?_) (fun h26 => ?_)
        · refine z_aload_n (pc := 68) 1 dX10_read_68 rfl rfl ?_
          refine z_callVs (pc := 69) [.ref 11] [] rfl (lk_V (Yc := YX10_readOne) (n := 0) dX10_read_69 rfl rfl (am_ob.s kC11) rfl rfl np_X10_readOne mh_RX10 (by decide) ml_RX10_77 im_X10_readOne se_RX10_X10_readOne_X10_readOne in_RX10 cd_X10_readOne) (by omega) ⟨by decide, by decide⟩ (Nat.le_of_ble_eq_true rfl) (am_kp.rf _) (fun s28 h29 => c10_readOne h29) (fun s28 h29 => ?_)
          refine z_goto (pc := 72) (tgt := 81) dX10_read_72 (by decide) ?_
          exact z_rVs dX10_read_81 rfl ⟨by decide, by decide⟩
        · refine z_aload_n (pc := 75) 1 dX10_read_75 rfl rfl ?_
          refine z_iload_n (pc := 76) 2 dX10_read_76 rfl rfl ?_
          refine z_iload_n (pc := 77) 3 dX10_read_77 rfl rfl ?_
          refine z_callVs (pc := 78) [.ref 11, .int x1, .int x2] [] rfl (lk_V (Yc := YX10_readJoined) (n := 2) dX10_read_78 rfl rfl (am_ob.s kC11) rfl rfl np_X10_readJoined mh_RX10 (by decide) ml_RX10_80 im_X10_readJoined se_RX10_X10_readJoined_X10_readJoined in_RX10 cd_X10_readJoined) hd ⟨by decide, by decide⟩ (Nat.le_of_ble_eq_true rfl) (am_kp.rf _) (fun s32 h33 => hr_readJoined _ _ _ _ h33) (fun s32 h33 => ?_)
          exact z_rVs dX10_read_81 rfl ⟨by decide, by decide⟩
    · refine z_iconst (pc := 49) (v := (0 : Int32)) dX10_read_49 (by decide) ?_
      refine z_istore_n (pc := 50) (lv' := [(3, .int (0 : Int32)), (0, .ref 11), (1, .int x1), (2, .int x2)]) dX10_read_50 rfl (by decide) rfl ?_
      refine z_iload_n (pc := 51) 0 dX10_read_51 rfl rfl ?_
      refine z_if_eq_t (pc := 52) (tgt := 63) dX10_read_52 (by decide) (by decide) ?_
      refine z_iload_n (pc := 63) 2 dX10_read_63 rfl rfl ?_
      refine z_iconst (pc := 64) (v := (5 : Int32)) dX10_read_64 (by decide) ?_
      refine z_ic_ne (pc := 65) (tgt := 75) dX10_read_65 (by decide) (fun h34 => ?_) (fun h34 => ?_)
      · refine z_aload_n (pc := 68) 1 dX10_read_68 rfl rfl ?_
        refine z_callVs (pc := 69) [.ref 11] [] rfl (lk_V (Yc := YX10_readOne) (n := 0) dX10_read_69 rfl rfl (am_ob.s kC11) rfl rfl np_X10_readOne mh_RX10 (by decide) ml_RX10_77 im_X10_readOne se_RX10_X10_readOne_X10_readOne in_RX10 cd_X10_readOne) (by omega) ⟨by decide, by decide⟩ (Nat.le_of_ble_eq_true rfl) (am_kp.rf _) (fun s36 h37 => c10_readOne h37) (fun s36 h37 => ?_)
        refine z_goto (pc := 72) (tgt := 81) dX10_read_72 (by decide) ?_
        exact z_rVs dX10_read_81 rfl ⟨by decide, by decide⟩
      · refine z_aload_n (pc := 75) 1 dX10_read_75 rfl rfl ?_
        refine z_iload_n (pc := 76) 2 dX10_read_76 rfl rfl ?_
        refine z_iload_n (pc := 77) 3 dX10_read_77 rfl rfl ?_
        refine z_callVs (pc := 78) [.ref 11, .int x1, .int x2] [] rfl (lk_V (Yc := YX10_readJoined) (n := 2) dX10_read_78 rfl rfl (am_ob.s kC11) rfl rfl np_X10_readJoined mh_RX10 (by decide) ml_RX10_80 im_X10_readJoined se_RX10_X10_readJoined_X10_readJoined in_RX10 cd_X10_readJoined) hd ⟨by decide, by decide⟩ (Nat.le_of_ble_eq_true rfl) (am_kp.rf _) (fun s40 h41 => hr_readJoined _ _ _ _ h41) (fun s40 h41 => ?_)
        exact z_rVs dX10_read_81 rfl ⟨by decide, by decide⟩
def f10_readJoined_L24 (N : Nat) (r_read : am_S → Int32 → Int32 → Option am_S) : Nat → Int32 → Int32 → Int32 → Int32 → am_S → Option am_S
  | 0, _, _, _, _, _ => none
  | n + 1, x1, x2, x3, x4, σ => if x3 ≤ x4 then (some (σ)) else ((f10_joins σ x1).bind fun v7 => (if v7 = true then ((f10_nextToken N σ).bind fun s12 => ((r_read s12 (x1 + (1 : Int32)) x2).bind fun s16 => ((f10_write s16 ((10000 : Int32) + (fF σ 11 10))).bind fun s19 => (f10_readJoined_L24 N r_read n x1 x2 x3 (x4 + (1 : Int32)) s19)))) else (some (σ))))
theorem z10_readJoined_L24 {l : Launch} {E : am_E} {d : Nat} {σ0 : am_S} {N : Nat} {r_read : am_S → Int32 → Int32 → Option am_S} {K : Nat} (hK : 11 ≤ K) (hd : K + 1 ≤ d) (hr_read : ∀ (σ : am_S) (x1 : Int32) (x2 : Int32) (σ1 : am_S), r_read σ x1 x2 = some σ1 → Ctr l E msC YX10_read K 0 0 [.ref 11, .int x1, .int x2] σ none σ1) : ∀ (n : Nat) (x1 : Int32) (x2 : Int32) (x3 : Int32) (x4 : Int32) (σ : am_S), Z l E msC σ0 YX10_readJoined d 0 0 24 [(0, .ref 11), (1, .int x1), (2, .int x2), (3, .int x3), (4, .int x4)] [] 0 0 σ (f10_readJoined_L24 N r_read n x1 x2 x3 x4 σ) (fun u r s => r = none ∧ s = u) := by
  intro n
  induction n with
  | zero => intros; exact z_none
  | succ n ih =>
    intro x1 x2 x3 x4 σ
    unfold f10_readJoined_L24
    refine z_iload (pc := 24) 4 dX10_readJoined_24 rfl ?_
    refine z_iload_n (pc := 26) 3 dX10_readJoined_26 rfl rfl ?_
    refine z_ic_ge (pc := 27) (tgt := 72) dX10_readJoined_27 (by decide) (fun h6 => ?_) (fun h6 => ?_)
    · exact z_rVs dX10_readJoined_72 rfl ⟨by decide, by decide⟩
    · refine z_aload_n (pc := 30) 0 dX10_readJoined_30 rfl rfl ?_
      refine z_iload_n (pc := 31) 1 dX10_readJoined_31 rfl rfl ?_
      refine z_callB (pc := 32) [.ref 11, .int x1] [] rfl (lk_V (Yc := YX10_joins) (n := 1) dX10_readJoined_32 rfl rfl (am_ob.s kC11) rfl rfl np_X10_joins mh_RX10 (by decide) ml_RX10_86 im_X10_joins se_RX10_X10_joins_X10_joins in_RX10 cd_X10_joins) (by omega) ⟨by decide, by decide⟩ (Nat.le_of_ble_eq_true rfl) (am_kp.rf _) (fun v7 h9 => c10_joins h9) (fun v7 h9 => ?_)
      refine z_bz_eq (pc := 35) (tgt := 72) dX10_readJoined_35 (by decide) (fun h10 => ?_) (fun h10 => ?_)
      · refine z_aload_n (pc := 38) 0 dX10_readJoined_38 rfl rfl ?_
        refine z_getI (pc := 39) dX10_readJoined_39 (am_ob.s kC11) fr_RX10_68_10 (by decide) ?_
        refine z_istore (pc := 42) (lv' := [(5, .int (fF σ 11 10)), (0, .ref 11), (1, .int x1), (2, .int x2), (3, .int x3), (4, .int x4)]) dX10_readJoined_42 (by decide) rfl ?_
        refine z_aload_n (pc := 44) 1 dX10_readJoined_44 rfl rfl ?_
        refine z_callVs (pc := 45) [.ref 11] [] rfl (lk_V (Yc := YX10_nextToken) (n := 0) dX10_readJoined_45 rfl rfl (am_ob.s kC11) rfl rfl np_X10_nextToken mh_RX10 (by decide) ml_RX10_54 im_X10_nextToken se_RX10_X10_nextToken_X10_nextToken in_RX10 cd_X10_nextToken) (by omega) ⟨by decide, by decide⟩ (Nat.le_of_ble_eq_true rfl) (am_kp.rf _) (fun s12 h13 => c10_nextToken h13) (fun s12 h13 => ?_)
        refine z_aload_n (pc := 48) 1 dX10_readJoined_48 rfl rfl ?_
        refine z_iload_n (pc := 49) 2 dX10_readJoined_49 rfl rfl ?_
        refine z_iconst (pc := 50) (v := (1 : Int32)) dX10_readJoined_50 (by decide) ?_
        refine z_iadd (pc := 51) dX10_readJoined_51 ?_
        refine z_iload_n (pc := 52) 3 dX10_readJoined_52 rfl rfl ?_
        refine z_callVs (pc := 53) [.ref 11, .int (x1 + (1 : Int32)), .int x2] [] rfl (lk_V (Yc := YX10_read) (n := 2) dX10_readJoined_53 rfl rfl (am_ob.s kC11) rfl rfl np_X10_read mh_RX10 (by decide) ml_RX10_61 im_X10_read se_RX10_X10_read_X10_read in_RX10 cd_X10_read) hd ⟨by decide, by decide⟩ (Nat.le_of_ble_eq_true rfl) (am_kp.rf _) (fun s16 h17 => hr_read _ _ _ _ h17) (fun s16 h17 => ?_)
        refine z_aload_n (pc := 56) 1 dX10_readJoined_56 rfl rfl ?_
        refine z_sipush (pc := 57) (v := (10000 : Int32)) dX10_readJoined_57 (by decide) ?_
        refine z_iload (pc := 60) 0 dX10_readJoined_60 rfl ?_
        refine z_iadd (pc := 62) dX10_readJoined_62 ?_
        refine z_callVs (pc := 63) [.ref 11, .int ((10000 : Int32) + (fF σ 11 10))] [] rfl (lk_V (Yc := YX10_write) (n := 1) dX10_readJoined_63 rfl rfl (am_ob.s kC11) rfl rfl np_X10_write mh_RX10 (by decide) ml_RX10_65 im_X10_write se_RX10_X10_write_X10_write in_RX10 cd_X10_write) (by omega) ⟨by decide, by decide⟩ (Nat.le_of_ble_eq_true rfl) (am_kp.rf _) (fun s19 h20 => c10_write h20) (fun s19 h20 => ?_)
        refine z_iinc (pc := 66) (v := x4 + (1 : Int32)) (lv' := [(4, .int (x4 + (1 : Int32))), (5, .int (fF σ 11 10)), (0, .ref 11), (1, .int x1), (2, .int x2), (3, .int x3)]) 5 dX10_readJoined_66 rfl rfl (by decide) rfl ?_
        refine z_goto (pc := 69) (tgt := 24) dX10_readJoined_69 (by decide) ?_
        refine z_lv (lv' := [(0, .ref 11), (1, .int x1), (2, .int x2), (3, .int x3), (4, .int (x4 + (1 : Int32)))]) [2, 3, 4, 5, 0] rfl ?_
        exact ih x1 x2 x3 (x4 + (1 : Int32)) s19
      · exact z_rVs dX10_readJoined_72 rfl ⟨by decide, by decide⟩
def f10_readJoined_r (N : Nat) (r_read : am_S → Int32 → Int32 → Option am_S) (σ : am_S) (x1 : Int32) (x2 : Int32) : Option am_S := (r_read σ (x1 + (1 : Int32)) x2).bind fun s3 => (if x1 = (2 : Int32) then (f10_readJoined_L24 N r_read N x1 x2 (1 : Int32) (0 : Int32) s3) else (f10_readJoined_L24 N r_read N x1 x2 (160 : Int32) (0 : Int32) s3))
theorem c10_readJoined_r {l : Launch} {E : am_E} {N : Nat} {r_read : am_S → Int32 → Int32 → Option am_S} {K : Nat} (hK : 11 ≤ K) (hr_read : ∀ (σ : am_S) (x1 : Int32) (x2 : Int32) (σ1 : am_S), r_read σ x1 x2 = some σ1 → Ctr l E msC YX10_read K 0 0 [.ref 11, .int x1, .int x2] σ none σ1) {σ : am_S} {x1 : Int32} {x2 : Int32} {σ1 : am_S} (hf : f10_readJoined_r N r_read σ x1 x2 = some σ1) : Ctr l E msC YX10_readJoined (K + 1) 0 0 [.ref 11, .int x1, .int x2] σ none σ1 := by
  refine ctr_of (G := fun u r s => r = none ∧ s = u) (by decide +kernel) (Nat.le_of_ble_eq_true rfl) hf ⟨rfl, rfl⟩ (fun d hd => ?_)
  refine z_eqlv (lv' := [(0, .ref 11), (1, .int x1), (2, .int x2)]) rfl ?_
  unfold f10_readJoined_r
  refine z_aload_n (pc := 0) 0 dX10_readJoined_0 rfl rfl ?_
  refine z_iload_n (pc := 1) 1 dX10_readJoined_1 rfl rfl ?_
  refine z_iconst (pc := 2) (v := (1 : Int32)) dX10_readJoined_2 (by decide) ?_
  refine z_iadd (pc := 3) dX10_readJoined_3 ?_
  refine z_iload_n (pc := 4) 2 dX10_readJoined_4 rfl rfl ?_
  refine z_callVs (pc := 5) [.ref 11, .int (x1 + (1 : Int32)), .int x2] [] rfl (lk_V (Yc := YX10_read) (n := 2) dX10_readJoined_5 rfl rfl (am_ob.s kC11) rfl rfl np_X10_read mh_RX10 (by decide) ml_RX10_61 im_X10_read se_RX10_X10_read_X10_read in_RX10 cd_X10_read) hd ⟨by decide, by decide⟩ (Nat.le_of_ble_eq_true rfl) (am_kp.rf _) (fun s3 h4 => hr_read _ _ _ _ h4) (fun s3 h4 => ?_)
  refine z_iload_n (pc := 8) 1 dX10_readJoined_8 rfl rfl ?_
  refine z_iconst (pc := 9) (v := (2 : Int32)) dX10_readJoined_9 (by decide) ?_
  refine z_ic_ne (pc := 10) (tgt := 17) dX10_readJoined_10 (by decide) (fun h5 => ?_) (fun h5 => ?_)
  · refine z_iconst (pc := 13) (v := (1 : Int32)) dX10_readJoined_13 (by decide) ?_
    refine z_goto (pc := 14) (tgt := 20) dX10_readJoined_14 (by decide) ?_
    refine z_istore_n (pc := 20) (lv' := [(3, .int (1 : Int32)), (0, .ref 11), (1, .int x1), (2, .int x2)]) dX10_readJoined_20 rfl (by decide) rfl ?_
    refine z_iconst (pc := 21) (v := (0 : Int32)) dX10_readJoined_21 (by decide) ?_
    refine z_istore (pc := 22) (lv' := [(4, .int (0 : Int32)), (3, .int (1 : Int32)), (0, .ref 11), (1, .int x1), (2, .int x2)]) dX10_readJoined_22 (by decide) rfl ?_
    refine z_lv (lv' := [(0, .ref 11), (1, .int x1), (2, .int x2), (3, .int (1 : Int32)), (4, .int (0 : Int32))]) [2, 3, 4, 1, 0] rfl ?_
    exact z10_readJoined_L24 hK hd hr_read N x1 x2 (1 : Int32) (0 : Int32) s3
  · refine z_sipush (pc := 17) (v := (160 : Int32)) dX10_readJoined_17 (by decide) ?_
    refine z_istore_n (pc := 20) (lv' := [(3, .int (160 : Int32)), (0, .ref 11), (1, .int x1), (2, .int x2)]) dX10_readJoined_20 rfl (by decide) rfl ?_
    refine z_iconst (pc := 21) (v := (0 : Int32)) dX10_readJoined_21 (by decide) ?_
    refine z_istore (pc := 22) (lv' := [(4, .int (0 : Int32)), (3, .int (160 : Int32)), (0, .ref 11), (1, .int x1), (2, .int x2)]) dX10_readJoined_22 (by decide) rfl ?_
    refine z_lv (lv' := [(0, .ref 11), (1, .int x1), (2, .int x2), (3, .int (160 : Int32)), (4, .int (0 : Int32))]) [2, 3, 4, 1, 0] rfl ?_
    exact z10_readJoined_L24 hK hd hr_read N x1 x2 (160 : Int32) (0 : Int32) s3
def f10_readOpening_r (N : Nat) (r_read : am_S → Int32 → Int32 → Option am_S) (σ : am_S) (x1 : Int32) : Option am_S := if x1 < (5 : Int32) then ((f10_nextToken N σ).bind fun s3 => (if fF σ 11 10 = (11 : Int32) then ((r_read s3 (2 : Int32) (x1 + (1 : Int32))).bind fun s8 => (if fF σ 11 10 = (40 : Int32) then ((f10_pass N s8 (41 : Int32)).bind fun s12 => (some (s12))) else (if fF σ 11 10 = (11 : Int32) then ((f10_write s8 ((10000 : Int32) + (11 : Int32))).bind fun s16 => (some (s16))) else ((f10_write s8 ((10000 : Int32) + (15 : Int32))).bind fun s19 => (some (s19)))))) else (if fF σ 11 10 = (45 : Int32) then ((r_read s3 (5 : Int32) (x1 + (1 : Int32))).bind fun s24 => (if fF σ 11 10 = (40 : Int32) then ((f10_pass N s24 (41 : Int32)).bind fun s28 => (some (s28))) else (if fF σ 11 10 = (11 : Int32) then ((f10_write s24 ((10000 : Int32) + (11 : Int32))).bind fun s32 => (some (s32))) else ((f10_write s24 ((10000 : Int32) + (15 : Int32))).bind fun s35 => (some (s35)))))) else ((r_read s3 (0 : Int32) (x1 + (1 : Int32))).bind fun s39 => (if fF σ 11 10 = (40 : Int32) then ((f10_pass N s39 (41 : Int32)).bind fun s43 => (some (s43))) else (if fF σ 11 10 = (11 : Int32) then ((f10_write s39 ((10000 : Int32) + (11 : Int32))).bind fun s47 => (some (s47))) else ((f10_write s39 ((10000 : Int32) + (15 : Int32))).bind fun s50 => (some (s50))))))))) else ((f10_refuse σ).bind fun s53 => (some (s53)))
theorem c10_readOpening_r {l : Launch} {E : am_E} {N : Nat} {r_read : am_S → Int32 → Int32 → Option am_S} {K : Nat} (hK : 11 ≤ K) (hr_read : ∀ (σ : am_S) (x1 : Int32) (x2 : Int32) (σ1 : am_S), r_read σ x1 x2 = some σ1 → Ctr l E msC YX10_read K 0 0 [.ref 11, .int x1, .int x2] σ none σ1) {σ : am_S} {x1 : Int32} {σ1 : am_S} (hf : f10_readOpening_r N r_read σ x1 = some σ1) : Ctr l E msC YX10_readOpening (K + 1) 0 0 [.ref 11, .int x1] σ none σ1 := by
  refine ctr_of (G := fun u r s => r = none ∧ s = u) (by decide +kernel) (Nat.le_of_ble_eq_true rfl) hf ⟨rfl, rfl⟩ (fun d hd => ?_)
  refine z_eqlv (lv' := [(0, .ref 11), (1, .int x1)]) rfl ?_
  unfold f10_readOpening_r
  refine z_iload_n (pc := 0) 1 dX10_readOpening_0 rfl rfl ?_
  refine z_iconst (pc := 1) (v := (5 : Int32)) dX10_readOpening_1 (by decide) ?_
  refine z_ic_lt (pc := 2) (tgt := 10) dX10_readOpening_2 (by decide) (fun h1 => ?_) (fun h1 => ?_)
  · refine z_aload_n (pc := 10) 0 dX10_readOpening_10 rfl rfl ?_
    refine z_getI (pc := 11) dX10_readOpening_11 (am_ob.s kC11) fr_RX10_68_10 (by decide) ?_
    refine z_istore_n (pc := 14) (lv' := [(2, .int (fF σ 11 10)), (0, .ref 11), (1, .int x1)]) dX10_readOpening_14 rfl (by decide) rfl ?_
    refine z_aload_n (pc := 15) 1 dX10_readOpening_15 rfl rfl ?_
    refine z_callVs (pc := 16) [.ref 11] [] rfl (lk_V (Yc := YX10_nextToken) (n := 0) dX10_readOpening_16 rfl rfl (am_ob.s kC11) rfl rfl np_X10_nextToken mh_RX10 (by decide) ml_RX10_54 im_X10_nextToken se_RX10_X10_nextToken_X10_nextToken in_RX10 cd_X10_nextToken) (by omega) ⟨by decide, by decide⟩ (Nat.le_of_ble_eq_true rfl) (am_kp.rf _) (fun s3 h4 => c10_nextToken h4) (fun s3 h4 => ?_)
    refine z_aload_n (pc := 19) 1 dX10_readOpening_19 rfl rfl ?_
    refine z_iload_n (pc := 20) 0 dX10_readOpening_20 rfl rfl ?_
    refine z_bipush (pc := 21) (v := (11 : Int32)) dX10_readOpening_21 (by decide) ?_
    refine z_ic_ne (pc := 23) (tgt := 30) dX10_readOpening_23 (by decide) (fun h5 => ?_) (fun h5 => ?_)
    · refine z_iconst (pc := 26) (v := (2 : Int32)) dX10_readOpening_26 (by decide) ?_
      refine z_goto (pc := 27) (tgt := 41) dX10_readOpening_27 (by decide) ?_
      refine z_iload_n (pc := 41) 2 dX10_readOpening_41 rfl rfl ?_
      refine z_iconst (pc := 42) (v := (1 : Int32)) dX10_readOpening_42 (by decide) ?_
      refine z_iadd (pc := 43) dX10_readOpening_43 ?_
      refine z_callVs (pc := 44) [.ref 11, .int (2 : Int32), .int (x1 + (1 : Int32))] [] rfl (lk_V (Yc := YX10_read) (n := 2) dX10_readOpening_44 rfl rfl (am_ob.s kC11) rfl rfl np_X10_read mh_RX10 (by decide) ml_RX10_61 im_X10_read se_RX10_X10_read_X10_read in_RX10 cd_X10_read) hd ⟨by decide, by decide⟩ (Nat.le_of_ble_eq_true rfl) (am_kp.rf _) (fun s8 h9 => hr_read _ _ _ _ h9) (fun s8 h9 => ?_)
      refine z_iload_n (pc := 47) 0 dX10_readOpening_47 rfl rfl ?_
      refine z_bipush (pc := 48) (v := (40 : Int32)) dX10_readOpening_48 (by decide) ?_
      refine z_ic_ne (pc := 50) (tgt := 62) dX10_readOpening_50 (by decide) (fun h10 => ?_) (fun h10 => ?_)
      · refine z_aload_n (pc := 53) 1 dX10_readOpening_53 rfl rfl ?_
        refine z_bipush (pc := 54) (v := (41 : Int32)) dX10_readOpening_54 (by decide) ?_
        refine z_callVs (pc := 56) [.ref 11, .int (41 : Int32)] [] rfl (lk_V (Yc := YX10_pass) (n := 1) dX10_readOpening_56 rfl rfl (am_ob.s kC11) rfl rfl np_X10_pass mh_RX10 (by decide) ml_RX10_57 im_X10_pass se_RX10_X10_pass_X10_pass in_RX10 cd_X10_pass) (by omega) ⟨by decide, by decide⟩ (Nat.le_of_ble_eq_true rfl) (am_kp.rf _) (fun s12 h13 => c10_pass h13) (fun s12 h13 => ?_)
        refine z_goto (pc := 59) (tgt := 83) dX10_readOpening_59 (by decide) ?_
        exact z_rVs dX10_readOpening_83 rfl ⟨by decide, by decide⟩
      · refine z_aload_n (pc := 62) 1 dX10_readOpening_62 rfl rfl ?_
        refine z_sipush (pc := 63) (v := (10000 : Int32)) dX10_readOpening_63 (by decide) ?_
        refine z_iload_n (pc := 66) 0 dX10_readOpening_66 rfl rfl ?_
        refine z_bipush (pc := 67) (v := (11 : Int32)) dX10_readOpening_67 (by decide) ?_
        refine z_ic_ne (pc := 69) (tgt := 77) dX10_readOpening_69 (by decide) (fun h14 => ?_) (fun h14 => ?_)
        · refine z_bipush (pc := 72) (v := (11 : Int32)) dX10_readOpening_72 (by decide) ?_
          refine z_goto (pc := 74) (tgt := 79) dX10_readOpening_74 (by decide) ?_
          refine z_iadd (pc := 79) dX10_readOpening_79 ?_
          refine z_callVs (pc := 80) [.ref 11, .int ((10000 : Int32) + (11 : Int32))] [] rfl (lk_V (Yc := YX10_write) (n := 1) dX10_readOpening_80 rfl rfl (am_ob.s kC11) rfl rfl np_X10_write mh_RX10 (by decide) ml_RX10_65 im_X10_write se_RX10_X10_write_X10_write in_RX10 cd_X10_write) (by omega) ⟨by decide, by decide⟩ (Nat.le_of_ble_eq_true rfl) (am_kp.rf _) (fun s16 h17 => c10_write h17) (fun s16 h17 => ?_)
          exact z_rVs dX10_readOpening_83 rfl ⟨by decide, by decide⟩
        · refine z_bipush (pc := 77) (v := (15 : Int32)) dX10_readOpening_77 (by decide) ?_
          refine z_iadd (pc := 79) dX10_readOpening_79 ?_
          refine z_callVs (pc := 80) [.ref 11, .int ((10000 : Int32) + (15 : Int32))] [] rfl (lk_V (Yc := YX10_write) (n := 1) dX10_readOpening_80 rfl rfl (am_ob.s kC11) rfl rfl np_X10_write mh_RX10 (by decide) ml_RX10_65 im_X10_write se_RX10_X10_write_X10_write in_RX10 cd_X10_write) (by omega) ⟨by decide, by decide⟩ (Nat.le_of_ble_eq_true rfl) (am_kp.rf _) (fun s19 h20 => c10_write h20) (fun s19 h20 => ?_)
          exact z_rVs dX10_readOpening_83 rfl ⟨by decide, by decide⟩
    · refine z_iload_n (pc := 30) 0 dX10_readOpening_30 rfl rfl ?_
      refine z_bipush (pc := 31) (v := (45 : Int32)) dX10_readOpening_31 (by decide) ?_
      refine z_ic_ne (pc := 33) (tgt := 40) dX10_readOpening_33 (by decide) (fun h21 => ?_) (fun h21 => ?_)
      · refine z_iconst (pc := 36) (v := (5 : Int32)) dX10_readOpening_36 (by decide) ?_
        refine z_goto (pc := 37) (tgt := 41) dX10_readOpening_37 (by decide) ?_
        refine z_iload_n (pc := 41) 2 dX10_readOpening_41 rfl rfl ?_
        refine z_iconst (pc := 42) (v := (1 : Int32)) dX10_readOpening_42 (by decide) ?_
        refine z_iadd (pc := 43) dX10_readOpening_43 ?_
        refine z_callVs (pc := 44) [.ref 11, .int (5 : Int32), .int (x1 + (1 : Int32))] [] rfl (lk_V (Yc := YX10_read) (n := 2) dX10_readOpening_44 rfl rfl (am_ob.s kC11) rfl rfl np_X10_read mh_RX10 (by decide) ml_RX10_61 im_X10_read se_RX10_X10_read_X10_read in_RX10 cd_X10_read) hd ⟨by decide, by decide⟩ (Nat.le_of_ble_eq_true rfl) (am_kp.rf _) (fun s24 h25 => hr_read _ _ _ _ h25) (fun s24 h25 => ?_)
        refine z_iload_n (pc := 47) 0 dX10_readOpening_47 rfl rfl ?_
        refine z_bipush (pc := 48) (v := (40 : Int32)) dX10_readOpening_48 (by decide) ?_
        refine z_ic_ne (pc := 50) (tgt := 62) dX10_readOpening_50 (by decide) (fun h26 => ?_) (fun h26 => ?_)
        · refine z_aload_n (pc := 53) 1 dX10_readOpening_53 rfl rfl ?_
          refine z_bipush (pc := 54) (v := (41 : Int32)) dX10_readOpening_54 (by decide) ?_
          refine z_callVs (pc := 56) [.ref 11, .int (41 : Int32)] [] rfl (lk_V (Yc := YX10_pass) (n := 1) dX10_readOpening_56 rfl rfl (am_ob.s kC11) rfl rfl np_X10_pass mh_RX10 (by decide) ml_RX10_57 im_X10_pass se_RX10_X10_pass_X10_pass in_RX10 cd_X10_pass) (by omega) ⟨by decide, by decide⟩ (Nat.le_of_ble_eq_true rfl) (am_kp.rf _) (fun s28 h29 => c10_pass h29) (fun s28 h29 => ?_)
          refine z_goto (pc := 59) (tgt := 83) dX10_readOpening_59 (by decide) ?_
          exact z_rVs dX10_readOpening_83 rfl ⟨by decide, by decide⟩
        · refine z_aload_n (pc := 62) 1 dX10_readOpening_62 rfl rfl ?_
          refine z_sipush (pc := 63) (v := (10000 : Int32)) dX10_readOpening_63 (by decide) ?_
          refine z_iload_n (pc := 66) 0 dX10_readOpening_66 rfl rfl ?_
          refine z_bipush (pc := 67) (v := (11 : Int32)) dX10_readOpening_67 (by decide) ?_
          refine z_ic_ne (pc := 69) (tgt := 77) dX10_readOpening_69 (by decide) (fun h30 => ?_) (fun h30 => ?_)
          · refine z_bipush (pc := 72) (v := (11 : Int32)) dX10_readOpening_72 (by decide) ?_
            refine z_goto (pc := 74) (tgt := 79) dX10_readOpening_74 (by decide) ?_
            refine z_iadd (pc := 79) dX10_readOpening_79 ?_
            refine z_callVs (pc := 80) [.ref 11, .int ((10000 : Int32) + (11 : Int32))] [] rfl (lk_V (Yc := YX10_write) (n := 1) dX10_readOpening_80 rfl rfl (am_ob.s kC11) rfl rfl np_X10_write mh_RX10 (by decide) ml_RX10_65 im_X10_write se_RX10_X10_write_X10_write in_RX10 cd_X10_write) (by omega) ⟨by decide, by decide⟩ (Nat.le_of_ble_eq_true rfl) (am_kp.rf _) (fun s32 h33 => c10_write h33) (fun s32 h33 => ?_)
            exact z_rVs dX10_readOpening_83 rfl ⟨by decide, by decide⟩
          · refine z_bipush (pc := 77) (v := (15 : Int32)) dX10_readOpening_77 (by decide) ?_
            refine z_iadd (pc := 79) dX10_readOpening_79 ?_
            refine z_callVs (pc := 80) [.ref 11, .int ((10000 : Int32) + (15 : Int32))] [] rfl (lk_V (Yc := YX10_write) (n := 1) dX10_readOpening_80 rfl rfl (am_ob.s kC11) rfl rfl np_X10_write mh_RX10 (by decide) ml_RX10_65 im_X10_write se_RX10_X10_write_X10_write in_RX10 cd_X10_write) (by omega) ⟨by decide, by decide⟩ (Nat.le_of_ble_eq_true rfl) (am_kp.rf _) (fun s35 h36 => c10_write h36) (fun s35 h36 => ?_)
            exact z_rVs dX10_readOpening_83 rfl ⟨by decide, by decide⟩
      · refine z_iconst (pc := 40) (v := (0 : Int32)) dX10_readOpening_40 (by decide) ?_
        refine z_iload_n (pc := 41) 2 dX10_readOpening_41 rfl rfl ?_
        refine z_iconst (pc := 42) (v := (1 : Int32)) dX10_readOpening_42 (by decide) ?_
        refine z_iadd (pc := 43) dX10_readOpening_43 ?_
        refine z_callVs (pc := 44) [.ref 11, .int (0 : Int32), .int (x1 + (1 : Int32))] [] rfl (lk_V (Yc := YX10_read) (n := 2) dX10_readOpening_44 rfl rfl (am_ob.s kC11) rfl rfl np_X10_read mh_RX10 (by decide) ml_RX10_61 im_X10_read se_RX10_X10_read_X10_read in_RX10 cd_X10_read) hd ⟨by decide, by decide⟩ (Nat.le_of_ble_eq_true rfl) (am_kp.rf _) (fun s39 h40 => hr_read _ _ _ _ h40) (fun s39 h40 => ?_)
        refine z_iload_n (pc := 47) 0 dX10_readOpening_47 rfl rfl ?_
        refine z_bipush (pc := 48) (v := (40 : Int32)) dX10_readOpening_48 (by decide) ?_
        refine z_ic_ne (pc := 50) (tgt := 62) dX10_readOpening_50 (by decide) (fun h41 => ?_) (fun h41 => ?_)
        · refine z_aload_n (pc := 53) 1 dX10_readOpening_53 rfl rfl ?_
          refine z_bipush (pc := 54) (v := (41 : Int32)) dX10_readOpening_54 (by decide) ?_
          refine z_callVs (pc := 56) [.ref 11, .int (41 : Int32)] [] rfl (lk_V (Yc := YX10_pass) (n := 1) dX10_readOpening_56 rfl rfl (am_ob.s kC11) rfl rfl np_X10_pass mh_RX10 (by decide) ml_RX10_57 im_X10_pass se_RX10_X10_pass_X10_pass in_RX10 cd_X10_pass) (by omega) ⟨by decide, by decide⟩ (Nat.le_of_ble_eq_true rfl) (am_kp.rf _) (fun s43 h44 => c10_pass h44) (fun s43 h44 => ?_)
          refine z_goto (pc := 59) (tgt := 83) dX10_readOpening_59 (by decide) ?_
          exact z_rVs dX10_readOpening_83 rfl ⟨by decide, by decide⟩
        · refine z_aload_n (pc := 62) 1 dX10_readOpening_62 rfl rfl ?_
          refine z_sipush (pc := 63) (v := (10000 : Int32)) dX10_readOpening_63 (by decide) ?_
          refine z_iload_n (pc := 66) 0 dX10_readOpening_66 rfl rfl ?_
          refine z_bipush (pc := 67) (v := (11 : Int32)) dX10_readOpening_67 (by decide) ?_
          refine z_ic_ne (pc := 69) (tgt := 77) dX10_readOpening_69 (by decide) (fun h45 => ?_) (fun h45 => ?_)
          · refine z_bipush (pc := 72) (v := (11 : Int32)) dX10_readOpening_72 (by decide) ?_
            refine z_goto (pc := 74) (tgt := 79) dX10_readOpening_74 (by decide) ?_
            refine z_iadd (pc := 79) dX10_readOpening_79 ?_
            refine z_callVs (pc := 80) [.ref 11, .int ((10000 : Int32) + (11 : Int32))] [] rfl (lk_V (Yc := YX10_write) (n := 1) dX10_readOpening_80 rfl rfl (am_ob.s kC11) rfl rfl np_X10_write mh_RX10 (by decide) ml_RX10_65 im_X10_write se_RX10_X10_write_X10_write in_RX10 cd_X10_write) (by omega) ⟨by decide, by decide⟩ (Nat.le_of_ble_eq_true rfl) (am_kp.rf _) (fun s47 h48 => c10_write h48) (fun s47 h48 => ?_)
            exact z_rVs dX10_readOpening_83 rfl ⟨by decide, by decide⟩
          · refine z_bipush (pc := 77) (v := (15 : Int32)) dX10_readOpening_77 (by decide) ?_
            refine z_iadd (pc := 79) dX10_readOpening_79 ?_
            refine z_callVs (pc := 80) [.ref 11, .int ((10000 : Int32) + (15 : Int32))] [] rfl (lk_V (Yc := YX10_write) (n := 1) dX10_readOpening_80 rfl rfl (am_ob.s kC11) rfl rfl np_X10_write mh_RX10 (by decide) ml_RX10_65 im_X10_write se_RX10_X10_write_X10_write in_RX10 cd_X10_write) (by omega) ⟨by decide, by decide⟩ (Nat.le_of_ble_eq_true rfl) (am_kp.rf _) (fun s50 h51 => c10_write h51) (fun s50 h51 => ?_)
            exact z_rVs dX10_readOpening_83 rfl ⟨by decide, by decide⟩
  · refine z_aload_n (pc := 5) 0 dX10_readOpening_5 rfl rfl ?_
    refine z_callVs (pc := 6) [.ref 11] [] rfl (lk_V (Yc := YX10_refuse) (n := 0) dX10_readOpening_6 rfl rfl (am_ob.s kC11) rfl rfl np_X10_refuse mh_RX10 (by decide) ml_RX10_71 im_X10_refuse se_RX10_X10_refuse_X10_refuse in_RX10 cd_X10_refuse) (by omega) ⟨by decide, by decide⟩ (Nat.le_of_ble_eq_true rfl) (am_kp.rf _) (fun s53 h54 => c10_refuse h54) (fun s53 h54 => ?_)
    exact z_rVs dX10_readOpening_9 rfl ⟨by decide, by decide⟩
def gT (N : Nat) : Nat → (am_S → Int32 → Int32 → Option am_S) × (am_S → Int32 → Int32 → Option am_S) × (am_S → Int32 → Option am_S)
  | 0 => (fun _ _ _ => none, fun _ _ _ => none, fun _ _ => none)
  | D + 1 => (fun σ x1 x2 => f10_read_r N (gT N D).2.1 (gT N D).2.2 σ x1 x2, fun σ x1 x2 => f10_readJoined_r N (gT N D).1 σ x1 x2, fun σ x1 => f10_readOpening_r N (gT N D).1 σ x1)
theorem gT_ok {l : Launch} {E : am_E} {N : Nat} : ∀ D : Nat, (∀ (σ : am_S) (x1 : Int32) (x2 : Int32) (σ1 : am_S), (gT N D).1 σ x1 x2 = some σ1 → Ctr l E msC YX10_read (11 + D) 0 0 [.ref 11, .int x1, .int x2] σ none σ1) ∧ (∀ (σ : am_S) (x1 : Int32) (x2 : Int32) (σ1 : am_S), (gT N D).2.1 σ x1 x2 = some σ1 → Ctr l E msC YX10_readJoined (11 + D) 0 0 [.ref 11, .int x1, .int x2] σ none σ1) ∧ (∀ (σ : am_S) (x1 : Int32) (σ1 : am_S), (gT N D).2.2 σ x1 = some σ1 → Ctr l E msC YX10_readOpening (11 + D) 0 0 [.ref 11, .int x1] σ none σ1) := by
  intro D
  induction D with
  | zero => exact ⟨fun _ _ _ _ h => (by simp [gT] at h), fun _ _ _ _ h => (by simp [gT] at h), fun _ _ _ h => (by simp [gT] at h)⟩
  | succ D ih =>
    obtain ⟨i_read, i_readJoined, i_readOpening⟩ := ih
    exact ⟨fun _ _ _ _ h => c10_read_r (Nat.le_add_right _ _) i_readJoined i_readOpening h,
      fun _ _ _ _ h => c10_readJoined_r (Nat.le_add_right _ _) i_read h,
      fun _ _ _ h => c10_readOpening_r (Nat.le_add_right _ _) i_read h⟩
def f10_read (N : Nat) (σ : am_S) (x1 : Int32) (x2 : Int32) : Option am_S := (gT N 100).1 σ x1 x2
theorem c10_read {l : Launch} {E : am_E} {N : Nat} {σ : am_S} {x1 : Int32} {x2 : Int32} {σ1 : am_S} (hf : f10_read N σ x1 x2 = some σ1) : Ctr l E msC YX10_read 111 0 0 [.ref 11, .int x1, .int x2] σ none σ1 := (gT_ok 100).1 σ x1 x2 _ hf
def f10_readJoined (N : Nat) (σ : am_S) (x1 : Int32) (x2 : Int32) : Option am_S := (gT N 100).2.1 σ x1 x2
theorem c10_readJoined {l : Launch} {E : am_E} {N : Nat} {σ : am_S} {x1 : Int32} {x2 : Int32} {σ1 : am_S} (hf : f10_readJoined N σ x1 x2 = some σ1) : Ctr l E msC YX10_readJoined 111 0 0 [.ref 11, .int x1, .int x2] σ none σ1 := (gT_ok 100).2.1 σ x1 x2 _ hf
def f10_readOpening (N : Nat) (σ : am_S) (x1 : Int32) : Option am_S := (gT N 100).2.2 σ x1
theorem c10_readOpening {l : Launch} {E : am_E} {N : Nat} {σ : am_S} {x1 : Int32} {σ1 : am_S} (hf : f10_readOpening N σ x1 = some σ1) : Ctr l E msC YX10_readOpening 111 0 0 [.ref 11, .int x1] σ none σ1 := (gT_ok 100).2.2 σ x1 _ hf
def f10_readTape_J88 (N : Nat) (σ : am_S) : Option (Int32 × am_S) := if fF σ 11 10 = (13 : Int32) then (if fF (sF σ 11 1 (0 : Int32)) 11 12 = (-1 : Int32) then (some ((fF (sF (sF σ 11 1 (0 : Int32)) 11 4 ((fF (sF σ 11 1 (0 : Int32)) 11 4) + (1 : Int32))) 11 4) - (1 : Int32), sF (sF σ 11 1 (0 : Int32)) 11 4 ((fF (sF σ 11 1 (0 : Int32)) 11 4) + (1 : Int32)))) else (some ((-100 : Int32) - (fF (sF σ 11 1 (0 : Int32)) 11 12), sF σ 11 1 (0 : Int32)))) else ((f10_refuse σ).bind fun s9 => (if fF (sF s9 11 1 (0 : Int32)) 11 12 = (-1 : Int32) then (some ((fF (sF (sF s9 11 1 (0 : Int32)) 11 4 ((fF (sF s9 11 1 (0 : Int32)) 11 4) + (1 : Int32))) 11 4) - (1 : Int32), sF (sF s9 11 1 (0 : Int32)) 11 4 ((fF (sF s9 11 1 (0 : Int32)) 11 4) + (1 : Int32)))) else (some ((-100 : Int32) - (fF (sF s9 11 1 (0 : Int32)) 11 12), sF s9 11 1 (0 : Int32)))))
theorem z10_readTape_J88 {l : Launch} {E : am_E} {d : Nat} {σ0 : am_S} {N : Nat} (hd : 112 ≤ d) (σ : am_S) : Z l E msC σ0 YX10_readTape d 0 0 88 [(0, .ref 11)] [] 0 0 σ (f10_readTape_J88 N σ) (fun u r s => r = some (.int u.1) ∧ s = u.2) := by
  unfold f10_readTape_J88
  refine z_aload_n (pc := 88) 0 dX10_readTape_88 rfl rfl ?_
  refine z_getI (pc := 89) dX10_readTape_89 (am_ob.s kC11) fr_RX10_68_10 (by decide) ?_
  refine z_bipush (pc := 92) (v := (13 : Int32)) dX10_readTape_92 (by decide) ?_
  refine z_ic_eq (pc := 94) (tgt := 101) dX10_readTape_94 (by decide) (fun h6 => ?_) (fun h6 => ?_)
  · refine z_aload_n (pc := 101) 0 dX10_readTape_101 rfl rfl ?_
    refine z_iconst (pc := 102) (v := (0 : Int32)) dX10_readTape_102 (by decide) ?_
    refine z_putI (pc := 103) dX10_readTape_103 (am_ob.s kC11) fw_RX10_25_10 (by decide) ?_
    refine z_aload_n (pc := 106) 0 dX10_readTape_106 rfl rfl ?_
    refine z_getI (pc := 107) dX10_readTape_107 (am_ob.s kC11) fr_RX10_51_10 (by decide) ?_
    refine z_iconst (pc := 110) (v := (-1 : Int32)) dX10_readTape_110 (by decide) ?_
    refine z_ic_eq (pc := 111) (tgt := 122) dX10_readTape_111 (by decide) (fun h7 => ?_) (fun h7 => ?_)
    · refine z_aload_n (pc := 122) 0 dX10_readTape_122 rfl rfl ?_
      refine z_dup (pc := 123) dX10_readTape_123 rfl ?_
      refine z_getI (pc := 124) dX10_readTape_124 (am_ob.s kC11) fr_RX10_43_10 (by decide) ?_
      refine z_iconst (pc := 127) (v := (1 : Int32)) dX10_readTape_127 (by decide) ?_
      refine z_iadd (pc := 128) dX10_readTape_128 ?_
      refine z_putI (pc := 129) dX10_readTape_129 (am_ob.s kC11) fw_RX10_43_10 (by decide) ?_
      refine z_aload_n (pc := 132) 0 dX10_readTape_132 rfl rfl ?_
      refine z_getI (pc := 133) dX10_readTape_133 (am_ob.s kC11) fr_RX10_43_10 (by decide) ?_
      refine z_iconst (pc := 136) (v := (1 : Int32)) dX10_readTape_136 (by decide) ?_
      refine z_isub (pc := 137) dX10_readTape_137 ?_
      exact z_rIs dX10_readTape_138 rfl ⟨by decide, by decide⟩
    · refine z_bipush (pc := 114) (v := (-100 : Int32)) dX10_readTape_114 (by decide) ?_
      refine z_aload_n (pc := 116) 0 dX10_readTape_116 rfl rfl ?_
      refine z_getI (pc := 117) dX10_readTape_117 (am_ob.s kC11) fr_RX10_51_10 (by decide) ?_
      refine z_isub (pc := 120) dX10_readTape_120 ?_
      exact z_rIs dX10_readTape_121 rfl ⟨by decide, by decide⟩
  · refine z_aload_n (pc := 97) 0 dX10_readTape_97 rfl rfl ?_
    refine z_callVs (pc := 98) [.ref 11] [] rfl (lk_V (Yc := YX10_refuse) (n := 0) dX10_readTape_98 rfl rfl (am_ob.s kC11) rfl rfl np_X10_refuse mh_RX10 (by decide) ml_RX10_71 im_X10_refuse se_RX10_X10_refuse_X10_refuse in_RX10 cd_X10_refuse) (Nat.le_trans (by decide) hd) ⟨by decide, by decide⟩ (Nat.le_of_ble_eq_true rfl) (am_kp.rf _) (fun s9 h10 => c10_refuse h10) (fun s9 h10 => ?_)
    refine z_aload_n (pc := 101) 0 dX10_readTape_101 rfl rfl ?_
    refine z_iconst (pc := 102) (v := (0 : Int32)) dX10_readTape_102 (by decide) ?_
    refine z_putI (pc := 103) dX10_readTape_103 (am_ob.s kC11) fw_RX10_25_10 (by decide) ?_
    refine z_aload_n (pc := 106) 0 dX10_readTape_106 rfl rfl ?_
    refine z_getI (pc := 107) dX10_readTape_107 (am_ob.s kC11) fr_RX10_51_10 (by decide) ?_
    refine z_iconst (pc := 110) (v := (-1 : Int32)) dX10_readTape_110 (by decide) ?_
    refine z_ic_eq (pc := 111) (tgt := 122) dX10_readTape_111 (by decide) (fun h11 => ?_) (fun h11 => ?_)
    · refine z_aload_n (pc := 122) 0 dX10_readTape_122 rfl rfl ?_
      refine z_dup (pc := 123) dX10_readTape_123 rfl ?_
      refine z_getI (pc := 124) dX10_readTape_124 (am_ob.s kC11) fr_RX10_43_10 (by decide) ?_
      refine z_iconst (pc := 127) (v := (1 : Int32)) dX10_readTape_127 (by decide) ?_
      refine z_iadd (pc := 128) dX10_readTape_128 ?_
      refine z_putI (pc := 129) dX10_readTape_129 (am_ob.s kC11) fw_RX10_43_10 (by decide) ?_
      refine z_aload_n (pc := 132) 0 dX10_readTape_132 rfl rfl ?_
      refine z_getI (pc := 133) dX10_readTape_133 (am_ob.s kC11) fr_RX10_43_10 (by decide) ?_
      refine z_iconst (pc := 136) (v := (1 : Int32)) dX10_readTape_136 (by decide) ?_
      refine z_isub (pc := 137) dX10_readTape_137 ?_
      exact z_rIs dX10_readTape_138 rfl ⟨by decide, by decide⟩
    · refine z_bipush (pc := 114) (v := (-100 : Int32)) dX10_readTape_114 (by decide) ?_
      refine z_aload_n (pc := 116) 0 dX10_readTape_116 rfl rfl ?_
      refine z_getI (pc := 117) dX10_readTape_117 (am_ob.s kC11) fr_RX10_51_10 (by decide) ?_
      refine z_isub (pc := 120) dX10_readTape_120 ?_
      exact z_rIs dX10_readTape_121 rfl ⟨by decide, by decide⟩
def f10_readTape_L33 (N : Nat) : Nat → Int32 → am_S → Option (Int32 × am_S)
  | 0, _, _ => none
  | n + 1, x1, σ => if (3 : Int32) ≤ x1 then (f10_readTape_J88 N σ) else (if am_in (((fF σ 11 4) * (3 : Int32)) + x1) 18 = true then ((f10_pass N (sF σ 14 (((fF σ 11 4) * (3 : Int32)) + x1).toNatClampNeg (fF σ 11 7)) ((6 : Int32) + x1)).bind fun s14 => ((f10_read N s14 (0 : Int32) (0 : Int32)).bind fun s17 => ((f10_pass N s17 (59 : Int32)).bind fun s20 => ((f10_write s20 (10059 : Int32)).bind fun s23 => (f10_readTape_L33 N n (x1 + (1 : Int32)) s23))))) else none)
theorem z10_readTape_L33 {l : Launch} {E : am_E} {d : Nat} {σ0 : am_S} {N : Nat} (hd : 112 ≤ d) : ∀ (n : Nat) (x1 : Int32) (σ : am_S), Z l E msC σ0 YX10_readTape d 0 0 33 [(0, .ref 11), (1, .int x1)] [] 0 0 σ (f10_readTape_L33 N n x1 σ) (fun u r s => r = some (.int u.1) ∧ s = u.2) := by
  intro n
  induction n with
  | zero => intros; exact z_none
  | succ n ih =>
    intro x1 σ
    unfold f10_readTape_L33
    refine z_iload_n (pc := 33) 1 dX10_readTape_33 rfl rfl ?_
    refine z_iconst (pc := 34) (v := (3 : Int32)) dX10_readTape_34 (by decide) ?_
    refine z_ic_ge (pc := 35) (tgt := 88) dX10_readTape_35 (by decide) (fun h5 => ?_) (fun h5 => ?_)
    · refine z_lv (lv' := [(0, .ref 11)]) [0] rfl ?_
      exact z10_readTape_J88 hd σ
    · refine z_aload_n (pc := 38) 0 dX10_readTape_38 rfl rfl ?_
      refine z_getQ (pc := 39) (b := 14) dX10_readTape_39 kC11 fr_RX10_19_10 (by decide) rfl ?_
      refine z_aload_n (pc := 42) 0 dX10_readTape_42 rfl rfl ?_
      refine z_getI (pc := 43) dX10_readTape_43 (am_ob.s kC11) fr_RX10_43_10 (by decide) ?_
      refine z_iconst (pc := 46) (v := (3 : Int32)) dX10_readTape_46 (by decide) ?_
      refine z_imul (pc := 47) dX10_readTape_47 ?_
      refine z_iload_n (pc := 48) 1 dX10_readTape_48 rfl rfl ?_
      refine z_iadd (pc := 49) dX10_readTape_49 ?_
      refine z_aload_n (pc := 50) 0 dX10_readTape_50 rfl rfl ?_
      refine z_getI (pc := 51) dX10_readTape_51 (am_ob.s kC11) fr_RX10_46_10 (by decide) ?_
      refine z_iast (pc := 54) dX10_readTape_54 (am_ar.s kC14) (fun h12 => ?_)
      refine z_aload_n (pc := 55) 0 dX10_readTape_55 rfl rfl ?_
      refine z_bipush (pc := 56) (v := (6 : Int32)) dX10_readTape_56 (by decide) ?_
      refine z_iload_n (pc := 58) 1 dX10_readTape_58 rfl rfl ?_
      refine z_iadd (pc := 59) dX10_readTape_59 ?_
      refine z_callVs (pc := 60) [.ref 11, .int ((6 : Int32) + x1)] [] rfl (lk_V (Yc := YX10_pass) (n := 1) dX10_readTape_60 rfl rfl (am_ob.s kC11) rfl rfl np_X10_pass mh_RX10 (by decide) ml_RX10_57 im_X10_pass se_RX10_X10_pass_X10_pass in_RX10 cd_X10_pass) (Nat.le_trans (by decide) hd) ⟨by decide, by decide⟩ (Nat.le_of_ble_eq_true rfl) (am_kp.rf _) (fun s14 h15 => c10_pass h15) (fun s14 h15 => ?_)
      refine z_aload_n (pc := 63) 0 dX10_readTape_63 rfl rfl ?_
      refine z_iconst (pc := 64) (v := (0 : Int32)) dX10_readTape_64 (by decide) ?_
      refine z_iconst (pc := 65) (v := (0 : Int32)) dX10_readTape_65 (by decide) ?_
      refine z_callVs (pc := 66) [.ref 11, .int (0 : Int32), .int (0 : Int32)] [] rfl (lk_V (Yc := YX10_read) (n := 2) dX10_readTape_66 rfl rfl (am_ob.s kC11) rfl rfl np_X10_read mh_RX10 (by decide) ml_RX10_61 im_X10_read se_RX10_X10_read_X10_read in_RX10 cd_X10_read) (Nat.le_trans (by decide) hd) ⟨by decide, by decide⟩ (Nat.le_of_ble_eq_true rfl) (am_kp.rf _) (fun s17 h18 => c10_read h18) (fun s17 h18 => ?_)
      refine z_aload_n (pc := 69) 0 dX10_readTape_69 rfl rfl ?_
      refine z_bipush (pc := 70) (v := (59 : Int32)) dX10_readTape_70 (by decide) ?_
      refine z_callVs (pc := 72) [.ref 11, .int (59 : Int32)] [] rfl (lk_V (Yc := YX10_pass) (n := 1) dX10_readTape_72 rfl rfl (am_ob.s kC11) rfl rfl np_X10_pass mh_RX10 (by decide) ml_RX10_57 im_X10_pass se_RX10_X10_pass_X10_pass in_RX10 cd_X10_pass) (Nat.le_trans (by decide) hd) ⟨by decide, by decide⟩ (Nat.le_of_ble_eq_true rfl) (am_kp.rf _) (fun s20 h21 => c10_pass h21) (fun s20 h21 => ?_)
      refine z_aload_n (pc := 75) 0 dX10_readTape_75 rfl rfl ?_
      refine z_sipush (pc := 76) (v := (10059 : Int32)) dX10_readTape_76 (by decide) ?_
      refine z_callVs (pc := 79) [.ref 11, .int (10059 : Int32)] [] rfl (lk_V (Yc := YX10_write) (n := 1) dX10_readTape_79 rfl rfl (am_ob.s kC11) rfl rfl np_X10_write mh_RX10 (by decide) ml_RX10_65 im_X10_write se_RX10_X10_write_X10_write in_RX10 cd_X10_write) (Nat.le_trans (by decide) hd) ⟨by decide, by decide⟩ (Nat.le_of_ble_eq_true rfl) (am_kp.rf _) (fun s23 h24 => c10_write h24) (fun s23 h24 => ?_)
      refine z_iinc (pc := 82) (v := x1 + (1 : Int32)) (lv' := [(1, .int (x1 + (1 : Int32))), (0, .ref 11)]) 1 dX10_readTape_82 rfl rfl (by decide) rfl ?_
      refine z_goto (pc := 85) (tgt := 33) dX10_readTape_85 (by decide) ?_
      refine z_lv (lv' := [(0, .ref 11), (1, .int (x1 + (1 : Int32)))]) [1, 0] rfl ?_
      exact ih (x1 + (1 : Int32)) s23
def f10_readTape (N : Nat) (σ : am_S) : Option (Int32 × am_S) := if fF σ 11 4 < (6 : Int32) then ((f10_nextToken N (sF (sF (sF σ 11 7 (0 : Int32)) 11 8 (0 : Int32)) 11 12 (-1 : Int32))).bind fun s3 => (f10_readTape_L33 N N (0 : Int32) s3)) else (some ((-4 : Int32), σ))
theorem c10_readTape {l : Launch} {E : am_E} {N : Nat} {σ : am_S} {v : Int32} {σ1 : am_S} (hf : f10_readTape N σ = some (v, σ1)) : Ctr l E msC YX10_readTape (112) 0 0 [.ref 11] σ (some (.int v)) σ1 := by
  refine ctr_of (G := fun u r s => r = some (.int u.1) ∧ s = u.2) (by decide +kernel) (Nat.le_of_ble_eq_true rfl) hf ⟨rfl, rfl⟩ (fun d hd => ?_)
  refine z_eqlv (lv' := [(0, .ref 11)]) rfl ?_
  unfold f10_readTape
  refine z_aload_n (pc := 0) 0 dX10_readTape_0 rfl rfl ?_
  refine z_getI (pc := 1) dX10_readTape_1 (am_ob.s kC11) fr_RX10_43_10 (by decide) ?_
  refine z_bipush (pc := 4) (v := (6 : Int32)) dX10_readTape_4 (by decide) ?_
  refine z_ic_lt (pc := 6) (tgt := 12) dX10_readTape_6 (by decide) (fun h1 => ?_) (fun h1 => ?_)
  · refine z_aload_n (pc := 12) 0 dX10_readTape_12 rfl rfl ?_
    refine z_iconst (pc := 13) (v := (0 : Int32)) dX10_readTape_13 (by decide) ?_
    refine z_putI (pc := 14) dX10_readTape_14 (am_ob.s kC11) fw_RX10_46_10 (by decide) ?_
    refine z_aload_n (pc := 17) 0 dX10_readTape_17 rfl rfl ?_
    refine z_iconst (pc := 18) (v := (0 : Int32)) dX10_readTape_18 (by decide) ?_
    refine z_putI (pc := 19) dX10_readTape_19 (am_ob.s kC11) fw_RX10_48_10 (by decide) ?_
    refine z_aload_n (pc := 22) 0 dX10_readTape_22 rfl rfl ?_
    refine z_iconst (pc := 23) (v := (-1 : Int32)) dX10_readTape_23 (by decide) ?_
    refine z_putI (pc := 24) dX10_readTape_24 (am_ob.s kC11) fw_RX10_51_10 (by decide) ?_
    refine z_aload_n (pc := 27) 0 dX10_readTape_27 rfl rfl ?_
    refine z_callVs (pc := 28) [.ref 11] [] rfl (lk_V (Yc := YX10_nextToken) (n := 0) dX10_readTape_28 rfl rfl (am_ob.s kC11) rfl rfl np_X10_nextToken mh_RX10 (by decide) ml_RX10_54 im_X10_nextToken se_RX10_X10_nextToken_X10_nextToken in_RX10 cd_X10_nextToken) (Nat.le_trans (by decide) hd) ⟨by decide, by decide⟩ (Nat.le_of_ble_eq_true rfl) (am_kp.rf _) (fun s3 h4 => c10_nextToken h4) (fun s3 h4 => ?_)
    refine z_iconst (pc := 31) (v := (0 : Int32)) dX10_readTape_31 (by decide) ?_
    refine z_istore_n (pc := 32) (lv' := [(1, .int (0 : Int32)), (0, .ref 11)]) dX10_readTape_32 rfl (by decide) rfl ?_
    refine z_lv (lv' := [(0, .ref 11), (1, .int (0 : Int32))]) [1, 0] rfl ?_
    exact z10_readTape_L33 hd N (0 : Int32) s3
  · refine z_bipush (pc := 9) (v := (-4 : Int32)) dX10_readTape_9 (by decide) ?_
    exact z_rIs dX10_readTape_11 rfl ⟨by decide, by decide⟩
def f10_value_L30 (N : Nat) : Nat → Int32 → Int32 → Int32 → am_S → Option (Int32 × am_S)
  | 0, _, _, _, _ => none
  | n + 1, x3, x4, x5, σ => if x4 + (160 : Int32) ≤ x5 then (if am_in (0 : Int32) 64 = true then (some (fF σ 15 (0 : Int32).toNatClampNeg, σ)) else none) else (if am_in x5 960 = true then (if fF σ 13 x5.toNatClampNeg = (10059 : Int32) then (if am_in (0 : Int32) 64 = true then (some (fF σ 15 (0 : Int32).toNatClampNeg, σ)) else none) else (if am_in x5 960 = true then ((f10_doStep σ (fF σ 13 x5.toNatClampNeg) x3).bind fun (v8, s9) => (f10_value_L30 N n v8 x4 (x5 + (1 : Int32)) s9)) else none)) else none)
theorem z10_value_L30 {l : Launch} {E : am_E} {d : Nat} {σ0 : am_S} {N : Nat} (hd : 2 ≤ d) : ∀ (n : Nat) (x3 : Int32) (x4 : Int32) (x5 : Int32) (σ : am_S), Z l E msC σ0 YX10_value d 0 0 30 [(0, .ref 11), (2, .ref 16), (3, .int x3), (4, .int x4), (5, .int x5)] [] 0 0 σ (f10_value_L30 N n x3 x4 x5 σ) (fun u r s => r = some (.int u.1) ∧ s = u.2) := by
  intro n
  induction n with
  | zero => intros; exact z_none
  | succ n ih =>
    intro x3 x4 x5 σ
    unfold f10_value_L30
    refine z_iload (pc := 30) 4 dX10_value_30 rfl ?_
    refine z_iload (pc := 32) 3 dX10_value_32 rfl ?_
    refine z_sipush (pc := 34) (v := (160 : Int32)) dX10_value_34 (by decide) ?_
    refine z_iadd (pc := 37) dX10_value_37 ?_
    refine z_ic_ge (pc := 38) (tgt := 74) dX10_value_38 (by decide) (fun h2 => ?_) (fun h2 => ?_)
    · refine z_aload_n (pc := 74) 0 dX10_value_74 rfl rfl ?_
      refine z_getQ (pc := 75) (b := 15) dX10_value_75 kC11 fr_RX10_22_10 (by decide) rfl ?_
      refine z_iconst (pc := 78) (v := (0 : Int32)) dX10_value_78 (by decide) ?_
      refine z_iald (pc := 79) dX10_value_79 (am_ar.s kC15) (fun h3 => ?_)
      exact z_rIs dX10_value_80 rfl ⟨by decide, by decide⟩
    · refine z_aload_n (pc := 41) 0 dX10_value_41 rfl rfl ?_
      refine z_getQ (pc := 42) (b := 13) dX10_value_42 kC11 fr_RX10_15_10 (by decide) rfl ?_
      refine z_iload (pc := 45) 4 dX10_value_45 rfl ?_
      refine z_iald (pc := 47) dX10_value_47 (am_ar.s kC13) (fun h4 => ?_)
      refine z_sipush (pc := 48) (v := (10059 : Int32)) dX10_value_48 (by decide) ?_
      refine z_ic_eq (pc := 51) (tgt := 74) dX10_value_51 (by decide) (fun h5 => ?_) (fun h5 => ?_)
      · refine z_aload_n (pc := 74) 0 dX10_value_74 rfl rfl ?_
        refine z_getQ (pc := 75) (b := 15) dX10_value_75 kC11 fr_RX10_22_10 (by decide) rfl ?_
        refine z_iconst (pc := 78) (v := (0 : Int32)) dX10_value_78 (by decide) ?_
        refine z_iald (pc := 79) dX10_value_79 (am_ar.s kC15) (fun h6 => ?_)
        exact z_rIs dX10_value_80 rfl ⟨by decide, by decide⟩
      · refine z_aload_n (pc := 54) 0 dX10_value_54 rfl rfl ?_
        refine z_aload_n (pc := 55) 0 dX10_value_55 rfl rfl ?_
        refine z_getQ (pc := 56) (b := 13) dX10_value_56 kC11 fr_RX10_15_10 (by decide) rfl ?_
        refine z_iload (pc := 59) 4 dX10_value_59 rfl ?_
        refine z_iald (pc := 61) dX10_value_61 (am_ar.s kC13) (fun h7 => ?_)
        refine z_iload_n (pc := 62) 2 dX10_value_62 rfl rfl ?_
        refine z_aload_n (pc := 63) 1 dX10_value_63 rfl rfl ?_
        refine z_callIs (pc := 64) [.ref 11, .int (fF σ 13 x5.toNatClampNeg), .int x3, .ref 16] [] rfl (lk_V (Yc := YX10_doStep) (n := 3) dX10_value_64 rfl rfl (am_ob.s kC11) rfl rfl np_X10_doStep mh_RX10 (by decide) ml_RX10_119 im_X10_doStep se_RX10_X10_doStep_X10_doStep in_RX10 cd_X10_doStep) (Nat.le_trans (by decide) hd) ⟨by decide, by decide⟩ (Nat.le_of_ble_eq_true rfl) (am_kp.rf _) (fun v8 s9 h10 => c10_doStep h10) (fun v8 s9 h10 => ?_)
        refine z_istore_n (pc := 67) (lv' := [(3, .int v8), (0, .ref 11), (2, .ref 16), (4, .int x4), (5, .int x5)]) dX10_value_67 rfl (by decide) rfl ?_
        refine z_iinc (pc := 68) (v := x5 + (1 : Int32)) (lv' := [(5, .int (x5 + (1 : Int32))), (3, .int v8), (0, .ref 11), (2, .ref 16), (4, .int x4)]) 4 dX10_value_68 rfl rfl (by decide) rfl ?_
        refine z_goto (pc := 71) (tgt := 30) dX10_value_71 (by decide) ?_
        refine z_lv (lv' := [(0, .ref 11), (2, .ref 16), (3, .int v8), (4, .int x4), (5, .int (x5 + (1 : Int32)))]) [2, 3, 1, 4, 0] rfl ?_
        exact ih v8 x4 (x5 + (1 : Int32)) s9
def f10_value (N : Nat) (σ : am_S) (x1 : Int32) : Option (Int32 × am_S) := if am_in (((fF σ 11 5) * (3 : Int32)) + x1) 18 = true then (f10_value_L30 N N (0 : Int32) ((fF σ 11 5) * (160 : Int32)) (((fF σ 11 5) * (160 : Int32)) + (fF σ 14 (((fF σ 11 5) * (3 : Int32)) + x1).toNatClampNeg)) σ) else none
theorem c10_value {l : Launch} {E : am_E} {N : Nat} {σ : am_S} {x1 : Int32} {v : Int32} {σ1 : am_S} (hf : f10_value N σ x1 = some (v, σ1)) : Ctr l E msC YX10_value (2) 0 0 [.ref 11, .int x1, .ref 16] σ (some (.int v)) σ1 := by
  refine ctr_of (G := fun u r s => r = some (.int u.1) ∧ s = u.2) (by decide +kernel) (Nat.le_of_ble_eq_true rfl) hf ⟨rfl, rfl⟩ (fun d hd => ?_)
  refine z_eqlv (lv' := [(0, .ref 11), (1, .int x1), (2, .ref 16)]) rfl ?_
  unfold f10_value
  refine z_iconst (pc := 0) (v := (0 : Int32)) dX10_value_0 (by decide) ?_
  refine z_istore_n (pc := 1) (lv' := [(3, .int (0 : Int32)), (0, .ref 11), (1, .int x1), (2, .ref 16)]) dX10_value_1 rfl (by decide) rfl ?_
  refine z_aload_n (pc := 2) 1 dX10_value_2 rfl rfl ?_
  refine z_getI (pc := 3) dX10_value_3 (am_ob.s kC11) fr_RX10_116_10 (by decide) ?_
  refine z_sipush (pc := 6) (v := (160 : Int32)) dX10_value_6 (by decide) ?_
  refine z_imul (pc := 9) dX10_value_9 ?_
  refine z_istore (pc := 10) (lv' := [(4, .int ((fF σ 11 5) * (160 : Int32))), (3, .int (0 : Int32)), (0, .ref 11), (1, .int x1), (2, .ref 16)]) dX10_value_10 (by decide) rfl ?_
  refine z_iload (pc := 12) 0 dX10_value_12 rfl ?_
  refine z_aload_n (pc := 14) 2 dX10_value_14 rfl rfl ?_
  refine z_getQ (pc := 15) (b := 14) dX10_value_15 kC11 fr_RX10_19_10 (by decide) rfl ?_
  refine z_aload_n (pc := 18) 2 dX10_value_18 rfl rfl ?_
  refine z_getI (pc := 19) dX10_value_19 (am_ob.s kC11) fr_RX10_116_10 (by decide) ?_
  refine z_iconst (pc := 22) (v := (3 : Int32)) dX10_value_22 (by decide) ?_
  refine z_imul (pc := 23) dX10_value_23 ?_
  refine z_iload_n (pc := 24) 3 dX10_value_24 rfl rfl ?_
  refine z_iadd (pc := 25) dX10_value_25 ?_
  refine z_iald (pc := 26) dX10_value_26 (am_ar.s kC14) (fun h1 => ?_)
  refine z_iadd (pc := 27) dX10_value_27 ?_
  refine z_istore (pc := 28) (lv' := [(5, .int (((fF σ 11 5) * (160 : Int32)) + (fF σ 14 (((fF σ 11 5) * (3 : Int32)) + x1).toNatClampNeg))), (4, .int ((fF σ 11 5) * (160 : Int32))), (3, .int (0 : Int32)), (0, .ref 11), (1, .int x1), (2, .ref 16)]) dX10_value_28 (by decide) rfl ?_
  refine z_lv (lv' := [(0, .ref 11), (2, .ref 16), (3, .int (0 : Int32)), (4, .int ((fF σ 11 5) * (160 : Int32))), (5, .int (((fF σ 11 5) * (160 : Int32)) + (fF σ 14 (((fF σ 11 5) * (3 : Int32)) + x1).toNatClampNeg)))]) [3, 5, 2, 1, 0] rfl ?_
  exact z10_value_L30 hd N (0 : Int32) ((fF σ 11 5) * (160 : Int32)) (((fF σ 11 5) * (160 : Int32)) + (fF σ 14 (((fF σ 11 5) * (3 : Int32)) + x1).toNatClampNeg)) σ
