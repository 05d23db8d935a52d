def fJ7_fill_53178_L5 (N : Nat) : Nat → Nat → Int32 → Int32 → Int32 → am_S → Option am_S
  | 0, _, _, _, _, _ => none
  | n + 1, a0, x1, x2, x3, σ => if x3 ≤ x2 then (some (σ)) else (if 0 < (am_an σ a0 0) then (if am_in x2 (am_an σ a0 0) = true then (fJ7_fill_53178_L5 N n a0 x1 (x2 + (1 : Int32)) x3 (sF σ a0 x2.toNatClampNeg x1)) else none) else none)
theorem zJ7_fill_53178_L5 {l : Launch} {E : am_E} {d : Nat} {σ0 : am_S} {N : Nat} (hd : 0 ≤ d) : ∀ (n : Nat) (a0 : Nat) (x1 : Int32) (x2 : Int32) (x3 : Int32) (σ : am_S), Z l E msC σ0 YJ7_fill_53178 d 0 0 5 [(0, .ref a0), (1, .int x1), (2, .int x2), (3, .int x3)] [] 0 0 σ (fJ7_fill_53178_L5 N n a0 x1 x2 x3 σ) (fun u r s => r = none ∧ s = u) := by
  intro n
  induction n with
  | zero => intros; exact z_none
  | succ n ih =>
    intro a0 x1 x2 x3 σ
    unfold fJ7_fill_53178_L5
    refine z_iload_n (pc := 5) 2 dJ7_fill_53178_5 rfl rfl ?_
    refine z_iload_n (pc := 6) 3 dJ7_fill_53178_6 rfl rfl ?_
    refine z_ic_ge (pc := 7) (tgt := 20) dJ7_fill_53178_7 (by decide) (fun h2 => ?_) (fun h2 => ?_)
    · exact z_rVs dJ7_fill_53178_20 rfl ⟨by decide, by decide⟩
    · refine z_aload_n (pc := 10) 0 dJ7_fill_53178_10 rfl rfl ?_
      refine z_iload_n (pc := 11) 2 dJ7_fill_53178_11 rfl rfl ?_
      refine z_iload_n (pc := 12) 1 dJ7_fill_53178_12 rfl rfl ?_
      refine z_guard (fun g3 => ?_)
      refine z_iast (pc := 13) dJ7_fill_53178_13 (am_ar.d (Nat.ne_of_gt g3)) (fun h4 => ?_)
      refine z_iinc (pc := 14) (v := x2 + (1 : Int32)) (lv' := [(2, .int (x2 + (1 : Int32))), (0, .ref a0), (1, .int x1), (3, .int x3)]) 2 dJ7_fill_53178_14 rfl rfl (by decide) rfl ?_
      refine z_goto (pc := 17) (tgt := 5) dJ7_fill_53178_17 (by decide) ?_
      refine z_lv (lv' := [(0, .ref a0), (1, .int x1), (2, .int (x2 + (1 : Int32))), (3, .int x3)]) [1, 2, 0, 3] rfl ?_
      exact ih a0 x1 (x2 + (1 : Int32)) x3 (sF σ a0 x2.toNatClampNeg x1)
def fJ7_fill_53178 (N : Nat) (σ : am_S) (a0 : Nat) (x1 : Int32) : Option am_S := if 0 < (am_an σ a0 0) then (fJ7_fill_53178_L5 N N a0 x1 (0 : Int32) (Int32.ofNat ((am_an σ a0 0))) σ) else none
theorem ccJ7_fill_53178 {l : Launch} {E : am_E} {N : Nat} {σ : am_S} {a0 : Nat} {x1 : Int32} {σ1 : am_S} (hf : fJ7_fill_53178 N σ a0 x1 = some σ1) : Ctr l E msC YJ7_fill_53178 (0) 0 0 [.ref a0, .int x1] σ none σ1 := by
  refine ctr_of (G := fun u r s => r = none ∧ s = u) (by decide +kernel) (Nat.le_of_ble_eq_true rfl) hf ⟨rfl, rfl⟩ (fun d hd => ?_)
  refine z_eqlv (lv' := [(0, .ref a0), (1, .int x1)]) rfl ?_
  unfold fJ7_fill_53178
  refine z_iconst (pc := 0) (v := (0 : Int32)) dJ7_fill_53178_0 (by decide) ?_
  refine z_istore_n (pc := 1) (lv' := [(2, .int (0 : Int32)), (0, .ref a0), (1, .int x1)]) dJ7_fill_53178_1 rfl (by decide) rfl ?_
  refine z_aload_n (pc := 2) 1 dJ7_fill_53178_2 rfl rfl ?_
  refine z_guard (fun g1 => ?_)
  refine z_alen (pc := 3) dJ7_fill_53178_3 (by decide) (am_ar.d (Nat.ne_of_gt g1)) rfl ?_
  refine z_istore_n (pc := 4) (lv' := [(3, .int (Int32.ofNat ((am_an σ a0 0)))), (2, .int (0 : Int32)), (0, .ref a0), (1, .int x1)]) dJ7_fill_53178_4 rfl (by decide) rfl ?_
  refine z_lv (lv' := [(0, .ref a0), (1, .int x1), (2, .int (0 : Int32)), (3, .int (Int32.ofNat ((am_an σ a0 0))))]) [2, 3, 1, 0] rfl ?_
  exact zJ7_fill_53178_L5 hd N a0 x1 (0 : Int32) (Int32.ofNat ((am_an σ a0 0))) σ
def f8_holds (σ : am_S) (a0 : Nat) (x1 : Int32) (x2 : Int32) : Option Bool := if x1 < 0 then (some (false)) else (if x2 < 0 then (some (false)) else (if [8].contains (am_ci σ a0) = true then (if fF σ a0 1 < x1 then (some (false)) else (if (fF σ a0 1) - x1 < x2 then (some (false)) else (some (true)))) else none))
theorem c8_holds {l : Launch} {E : am_E} {σ : am_S} {a0 : Nat} {x1 : Int32} {x2 : Int32} {v : Bool} (hf : f8_holds σ a0 x1 x2 = some v) : Ctr l E msC YX8_holds (0) 0 0 [.ref a0, .int x1, .int x2] σ (some (.int (bI v))) σ := by
  refine ctr_of (G := fun u r s => r = some (.int (bI u)) ∧ s = σ) (by decide +kernel) (Nat.le_of_ble_eq_true rfl) hf ⟨rfl, rfl⟩ (fun d hd => ?_)
  refine z_eqlv (lv' := [(0, .ref a0), (1, .int x1), (2, .int x2)]) rfl ?_
  unfold f8_holds
  refine z_iload_n (pc := 0) 1 dX8_holds_0 rfl rfl ?_
  refine z_if_lt (pc := 1) (tgt := 30) dX8_holds_1 (by decide) (fun h1 => ?_) (fun h1 => ?_)
  · refine z_iconst (pc := 30) (v := (0 : Int32)) dX8_holds_30 (by decide) ?_
    exact z_rB (b := false) rfl dX8_holds_31 rfl ⟨by decide, by decide⟩
  · refine z_iload_n (pc := 4) 2 dX8_holds_4 rfl rfl ?_
    refine z_if_lt (pc := 5) (tgt := 30) dX8_holds_5 (by decide) (fun h2 => ?_) (fun h2 => ?_)
    · refine z_iconst (pc := 30) (v := (0 : Int32)) dX8_holds_30 (by decide) ?_
      exact z_rB (b := false) rfl dX8_holds_31 rfl ⟨by decide, by decide⟩
    · refine z_iload_n (pc := 8) 1 dX8_holds_8 rfl rfl ?_
      refine z_aload_n (pc := 9) 0 dX8_holds_9 rfl rfl ?_
      refine z_guard (fun g3 => ?_)
      refine z_getIp (pc := 10) [8] dX8_holds_10 g3 (by decide) fr_RX8_26_p8 ?_
      refine z_ic_gt (pc := 13) (tgt := 30) dX8_holds_13 (by decide) (fun h4 => ?_) (fun h4 => ?_)
      · refine z_iconst (pc := 30) (v := (0 : Int32)) dX8_holds_30 (by decide) ?_
        exact z_rB (b := false) rfl dX8_holds_31 rfl ⟨by decide, by decide⟩
      · refine z_iload_n (pc := 16) 2 dX8_holds_16 rfl rfl ?_
        refine z_aload_n (pc := 17) 0 dX8_holds_17 rfl rfl ?_
        refine z_getIp (pc := 18) [8] dX8_holds_18 g3 (by decide) fr_RX8_26_p8 ?_
        refine z_iload_n (pc := 21) 1 dX8_holds_21 rfl rfl ?_
        refine z_isub (pc := 22) dX8_holds_22 ?_
        refine z_ic_gt (pc := 23) (tgt := 30) dX8_holds_23 (by decide) (fun h5 => ?_) (fun h5 => ?_)
        · refine z_iconst (pc := 30) (v := (0 : Int32)) dX8_holds_30 (by decide) ?_
          exact z_rB (b := false) rfl dX8_holds_31 rfl ⟨by decide, by decide⟩
        · refine z_iconst (pc := 26) (v := (1 : Int32)) dX8_holds_26 (by decide) ?_
          refine z_goto (pc := 27) (tgt := 31) dX8_holds_27 (by decide) ?_
          exact z_rB (b := true) rfl dX8_holds_31 rfl ⟨by decide, by decide⟩
def f8_item (σ : am_S) (a0 : Nat) (x1 : Int32) : Option Int32 := if [8].contains (am_ci σ a0) = true then ((f8_holds σ a0 x1 (1 : Int32)).bind fun v2 => (if v2 = true then ((am_rq σ a0 2).elim none (fun b7 => if 0 < (am_an σ b7 0) then (if am_in x1 (am_an σ b7 0) = true then (some (fF σ b7 x1.toNatClampNeg)) else none) else none)) else (some ((0 : Int32))))) else none
theorem c8_item {l : Launch} {E : am_E} {σ : am_S} {a0 : Nat} {x1 : Int32} {v : Int32} (hf : f8_item σ a0 x1 = some v) : Ctr l E msC YX8_item (1) 0 0 [.ref a0, .int x1] σ (some (.int v)) σ := by
  refine ctr_of (G := fun u r s => r = some (.int u) ∧ s = σ) (by decide +kernel) (Nat.le_of_ble_eq_true rfl) hf ⟨rfl, rfl⟩ (fun d hd => ?_)
  refine z_eqlv (lv' := [(0, .ref a0), (1, .int x1)]) rfl ?_
  unfold f8_item
  refine z_aload_n (pc := 0) 0 dX8_item_0 rfl rfl ?_
  refine z_iload_n (pc := 1) 1 dX8_item_1 rfl rfl ?_
  refine z_iconst (pc := 2) (v := (1 : Int32)) dX8_item_2 (by decide) ?_
  refine z_guard (fun g1 => ?_)
  refine z_callB (pc := 3) [.ref a0, .int x1, .int (1 : Int32)] [] rfl (lk_V (Yc := YX8_holds) (n := 2) dX8_item_3 rfl rfl (am_ob.d (am_c1 g1) (by decide)) rfl rfl np_X8_holds mh_RX8 (by decide) ml_RX8_35 im_X8_holds se_RX8_X8_holds_X8_holds in_RX8 cd_X8_holds) (Nat.le_trans (by decide) hd) ⟨by decide, by decide⟩ (Nat.le_of_ble_eq_true rfl) (am_kp.rf _) (fun v2 h4 => c8_holds h4) (fun v2 h4 => ?_)
  refine z_bz_eq (pc := 6) (tgt := 18) dX8_item_6 (by decide) (fun h5 => ?_) (fun h5 => ?_)
  · refine z_aload_n (pc := 9) 0 dX8_item_9 rfl rfl ?_
    refine z_getR (pc := 10) dX8_item_10 (am_cis_ob g1 (by decide)) (fr_RX8_13_p8 _ (am_memOf g1)).1 (fr_RX8_13_p8 _ (am_memOf g1)).2 ?_
    refine z_elim (fun e6 => z_none) (fun b7 e6 => ?_)
    refine z_iload_n (pc := 13) 1 dX8_item_13 rfl rfl ?_
    refine z_guard (fun g8 => ?_)
    refine z_iald (pc := 14) dX8_item_14 (am_ar.d (Nat.ne_of_gt g8)) (fun h9 => ?_)
    refine z_goto (pc := 15) (tgt := 19) dX8_item_15 (by decide) ?_
    exact z_rI dX8_item_19 rfl ⟨by decide, by decide⟩
  · refine z_iconst (pc := 18) (v := (0 : Int32)) dX8_item_18 (by decide) ?_
    exact z_rI dX8_item_19 rfl ⟨by decide, by decide⟩
def f0_awaits_L23 (N : Nat) : Nat → Nat → Int32 → Int32 → am_S → Option (Bool × am_S)
  | 0, _, _, _, _ => none
  | n + 1, a1, x2, x3, σ => if (42 : Int32) ≤ x3 then (if [8].contains (am_ci σ a1) = true then (some (true, sF σ 17 0 (fF σ a1 1))) else none) else (if [8].contains (am_ci σ a1) = true then (if fF σ a1 1 ≤ x3 then (if am_in x3 42 = true then (if am_in x3 43 = true then (if am_in (x3 + (1 : Int32)) 43 = true then (f0_awaits_L23 N n a1 (x2 + (0 : Int32)) (x3 + (1 : Int32)) (sF (sF σ 18 x3.toNatClampNeg (x2 + (0 : Int32))) 19 (x3 + (1 : Int32)).toNatClampNeg ((fF (sF σ 18 x3.toNatClampNeg (x2 + (0 : Int32))) 19 x3.toNatClampNeg) + (x2 + (0 : Int32))))) else none) else none) else none) else ((f8_item σ a1 x3).bind fun v11 => (if v11 < 0 then (some (false, σ)) else (if v11 ≤ (20 : Int32) then (if am_in x3 42 = true then (if am_in x3 43 = true then (if am_in (x3 + (1 : Int32)) 43 = true then (f0_awaits_L23 N n a1 (x2 + v11) (x3 + (1 : Int32)) (sF (sF σ 18 x3.toNatClampNeg (x2 + v11)) 19 (x3 + (1 : Int32)).toNatClampNeg ((fF (sF σ 18 x3.toNatClampNeg (x2 + v11)) 19 x3.toNatClampNeg) + (x2 + v11)))) else none) else none) else none) else (some (false, σ)))))) else none)
theorem z0_awaits_L23 {l : Launch} {E : am_E} {d : Nat} {σ0 : am_S} {N : Nat} (hd : 2 ≤ d) : ∀ (n : Nat) (a1 : Nat) (x2 : Int32) (x3 : Int32) (σ : am_S), Z l E msC σ0 YX0_awaits d 0 0 23 [(0, .ref 17), (1, .ref a1), (2, .int x2), (3, .int x3)] [] 0 0 σ (f0_awaits_L23 N n a1 x2 x3 σ) (fun u r s => r = some (.int (bI u.1)) ∧ s = u.2) := by
  intro n
  induction n with
  | zero => intros; exact z_none
  | succ n ih =>
    intro a1 x2 x3 σ
    unfold f0_awaits_L23
    refine z_iload_n (pc := 23) 3 dX0_awaits_23 rfl rfl ?_
    refine z_aload_n (pc := 24) 0 dX0_awaits_24 rfl rfl ?_
    refine z_getQ (pc := 25) (b := 18) dX0_awaits_25 kC17 fr_RX0_9_0 (by decide) rfl ?_
    refine z_alen (pc := 28) dX0_awaits_28 (by decide) (am_ar.s kC18) (v := (42 : Int32)) (by decide) ?_
    refine z_ic_ge (pc := 29) (tgt := 99) dX0_awaits_29 (by decide) (fun h4 => ?_) (fun h4 => ?_)
    · refine z_aload_n (pc := 99) 0 dX0_awaits_99 rfl rfl ?_
      refine z_aload_n (pc := 100) 1 dX0_awaits_100 rfl rfl ?_
      refine z_guard (fun g5 => ?_)
      refine z_getIp (pc := 101) [8] dX0_awaits_101 g5 (by decide) fr_RX0_22_p8 ?_
      refine z_putI (pc := 104) dX0_awaits_104 (am_ob.s kC17) fw_RX0_32_0 (by decide) ?_
      refine z_iconst (pc := 107) (v := (1 : Int32)) dX0_awaits_107 (by decide) ?_
      exact z_rBs (b := true) rfl dX0_awaits_108 rfl ⟨by decide, by decide⟩
    · refine z_iload_n (pc := 32) 3 dX0_awaits_32 rfl rfl ?_
      refine z_aload_n (pc := 33) 1 dX0_awaits_33 rfl rfl ?_
      refine z_guard (fun g6 => ?_)
      refine z_getIp (pc := 34) [8] dX0_awaits_34 g6 (by decide) fr_RX0_22_p8 ?_
      refine z_ic_ge (pc := 37) (tgt := 48) dX0_awaits_37 (by decide) (fun h7 => ?_) (fun h7 => ?_)
      · refine z_iconst (pc := 48) (v := (0 : Int32)) dX0_awaits_48 (by decide) ?_
        refine z_istore (pc := 49) (lv' := [(4, .int (0 : Int32)), (0, .ref 17), (1, .ref a1), (2, .int x2), (3, .int x3)]) dX0_awaits_49 (by decide) rfl ?_
        refine z_iload (pc := 51) 0 dX0_awaits_51 rfl ?_
        refine z_if_lt_f (pc := 53) (tgt := 63) dX0_awaits_53 (by decide) (by decide) ?_
        refine z_iload (pc := 56) 0 dX0_awaits_56 rfl ?_
        refine z_bipush (pc := 58) (v := (20 : Int32)) dX0_awaits_58 (by decide) ?_
        refine z_ic_le_t (pc := 60) (tgt := 65) dX0_awaits_60 (by decide) (by decide) ?_
        refine z_iload_n (pc := 65) 3 dX0_awaits_65 rfl rfl ?_
        refine z_iload (pc := 66) 0 dX0_awaits_66 rfl ?_
        refine z_iadd (pc := 68) dX0_awaits_68 ?_
        refine z_istore_n (pc := 69) (lv' := [(2, .int (x2 + (0 : Int32))), (4, .int (0 : Int32)), (0, .ref 17), (1, .ref a1), (3, .int x3)]) dX0_awaits_69 rfl (by decide) rfl ?_
        refine z_aload_n (pc := 70) 2 dX0_awaits_70 rfl rfl ?_
        refine z_getQ (pc := 71) (b := 18) dX0_awaits_71 kC17 fr_RX0_9_0 (by decide) rfl ?_
        refine z_iload_n (pc := 74) 4 dX0_awaits_74 rfl rfl ?_
        refine z_iload_n (pc := 75) 0 dX0_awaits_75 rfl rfl ?_
        refine z_iast (pc := 76) dX0_awaits_76 (am_ar.s kC18) (fun h8 => ?_)
        refine z_aload_n (pc := 77) 2 dX0_awaits_77 rfl rfl ?_
        refine z_getQ (pc := 78) (b := 19) dX0_awaits_78 kC17 fr_RX0_13_0 (by decide) rfl ?_
        refine z_iload_n (pc := 81) 4 dX0_awaits_81 rfl rfl ?_
        refine z_iconst (pc := 82) (v := (1 : Int32)) dX0_awaits_82 (by decide) ?_
        refine z_iadd (pc := 83) dX0_awaits_83 ?_
        refine z_aload_n (pc := 84) 2 dX0_awaits_84 rfl rfl ?_
        refine z_getQ (pc := 85) (b := 19) dX0_awaits_85 kC17 fr_RX0_13_0 (by decide) rfl ?_
        refine z_iload_n (pc := 88) 4 dX0_awaits_88 rfl rfl ?_
        refine z_iald (pc := 89) dX0_awaits_89 (am_ar.s kC19) (fun h9 => ?_)
        refine z_iload_n (pc := 90) 0 dX0_awaits_90 rfl rfl ?_
        refine z_iadd (pc := 91) dX0_awaits_91 ?_
        refine z_iast (pc := 92) dX0_awaits_92 (am_ar.s kC19) (fun h10 => ?_)
        refine z_iinc (pc := 93) (v := x3 + (1 : Int32)) (lv' := [(3, .int (x3 + (1 : Int32))), (2, .int (x2 + (0 : Int32))), (4, .int (0 : Int32)), (0, .ref 17), (1, .ref a1)]) 4 dX0_awaits_93 rfl rfl (by decide) rfl ?_
        refine z_goto (pc := 96) (tgt := 23) dX0_awaits_96 (by decide) ?_
        refine z_lv (lv' := [(0, .ref 17), (1, .ref a1), (2, .int (x2 + (0 : Int32))), (3, .int (x3 + (1 : Int32)))]) [3, 4, 1, 0] rfl ?_
        exact ih a1 (x2 + (0 : Int32)) (x3 + (1 : Int32)) (sF (sF σ 18 x3.toNatClampNeg (x2 + (0 : Int32))) 19 (x3 + (1 : Int32)).toNatClampNeg ((fF (sF σ 18 x3.toNatClampNeg (x2 + (0 : Int32))) 19 x3.toNatClampNeg) + (x2 + (0 : Int32))))
      · refine z_aload_n (pc := 40) 1 dX0_awaits_40 rfl rfl ?_
        refine z_iload_n (pc := 41) 3 dX0_awaits_41 rfl rfl ?_
        refine z_callI (pc := 42) [.ref a1, .int x3] [] rfl (lk_V (Yc := YX8_item) (n := 1) dX0_awaits_42 rfl rfl (am_ob.d (am_c1 g6) (by decide)) rfl rfl np_X8_item mh_RX8 (by decide) ml_RX0_28 im_X8_item se_RX8_X8_item_X8_item in_RX8 cd_X8_item) (Nat.le_trans (by decide) hd) ⟨by decide, by decide⟩ (Nat.le_of_ble_eq_true rfl) (am_kp.rf _) (fun v11 h13 => c8_item h13) (fun v11 h13 => ?_)
        refine z_goto (pc := 45) (tgt := 49) dX0_awaits_45 (by decide) ?_
        refine z_istore (pc := 49) (lv' := [(4, .int v11), (0, .ref 17), (1, .ref a1), (2, .int x2), (3, .int x3)]) dX0_awaits_49 (by decide) rfl ?_
        refine z_iload (pc := 51) 0 dX0_awaits_51 rfl ?_
        refine z_if_lt (pc := 53) (tgt := 63) dX0_awaits_53 (by decide) (fun h14 => ?_) (fun h14 => ?_)
        · refine z_iconst (pc := 63) (v := (0 : Int32)) dX0_awaits_63 (by decide) ?_
          exact z_rBs (b := false) rfl dX0_awaits_64 rfl ⟨by decide, by decide⟩
        · refine z_iload (pc := 56) 0 dX0_awaits_56 rfl ?_
          refine z_bipush (pc := 58) (v := (20 : Int32)) dX0_awaits_58 (by decide) ?_
          refine z_ic_le (pc := 60) (tgt := 65) dX0_awaits_60 (by decide) (fun h15 => ?_) (fun h15 => ?_)
          · refine z_iload_n (pc := 65) 3 dX0_awaits_65 rfl rfl ?_
            refine z_iload (pc := 66) 0 dX0_awaits_66 rfl ?_
            refine z_iadd (pc := 68) dX0_awaits_68 ?_
            refine z_istore_n (pc := 69) (lv' := [(2, .int (x2 + v11)), (4, .int v11), (0, .ref 17), (1, .ref a1), (3, .int x3)]) dX0_awaits_69 rfl (by decide) rfl ?_
            refine z_aload_n (pc := 70) 2 dX0_awaits_70 rfl rfl ?_
            refine z_getQ (pc := 71) (b := 18) dX0_awaits_71 kC17 fr_RX0_9_0 (by decide) rfl ?_
            refine z_iload_n (pc := 74) 4 dX0_awaits_74 rfl rfl ?_
            refine z_iload_n (pc := 75) 0 dX0_awaits_75 rfl rfl ?_
            refine z_iast (pc := 76) dX0_awaits_76 (am_ar.s kC18) (fun h16 => ?_)
            refine z_aload_n (pc := 77) 2 dX0_awaits_77 rfl rfl ?_
            refine z_getQ (pc := 78) (b := 19) dX0_awaits_78 kC17 fr_RX0_13_0 (by decide) rfl ?_
            refine z_iload_n (pc := 81) 4 dX0_awaits_81 rfl rfl ?_
            refine z_iconst (pc := 82) (v := (1 : Int32)) dX0_awaits_82 (by decide) ?_
            refine z_iadd (pc := 83) dX0_awaits_83 ?_
            refine z_aload_n (pc := 84) 2 dX0_awaits_84 rfl rfl ?_
            refine z_getQ (pc := 85) (b := 19) dX0_awaits_85 kC17 fr_RX0_13_0 (by decide) rfl ?_
            refine z_iload_n (pc := 88) 4 dX0_awaits_88 rfl rfl ?_
            refine z_iald (pc := 89) dX0_awaits_89 (am_ar.s kC19) (fun h17 => ?_)
            refine z_iload_n (pc := 90) 0 dX0_awaits_90 rfl rfl ?_
            refine z_iadd (pc := 91) dX0_awaits_91 ?_
            refine z_iast (pc := 92) dX0_awaits_92 (am_ar.s kC19) (fun h18 => ?_)
            refine z_iinc (pc := 93) (v := x3 + (1 : Int32)) (lv' := [(3, .int (x3 + (1 : Int32))), (2, .int (x2 + v11)), (4, .int v11), (0, .ref 17), (1, .ref a1)]) 4 dX0_awaits_93 rfl rfl (by decide) rfl ?_
            refine z_goto (pc := 96) (tgt := 23) dX0_awaits_96 (by decide) ?_
            refine z_lv (lv' := [(0, .ref 17), (1, .ref a1), (2, .int (x2 + v11)), (3, .int (x3 + (1 : Int32)))]) [3, 4, 1, 0] rfl ?_
            exact ih a1 (x2 + v11) (x3 + (1 : Int32)) (sF (sF σ 18 x3.toNatClampNeg (x2 + v11)) 19 (x3 + (1 : Int32)).toNatClampNeg ((fF (sF σ 18 x3.toNatClampNeg (x2 + v11)) 19 x3.toNatClampNeg) + (x2 + v11)))
          · refine z_iconst (pc := 63) (v := (0 : Int32)) dX0_awaits_63 (by decide) ?_
            exact z_rBs (b := false) rfl dX0_awaits_64 rfl ⟨by decide, by decide⟩
def f0_awaits (N : Nat) (σ : am_S) (a1 : Nat) : Option (Bool × am_S) := if [8].contains (am_ci σ a1) = true then (if fF σ a1 1 < (1 : Int32) then (some (false, σ)) else (if fF σ a1 1 ≤ (24 : Int32) then (f0_awaits_L23 N N a1 (0 : Int32) (0 : Int32) σ) else (some (false, σ)))) else none
theorem c0_awaits {l : Launch} {E : am_E} {N : Nat} {σ : am_S} {a1 : Nat} {v : Bool} {σ1 : am_S} (hf : f0_awaits N σ a1 = some (v, σ1)) : Ctr l E msC YX0_awaits (2) 0 0 [.ref 17, .ref a1] σ (some (.int (bI v))) σ1 := by
  refine ctr_of (G := fun u r s => r = some (.int (bI u.1)) ∧ s = u.2) (by decide +kernel) (Nat.le_of_ble_eq_true rfl) hf ⟨rfl, rfl⟩ (fun d hd => ?_)
  refine z_eqlv (lv' := [(0, .ref 17), (1, .ref a1)]) rfl ?_
  unfold f0_awaits
  refine z_aload_n (pc := 0) 1 dX0_awaits_0 rfl rfl ?_
  refine z_guard (fun g1 => ?_)
  refine z_getIp (pc := 1) [8] dX0_awaits_1 g1 (by decide) fr_RX0_22_p8 ?_
  refine z_iconst (pc := 4) (v := (1 : Int32)) dX0_awaits_4 (by decide) ?_
  refine z_ic_lt (pc := 5) (tgt := 17) dX0_awaits_5 (by decide) (fun h2 => ?_) (fun h2 => ?_)
  · refine z_iconst (pc := 17) (v := (0 : Int32)) dX0_awaits_17 (by decide) ?_
    exact z_rBs (b := false) rfl dX0_awaits_18 rfl ⟨by decide, by decide⟩
  · refine z_aload_n (pc := 8) 1 dX0_awaits_8 rfl rfl ?_
    refine z_getIp (pc := 9) [8] dX0_awaits_9 g1 (by decide) fr_RX0_22_p8 ?_
    refine z_bipush (pc := 12) (v := (24 : Int32)) dX0_awaits_12 (by decide) ?_
    refine z_ic_le (pc := 14) (tgt := 19) dX0_awaits_14 (by decide) (fun h3 => ?_) (fun h3 => ?_)
    · refine z_iconst (pc := 19) (v := (0 : Int32)) dX0_awaits_19 (by decide) ?_
      refine z_istore_n (pc := 20) (lv' := [(2, .int (0 : Int32)), (0, .ref 17), (1, .ref a1)]) dX0_awaits_20 rfl (by decide) rfl ?_
      refine z_iconst (pc := 21) (v := (0 : Int32)) dX0_awaits_21 (by decide) ?_
      refine z_istore_n (pc := 22) (lv' := [(3, .int (0 : Int32)), (2, .int (0 : Int32)), (0, .ref 17), (1, .ref a1)]) dX0_awaits_22 rfl (by decide) rfl ?_
      refine z_lv (lv' := [(0, .ref 17), (1, .ref a1), (2, .int (0 : Int32)), (3, .int (0 : Int32))]) [2, 3, 1, 0] rfl ?_
      exact z0_awaits_L23 hd N a1 (0 : Int32) (0 : Int32) σ
    · refine z_iconst (pc := 17) (v := (0 : Int32)) dX0_awaits_17 (by decide) ?_
      exact z_rBs (b := false) rfl dX0_awaits_18 rfl ⟨by decide, by decide⟩
def f0_waitsAfterLast (σ : am_S) (x1 : Int32) : Option Int64 := if x1 ≤ 0 then (some (((fF σ 17 2).toInt64) * (((0 : Int64) * x1.toInt64) - (((fF σ 17 1).toInt64) * (((0 : Int64) * ((0 : Int64) + (1 : Int64))) / (2 : Int64)))))) else (if fF σ 17 1 = 0 then none else (some (((fF σ 17 2).toInt64) * (((((x1 - (1 : Int32)) / (fF σ 17 1)).toInt64) * x1.toInt64) - (((fF σ 17 1).toInt64) * (((((x1 - (1 : Int32)) / (fF σ 17 1)).toInt64) * ((((x1 - (1 : Int32)) / (fF σ 17 1)).toInt64) + (1 : Int64))) / (2 : Int64)))))))
theorem c0_waitsAfterLast {l : Launch} {E : am_E} {σ : am_S} {x1 : Int32} {v : Int64} (hf : f0_waitsAfterLast σ x1 = some v) : Ctr l E msC YX0_waitsAfterLast (0) 0 0 [.ref 17, .int x1] σ (some (.long v)) σ := by
  refine ctr_of (G := fun u r s => r = some (.long u) ∧ s = σ) (by decide +kernel) (Nat.le_of_ble_eq_true rfl) hf ⟨rfl, rfl⟩ (fun d hd => ?_)
  refine z_eqlv (lv' := [(0, .ref 17), (1, .int x1)]) rfl ?_
  unfold f0_waitsAfterLast
  refine z_iload_n (pc := 0) 1 dX0_waitsAfterLast_0 rfl rfl ?_
  refine z_if_le (pc := 1) (tgt := 16) dX0_waitsAfterLast_1 (by decide) (fun h1 => ?_) (fun h1 => ?_)
  · refine z_lconst (pc := 16) (v := (0 : Int64)) dX0_waitsAfterLast_16 (by decide) ?_
    refine z_lstore_n (pc := 17) (lv' := [(2, .long (0 : Int64)), (0, .ref 17), (1, .int x1)]) dX0_waitsAfterLast_17 rfl (by decide) rfl ?_
    refine z_aload_n (pc := 18) 1 dX0_waitsAfterLast_18 rfl rfl ?_
    refine z_getI (pc := 19) dX0_waitsAfterLast_19 (am_ob.s kC17) fr_RX0_35_0 (by decide) ?_
    refine z_i2l (pc := 22) dX0_waitsAfterLast_22 ?_
    refine z_lload_n (pc := 23) 0 dX0_waitsAfterLast_23 rfl rfl ?_
    refine z_iload_n (pc := 24) 2 dX0_waitsAfterLast_24 rfl rfl ?_
    refine z_i2l (pc := 25) dX0_waitsAfterLast_25 ?_
    refine z_lmul (pc := 26) dX0_waitsAfterLast_26 ?_
    refine z_aload_n (pc := 27) 1 dX0_waitsAfterLast_27 rfl rfl ?_
    refine z_getI (pc := 28) dX0_waitsAfterLast_28 (am_ob.s kC17) fr_RX0_38_0 (by decide) ?_
    refine z_i2l (pc := 31) dX0_waitsAfterLast_31 ?_
    refine z_lload_n (pc := 32) 0 dX0_waitsAfterLast_32 rfl rfl ?_
    refine z_lload_n (pc := 33) 0 dX0_waitsAfterLast_33 rfl rfl ?_
    refine z_lconst (pc := 34) (v := (1 : Int64)) dX0_waitsAfterLast_34 (by decide) ?_
    refine z_ladd (pc := 35) dX0_waitsAfterLast_35 ?_
    refine z_lmul (pc := 36) dX0_waitsAfterLast_36 ?_
    refine z_ldc2 (pc := 37) (v := (2 : Int64)) dX0_waitsAfterLast_37 kl_RX0_61 ?_
    refine z_ldiv (pc := 40) dX0_waitsAfterLast_40 (by decide) ?_
    refine z_lmul (pc := 41) dX0_waitsAfterLast_41 ?_
    refine z_lsub (pc := 42) dX0_waitsAfterLast_42 ?_
    refine z_lmul (pc := 43) dX0_waitsAfterLast_43 ?_
    exact z_rL dX0_waitsAfterLast_44 rfl ⟨by decide, by decide⟩
  · refine z_iload_n (pc := 4) 1 dX0_waitsAfterLast_4 rfl rfl ?_
    refine z_iconst (pc := 5) (v := (1 : Int32)) dX0_waitsAfterLast_5 (by decide) ?_
    refine z_isub (pc := 6) dX0_waitsAfterLast_6 ?_
    refine z_aload_n (pc := 7) 0 dX0_waitsAfterLast_7 rfl rfl ?_
    refine z_getI (pc := 8) dX0_waitsAfterLast_8 (am_ob.s kC17) fr_RX0_38_0 (by decide) ?_
    refine z_ite (fun _ => z_none) (fun h2 => ?_)
    refine z_idiv (pc := 11) dX0_waitsAfterLast_11 h2 ?_
    refine z_i2l (pc := 12) dX0_waitsAfterLast_12 ?_
    refine z_goto (pc := 13) (tgt := 17) dX0_waitsAfterLast_13 (by decide) ?_
    refine z_lstore_n (pc := 17) (lv' := [(2, .long (((x1 - (1 : Int32)) / (fF σ 17 1)).toInt64)), (0, .ref 17), (1, .int x1)]) dX0_waitsAfterLast_17 rfl (by decide) rfl ?_
    refine z_aload_n (pc := 18) 1 dX0_waitsAfterLast_18 rfl rfl ?_
    refine z_getI (pc := 19) dX0_waitsAfterLast_19 (am_ob.s kC17) fr_RX0_35_0 (by decide) ?_
    refine z_i2l (pc := 22) dX0_waitsAfterLast_22 ?_
    refine z_lload_n (pc := 23) 0 dX0_waitsAfterLast_23 rfl rfl ?_
    refine z_iload_n (pc := 24) 2 dX0_waitsAfterLast_24 rfl rfl ?_
    refine z_i2l (pc := 25) dX0_waitsAfterLast_25 ?_
    refine z_lmul (pc := 26) dX0_waitsAfterLast_26 ?_
    refine z_aload_n (pc := 27) 1 dX0_waitsAfterLast_27 rfl rfl ?_
    refine z_getI (pc := 28) dX0_waitsAfterLast_28 (am_ob.s kC17) fr_RX0_38_0 (by decide) ?_
    refine z_i2l (pc := 31) dX0_waitsAfterLast_31 ?_
    refine z_lload_n (pc := 32) 0 dX0_waitsAfterLast_32 rfl rfl ?_
    refine z_lload_n (pc := 33) 0 dX0_waitsAfterLast_33 rfl rfl ?_
    refine z_lconst (pc := 34) (v := (1 : Int64)) dX0_waitsAfterLast_34 (by decide) ?_
    refine z_ladd (pc := 35) dX0_waitsAfterLast_35 ?_
    refine z_lmul (pc := 36) dX0_waitsAfterLast_36 ?_
    refine z_ldc2 (pc := 37) (v := (2 : Int64)) dX0_waitsAfterLast_37 kl_RX0_61 ?_
    refine z_ldiv (pc := 40) dX0_waitsAfterLast_40 (by decide) ?_
    refine z_lmul (pc := 41) dX0_waitsAfterLast_41 ?_
    refine z_lsub (pc := 42) dX0_waitsAfterLast_42 ?_
    refine z_lmul (pc := 43) dX0_waitsAfterLast_43 ?_
    exact z_rL dX0_waitsAfterLast_44 rfl ⟨by decide, by decide⟩
def f0_planPuttingOff (σ : am_S) (x1 : Int32) (x2 : Int32) : Option Int64 := if am_in x1 42 = true then (if am_in (x1 + (fF σ 17 2)) 43 = true then (if am_in x1 43 = true then (if fF σ 17 0 ≤ x1 + (fF σ 17 2) then (if am_in (x1 + (fF σ 17 2)) 42 = true then ((f0_waitsAfterLast σ ((fF σ 18 (x1 + (fF σ 17 2)).toNatClampNeg) - (x2 + (if (fF σ 17 1) < ((fF σ 18 x1.toNatClampNeg) - x2) then (fF σ 17 1) else ((fF σ 18 x1.toNatClampNeg) - x2))))).bind fun v6 => (some ((((1 : Int64) <<< (x1.toInt64 &&& 63)) + (((((fF σ 19 (x1 + (fF σ 17 2)).toNatClampNeg) - (fF σ 19 x1.toNatClampNeg)) - ((fF σ 17 2) * (x2 + (if (fF σ 17 1) < ((fF σ 18 x1.toNatClampNeg) - x2) then (fF σ 17 1) else ((fF σ 18 x1.toNatClampNeg) - x2))))).toInt64) * (16777216 : Int64))) + (v6 * (16777216 : Int64))))) else none) else (if am_in (((x1 + (fF σ 17 2)) * (155 : Int32)) + (x2 + (if (fF σ 17 1) < ((fF σ 18 x1.toNatClampNeg) - x2) then (fF σ 17 1) else ((fF σ 18 x1.toNatClampNeg) - x2)))) 3720 = true then (some ((((1 : Int64) <<< (x1.toInt64 &&& 63)) + (((((fF σ 19 (x1 + (fF σ 17 2)).toNatClampNeg) - (fF σ 19 x1.toNatClampNeg)) - ((fF σ 17 2) * (x2 + (if (fF σ 17 1) < ((fF σ 18 x1.toNatClampNeg) - x2) then (fF σ 17 1) else ((fF σ 18 x1.toNatClampNeg) - x2))))).toInt64) * (16777216 : Int64))) + (fG σ 20 (((x1 + (fF σ 17 2)) * (155 : Int32)) + (x2 + (if (fF σ 17 1) < ((fF σ 18 x1.toNatClampNeg) - x2) then (fF σ 17 1) else ((fF σ 18 x1.toNatClampNeg) - x2)))).toNatClampNeg))) else none)) else none) else none) else none
theorem c0_planPuttingOff {l : Launch} {E : am_E} {σ : am_S} {x1 : Int32} {x2 : Int32} {v : Int64} (hf : f0_planPuttingOff σ x1 x2 = some v) : Ctr l E msC YX0_planPuttingOff (1) 0 0 [.ref 17, .int x1, .int x2] σ (some (.long v)) σ := by
  refine ctr_of (G := fun u r s => r = some (.long u) ∧ s = σ) (by decide +kernel) (Nat.le_of_ble_eq_true rfl) hf ⟨rfl, rfl⟩ (fun d hd => ?_)
  refine z_eqlv (lv' := [(0, .ref 17), (1, .int x1), (2, .int x2)]) rfl ?_
  unfold f0_planPuttingOff
  refine z_iload_n (pc := 0) 2 dX0_planPuttingOff_0 rfl rfl ?_
  refine z_aload_n (pc := 1) 0 dX0_planPuttingOff_1 rfl rfl ?_
  refine z_getQ (pc := 2) (b := 18) dX0_planPuttingOff_2 kC17 fr_RX0_9_0 (by decide) rfl ?_
  refine z_iload_n (pc := 5) 1 dX0_planPuttingOff_5 rfl rfl ?_
  refine z_iald (pc := 6) dX0_planPuttingOff_6 (am_ar.s kC18) (fun h1 => ?_)
  refine z_iload_n (pc := 7) 2 dX0_planPuttingOff_7 rfl rfl ?_
  refine z_isub (pc := 8) dX0_planPuttingOff_8 ?_
  refine z_aload_n (pc := 9) 0 dX0_planPuttingOff_9 rfl rfl ?_
  refine z_getI (pc := 10) dX0_planPuttingOff_10 (am_ob.s kC17) fr_RX0_38_0 (by decide) ?_
  refine z_min (pc := 13) dX0_planPuttingOff_13 ml_RX0_41 st_math_min in_math cd_math_min (Nat.le_trans (by decide) hd) (Nat.le_of_ble_eq_true rfl) ⟨by decide, by decide⟩ ?_
  refine z_iadd (pc := 16) dX0_planPuttingOff_16 ?_
  refine z_istore_n (pc := 17) (lv' := [(3, .int (x2 + (if (fF σ 17 1) < ((fF σ 18 x1.toNatClampNeg) - x2) then (fF σ 17 1) else ((fF σ 18 x1.toNatClampNeg) - x2)))), (0, .ref 17), (1, .int x1), (2, .int x2)]) dX0_planPuttingOff_17 rfl (by decide) rfl ?_
  refine z_iload_n (pc := 18) 2 dX0_planPuttingOff_18 rfl rfl ?_
  refine z_aload_n (pc := 19) 1 dX0_planPuttingOff_19 rfl rfl ?_
  refine z_getI (pc := 20) dX0_planPuttingOff_20 (am_ob.s kC17) fr_RX0_35_0 (by decide) ?_
  refine z_iadd (pc := 23) dX0_planPuttingOff_23 ?_
  refine z_istore (pc := 24) (lv' := [(4, .int (x1 + (fF σ 17 2))), (3, .int (x2 + (if (fF σ 17 1) < ((fF σ 18 x1.toNatClampNeg) - x2) then (fF σ 17 1) else ((fF σ 18 x1.toNatClampNeg) - x2)))), (0, .ref 17), (1, .int x1), (2, .int x2)]) dX0_planPuttingOff_24 (by decide) rfl ?_
  refine z_aload_n (pc := 26) 2 dX0_planPuttingOff_26 rfl rfl ?_
  refine z_getQ (pc := 27) (b := 19) dX0_planPuttingOff_27 kC17 fr_RX0_13_0 (by decide) rfl ?_
  refine z_iload (pc := 30) 0 dX0_planPuttingOff_30 rfl ?_
  refine z_iald (pc := 32) dX0_planPuttingOff_32 (am_ar.s kC19) (fun h2 => ?_)
  refine z_aload_n (pc := 33) 2 dX0_planPuttingOff_33 rfl rfl ?_
  refine z_getQ (pc := 34) (b := 19) dX0_planPuttingOff_34 kC17 fr_RX0_13_0 (by decide) rfl ?_
  refine z_iload_n (pc := 37) 3 dX0_planPuttingOff_37 rfl rfl ?_
  refine z_iald (pc := 38) dX0_planPuttingOff_38 (am_ar.s kC19) (fun h3 => ?_)
  refine z_isub (pc := 39) dX0_planPuttingOff_39 ?_
  refine z_aload_n (pc := 40) 2 dX0_planPuttingOff_40 rfl rfl ?_
  refine z_getI (pc := 41) dX0_planPuttingOff_41 (am_ob.s kC17) fr_RX0_35_0 (by decide) ?_
  refine z_iload_n (pc := 44) 1 dX0_planPuttingOff_44 rfl rfl ?_
  refine z_imul (pc := 45) dX0_planPuttingOff_45 ?_
  refine z_isub (pc := 46) dX0_planPuttingOff_46 ?_
  refine z_i2l (pc := 47) dX0_planPuttingOff_47 ?_
  refine z_lstore (pc := 48) (lv' := [(5, .long ((((fF σ 19 (x1 + (fF σ 17 2)).toNatClampNeg) - (fF σ 19 x1.toNatClampNeg)) - ((fF σ 17 2) * (x2 + (if (fF σ 17 1) < ((fF σ 18 x1.toNatClampNeg) - x2) then (fF σ 17 1) else ((fF σ 18 x1.toNatClampNeg) - x2))))).toInt64)), (4, .int (x1 + (fF σ 17 2))), (3, .int (x2 + (if (fF σ 17 1) < ((fF σ 18 x1.toNatClampNeg) - x2) then (fF σ 17 1) else ((fF σ 18 x1.toNatClampNeg) - x2)))), (0, .ref 17), (1, .int x1), (2, .int x2)]) dX0_planPuttingOff_48 (by decide) rfl ?_
  refine z_iload (pc := 50) 1 dX0_planPuttingOff_50 rfl ?_
  refine z_aload_n (pc := 52) 3 dX0_planPuttingOff_52 rfl rfl ?_
  refine z_getI (pc := 53) dX0_planPuttingOff_53 (am_ob.s kC17) fr_RX0_32_0 (by decide) ?_
  refine z_ic_ge (pc := 56) (tgt := 75) dX0_planPuttingOff_56 (by decide) (fun h4 => ?_) (fun h4 => ?_)
  · refine z_aload_n (pc := 75) 3 dX0_planPuttingOff_75 rfl rfl ?_
    refine z_aload_n (pc := 76) 3 dX0_planPuttingOff_76 rfl rfl ?_
    refine z_getQ (pc := 77) (b := 18) dX0_planPuttingOff_77 kC17 fr_RX0_9_0 (by decide) rfl ?_
    refine z_iload (pc := 80) 1 dX0_planPuttingOff_80 rfl ?_
    refine z_iald (pc := 82) dX0_planPuttingOff_82 (am_ar.s kC18) (fun h5 => ?_)
    refine z_iload_n (pc := 83) 2 dX0_planPuttingOff_83 rfl rfl ?_
    refine z_isub (pc := 84) dX0_planPuttingOff_84 ?_
    refine z_callL (pc := 85) [.ref 17, .int ((fF σ 18 (x1 + (fF σ 17 2)).toNatClampNeg) - (x2 + (if (fF σ 17 1) < ((fF σ 18 x1.toNatClampNeg) - x2) then (fF σ 17 1) else ((fF σ 18 x1.toNatClampNeg) - x2))))] [] rfl (lk_V (Yc := YX0_waitsAfterLast) (n := 1) dX0_planPuttingOff_85 rfl rfl (am_ob.s kC17) rfl rfl np_X0_waitsAfterLast mh_RX0 (by decide) ml_RX0_57 im_X0_waitsAfterLast se_RX0_X0_waitsAfterLast_X0_waitsAfterLast in_RX0 cd_X0_waitsAfterLast) (Nat.le_trans (by decide) hd) ⟨by decide, by decide⟩ (Nat.le_of_ble_eq_true rfl) (am_kp.rf _) (fun v6 h8 => c0_waitsAfterLast h8) (fun v6 h8 => ?_)
    refine z_ldc2 (pc := 88) (v := (16777216 : Int64)) dX0_planPuttingOff_88 kl_RX0_20 ?_
    refine z_lmul (pc := 91) dX0_planPuttingOff_91 ?_
    refine z_lstore (pc := 92) (lv' := [(7, .long (v6 * (16777216 : Int64))), (5, .long ((((fF σ 19 (x1 + (fF σ 17 2)).toNatClampNeg) - (fF σ 19 x1.toNatClampNeg)) - ((fF σ 17 2) * (x2 + (if (fF σ 17 1) < ((fF σ 18 x1.toNatClampNeg) - x2) then (fF σ 17 1) else ((fF σ 18 x1.toNatClampNeg) - x2))))).toInt64)), (4, .int (x1 + (fF σ 17 2))), (3, .int (x2 + (if (fF σ 17 1) < ((fF σ 18 x1.toNatClampNeg) - x2) then (fF σ 17 1) else ((fF σ 18 x1.toNatClampNeg) - x2)))), (0, .ref 17), (1, .int x1), (2, .int x2)]) dX0_planPuttingOff_92 (by decide) rfl ?_
    refine z_lconst (pc := 94) (v := (1 : Int64)) dX0_planPuttingOff_94 (by decide) ?_
    refine z_iload_n (pc := 95) 5 dX0_planPuttingOff_95 rfl rfl ?_
    refine z_lshl (pc := 96) dX0_planPuttingOff_96 ?_
    refine z_lload (pc := 97) 1 dX0_planPuttingOff_97 rfl ?_
    refine z_ldc2 (pc := 99) (v := (16777216 : Int64)) dX0_planPuttingOff_99 kl_RX0_20 ?_
    refine z_lmul (pc := 102) dX0_planPuttingOff_102 ?_
    refine z_ladd (pc := 103) dX0_planPuttingOff_103 ?_
    refine z_lload (pc := 104) 0 dX0_planPuttingOff_104 rfl ?_
    refine z_ladd (pc := 106) dX0_planPuttingOff_106 ?_
    exact z_rL dX0_planPuttingOff_107 rfl ⟨by decide, by decide⟩
  · refine z_aload_n (pc := 59) 3 dX0_planPuttingOff_59 rfl rfl ?_
    refine z_getQ (pc := 60) (b := 20) dX0_planPuttingOff_60 kC17 fr_RX0_16_0 (by decide) rfl ?_
    refine z_iload (pc := 63) 1 dX0_planPuttingOff_63 rfl ?_
    refine z_sipush (pc := 65) (v := (155 : Int32)) dX0_planPuttingOff_65 (by decide) ?_
    refine z_imul (pc := 68) dX0_planPuttingOff_68 ?_
    refine z_iload_n (pc := 69) 2 dX0_planPuttingOff_69 rfl rfl ?_
    refine z_iadd (pc := 70) dX0_planPuttingOff_70 ?_
    refine z_lald (pc := 71) dX0_planPuttingOff_71 (am_ar.s kC20) (fun h9 => ?_)
    refine z_goto (pc := 72) (tgt := 92) dX0_planPuttingOff_72 (by decide) ?_
    refine z_lstore (pc := 92) (lv' := [(7, .long (fG σ 20 (((x1 + (fF σ 17 2)) * (155 : Int32)) + (x2 + (if (fF σ 17 1) < ((fF σ 18 x1.toNatClampNeg) - x2) then (fF σ 17 1) else ((fF σ 18 x1.toNatClampNeg) - x2)))).toNatClampNeg)), (5, .long ((((fF σ 19 (x1 + (fF σ 17 2)).toNatClampNeg) - (fF σ 19 x1.toNatClampNeg)) - ((fF σ 17 2) * (x2 + (if (fF σ 17 1) < ((fF σ 18 x1.toNatClampNeg) - x2) then (fF σ 17 1) else ((fF σ 18 x1.toNatClampNeg) - x2))))).toInt64)), (4, .int (x1 + (fF σ 17 2))), (3, .int (x2 + (if (fF σ 17 1) < ((fF σ 18 x1.toNatClampNeg) - x2) then (fF σ 17 1) else ((fF σ 18 x1.toNatClampNeg) - x2)))), (0, .ref 17), (1, .int x1), (2, .int x2)]) dX0_planPuttingOff_92 (by decide) rfl ?_
    refine z_lconst (pc := 94) (v := (1 : Int64)) dX0_planPuttingOff_94 (by decide) ?_
    refine z_iload_n (pc := 95) 5 dX0_planPuttingOff_95 rfl rfl ?_
    refine z_lshl (pc := 96) dX0_planPuttingOff_96 ?_
    refine z_lload (pc := 97) 1 dX0_planPuttingOff_97 rfl ?_
    refine z_ldc2 (pc := 99) (v := (16777216 : Int64)) dX0_planPuttingOff_99 kl_RX0_20 ?_
    refine z_lmul (pc := 102) dX0_planPuttingOff_102 ?_
    refine z_ladd (pc := 103) dX0_planPuttingOff_103 ?_
    refine z_lload (pc := 104) 0 dX0_planPuttingOff_104 rfl ?_
    refine z_ladd (pc := 106) dX0_planPuttingOff_106 ?_
    exact z_rL dX0_planPuttingOff_107 rfl ⟨by decide, by decide⟩
def f0_bestFrom_J24 (σ : am_S) (x1 : Int32) (x2 : Int32) (x3 : Int32) (s0 : Int32) : Option Int64 := if 0 < x3 then (if s0 = 0 then (if am_in (((x1 + (1 : Int32)) * (155 : Int32)) + x2) 3720 = true then (if 0 < x3 then ((f0_planPuttingOff σ x1 x2).bind fun v7 => (some ((if v7 < ((x3.toInt64 * (16777216 : Int64)) + (fG σ 20 (((x1 + (1 : Int32)) * (155 : Int32)) + x2).toNatClampNeg)) then v7 else ((x3.toInt64 * (16777216 : Int64)) + (fG σ 20 (((x1 + (1 : Int32)) * (155 : Int32)) + x2).toNatClampNeg)))))) else (some ((x3.toInt64 * (16777216 : Int64)) + (fG σ 20 (((x1 + (1 : Int32)) * (155 : Int32)) + x2).toNatClampNeg)))) else none) else ((f0_planPuttingOff σ x1 x2).bind fun v10 => (some (v10)))) else (if s0 = 0 then (if s0 = 0 then (if am_in (((x1 + (1 : Int32)) * (155 : Int32)) + x2) 3720 = true then (if 0 < x3 then ((f0_planPuttingOff σ x1 x2).bind fun v17 => (some ((if v17 < ((x3.toInt64 * (16777216 : Int64)) + (fG σ 20 (((x1 + (1 : Int32)) * (155 : Int32)) + x2).toNatClampNeg)) then v17 else ((x3.toInt64 * (16777216 : Int64)) + (fG σ 20 (((x1 + (1 : Int32)) * (155 : Int32)) + x2).toNatClampNeg)))))) else (some ((x3.toInt64 * (16777216 : Int64)) + (fG σ 20 (((x1 + (1 : Int32)) * (155 : Int32)) + x2).toNatClampNeg)))) else none) else ((f0_planPuttingOff σ x1 x2).bind fun v20 => (some (v20)))) else (some ((0 : Int64))))
theorem z0_bestFrom_J24 {l : Launch} {E : am_E} {d : Nat} {σ : am_S} (hd : 2 ≤ d) (x1 : Int32) (x2 : Int32) (x3 : Int32) (s0 : Int32) : Z l E msC σ YX0_bestFrom d 0 0 24 [(0, .ref 17), (1, .int x1), (2, .int x2), (3, .int x3)] [.int s0] 0 0 σ (f0_bestFrom_J24 σ x1 x2 x3 s0) (fun u r s => r = some (.long u) ∧ s = σ) := by
  unfold f0_bestFrom_J24
  refine z_istore (pc := 24) (lv' := [(4, .int s0), (0, .ref 17), (1, .int x1), (2, .int x2), (3, .int x3)]) dX0_bestFrom_24 (by decide) rfl ?_
  refine z_iload_n (pc := 26) 4 dX0_bestFrom_26 rfl rfl ?_
  refine z_if_gt (pc := 27) (tgt := 37) dX0_bestFrom_27 (by decide) (fun h3 => ?_) (fun h3 => ?_)
  · refine z_iload (pc := 37) 0 dX0_bestFrom_37 rfl ?_
    refine z_if_eq (pc := 39) (tgt := 49) dX0_bestFrom_39 (by decide) (fun h4 => ?_) (fun h4 => ?_)
    · refine z_iload_n (pc := 49) 4 dX0_bestFrom_49 rfl rfl ?_
      refine z_i2l (pc := 50) dX0_bestFrom_50 ?_
      refine z_ldc2 (pc := 51) (v := (16777216 : Int64)) dX0_bestFrom_51 kl_RX0_20 ?_
      refine z_lmul (pc := 54) dX0_bestFrom_54 ?_
      refine z_aload_n (pc := 55) 1 dX0_bestFrom_55 rfl rfl ?_
      refine z_getQ (pc := 56) (b := 20) dX0_bestFrom_56 kC17 fr_RX0_16_0 (by decide) rfl ?_
      refine z_iload_n (pc := 59) 2 dX0_bestFrom_59 rfl rfl ?_
      refine z_iconst (pc := 60) (v := (1 : Int32)) dX0_bestFrom_60 (by decide) ?_
      refine z_iadd (pc := 61) dX0_bestFrom_61 ?_
      refine z_sipush (pc := 62) (v := (155 : Int32)) dX0_bestFrom_62 (by decide) ?_
      refine z_imul (pc := 65) dX0_bestFrom_65 ?_
      refine z_iload_n (pc := 66) 3 dX0_bestFrom_66 rfl rfl ?_
      refine z_iadd (pc := 67) dX0_bestFrom_67 ?_
      refine z_lald (pc := 68) dX0_bestFrom_68 (am_ar.s kC20) (fun h5 => ?_)
      refine z_ladd (pc := 69) dX0_bestFrom_69 ?_
      refine z_lstore (pc := 70) (lv' := [(5, .long ((x3.toInt64 * (16777216 : Int64)) + (fG σ 20 (((x1 + (1 : Int32)) * (155 : Int32)) + x2).toNatClampNeg))), (4, .int s0), (0, .ref 17), (1, .int x1), (2, .int x2), (3, .int x3)]) dX0_bestFrom_70 (by decide) rfl ?_
      refine z_iload_n (pc := 72) 5 dX0_bestFrom_72 rfl rfl ?_
      refine z_if_gt (pc := 73) (tgt := 81) dX0_bestFrom_73 (by decide) (fun h6 => ?_) (fun h6 => ?_)
      · refine z_lload (pc := 81) 0 dX0_bestFrom_81 rfl ?_
        refine z_aload_n (pc := 83) 2 dX0_bestFrom_83 rfl rfl ?_
        refine z_iload_n (pc := 84) 3 dX0_bestFrom_84 rfl rfl ?_
        refine z_iload_n (pc := 85) 4 dX0_bestFrom_85 rfl rfl ?_
        refine z_callL (pc := 86) [.ref 17, .int x1, .int x2] [.long ((x3.toInt64 * (16777216 : Int64)) + (fG σ 20 (((x1 + (1 : Int32)) * (155 : Int32)) + x2).toNatClampNeg))] rfl (lk_V (Yc := YX0_planPuttingOff) (n := 2) dX0_bestFrom_86 rfl rfl (am_ob.s kC17) rfl rfl np_X0_planPuttingOff mh_RX0 (by decide) ml_RX0_51 im_X0_planPuttingOff se_RX0_X0_planPuttingOff_X0_planPuttingOff in_RX0 cd_X0_planPuttingOff) (Nat.le_trans (by decide) hd) ⟨by decide, by decide⟩ (Nat.le_of_ble_eq_true rfl) (am_kp.rf _) (fun v7 h9 => c0_planPuttingOff h9) (fun v7 h9 => ?_)
        refine z_minl (pc := 89) dX0_bestFrom_89 ml_RX0_54 st_math_minl in_math cd_math_minl (Nat.le_trans (by decide) hd) (Nat.le_of_ble_eq_true rfl) ⟨by decide, by decide⟩ ?_
        exact z_rL dX0_bestFrom_92 rfl ⟨by decide, by decide⟩
      · refine z_lload (pc := 76) 0 dX0_bestFrom_76 rfl ?_
        refine z_goto (pc := 78) (tgt := 92) dX0_bestFrom_78 (by decide) ?_
        exact z_rL dX0_bestFrom_92 rfl ⟨by decide, by decide⟩
    · refine z_aload_n (pc := 42) 1 dX0_bestFrom_42 rfl rfl ?_
      refine z_iload_n (pc := 43) 2 dX0_bestFrom_43 rfl rfl ?_
      refine z_iload_n (pc := 44) 3 dX0_bestFrom_44 rfl rfl ?_
      refine z_callL (pc := 45) [.ref 17, .int x1, .int x2] [] rfl (lk_V (Yc := YX0_planPuttingOff) (n := 2) dX0_bestFrom_45 rfl rfl (am_ob.s kC17) rfl rfl np_X0_planPuttingOff mh_RX0 (by decide) ml_RX0_51 im_X0_planPuttingOff se_RX0_X0_planPuttingOff_X0_planPuttingOff in_RX0 cd_X0_planPuttingOff) (Nat.le_trans (by decide) hd) ⟨by decide, by decide⟩ (Nat.le_of_ble_eq_true rfl) (am_kp.rf _) (fun v10 h12 => c0_planPuttingOff h12) (fun v10 h12 => ?_)
      exact z_rL dX0_bestFrom_48 rfl ⟨by decide, by decide⟩
  · refine z_iload (pc := 30) 0 dX0_bestFrom_30 rfl ?_
    refine z_if_eq (pc := 32) (tgt := 37) dX0_bestFrom_32 (by decide) (fun h13 => ?_) (fun h13 => ?_)
    · refine z_iload (pc := 37) 0 dX0_bestFrom_37 rfl ?_
      refine z_if_eq (pc := 39) (tgt := 49) dX0_bestFrom_39 (by decide) (fun h14 => ?_) (fun h14 => ?_)
      · refine z_iload_n (pc := 49) 4 dX0_bestFrom_49 rfl rfl ?_
        refine z_i2l (pc := 50) dX0_bestFrom_50 ?_
        refine z_ldc2 (pc := 51) (v := (16777216 : Int64)) dX0_bestFrom_51 kl_RX0_20 ?_
        refine z_lmul (pc := 54) dX0_bestFrom_54 ?_
        refine z_aload_n (pc := 55) 1 dX0_bestFrom_55 rfl rfl ?_
        refine z_getQ (pc := 56) (b := 20) dX0_bestFrom_56 kC17 fr_RX0_16_0 (by decide) rfl ?_
        refine z_iload_n (pc := 59) 2 dX0_bestFrom_59 rfl rfl ?_
        refine z_iconst (pc := 60) (v := (1 : Int32)) dX0_bestFrom_60 (by decide) ?_
        refine z_iadd (pc := 61) dX0_bestFrom_61 ?_
        refine z_sipush (pc := 62) (v := (155 : Int32)) dX0_bestFrom_62 (by decide) ?_
        refine z_imul (pc := 65) dX0_bestFrom_65 ?_
        refine z_iload_n (pc := 66) 3 dX0_bestFrom_66 rfl rfl ?_
        refine z_iadd (pc := 67) dX0_bestFrom_67 ?_
        refine z_lald (pc := 68) dX0_bestFrom_68 (am_ar.s kC20) (fun h15 => ?_)
        refine z_ladd (pc := 69) dX0_bestFrom_69 ?_
        refine z_lstore (pc := 70) (lv' := [(5, .long ((x3.toInt64 * (16777216 : Int64)) + (fG σ 20 (((x1 + (1 : Int32)) * (155 : Int32)) + x2).toNatClampNeg))), (4, .int s0), (0, .ref 17), (1, .int x1), (2, .int x2), (3, .int x3)]) dX0_bestFrom_70 (by decide) rfl ?_
        refine z_iload_n (pc := 72) 5 dX0_bestFrom_72 rfl rfl ?_
        refine z_if_gt (pc := 73) (tgt := 81) dX0_bestFrom_73 (by decide) (fun h16 => ?_) (fun h16 => ?_)
        · refine z_lload (pc := 81) 0 dX0_bestFrom_81 rfl ?_
          refine z_aload_n (pc := 83) 2 dX0_bestFrom_83 rfl rfl ?_
          refine z_iload_n (pc := 84) 3 dX0_bestFrom_84 rfl rfl ?_
          refine z_iload_n (pc := 85) 4 dX0_bestFrom_85 rfl rfl ?_
          refine z_callL (pc := 86) [.ref 17, .int x1, .int x2] [.long ((x3.toInt64 * (16777216 : Int64)) + (fG σ 20 (((x1 + (1 : Int32)) * (155 : Int32)) + x2).toNatClampNeg))] rfl (lk_V (Yc := YX0_planPuttingOff) (n := 2) dX0_bestFrom_86 rfl rfl (am_ob.s kC17) rfl rfl np_X0_planPuttingOff mh_RX0 (by decide) ml_RX0_51 im_X0_planPuttingOff se_RX0_X0_planPuttingOff_X0_planPuttingOff in_RX0 cd_X0_planPuttingOff) (Nat.le_trans (by decide) hd) ⟨by decide, by decide⟩ (Nat.le_of_ble_eq_true rfl) (am_kp.rf _) (fun v17 h19 => c0_planPuttingOff h19) (fun v17 h19 => ?_)
          refine z_minl (pc := 89) dX0_bestFrom_89 ml_RX0_54 st_math_minl in_math cd_math_minl (Nat.le_trans (by decide) hd) (Nat.le_of_ble_eq_true rfl) ⟨by decide, by decide⟩ ?_
          exact z_rL dX0_bestFrom_92 rfl ⟨by decide, by decide⟩
        · refine z_lload (pc := 76) 0 dX0_bestFrom_76 rfl ?_
          refine z_goto (pc := 78) (tgt := 92) dX0_bestFrom_78 (by decide) ?_
          exact z_rL dX0_bestFrom_92 rfl ⟨by decide, by decide⟩
      · refine z_aload_n (pc := 42) 1 dX0_bestFrom_42 rfl rfl ?_
        refine z_iload_n (pc := 43) 2 dX0_bestFrom_43 rfl rfl ?_
        refine z_iload_n (pc := 44) 3 dX0_bestFrom_44 rfl rfl ?_
        refine z_callL (pc := 45) [.ref 17, .int x1, .int x2] [] rfl (lk_V (Yc := YX0_planPuttingOff) (n := 2) dX0_bestFrom_45 rfl rfl (am_ob.s kC17) rfl rfl np_X0_planPuttingOff mh_RX0 (by decide) ml_RX0_51 im_X0_planPuttingOff se_RX0_X0_planPuttingOff_X0_planPuttingOff in_RX0 cd_X0_planPuttingOff) (Nat.le_trans (by decide) hd) ⟨by decide, by decide⟩ (Nat.le_of_ble_eq_true rfl) (am_kp.rf _) (fun v20 h22 => c0_planPuttingOff h22) (fun v20 h22 => ?_)
        exact z_rL dX0_bestFrom_48 rfl ⟨by decide, by decide⟩
    · refine z_lconst (pc := 35) (v := (0 : Int64)) dX0_bestFrom_35 (by decide) ?_
      exact z_rL dX0_bestFrom_36 rfl ⟨by decide, by decide⟩
def f0_bestFrom (σ : am_S) (x1 : Int32) (x2 : Int32) : Option Int64 := if am_in x1 42 = true then (if x1 = (fF σ 17 0) - (1 : Int32) then (f0_bestFrom_J24 σ x1 x2 ((fF σ 18 x1.toNatClampNeg) - x2) (1 : Int32)) else (f0_bestFrom_J24 σ x1 x2 ((fF σ 18 x1.toNatClampNeg) - x2) (0 : Int32))) else none
theorem c0_bestFrom {l : Launch} {E : am_E} {σ : am_S} {x1 : Int32} {x2 : Int32} {v : Int64} (hf : f0_bestFrom σ x1 x2 = some v) : Ctr l E msC YX0_bestFrom (2) 0 0 [.ref 17, .int x1, .int x2] σ (some (.long v)) σ := by
  refine ctr_of (G := fun u r s => r = some (.long u) ∧ s = σ) (by decide +kernel) (Nat.le_of_ble_eq_true rfl) hf ⟨rfl, rfl⟩ (fun d hd => ?_)
  refine z_eqlv (lv' := [(0, .ref 17), (1, .int x1), (2, .int x2)]) rfl ?_
  unfold f0_bestFrom
  refine z_aload_n (pc := 0) 0 dX0_bestFrom_0 rfl rfl ?_
  refine z_getQ (pc := 1) (b := 18) dX0_bestFrom_1 kC17 fr_RX0_9_0 (by decide) rfl ?_
  refine z_iload_n (pc := 4) 1 dX0_bestFrom_4 rfl rfl ?_
  refine z_iald (pc := 5) dX0_bestFrom_5 (am_ar.s kC18) (fun h1 => ?_)
  refine z_iload_n (pc := 6) 2 dX0_bestFrom_6 rfl rfl ?_
  refine z_isub (pc := 7) dX0_bestFrom_7 ?_
  refine z_istore_n (pc := 8) (lv' := [(3, .int ((fF σ 18 x1.toNatClampNeg) - x2)), (0, .ref 17), (1, .int x1), (2, .int x2)]) dX0_bestFrom_8 rfl (by decide) rfl ?_
  refine z_iload_n (pc := 9) 2 dX0_bestFrom_9 rfl rfl ?_
  refine z_aload_n (pc := 10) 1 dX0_bestFrom_10 rfl rfl ?_
  refine z_getI (pc := 11) dX0_bestFrom_11 (am_ob.s kC17) fr_RX0_32_0 (by decide) ?_
  refine z_iconst (pc := 14) (v := (1 : Int32)) dX0_bestFrom_14 (by decide) ?_
  refine z_isub (pc := 15) dX0_bestFrom_15 ?_
  refine z_ic_ne (pc := 16) (tgt := 23) dX0_bestFrom_16 (by decide) (fun h2 => ?_) (fun h2 => ?_)
  · refine z_iconst (pc := 19) (v := (1 : Int32)) dX0_bestFrom_19 (by decide) ?_
    refine z_goto (pc := 20) (tgt := 24) dX0_bestFrom_20 (by decide) ?_
    refine z_lv (lv' := [(0, .ref 17), (1, .int x1), (2, .int x2), (3, .int ((fF σ 18 x1.toNatClampNeg) - x2))]) [1, 2, 3, 0] rfl ?_
    exact z0_bestFrom_J24 hd x1 x2 ((fF σ 18 x1.toNatClampNeg) - x2) (1 : Int32)
  · refine z_iconst (pc := 23) (v := (0 : Int32)) dX0_bestFrom_23 (by decide) ?_
    refine z_lv (lv' := [(0, .ref 17), (1, .int x1), (2, .int x2), (3, .int ((fF σ 18 x1.toNatClampNeg) - x2))]) [1, 2, 3, 0] rfl ?_
    exact z0_bestFrom_J24 hd x1 x2 ((fF σ 18 x1.toNatClampNeg) - x2) (0 : Int32)
def f0_bestPlan_J99 (k37 : Int32 → am_S → Option (Int64 × am_S)) (N : Nat) (x3 : Int32) (σ : am_S) : Option (Int64 × am_S) := k37 (x3 + (-1 : Int32)) σ
theorem z0_bestPlan_J99 {l : Launch} {E : am_E} {d : Nat} {σ0 : am_S} {N : Nat} (hd : 3 ≤ d) {k37 : Int32 → am_S → Option (Int64 × am_S)} (hk37 : ∀ (x3 : Int32) (σ : am_S), Z l E msC σ0 YX0_bestPlan d 0 0 37 [(0, .ref 17), (3, .int x3)] [] 0 0 σ (k37 x3 σ) (fun u r s => r = some (.long u.1) ∧ s = u.2)) (x3 : Int32) (σ : am_S) : Z l E msC σ0 YX0_bestPlan d 0 0 99 [(0, .ref 17), (3, .int x3)] [] 0 0 σ (f0_bestPlan_J99 k37 N x3 σ) (fun u r s => r = some (.long u.1) ∧ s = u.2) := by
  unfold f0_bestPlan_J99
  refine z_iinc (pc := 99) (v := x3 + (-1 : Int32)) (lv' := [(3, .int (x3 + (-1 : Int32))), (0, .ref 17)]) 1 dX0_bestPlan_99 rfl rfl (by decide) rfl ?_
  refine z_goto (pc := 102) (tgt := 37) dX0_bestPlan_102 (by decide) ?_
  refine z_lv (lv' := [(0, .ref 17), (3, .int (x3 + (-1 : Int32)))]) [1, 0] rfl ?_
  exact hk37 (x3 + (-1 : Int32)) σ
def f0_bestPlan_L66 (k37 : Int32 → am_S → Option (Int64 × am_S)) (N : Nat) : Nat → Int32 → Int32 → Int32 → am_S → Option (Int64 × am_S)
  | 0, _, _, _, _ => none
  | n + 1, x3, x4, x5, σ => if x4 < x5 then (f0_bestPlan_J99 k37 N x3 σ) else ((f0_bestFrom σ x3 x5).bind fun v8 => (if am_in ((x3 * (155 : Int32)) + x5) 3720 = true then (f0_bestPlan_L66 k37 N n x3 x4 (x5 + (1 : Int32)) (sG σ 20 ((x3 * (155 : Int32)) + x5).toNatClampNeg v8)) else none))
theorem z0_bestPlan_L66 {l : Launch} {E : am_E} {d : Nat} {σ0 : am_S} {N : Nat} (hd : 3 ≤ d) {k37 : Int32 → am_S → Option (Int64 × am_S)} (hk37 : ∀ (x3 : Int32) (σ : am_S), Z l E msC σ0 YX0_bestPlan d 0 0 37 [(0, .ref 17), (3, .int x3)] [] 0 0 σ (k37 x3 σ) (fun u r s => r = some (.long u.1) ∧ s = u.2)) : ∀ (n : Nat) (x3 : Int32) (x4 : Int32) (x5 : Int32) (σ : am_S), Z l E msC σ0 YX0_bestPlan d 0 0 66 [(0, .ref 17), (3, .int x3), (4, .int x4), (5, .int x5)] [] 0 0 σ (f0_bestPlan_L66 k37 N n x3 x4 x5 σ) (fun u r s => r = some (.long u.1) ∧ s = u.2) := by
  intro n
  induction n with
  | zero => intros; exact z_none
  | succ n ih =>
    intro x3 x4 x5 σ
    unfold f0_bestPlan_L66
    refine z_iload (pc := 66) 3 dX0_bestPlan_66 rfl ?_
    refine z_iload (pc := 68) 2 dX0_bestPlan_68 rfl ?_
    refine z_ic_gt (pc := 70) (tgt := 99) dX0_bestPlan_70 (by decide) (fun h7 => ?_) (fun h7 => ?_)
    · refine z_lv (lv' := [(0, .ref 17), (3, .int x3)]) [0, 1] rfl ?_
      exact z0_bestPlan_J99 hd hk37 x3 σ
    · refine z_aload_n (pc := 73) 0 dX0_bestPlan_73 rfl rfl ?_
      refine z_getQ (pc := 74) (b := 20) dX0_bestPlan_74 kC17 fr_RX0_16_0 (by decide) rfl ?_
      refine z_iload_n (pc := 77) 1 dX0_bestPlan_77 rfl rfl ?_
      refine z_sipush (pc := 78) (v := (155 : Int32)) dX0_bestPlan_78 (by decide) ?_
      refine z_imul (pc := 81) dX0_bestPlan_81 ?_
      refine z_iload (pc := 82) 3 dX0_bestPlan_82 rfl ?_
      refine z_iadd (pc := 84) dX0_bestPlan_84 ?_
      refine z_aload_n (pc := 85) 0 dX0_bestPlan_85 rfl rfl ?_
      refine z_iload_n (pc := 86) 1 dX0_bestPlan_86 rfl rfl ?_
      refine z_iload (pc := 87) 3 dX0_bestPlan_87 rfl ?_
      refine z_callL (pc := 89) [.ref 17, .int x3, .int x5] [.int ((x3 * (155 : Int32)) + x5), .ref 20] rfl (lk_V (Yc := YX0_bestFrom) (n := 2) dX0_bestPlan_89 rfl rfl (am_ob.s kC17) rfl rfl np_X0_bestFrom mh_RX0 (by decide) ml_RX0_47 im_X0_bestFrom se_RX0_X0_bestFrom_X0_bestFrom in_RX0 cd_X0_bestFrom) (Nat.le_trans (by decide) hd) ⟨by decide, by decide⟩ (Nat.le_of_ble_eq_true rfl) (am_kp.rf _) (fun v8 h10 => c0_bestFrom h10) (fun v8 h10 => ?_)
      refine z_last (pc := 92) dX0_bestPlan_92 (am_ar.s kC20) (fun h11 => ?_)
      refine z_iinc (pc := 93) (v := x5 + (1 : Int32)) (lv' := [(5, .int (x5 + (1 : Int32))), (0, .ref 17), (3, .int x3), (4, .int x4)]) 3 dX0_bestPlan_93 rfl rfl (by decide) rfl ?_
      refine z_goto (pc := 96) (tgt := 66) dX0_bestPlan_96 (by decide) ?_
      refine z_lv (lv' := [(0, .ref 17), (3, .int x3), (4, .int x4), (5, .int (x5 + (1 : Int32)))]) [1, 2, 3, 0] rfl ?_
      exact ih x3 x4 (x5 + (1 : Int32)) (sG σ 20 ((x3 * (155 : Int32)) + x5).toNatClampNeg v8)
def f0_bestPlan_L37 (N : Nat) : Nat → Int32 → am_S → Option (Int64 × am_S)
  | 0, _, _ => none
  | n + 1, x3, σ => if x3 < 0 then (if am_in (0 : Int32) 3720 = true then (some (fG σ 20 (0 : Int32).toNatClampNeg, σ)) else none) else (if am_in x3 42 = true then (if fF σ 17 2 = 0 then none else (f0_bestPlan_L66 (f0_bestPlan_L37 N n) N N x3 (if ((fF σ 17 1) * (x3 / (fF σ 17 2))) < (fF σ 18 x3.toNatClampNeg) then ((fF σ 17 1) * (x3 / (fF σ 17 2))) else (fF σ 18 x3.toNatClampNeg)) (0 : Int32) σ)) else none)
theorem z0_bestPlan_L37 {l : Launch} {E : am_E} {d : Nat} {σ0 : am_S} {N : Nat} (hd : 3 ≤ d) : ∀ (n : Nat) (x3 : Int32) (σ : am_S), Z l E msC σ0 YX0_bestPlan d 0 0 37 [(0, .ref 17), (3, .int x3)] [] 0 0 σ (f0_bestPlan_L37 N n x3 σ) (fun u r s => r = some (.long u.1) ∧ s = u.2) := by
  intro n
  induction n with
  | zero => intros; exact z_none
  | succ n ih =>
    intro x3 σ
    unfold f0_bestPlan_L37
    refine z_iload_n (pc := 37) 1 dX0_bestPlan_37 rfl rfl ?_
    refine z_if_lt (pc := 38) (tgt := 105) dX0_bestPlan_38 (by decide) (fun h3 => ?_) (fun h3 => ?_)
    · refine z_aload_n (pc := 105) 0 dX0_bestPlan_105 rfl rfl ?_
      refine z_getQ (pc := 106) (b := 20) dX0_bestPlan_106 kC17 fr_RX0_16_0 (by decide) rfl ?_
      refine z_iconst (pc := 109) (v := (0 : Int32)) dX0_bestPlan_109 (by decide) ?_
      refine z_lald (pc := 110) dX0_bestPlan_110 (am_ar.s kC20) (fun h4 => ?_)
      exact z_rLs dX0_bestPlan_111 rfl ⟨by decide, by decide⟩
    · refine z_aload_n (pc := 41) 0 dX0_bestPlan_41 rfl rfl ?_
      refine z_getQ (pc := 42) (b := 18) dX0_bestPlan_42 kC17 fr_RX0_9_0 (by decide) rfl ?_
      refine z_iload_n (pc := 45) 1 dX0_bestPlan_45 rfl rfl ?_
      refine z_iald (pc := 46) dX0_bestPlan_46 (am_ar.s kC18) (fun h5 => ?_)
      refine z_aload_n (pc := 47) 0 dX0_bestPlan_47 rfl rfl ?_
      refine z_getI (pc := 48) dX0_bestPlan_48 (am_ob.s kC17) fr_RX0_38_0 (by decide) ?_
      refine z_iload_n (pc := 51) 1 dX0_bestPlan_51 rfl rfl ?_
      refine z_aload_n (pc := 52) 0 dX0_bestPlan_52 rfl rfl ?_
      refine z_getI (pc := 53) dX0_bestPlan_53 (am_ob.s kC17) fr_RX0_35_0 (by decide) ?_
      refine z_ite (fun _ => z_none) (fun h6 => ?_)
      refine z_idiv (pc := 56) dX0_bestPlan_56 h6 ?_
      refine z_imul (pc := 57) dX0_bestPlan_57 ?_
      refine z_min (pc := 58) dX0_bestPlan_58 ml_RX0_41 st_math_min in_math cd_math_min (Nat.le_trans (by decide) hd) (Nat.le_of_ble_eq_true rfl) ⟨by decide, by decide⟩ ?_
      refine z_istore (pc := 61) (lv' := [(4, .int (if ((fF σ 17 1) * (x3 / (fF σ 17 2))) < (fF σ 18 x3.toNatClampNeg) then ((fF σ 17 1) * (x3 / (fF σ 17 2))) else (fF σ 18 x3.toNatClampNeg))), (0, .ref 17), (3, .int x3)]) dX0_bestPlan_61 (by decide) rfl ?_
      refine z_iconst (pc := 63) (v := (0 : Int32)) dX0_bestPlan_63 (by decide) ?_
      refine z_istore (pc := 64) (lv' := [(5, .int (0 : Int32)), (4, .int (if ((fF σ 17 1) * (x3 / (fF σ 17 2))) < (fF σ 18 x3.toNatClampNeg) then ((fF σ 17 1) * (x3 / (fF σ 17 2))) else (fF σ 18 x3.toNatClampNeg))), (0, .ref 17), (3, .int x3)]) dX0_bestPlan_64 (by decide) rfl ?_
      refine z_lv (lv' := [(0, .ref 17), (3, .int x3), (4, .int (if ((fF σ 17 1) * (x3 / (fF σ 17 2))) < (fF σ 18 x3.toNatClampNeg) then ((fF σ 17 1) * (x3 / (fF σ 17 2))) else (fF σ 18 x3.toNatClampNeg))), (5, .int (0 : Int32))]) [2, 3, 1, 0] rfl ?_
      exact z0_bestPlan_L66 hd (fun x3 σ => ih x3 σ) N x3 (if ((fF σ 17 1) * (x3 / (fF σ 17 2))) < (fF σ 18 x3.toNatClampNeg) then ((fF σ 17 1) * (x3 / (fF σ 17 2))) else (fF σ 18 x3.toNatClampNeg)) (0 : Int32) σ
def f0_bestPlan (N : Nat) (σ : am_S) (x1 : Int32) (x2 : Int32) : Option (Int64 × am_S) := if fF (sF (sF σ 17 2 ((2 : Int32) * x1)) 17 1 x2) 17 2 < (1 : Int32) then (some ((0 : Int64), sF (sF σ 17 2 ((2 : Int32) * x1)) 17 1 x2)) else (if (1 : Int32) ≤ fF (sF (sF σ 17 2 ((2 : Int32) * x1)) 17 1 x2) 17 1 then (f0_bestPlan_L37 N N ((fF (sF (sF σ 17 2 ((2 : Int32) * x1)) 17 1 x2) 17 0) - (1 : Int32)) (sF (sF σ 17 2 ((2 : Int32) * x1)) 17 1 x2)) else (some ((0 : Int64), sF (sF σ 17 2 ((2 : Int32) * x1)) 17 1 x2)))
theorem c0_bestPlan {l : Launch} {E : am_E} {N : Nat} {σ : am_S} {x1 : Int32} {x2 : Int32} {v : Int64} {σ1 : am_S} (hf : f0_bestPlan N σ x1 x2 = some (v, σ1)) : Ctr l E msC YX0_bestPlan (3) 0 0 [.ref 17, .int x1, .int x2] σ (some (.long v)) σ1 := by
  refine ctr_of (G := fun u r s => r = some (.long u.1) ∧ s = u.2) (by decide +kernel) (Nat.le_of_ble_eq_true rfl) hf ⟨rfl, rfl⟩ (fun d hd => ?_)
  refine z_eqlv (lv' := [(0, .ref 17), (1, .int x1), (2, .int x2)]) rfl ?_
  unfold f0_bestPlan
  refine z_aload_n (pc := 0) 0 dX0_bestPlan_0 rfl rfl ?_
  refine z_iconst (pc := 1) (v := (2 : Int32)) dX0_bestPlan_1 (by decide) ?_
  refine z_iload_n (pc := 2) 1 dX0_bestPlan_2 rfl rfl ?_
  refine z_imul (pc := 3) dX0_bestPlan_3 ?_
  refine z_putI (pc := 4) dX0_bestPlan_4 (am_ob.s kC17) fw_RX0_35_0 (by decide) ?_
  refine z_aload_n (pc := 7) 0 dX0_bestPlan_7 rfl rfl ?_
  refine z_iload_n (pc := 8) 2 dX0_bestPlan_8 rfl rfl ?_
  refine z_putI (pc := 9) dX0_bestPlan_9 (am_ob.s kC17) fw_RX0_38_0 (by decide) ?_
  refine z_aload_n (pc := 12) 0 dX0_bestPlan_12 rfl rfl ?_
  refine z_getI (pc := 13) dX0_bestPlan_13 (am_ob.s kC17) fr_RX0_35_0 (by decide) ?_
  refine z_iconst (pc := 16) (v := (1 : Int32)) dX0_bestPlan_16 (by decide) ?_
  refine z_ic_lt (pc := 17) (tgt := 28) dX0_bestPlan_17 (by decide) (fun h1 => ?_) (fun h1 => ?_)
  · refine z_lconst (pc := 28) (v := (0 : Int64)) dX0_bestPlan_28 (by decide) ?_
    exact z_rLs dX0_bestPlan_29 rfl ⟨by decide, by decide⟩
  · refine z_aload_n (pc := 20) 0 dX0_bestPlan_20 rfl rfl ?_
    refine z_getI (pc := 21) dX0_bestPlan_21 (am_ob.s kC17) fr_RX0_38_0 (by decide) ?_
    refine z_iconst (pc := 24) (v := (1 : Int32)) dX0_bestPlan_24 (by decide) ?_
    refine z_ic_ge (pc := 25) (tgt := 30) dX0_bestPlan_25 (by decide) (fun h2 => ?_) (fun h2 => ?_)
    · refine z_aload_n (pc := 30) 0 dX0_bestPlan_30 rfl rfl ?_
      refine z_getI (pc := 31) dX0_bestPlan_31 (am_ob.s kC17) fr_RX0_32_0 (by decide) ?_
      refine z_iconst (pc := 34) (v := (1 : Int32)) dX0_bestPlan_34 (by decide) ?_
      refine z_isub (pc := 35) dX0_bestPlan_35 ?_
      refine z_istore_n (pc := 36) (lv' := [(3, .int ((fF (sF (sF σ 17 2 ((2 : Int32) * x1)) 17 1 x2) 17 0) - (1 : Int32))), (0, .ref 17), (1, .int x1), (2, .int x2)]) dX0_bestPlan_36 rfl (by decide) rfl ?_
      refine z_lv (lv' := [(0, .ref 17), (3, .int ((fF (sF (sF σ 17 2 ((2 : Int32) * x1)) 17 1 x2) 17 0) - (1 : Int32)))]) [1, 0] rfl ?_
      exact z0_bestPlan_L37 hd N ((fF (sF (sF σ 17 2 ((2 : Int32) * x1)) 17 1 x2) 17 0) - (1 : Int32)) (sF (sF σ 17 2 ((2 : Int32) * x1)) 17 1 x2)
    · refine z_lconst (pc := 28) (v := (0 : Int64)) dX0_bestPlan_28 (by decide) ?_
      exact z_rLs dX0_bestPlan_29 rfl ⟨by decide, by decide⟩
def f0_minutesOf (x0 : Int64) : Option Int32 := some ((x0 - x0 / (16777216 : Int64) * (16777216 : Int64)).toInt32)
theorem c0_minutesOf {l : Launch} {E : am_E} {σ : am_S} {x0 : Int64} {v : Int32} (hf : f0_minutesOf x0 = some v) : Ctr l E msC YX0_minutesOf (0) 0 0 [.long x0] σ (some (.int v)) σ := by
  refine ctr_of (G := fun u r s => r = some (.int u) ∧ s = σ) (by decide +kernel) (Nat.le_of_ble_eq_true rfl) hf ⟨rfl, rfl⟩ (fun d hd => ?_)
  refine z_eqlv (lv' := [(0, .long x0)]) rfl ?_
  unfold f0_minutesOf
  refine z_lload_n (pc := 0) 0 dX0_minutesOf_0 rfl rfl ?_
  refine z_ldc2 (pc := 1) (v := (16777216 : Int64)) dX0_minutesOf_1 kl_RX0_20 ?_
  refine z_lrem (pc := 4) dX0_minutesOf_4 (by decide) ?_
  refine z_l2i (pc := 5) dX0_minutesOf_5 ?_
  exact z_rI dX0_minutesOf_6 rfl ⟨by decide, by decide⟩
def f0_waitsOf (x0 : Int64) : Option Int32 := some ((x0 / (16777216 : Int64)).toInt32)
theorem c0_waitsOf {l : Launch} {E : am_E} {σ : am_S} {x0 : Int64} {v : Int32} (hf : f0_waitsOf x0 = some v) : Ctr l E msC YX0_waitsOf (0) 0 0 [.long x0] σ (some (.int v)) σ := by
  refine ctr_of (G := fun u r s => r = some (.int u) ∧ s = σ) (by decide +kernel) (Nat.le_of_ble_eq_true rfl) hf ⟨rfl, rfl⟩ (fun d hd => ?_)
  refine z_eqlv (lv' := [(0, .long x0)]) rfl ?_
  unfold f0_waitsOf
  refine z_lload_n (pc := 0) 0 dX0_waitsOf_0 rfl rfl ?_
  refine z_ldc2 (pc := 1) (v := (16777216 : Int64)) dX0_waitsOf_1 kl_RX0_20 ?_
  refine z_ldiv (pc := 4) dX0_waitsOf_4 (by decide) ?_
  refine z_l2i (pc := 5) dX0_waitsOf_5 ?_
  exact z_rI dX0_waitsOf_6 rfl ⟨by decide, by decide⟩
def f1_comeBack (σ : am_S) (a0 : Nat) : Option am_S := if [1].contains (am_ci σ a0) = true then (some (sF (sF σ a0 2 (fF σ a0 4)) a0 3 (fF (sF σ a0 2 (fF σ a0 4)) a0 5))) else none
theorem c1_comeBack {l : Launch} {E : am_E} {σ : am_S} {a0 : Nat} {σ1 : am_S} (hf : f1_comeBack σ a0 = some σ1) : Ctr l E msC YX1_comeBack (0) 0 0 [.ref a0] σ none σ1 := by
  refine ctr_of (G := fun u r s => r = none ∧ s = u) (by decide +kernel) (Nat.le_of_ble_eq_true rfl) hf ⟨rfl, rfl⟩ (fun d hd => ?_)
  refine z_eqlv (lv' := [(0, .ref a0)]) rfl ?_
  unfold f1_comeBack
  refine z_aload_n (pc := 0) 0 dX1_comeBack_0 rfl rfl ?_
  refine z_aload_n (pc := 1) 0 dX1_comeBack_1 rfl rfl ?_
  refine z_guard (fun g1 => ?_)
  refine z_getIp (pc := 2) [1] dX1_comeBack_2 g1 (by decide) fr_RX1_22_p1 ?_
  refine z_putIp (pc := 5) [1] dX1_comeBack_5 g1 (by decide) fw_RX1_7_p1 ?_
  refine z_aload_n (pc := 8) 0 dX1_comeBack_8 rfl rfl ?_
  refine z_aload_n (pc := 9) 0 dX1_comeBack_9 rfl rfl ?_
  refine z_getIp (pc := 10) [1] dX1_comeBack_10 g1 (by decide) fr_RX1_25_p1 ?_
  refine z_putIp (pc := 13) [1] dX1_comeBack_13 g1 (by decide) fw_RX1_19_p1 ?_
  exact z_rVs dX1_comeBack_16 rfl ⟨by decide, by decide⟩
def f7_comeBack (σ : am_S) (a0 : Nat) : Option am_S := if [2, 3, 5, 6, 7, 9].contains (am_ci σ a0) = true then (some (sF (sF σ a0 5 (fF σ a0 7)) a0 6 (fF (sF σ a0 5 (fF σ a0 7)) a0 8))) else none
theorem c7_comeBack {l : Launch} {E : am_E} {σ : am_S} {a0 : Nat} {σ1 : am_S} (hf : f7_comeBack σ a0 = some σ1) : Ctr l E msC YX7_comeBack (0) 0 0 [.ref a0] σ none σ1 := by
  refine ctr_of (G := fun u r s => r = none ∧ s = u) (by decide +kernel) (Nat.le_of_ble_eq_true rfl) hf ⟨rfl, rfl⟩ (fun d hd => ?_)
  refine z_eqlv (lv' := [(0, .ref a0)]) rfl ?_
  unfold f7_comeBack
  refine z_aload_n (pc := 0) 0 dX7_comeBack_0 rfl rfl ?_
  refine z_aload_n (pc := 1) 0 dX7_comeBack_1 rfl rfl ?_
  refine z_guard (fun g1 => ?_)
  refine z_getIp (pc := 2) [2, 3, 5, 6, 7, 9] dX7_comeBack_2 g1 (by decide) fr_RX7_42_p235679 ?_
  refine z_putIp (pc := 5) [2, 3, 5, 6, 7, 9] dX7_comeBack_5 g1 (by decide) fw_RX7_39_p235679 ?_
  refine z_aload_n (pc := 8) 0 dX7_comeBack_8 rfl rfl ?_
  refine z_aload_n (pc := 9) 0 dX7_comeBack_9 rfl rfl ?_
  refine z_getIp (pc := 10) [2, 3, 5, 6, 7, 9] dX7_comeBack_10 g1 (by decide) fr_RX7_48_p235679 ?_
  refine z_putIp (pc := 13) [2, 3, 5, 6, 7, 9] dX7_comeBack_13 g1 (by decide) fw_RX7_45_p235679 ?_
  exact z_rVs dX7_comeBack_16 rfl ⟨by decide, by decide⟩
def f4_comeBack (σ : am_S) : Option am_S := if am_cp (0 : Int32) (0 : Int32) (100 : Int32) 100 100 = true then (some (sK σ 22 (va_cpy (fF σ 23) (fF σ 22) (0 : Int32).toNatClampNeg (0 : Int32).toNatClampNeg (100 : Int32).toNatClampNeg))) else none
theorem c4_comeBack {l : Launch} {E : am_E} {σ : am_S} {σ1 : am_S} (hf : f4_comeBack σ = some σ1) : Ctr l E msC YX4_comeBack (1) 0 0 [.ref 21] σ none σ1 := by
  refine ctr_of (G := fun u r s => r = none ∧ s = u) (by decide +kernel) (Nat.le_of_ble_eq_true rfl) hf ⟨rfl, rfl⟩ (fun d hd => ?_)
  refine z_eqlv (lv' := [(0, .ref 21)]) rfl ?_
  unfold f4_comeBack
  refine z_aload_n (pc := 0) 0 dX4_comeBack_0 rfl rfl ?_
  refine z_getQ (pc := 1) (b := 23) dX4_comeBack_1 kC21 fr_RX4_13_4 (by decide) rfl ?_
  refine z_iconst (pc := 4) (v := (0 : Int32)) dX4_comeBack_4 (by decide) ?_
  refine z_aload_n (pc := 5) 0 dX4_comeBack_5 rfl rfl ?_
  refine z_getQ (pc := 6) (b := 22) dX4_comeBack_6 kC21 fr_RX4_9_4 (by decide) rfl ?_
  refine z_iconst (pc := 9) (v := (0 : Int32)) dX4_comeBack_9 (by decide) ?_
  refine z_bipush (pc := 10) (v := (100 : Int32)) dX4_comeBack_10 (by decide) ?_
  refine z_copy (pc := 12) dX4_comeBack_12 ml_RX4_46 nat_copy st_copy in_sys (am_ar.s kC23) (am_ar.s kC22) (Nat.le_trans (by decide) hd) (Nat.le_of_ble_eq_true rfl) (fun h1 => ?_)
  exact z_rVs dX4_comeBack_15 rfl ⟨by decide, by decide⟩
def f8_isMissing (σ : am_S) (a0 : Nat) : Option Bool := if [8].contains (am_ci σ a0) = true then (if fF σ a0 0 = (-1 : Int32) then (some (true)) else (some (false))) else none
theorem c8_isMissing {l : Launch} {E : am_E} {σ : am_S} {a0 : Nat} {v : Bool} (hf : f8_isMissing σ a0 = some v) : Ctr l E msC YX8_isMissing (0) 0 0 [.ref a0] σ (some (.int (bI v))) σ := by
  refine ctr_of (G := fun u r s => r = some (.int (bI u)) ∧ s = σ) (by decide +kernel) (Nat.le_of_ble_eq_true rfl) hf ⟨rfl, rfl⟩ (fun d hd => ?_)
  refine z_eqlv (lv' := [(0, .ref a0)]) rfl ?_
  unfold f8_isMissing
  refine z_aload_n (pc := 0) 0 dX8_isMissing_0 rfl rfl ?_
  refine z_guard (fun g1 => ?_)
  refine z_getIp (pc := 1) [8] dX8_isMissing_1 g1 (by decide) fr_RX8_9_p8 ?_
  refine z_iconst (pc := 4) (v := (-1 : Int32)) dX8_isMissing_4 (by decide) ?_
  refine z_ic_ne (pc := 5) (tgt := 12) dX8_isMissing_5 (by decide) (fun h2 => ?_) (fun h2 => ?_)
  · refine z_iconst (pc := 8) (v := (1 : Int32)) dX8_isMissing_8 (by decide) ?_
    refine z_goto (pc := 9) (tgt := 13) dX8_isMissing_9 (by decide) ?_
    exact z_rB (b := true) rfl dX8_isMissing_13 rfl ⟨by decide, by decide⟩
  · refine z_iconst (pc := 12) (v := (0 : Int32)) dX8_isMissing_12 (by decide) ?_
    exact z_rB (b := false) rfl dX8_isMissing_13 rfl ⟨by decide, by decide⟩
def f8_put (σ : am_S) (a0 : Nat) (x1 : Int32) (x2 : Int32) : Option (Bool × am_S) := if [8].contains (am_ci σ a0) = true then ((f8_holds σ a0 x1 (1 : Int32)).bind fun v2 => (if v2 = true then ((am_rq σ a0 2).elim none (fun b7 => if fF σ a0 0 = 0 then (if 0 < (am_an σ b7 0) then (if am_in x1 (am_an σ b7 0) = true then (some (true, sF σ b7 x1.toNatClampNeg x2.toInt8.toInt32)) else none) else none) else (if fF σ a0 0 = (1 : Int32) then (if 0 < (am_an σ b7 0) then (if am_in x1 (am_an σ b7 0) = true then (some (true, sF σ b7 x1.toNatClampNeg x2.toInt16.toInt32)) else none) else none) else (if 0 < (am_an σ b7 0) then (if am_in x1 (am_an σ b7 0) = true then (some (true, sF σ b7 x1.toNatClampNeg x2)) else none) else none)))) else (some (false, σ)))) else none
theorem c8_put {l : Launch} {E : am_E} {σ : am_S} {a0 : Nat} {x1 : Int32} {x2 : Int32} {v : Bool} {σ1 : am_S} (hf : f8_put σ a0 x1 x2 = some (v, σ1)) : Ctr l E msC YX8_put (1) 0 0 [.ref a0, .int x1, .int x2] σ (some (.int (bI v))) σ1 := by
  refine ctr_of (G := fun u r s => r = some (.int (bI u.1)) ∧ s = u.2) (by decide +kernel) (Nat.le_of_ble_eq_true rfl) hf ⟨rfl, rfl⟩ (fun d hd => ?_)
  refine z_eqlv (lv' := [(0, .ref a0), (1, .int x1), (2, .int x2)]) rfl ?_
  unfold f8_put
  refine z_aload_n (pc := 0) 0 dX8_put_0 rfl rfl ?_
  refine z_iload_n (pc := 1) 1 dX8_put_1 rfl rfl ?_
  refine z_iconst (pc := 2) (v := (1 : Int32)) dX8_put_2 (by decide) ?_
  refine z_guard (fun g1 => ?_)
  refine z_callB (pc := 3) [.ref a0, .int x1, .int (1 : Int32)] [] rfl (lk_V (Yc := YX8_holds) (n := 2) dX8_put_3 rfl rfl (am_ob.d (am_c1 g1) (by decide)) rfl rfl np_X8_holds mh_RX8 (by decide) ml_RX8_35 im_X8_holds se_RX8_X8_holds_X8_holds in_RX8 cd_X8_holds) (Nat.le_trans (by decide) hd) ⟨by decide, by decide⟩ (Nat.le_of_ble_eq_true rfl) (am_kp.rf _) (fun v2 h4 => c8_holds h4) (fun v2 h4 => ?_)
  refine z_bz_ne (pc := 6) (tgt := 11) dX8_put_6 (by decide) (fun h5 => ?_) (fun h5 => ?_)
  · refine z_aload_n (pc := 11) 0 dX8_put_11 rfl rfl ?_
    refine z_getR (pc := 12) dX8_put_12 (am_cis_ob g1 (by decide)) (fr_RX8_13_p8 _ (am_memOf g1)).1 (fr_RX8_13_p8 _ (am_memOf g1)).2 ?_
    refine z_elim (fun e6 => z_none) (fun b7 e6 => ?_)
    refine z_iload_n (pc := 15) 1 dX8_put_15 rfl rfl ?_
    refine z_aload_n (pc := 16) 0 dX8_put_16 rfl rfl ?_
    refine z_getIp (pc := 17) [8] dX8_put_17 g1 (by decide) fr_RX8_9_p8 ?_
    refine z_if_ne (pc := 20) (tgt := 28) dX8_put_20 (by decide) (fun h8 => ?_) (fun h8 => ?_)
    · refine z_iload_n (pc := 23) 2 dX8_put_23 rfl rfl ?_
      refine z_i2b (pc := 24) dX8_put_24 ?_
      refine z_goto (pc := 25) (tgt := 42) dX8_put_25 (by decide) ?_
      refine z_guard (fun g9 => ?_)
      refine z_iast (pc := 42) dX8_put_42 (am_ar.d (Nat.ne_of_gt g9)) (fun h10 => ?_)
      refine z_iconst (pc := 43) (v := (1 : Int32)) dX8_put_43 (by decide) ?_
      exact z_rBs (b := true) rfl dX8_put_44 rfl ⟨by decide, by decide⟩
    · refine z_aload_n (pc := 28) 0 dX8_put_28 rfl rfl ?_
      refine z_getIp (pc := 29) [8] dX8_put_29 g1 (by decide) fr_RX8_9_p8 ?_
      refine z_iconst (pc := 32) (v := (1 : Int32)) dX8_put_32 (by decide) ?_
      refine z_ic_ne (pc := 33) (tgt := 41) dX8_put_33 (by decide) (fun h11 => ?_) (fun h11 => ?_)
      · refine z_iload_n (pc := 36) 2 dX8_put_36 rfl rfl ?_
        refine z_i2s (pc := 37) dX8_put_37 ?_
        refine z_goto (pc := 38) (tgt := 42) dX8_put_38 (by decide) ?_
        refine z_guard (fun g12 => ?_)
        refine z_iast (pc := 42) dX8_put_42 (am_ar.d (Nat.ne_of_gt g12)) (fun h13 => ?_)
        refine z_iconst (pc := 43) (v := (1 : Int32)) dX8_put_43 (by decide) ?_
        exact z_rBs (b := true) rfl dX8_put_44 rfl ⟨by decide, by decide⟩
      · refine z_iload_n (pc := 41) 2 dX8_put_41 rfl rfl ?_
        refine z_guard (fun g14 => ?_)
        refine z_iast (pc := 42) dX8_put_42 (am_ar.d (Nat.ne_of_gt g14)) (fun h15 => ?_)
        refine z_iconst (pc := 43) (v := (1 : Int32)) dX8_put_43 (by decide) ?_
        exact z_rBs (b := true) rfl dX8_put_44 rfl ⟨by decide, by decide⟩
  · refine z_iconst (pc := 9) (v := (0 : Int32)) dX8_put_9 (by decide) ?_
    exact z_rBs (b := false) rfl dX8_put_10 rfl ⟨by decide, by decide⟩
def f4_areTwo (x0 : Int32) : Option Bool := if x0 < 0 then (some (false)) else (if (100 : Int32) ≤ x0 then (some (false)) else (if x0 / (10 : Int32) = x0 - x0 / (10 : Int32) * (10 : Int32) then (some (false)) else (some (true))))
theorem c4_areTwo {l : Launch} {E : am_E} {σ : am_S} {x0 : Int32} {v : Bool} (hf : f4_areTwo x0 = some v) : Ctr l E msC YX4_areTwo (0) 0 0 [.int x0] σ (some (.int (bI v))) σ := by
  refine ctr_of (G := fun u r s => r = some (.int (bI u)) ∧ s = σ) (by decide +kernel) (Nat.le_of_ble_eq_true rfl) hf ⟨rfl, rfl⟩ (fun d hd => ?_)
  refine z_eqlv (lv' := [(0, .int x0)]) rfl ?_
  unfold f4_areTwo
  refine z_iload_n (pc := 0) 0 dX4_areTwo_0 rfl rfl ?_
  refine z_if_lt (pc := 1) (tgt := 25) dX4_areTwo_1 (by decide) (fun h1 => ?_) (fun h1 => ?_)
  · refine z_iconst (pc := 25) (v := (0 : Int32)) dX4_areTwo_25 (by decide) ?_
    exact z_rB (b := false) rfl dX4_areTwo_26 rfl ⟨by decide, by decide⟩
  · refine z_iload_n (pc := 4) 0 dX4_areTwo_4 rfl rfl ?_
    refine z_bipush (pc := 5) (v := (100 : Int32)) dX4_areTwo_5 (by decide) ?_
    refine z_ic_ge (pc := 7) (tgt := 25) dX4_areTwo_7 (by decide) (fun h2 => ?_) (fun h2 => ?_)
    · refine z_iconst (pc := 25) (v := (0 : Int32)) dX4_areTwo_25 (by decide) ?_
      exact z_rB (b := false) rfl dX4_areTwo_26 rfl ⟨by decide, by decide⟩
    · refine z_iload_n (pc := 10) 0 dX4_areTwo_10 rfl rfl ?_
      refine z_bipush (pc := 11) (v := (10 : Int32)) dX4_areTwo_11 (by decide) ?_
      refine z_idiv (pc := 13) dX4_areTwo_13 (by decide) ?_
      refine z_iload_n (pc := 14) 0 dX4_areTwo_14 rfl rfl ?_
      refine z_bipush (pc := 15) (v := (10 : Int32)) dX4_areTwo_15 (by decide) ?_
      refine z_irem (pc := 17) dX4_areTwo_17 (by decide) ?_
      refine z_ic_eq (pc := 18) (tgt := 25) dX4_areTwo_18 (by decide) (fun h3 => ?_) (fun h3 => ?_)
      · refine z_iconst (pc := 25) (v := (0 : Int32)) dX4_areTwo_25 (by decide) ?_
        exact z_rB (b := false) rfl dX4_areTwo_26 rfl ⟨by decide, by decide⟩
      · refine z_iconst (pc := 21) (v := (1 : Int32)) dX4_areTwo_21 (by decide) ?_
        refine z_goto (pc := 22) (tgt := 26) dX4_areTwo_22 (by decide) ?_
        exact z_rB (b := true) rfl dX4_areTwo_26 rfl ⟨by decide, by decide⟩
def f1_init (σ : am_S) (a0 : Nat) (x1 : Int32) (x2 : Int32) : Option am_S := if [1].contains (am_ci σ a0) = true then (some (sF (sF (sF σ a0 2 (1 : Int32)) a0 0 x1) a0 1 x2)) else none
theorem c1_init {l : Launch} {E : am_E} {σ : am_S} {a0 : Nat} {x1 : Int32} {x2 : Int32} {σ1 : am_S} (hf : f1_init σ a0 x1 x2 = some σ1) : Ctr l E msC YX1_init (1) 0 0 [.ref a0, .int x1, .int x2] σ none σ1 := by
  refine ctr_of (G := fun u r s => r = none ∧ s = u) (by decide +kernel) (Nat.le_of_ble_eq_true rfl) hf ⟨rfl, rfl⟩ (fun d hd => ?_)
  refine z_eqlv (lv' := [(0, .ref a0), (1, .int x1), (2, .int x2)]) rfl ?_
  unfold f1_init
  refine z_aload_n (pc := 0) 0 dX1_init_0 rfl rfl ?_
  refine z_objInit (pc := 1) dX1_init_1 ml_RX1_1 im_objInit cd_objInit (Nat.le_trans (by decide) hd) (Nat.le_of_ble_eq_true rfl) ?_
  refine z_aload_n (pc := 4) 0 dX1_init_4 rfl rfl ?_
  refine z_iconst (pc := 5) (v := (1 : Int32)) dX1_init_5 (by decide) ?_
  refine z_guard (fun g1 => ?_)
  refine z_putIp (pc := 6) [1] dX1_init_6 g1 (by decide) fw_RX1_7_p1 ?_
  refine z_aload_n (pc := 9) 0 dX1_init_9 rfl rfl ?_
  refine z_iload_n (pc := 10) 1 dX1_init_10 rfl rfl ?_
  refine z_putFIp (pc := 11) [1] dX1_init_11 rfl g1 (by decide) ff_RX1_13_p1 ?_
  refine z_aload_n (pc := 14) 0 dX1_init_14 rfl rfl ?_
  refine z_iload_n (pc := 15) 2 dX1_init_15 rfl rfl ?_
  refine z_putFIp (pc := 16) [1] dX1_init_16 rfl g1 (by decide) ff_RX1_16_p1 ?_
  exact z_rVs dX1_init_19 rfl ⟨by decide, by decide⟩
def f7_rowsAt (σ : am_S) (a0 : Nat) (x1 : Int32) : Option Bool := if [2, 3, 5, 6, 7, 9].contains (am_ci σ a0) = true then (if fF σ a0 3 = x1 then (some (true)) else (some (false))) else none
theorem c7_rowsAt {l : Launch} {E : am_E} {σ : am_S} {a0 : Nat} {x1 : Int32} {v : Bool} (hf : f7_rowsAt σ a0 x1 = some v) : Ctr l E msC YX7_rowsAt (0) 0 0 [.ref a0, .int x1] σ (some (.int (bI v))) σ := by
  refine ctr_of (G := fun u r s => r = some (.int (bI u)) ∧ s = σ) (by decide +kernel) (Nat.le_of_ble_eq_true rfl) hf ⟨rfl, rfl⟩ (fun d hd => ?_)
  refine z_eqlv (lv' := [(0, .ref a0), (1, .int x1)]) rfl ?_
  unfold f7_rowsAt
  refine z_aload_n (pc := 0) 0 dX7_rowsAt_0 rfl rfl ?_
  refine z_guard (fun g1 => ?_)
  refine z_getIp (pc := 1) [2, 3, 5, 6, 7, 9] dX7_rowsAt_1 g1 (by decide) fr_RX7_19_p235679 ?_
  refine z_iload_n (pc := 4) 1 dX7_rowsAt_4 rfl rfl ?_
  refine z_ic_ne (pc := 5) (tgt := 12) dX7_rowsAt_5 (by decide) (fun h2 => ?_) (fun h2 => ?_)
  · refine z_iconst (pc := 8) (v := (1 : Int32)) dX7_rowsAt_8 (by decide) ?_
    refine z_goto (pc := 9) (tgt := 13) dX7_rowsAt_9 (by decide) ?_
    exact z_rB (b := true) rfl dX7_rowsAt_13 rfl ⟨by decide, by decide⟩
  · refine z_iconst (pc := 12) (v := (0 : Int32)) dX7_rowsAt_12 (by decide) ?_
    exact z_rB (b := false) rfl dX7_rowsAt_13 rfl ⟨by decide, by decide⟩
def f9_rowsAt (σ : am_S) (a0 : Nat) (x1 : Int32) : Option Bool := some (true)
theorem c9_rowsAt {l : Launch} {E : am_E} {σ : am_S} {a0 : Nat} {x1 : Int32} {v : Bool} (hf : f9_rowsAt σ a0 x1 = some v) : Ctr l E msC YX9_rowsAt (0) 0 0 [.ref a0, .int x1] σ (some (.int (bI v))) σ := by
  refine ctr_of (G := fun u r s => r = some (.int (bI u)) ∧ s = σ) (by decide +kernel) (Nat.le_of_ble_eq_true rfl) hf ⟨rfl, rfl⟩ (fun d hd => ?_)
  refine z_eqlv (lv' := [(0, .ref a0), (1, .int x1)]) rfl ?_
  unfold f9_rowsAt
  refine z_iconst (pc := 0) (v := (1 : Int32)) dX9_rowsAt_0 (by decide) ?_
  exact z_rB (b := true) rfl dX9_rowsAt_1 rfl ⟨by decide, by decide⟩
def f7_isIll (σ : am_S) (a0 : Nat) : Option Bool := if [2, 3, 5, 6, 7, 9].contains (am_ci σ a0) = true then (if fF σ a0 5 = 0 then (some (false)) else (some (true))) else none
theorem c7_isIll {l : Launch} {E : am_E} {σ : am_S} {a0 : Nat} {v : Bool} (hf : f7_isIll σ a0 = some v) : Ctr l E msC YX7_isIll (0) 0 0 [.ref a0] σ (some (.int (bI v))) σ := by
  refine ctr_of (G := fun u r s => r = some (.int (bI u)) ∧ s = σ) (by decide +kernel) (Nat.le_of_ble_eq_true rfl) hf ⟨rfl, rfl⟩ (fun d hd => ?_)
  refine z_eqlv (lv' := [(0, .ref a0)]) rfl ?_
  unfold f7_isIll
  refine z_aload_n (pc := 0) 0 dX7_isIll_0 rfl rfl ?_
  refine z_guard (fun g1 => ?_)
  refine z_getIp (pc := 1) [2, 3, 5, 6, 7, 9] dX7_isIll_1 g1 (by decide) fr_RX7_39_p235679 ?_
  refine z_if_eq (pc := 4) (tgt := 11) dX7_isIll_4 (by decide) (fun h2 => ?_) (fun h2 => ?_)
  · refine z_iconst (pc := 11) (v := (0 : Int32)) dX7_isIll_11 (by decide) ?_
    exact z_rB (b := false) rfl dX7_isIll_12 rfl ⟨by decide, by decide⟩
  · refine z_iconst (pc := 7) (v := (1 : Int32)) dX7_isIll_7 (by decide) ?_
    refine z_goto (pc := 8) (tgt := 12) dX7_isIll_8 (by decide) ?_
    exact z_rB (b := true) rfl dX7_isIll_12 rfl ⟨by decide, by decide⟩
def f7_may (σ : am_S) (a0 : Nat) (x1 : Int32) : Option Bool := if x1 < (6 : Int32) then (some (false)) else (if (22 : Int32) ≤ x1 then (some (false)) else (if [2, 3, 5, 6, 7, 9].contains (am_ci σ a0) = true then ((f7_isIll σ a0).bind fun v4 => (if v4 = true then (some (false)) else (some (true)))) else none))
theorem c7_may {l : Launch} {E : am_E} {σ : am_S} {a0 : Nat} {x1 : Int32} {v : Bool} (hf : f7_may σ a0 x1 = some v) : Ctr l E msC YX7_may (1) 0 0 [.ref a0, .int x1] σ (some (.int (bI v))) σ := by
  refine ctr_of (G := fun u r s => r = some (.int (bI u)) ∧ s = σ) (by decide +kernel) (Nat.le_of_ble_eq_true rfl) hf ⟨rfl, rfl⟩ (fun d hd => ?_)
  refine z_eqlv (lv' := [(0, .ref a0), (1, .int x1)]) rfl ?_
  unfold f7_may
  refine z_iload_n (pc := 0) 1 dX7_may_0 rfl rfl ?_
  refine z_bipush (pc := 1) (v := (6 : Int32)) dX7_may_1 (by decide) ?_
  refine z_ic_lt (pc := 3) (tgt := 23) dX7_may_3 (by decide) (fun h1 => ?_) (fun h1 => ?_)
  · refine z_iconst (pc := 23) (v := (0 : Int32)) dX7_may_23 (by decide) ?_
    exact z_rB (b := false) rfl dX7_may_24 rfl ⟨by decide, by decide⟩
  · refine z_iload_n (pc := 6) 1 dX7_may_6 rfl rfl ?_
    refine z_bipush (pc := 7) (v := (22 : Int32)) dX7_may_7 (by decide) ?_
    refine z_ic_ge (pc := 9) (tgt := 23) dX7_may_9 (by decide) (fun h2 => ?_) (fun h2 => ?_)
    · refine z_iconst (pc := 23) (v := (0 : Int32)) dX7_may_23 (by decide) ?_
      exact z_rB (b := false) rfl dX7_may_24 rfl ⟨by decide, by decide⟩
    · refine z_aload_n (pc := 12) 0 dX7_may_12 rfl rfl ?_
      refine z_guard (fun g3 => ?_)
      refine z_callDB (pc := 13) [.ref a0] [] rfl ⟨by decide, by decide⟩ (Nat.le_of_ble_eq_true rfl) (fun v hv => by
    rcases am_cs6 g3 with hc | hc | hc | hc | hc | hc
    · exact ⟨_, _, lk_U (Yc := YX7_isIll) (n := 0) (x := yX7_isIll) RX7 dX7_may_13 rfl rfl (am_ob.d hc (by decide)) rfl rfl np_X7_isIll mh_RX7 (by decide) ml_RX7_35 sm_X7_isIll_RX7 se_RX2_X7_isIll_X7_isIll im_X7_isIll in_RX7 cd_X7_isIll, (Nat.le_trans (by decide) hd), c7_isIll hv⟩
    · exact ⟨_, _, lk_U (Yc := YX7_isIll) (n := 0) (x := yX7_isIll) RX7 dX7_may_13 rfl rfl (am_ob.d hc (by decide)) rfl rfl np_X7_isIll mh_RX7 (by decide) ml_RX7_35 sm_X7_isIll_RX7 se_RX3_X7_isIll_X7_isIll im_X7_isIll in_RX7 cd_X7_isIll, (Nat.le_trans (by decide) hd), c7_isIll hv⟩
    · exact ⟨_, _, lk_U (Yc := YX7_isIll) (n := 0) (x := yX7_isIll) RX7 dX7_may_13 rfl rfl (am_ob.d hc (by decide)) rfl rfl np_X7_isIll mh_RX7 (by decide) ml_RX7_35 sm_X7_isIll_RX7 se_RX5_X7_isIll_X7_isIll im_X7_isIll in_RX7 cd_X7_isIll, (Nat.le_trans (by decide) hd), c7_isIll hv⟩
    · exact ⟨_, _, lk_U (Yc := YX7_isIll) (n := 0) (x := yX7_isIll) RX7 dX7_may_13 rfl rfl (am_ob.d hc (by decide)) rfl rfl np_X7_isIll mh_RX7 (by decide) ml_RX7_35 sm_X7_isIll_RX7 se_RX6_X7_isIll_X7_isIll im_X7_isIll in_RX7 cd_X7_isIll, (Nat.le_trans (by decide) hd), c7_isIll hv⟩
    · exact ⟨_, _, lk_V (Yc := YX7_isIll) (n := 0) dX7_may_13 rfl rfl (am_ob.d hc (by decide)) rfl rfl np_X7_isIll mh_RX7 (by decide) ml_RX7_35 im_X7_isIll se_RX7_X7_isIll_X7_isIll in_RX7 cd_X7_isIll, (Nat.le_trans (by decide) hd), c7_isIll hv⟩
    · exact ⟨_, _, lk_U (Yc := YX7_isIll) (n := 0) (x := yX7_isIll) RX7 dX7_may_13 rfl rfl (am_ob.d hc (by decide)) rfl rfl np_X7_isIll mh_RX7 (by decide) ml_RX7_35 sm_X7_isIll_RX7 se_RX9_X7_isIll_X7_isIll im_X7_isIll in_RX7 cd_X7_isIll, (Nat.le_trans (by decide) hd), c7_isIll hv⟩) (fun v4 h6 => ?_)
      refine z_bz_ne (pc := 16) (tgt := 23) dX7_may_16 (by decide) (fun h7 => ?_) (fun h7 => ?_)
      · refine z_iconst (pc := 23) (v := (0 : Int32)) dX7_may_23 (by decide) ?_
        exact z_rB (b := false) rfl dX7_may_24 rfl ⟨by decide, by decide⟩
      · refine z_iconst (pc := 19) (v := (1 : Int32)) dX7_may_19 (by decide) ?_
        refine z_goto (pc := 20) (tgt := 24) dX7_may_20 (by decide) ?_
        exact z_rB (b := true) rfl dX7_may_24 rfl ⟨by decide, by decide⟩
def f6_may (σ : am_S) (a0 : Nat) (x1 : Int32) : Option Bool := if [2, 6].contains (am_ci σ a0) = true then ((f7_may σ a0 x1).bind fun v2 => (if v2 = true then (if x1 - x1 / (2 : Int32) * (2 : Int32) = 0 then (some (true)) else (if fF σ a0 2 ≤ (4 : Int32) then (some (false)) else (some (true)))) else (some (false)))) else none
theorem c6_may {l : Launch} {E : am_E} {σ : am_S} {a0 : Nat} {x1 : Int32} {v : Bool} (hf : f6_may σ a0 x1 = some v) : Ctr l E msC YX6_may (2) 0 0 [.ref a0, .int x1] σ (some (.int (bI v))) σ := by
  refine ctr_of (G := fun u r s => r = some (.int (bI u)) ∧ s = σ) (by decide +kernel) (Nat.le_of_ble_eq_true rfl) hf ⟨rfl, rfl⟩ (fun d hd => ?_)
  refine z_eqlv (lv' := [(0, .ref a0), (1, .int x1)]) rfl ?_
  unfold f6_may
  refine z_aload_n (pc := 0) 0 dX6_may_0 rfl rfl ?_
  refine z_iload_n (pc := 1) 1 dX6_may_1 rfl rfl ?_
  refine z_guard (fun g1 => ?_)
  refine z_callB (pc := 2) [.ref a0, .int x1] [] rfl (lk_SUp (Yc := YX7_may) (n := 1) [2, 6] g1 (by decide) dX6_may_2 rfl rfl (by decide) np_X7_may (by decide) ml_RX6_17 sm_X7_may_RX7 su_RX6_RX7 im_X7_may in_RX7 cd_X7_may) (Nat.le_trans (by decide) hd) ⟨by decide, by decide⟩ (Nat.le_of_ble_eq_true rfl) (am_kp.rf _) (fun v2 h4 => c7_may h4) (fun v2 h4 => ?_)
  refine z_bz_eq (pc := 5) (tgt := 26) dX6_may_5 (by decide) (fun h5 => ?_) (fun h5 => ?_)
  · refine z_iload_n (pc := 8) 1 dX6_may_8 rfl rfl ?_
    refine z_iconst (pc := 9) (v := (2 : Int32)) dX6_may_9 (by decide) ?_
    refine z_irem (pc := 10) dX6_may_10 (by decide) ?_
    refine z_if_eq (pc := 11) (tgt := 22) dX6_may_11 (by decide) (fun h6 => ?_) (fun h6 => ?_)
    · refine z_iconst (pc := 22) (v := (1 : Int32)) dX6_may_22 (by decide) ?_
      refine z_goto (pc := 23) (tgt := 27) dX6_may_23 (by decide) ?_
      exact z_rB (b := true) rfl dX6_may_27 rfl ⟨by decide, by decide⟩
    · refine z_aload_n (pc := 14) 0 dX6_may_14 rfl rfl ?_
      refine z_getIp (pc := 15) [2, 6] dX6_may_15 g1 (by decide) fr_RX6_21_p26 ?_
      refine z_iconst (pc := 18) (v := (4 : Int32)) dX6_may_18 (by decide) ?_
      refine z_ic_le (pc := 19) (tgt := 26) dX6_may_19 (by decide) (fun h7 => ?_) (fun h7 => ?_)
      · refine z_iconst (pc := 26) (v := (0 : Int32)) dX6_may_26 (by decide) ?_
        exact z_rB (b := false) rfl dX6_may_27 rfl ⟨by decide, by decide⟩
      · refine z_iconst (pc := 22) (v := (1 : Int32)) dX6_may_22 (by decide) ?_
        refine z_goto (pc := 23) (tgt := 27) dX6_may_23 (by decide) ?_
        exact z_rB (b := true) rfl dX6_may_27 rfl ⟨by decide, by decide⟩
  · refine z_iconst (pc := 26) (v := (0 : Int32)) dX6_may_26 (by decide) ?_
    exact z_rB (b := false) rfl dX6_may_27 rfl ⟨by decide, by decide⟩
def f2_may (σ : am_S) (a0 : Nat) (x1 : Int32) : Option Bool := if [2].contains (am_ci σ a0) = true then ((f6_may σ a0 x1).bind fun v2 => (if v2 = true then (if (14 : Int32) ≤ x1 then (some (false)) else (some (true))) else (some (false)))) else none
theorem c2_may {l : Launch} {E : am_E} {σ : am_S} {a0 : Nat} {x1 : Int32} {v : Bool} (hf : f2_may σ a0 x1 = some v) : Ctr l E msC YX2_may (3) 0 0 [.ref a0, .int x1] σ (some (.int (bI v))) σ := by
  refine ctr_of (G := fun u r s => r = some (.int (bI u)) ∧ s = σ) (by decide +kernel) (Nat.le_of_ble_eq_true rfl) hf ⟨rfl, rfl⟩ (fun d hd => ?_)
  refine z_eqlv (lv' := [(0, .ref a0), (1, .int x1)]) rfl ?_
  unfold f2_may
  refine z_aload_n (pc := 0) 0 dX2_may_0 rfl rfl ?_
  refine z_iload_n (pc := 1) 1 dX2_may_1 rfl rfl ?_
  refine z_guard (fun g1 => ?_)
  refine z_callB (pc := 2) [.ref a0, .int x1] [] rfl (lk_SUp (Yc := YX6_may) (n := 1) [2] g1 (by decide) dX2_may_2 rfl rfl (by decide) np_X6_may (by decide) ml_RX2_11 sm_X6_may_RX6 su_RX2_RX6 im_X6_may in_RX6 cd_X6_may) (Nat.le_trans (by decide) hd) ⟨by decide, by decide⟩ (Nat.le_of_ble_eq_true rfl) (am_kp.rf _) (fun v2 h4 => c6_may h4) (fun v2 h4 => ?_)
  refine z_bz_eq (pc := 5) (tgt := 18) dX2_may_5 (by decide) (fun h5 => ?_) (fun h5 => ?_)
  · refine z_iload_n (pc := 8) 1 dX2_may_8 rfl rfl ?_
    refine z_bipush (pc := 9) (v := (14 : Int32)) dX2_may_9 (by decide) ?_
    refine z_ic_ge (pc := 11) (tgt := 18) dX2_may_11 (by decide) (fun h6 => ?_) (fun h6 => ?_)
    · refine z_iconst (pc := 18) (v := (0 : Int32)) dX2_may_18 (by decide) ?_
      exact z_rB (b := false) rfl dX2_may_19 rfl ⟨by decide, by decide⟩
    · refine z_iconst (pc := 14) (v := (1 : Int32)) dX2_may_14 (by decide) ?_
      refine z_goto (pc := 15) (tgt := 19) dX2_may_15 (by decide) ?_
      exact z_rB (b := true) rfl dX2_may_19 rfl ⟨by decide, by decide⟩
  · refine z_iconst (pc := 18) (v := (0 : Int32)) dX2_may_18 (by decide) ?_
    exact z_rB (b := false) rfl dX2_may_19 rfl ⟨by decide, by decide⟩
def f3_may (σ : am_S) (a0 : Nat) (x1 : Int32) : Option Bool := if [3, 5].contains (am_ci σ a0) = true then ((f7_may σ a0 x1).bind fun v2 => (if v2 = true then (if fF σ a0 1 ≤ (15 : Int32) then (some (false)) else (some (true))) else (some (false)))) else none
theorem c3_may {l : Launch} {E : am_E} {σ : am_S} {a0 : Nat} {x1 : Int32} {v : Bool} (hf : f3_may σ a0 x1 = some v) : Ctr l E msC YX3_may (2) 0 0 [.ref a0, .int x1] σ (some (.int (bI v))) σ := by
  refine ctr_of (G := fun u r s => r = some (.int (bI u)) ∧ s = σ) (by decide +kernel) (Nat.le_of_ble_eq_true rfl) hf ⟨rfl, rfl⟩ (fun d hd => ?_)
  refine z_eqlv (lv' := [(0, .ref a0), (1, .int x1)]) rfl ?_
  unfold f3_may
  refine z_aload_n (pc := 0) 0 dX3_may_0 rfl rfl ?_
  refine z_iload_n (pc := 1) 1 dX3_may_1 rfl rfl ?_
  refine z_guard (fun g1 => ?_)
  refine z_callB (pc := 2) [.ref a0, .int x1] [] rfl (lk_SUp (Yc := YX7_may) (n := 1) [3, 5] g1 (by decide) dX3_may_2 rfl rfl (by decide) np_X7_may (by decide) ml_RX3_11 sm_X7_may_RX7 su_RX3_RX7 im_X7_may in_RX7 cd_X7_may) (Nat.le_trans (by decide) hd) ⟨by decide, by decide⟩ (Nat.le_of_ble_eq_true rfl) (am_kp.rf _) (fun v2 h4 => c7_may h4) (fun v2 h4 => ?_)
  refine z_bz_eq (pc := 5) (tgt := 21) dX3_may_5 (by decide) (fun h5 => ?_) (fun h5 => ?_)
  · refine z_aload_n (pc := 8) 0 dX3_may_8 rfl rfl ?_
    refine z_getIp (pc := 9) [3, 5] dX3_may_9 g1 (by decide) fr_RX3_15_p35 ?_
    refine z_bipush (pc := 12) (v := (15 : Int32)) dX3_may_12 (by decide) ?_
    refine z_ic_le (pc := 14) (tgt := 21) dX3_may_14 (by decide) (fun h6 => ?_) (fun h6 => ?_)
    · refine z_iconst (pc := 21) (v := (0 : Int32)) dX3_may_21 (by decide) ?_
      exact z_rB (b := false) rfl dX3_may_22 rfl ⟨by decide, by decide⟩
    · refine z_iconst (pc := 17) (v := (1 : Int32)) dX3_may_17 (by decide) ?_
      refine z_goto (pc := 18) (tgt := 22) dX3_may_18 (by decide) ?_
      exact z_rB (b := true) rfl dX3_may_22 rfl ⟨by decide, by decide⟩
  · refine z_iconst (pc := 21) (v := (0 : Int32)) dX3_may_21 (by decide) ?_
    exact z_rB (b := false) rfl dX3_may_22 rfl ⟨by decide, by decide⟩
def f5_may (σ : am_S) (a0 : Nat) (x1 : Int32) : Option Bool := if [5].contains (am_ci σ a0) = true then ((f3_may σ a0 x1).bind fun v2 => (if v2 = true then (some (true)) else (if x1 = fF σ a0 2 then ((f7_isIll σ a0).bind fun v7 => (if v7 = true then (some (false)) else (some (true)))) else (some (false))))) else none
theorem c5_may {l : Launch} {E : am_E} {σ : am_S} {a0 : Nat} {x1 : Int32} {v : Bool} (hf : f5_may σ a0 x1 = some v) : Ctr l E msC YX5_may (3) 0 0 [.ref a0, .int x1] σ (some (.int (bI v))) σ := by
  refine ctr_of (G := fun u r s => r = some (.int (bI u)) ∧ s = σ) (by decide +kernel) (Nat.le_of_ble_eq_true rfl) hf ⟨rfl, rfl⟩ (fun d hd => ?_)
  refine z_eqlv (lv' := [(0, .ref a0), (1, .int x1)]) rfl ?_
  unfold f5_may
  refine z_aload_n (pc := 0) 0 dX5_may_0 rfl rfl ?_
  refine z_iload_n (pc := 1) 1 dX5_may_1 rfl rfl ?_
  refine z_guard (fun g1 => ?_)
  refine z_callB (pc := 2) [.ref a0, .int x1] [] rfl (lk_SUp (Yc := YX3_may) (n := 1) [5] g1 (by decide) dX5_may_2 rfl rfl (by decide) np_X3_may (by decide) ml_RX5_17 sm_X3_may_RX3 su_RX5_RX3 im_X3_may in_RX3 cd_X3_may) (Nat.le_trans (by decide) hd) ⟨by decide, by decide⟩ (Nat.le_of_ble_eq_true rfl) (am_kp.rf _) (fun v2 h4 => c3_may h4) (fun v2 h4 => ?_)
  refine z_bz_ne (pc := 5) (tgt := 23) dX5_may_5 (by decide) (fun h5 => ?_) (fun h5 => ?_)
  · refine z_iconst (pc := 23) (v := (1 : Int32)) dX5_may_23 (by decide) ?_
    refine z_goto (pc := 24) (tgt := 28) dX5_may_24 (by decide) ?_
    exact z_rB (b := true) rfl dX5_may_28 rfl ⟨by decide, by decide⟩
  · refine z_iload_n (pc := 8) 1 dX5_may_8 rfl rfl ?_
    refine z_aload_n (pc := 9) 0 dX5_may_9 rfl rfl ?_
    refine z_getIp (pc := 10) [5] dX5_may_10 g1 (by decide) fr_RX5_11_p5 ?_
    refine z_ic_ne (pc := 13) (tgt := 27) dX5_may_13 (by decide) (fun h6 => ?_) (fun h6 => ?_)
    · refine z_aload_n (pc := 16) 0 dX5_may_16 rfl rfl ?_
      refine z_callB (pc := 17) [.ref a0] [] rfl (lk_U (Yc := YX7_isIll) (n := 0) (x := (⟨RX5, "isIll", "()Z"⟩ : MethodName)) RX7 dX5_may_17 rfl rfl (am_ob.d (am_c1 g1) (by decide)) rfl rfl np_X7_isIll mh_RX7 (by decide) ml_RX5_21 sm_RX5_isIll_RX7 se_RX5_RX5_isIll_X7_isIll im_X7_isIll in_RX7 cd_X7_isIll) (Nat.le_trans (by decide) hd) ⟨by decide, by decide⟩ (Nat.le_of_ble_eq_true rfl) (am_kp.rf _) (fun v7 h9 => c7_isIll h9) (fun v7 h9 => ?_)
      refine z_bz_ne (pc := 20) (tgt := 27) dX5_may_20 (by decide) (fun h10 => ?_) (fun h10 => ?_)
      · refine z_iconst (pc := 27) (v := (0 : Int32)) dX5_may_27 (by decide) ?_
        exact z_rB (b := false) rfl dX5_may_28 rfl ⟨by decide, by decide⟩
      · refine z_iconst (pc := 23) (v := (1 : Int32)) dX5_may_23 (by decide) ?_
        refine z_goto (pc := 24) (tgt := 28) dX5_may_24 (by decide) ?_
        exact z_rB (b := true) rfl dX5_may_28 rfl ⟨by decide, by decide⟩
    · refine z_iconst (pc := 27) (v := (0 : Int32)) dX5_may_27 (by decide) ?_
      exact z_rB (b := false) rfl dX5_may_28 rfl ⟨by decide, by decide⟩
def f9_may (σ : am_S) (a0 : Nat) (x1 : Int32) : Option Bool := if [9].contains (am_ci σ a0) = true then ((f7_may σ a0 x1).bind fun v2 => (if v2 = true then (some (true)) else ((f7_isIll σ a0).bind fun v6 => (if v6 = true then (some (false)) else (if x1 < (22 : Int32) then (some (false)) else (some (true))))))) else none
theorem c9_may {l : Launch} {E : am_E} {σ : am_S} {a0 : Nat} {x1 : Int32} {v : Bool} (hf : f9_may σ a0 x1 = some v) : Ctr l E msC YX9_may (2) 0 0 [.ref a0, .int x1] σ (some (.int (bI v))) σ := by
  refine ctr_of (G := fun u r s => r = some (.int (bI u)) ∧ s = σ) (by decide +kernel) (Nat.le_of_ble_eq_true rfl) hf ⟨rfl, rfl⟩ (fun d hd => ?_)
  refine z_eqlv (lv' := [(0, .ref a0), (1, .int x1)]) rfl ?_
  unfold f9_may
  refine z_aload_n (pc := 0) 0 dX9_may_0 rfl rfl ?_
  refine z_iload_n (pc := 1) 1 dX9_may_1 rfl rfl ?_
  refine z_guard (fun g1 => ?_)
  refine z_callB (pc := 2) [.ref a0, .int x1] [] rfl (lk_SUp (Yc := YX7_may) (n := 1) [9] g1 (by decide) dX9_may_2 rfl rfl (by decide) np_X7_may (by decide) ml_RX9_11 sm_X7_may_RX7 su_RX9_RX7 im_X7_may in_RX7 cd_X7_may) (Nat.le_trans (by decide) hd) ⟨by decide, by decide⟩ (Nat.le_of_ble_eq_true rfl) (am_kp.rf _) (fun v2 h4 => c7_may h4) (fun v2 h4 => ?_)
  refine z_bz_ne (pc := 5) (tgt := 21) dX9_may_5 (by decide) (fun h5 => ?_) (fun h5 => ?_)
  · refine z_iconst (pc := 21) (v := (1 : Int32)) dX9_may_21 (by decide) ?_
    refine z_goto (pc := 22) (tgt := 26) dX9_may_22 (by decide) ?_
    exact z_rB (b := true) rfl dX9_may_26 rfl ⟨by decide, by decide⟩
  · refine z_aload_n (pc := 8) 0 dX9_may_8 rfl rfl ?_
    refine z_callB (pc := 9) [.ref a0] [] rfl (lk_U (Yc := YX7_isIll) (n := 0) (x := (⟨RX9, "isIll", "()Z"⟩ : MethodName)) RX7 dX9_may_9 rfl rfl (am_ob.d (am_c1 g1) (by decide)) rfl rfl np_X7_isIll mh_RX7 (by decide) ml_RX9_15 sm_RX9_isIll_RX7 se_RX9_RX9_isIll_X7_isIll im_X7_isIll in_RX7 cd_X7_isIll) (Nat.le_trans (by decide) hd) ⟨by decide, by decide⟩ (Nat.le_of_ble_eq_true rfl) (am_kp.rf _) (fun v6 h8 => c7_isIll h8) (fun v6 h8 => ?_)
    refine z_bz_ne (pc := 12) (tgt := 25) dX9_may_12 (by decide) (fun h9 => ?_) (fun h9 => ?_)
    · refine z_iconst (pc := 25) (v := (0 : Int32)) dX9_may_25 (by decide) ?_
      exact z_rB (b := false) rfl dX9_may_26 rfl ⟨by decide, by decide⟩
    · refine z_iload_n (pc := 15) 1 dX9_may_15 rfl rfl ?_
      refine z_bipush (pc := 16) (v := (22 : Int32)) dX9_may_16 (by decide) ?_
      refine z_ic_lt (pc := 18) (tgt := 25) dX9_may_18 (by decide) (fun h10 => ?_) (fun h10 => ?_)
      · refine z_iconst (pc := 25) (v := (0 : Int32)) dX9_may_25 (by decide) ?_
        exact z_rB (b := false) rfl dX9_may_26 rfl ⟨by decide, by decide⟩
      · refine z_iconst (pc := 21) (v := (1 : Int32)) dX9_may_21 (by decide) ?_
        refine z_goto (pc := 22) (tgt := 26) dX9_may_22 (by decide) ?_
        exact z_rB (b := true) rfl dX9_may_26 rfl ⟨by decide, by decide⟩
def f4_turned (x0 : Int32) : Option Int32 := some (((x0 - x0 / (10 : Int32) * (10 : Int32)) * (10 : Int32)) + (x0 / (10 : Int32)))
theorem c4_turned {l : Launch} {E : am_E} {σ : am_S} {x0 : Int32} {v : Int32} (hf : f4_turned x0 = some v) : Ctr l E msC YX4_turned (0) 0 0 [.int x0] σ (some (.int v)) σ := by
  refine ctr_of (G := fun u r s => r = some (.int u) ∧ s = σ) (by decide +kernel) (Nat.le_of_ble_eq_true rfl) hf ⟨rfl, rfl⟩ (fun d hd => ?_)
  refine z_eqlv (lv' := [(0, .int x0)]) rfl ?_
  unfold f4_turned
  refine z_iload_n (pc := 0) 0 dX4_turned_0 rfl rfl ?_
  refine z_bipush (pc := 1) (v := (10 : Int32)) dX4_turned_1 (by decide) ?_
  refine z_irem (pc := 3) dX4_turned_3 (by decide) ?_
  refine z_bipush (pc := 4) (v := (10 : Int32)) dX4_turned_4 (by decide) ?_
  refine z_imul (pc := 6) dX4_turned_6 ?_
  refine z_iload_n (pc := 7) 0 dX4_turned_7 rfl rfl ?_
  refine z_bipush (pc := 8) (v := (10 : Int32)) dX4_turned_8 (by decide) ?_
  refine z_idiv (pc := 10) dX4_turned_10 (by decide) ?_
  refine z_iadd (pc := 11) dX4_turned_11 ?_
  exact z_rI dX4_turned_12 rfl ⟨by decide, by decide⟩
def f4_measure_J191 (k126 : Nat → Int32 → am_S → Option am_S) (N : Nat) (a1 : Nat) (x4 : Int32) (σ : am_S) : Option am_S := k126 a1 (x4 + (1 : Int32)) σ
theorem z4_measure_J191 {l : Launch} {E : am_E} {d : Nat} {σ0 : am_S} {N : Nat} (hd : 1 ≤ d) {k126 : Nat → Int32 → am_S → Option am_S} (hk126 : ∀ (a1 : Nat) (x4 : Int32) (σ : am_S), Z l E msC σ0 YX4_measure d 0 0 126 [(1, .ref a1), (4, .int x4)] [] 0 0 σ (k126 a1 x4 σ) (fun u r s => r = none ∧ s = u)) (a1 : Nat) (x4 : Int32) (σ : am_S) : Z l E msC σ0 YX4_measure d 0 0 191 [(1, .ref a1), (4, .int x4)] [] 0 0 σ (f4_measure_J191 k126 N a1 x4 σ) (fun u r s => r = none ∧ s = u) := by
  unfold f4_measure_J191
  refine z_iinc (pc := 191) (v := x4 + (1 : Int32)) (lv' := [(4, .int (x4 + (1 : Int32))), (1, .ref a1)]) 1 dX4_measure_191 rfl rfl (by decide) rfl ?_
  refine z_goto (pc := 194) (tgt := 126) dX4_measure_194 (by decide) ?_
  refine z_lv (lv' := [(1, .ref a1), (4, .int (x4 + (1 : Int32)))]) [1, 0] rfl ?_
  exact hk126 a1 (x4 + (1 : Int32)) σ
def f4_measure_L136 (k126 : Nat → Int32 → am_S → Option am_S) (N : Nat) : Nat → Nat → Int32 → Int32 → am_S → Option am_S
  | 0, _, _, _, _ => none
  | n + 1, a1, x4, x5, σ => if (100 : Int32) ≤ x5 then (f4_measure_J191 k126 N a1 x4 σ) else (if 0 < (am_an σ a1 0) then (if am_in (((x5 / (10 : Int32)) * (10 : Int32)) + x4) (am_an σ a1 0) = true then (if am_in ((x4 * (10 : Int32)) + (x5 - x5 / (10 : Int32) * (10 : Int32))) (am_an σ a1 0) = true then (if am_in x5 (am_an σ a1 0) = true then (if am_in x5 (am_an σ a1 0) = true then (f4_measure_L136 k126 N n a1 x4 (x5 + (1 : Int32)) (sF σ a1 x5.toNatClampNeg (if ((fF σ a1 (((x5 / (10 : Int32)) * (10 : Int32)) + x4).toNatClampNeg) + (fF σ a1 ((x4 * (10 : Int32)) + (x5 - x5 / (10 : Int32) * (10 : Int32))).toNatClampNeg)) < (fF σ a1 x5.toNatClampNeg) then ((fF σ a1 (((x5 / (10 : Int32)) * (10 : Int32)) + x4).toNatClampNeg) + (fF σ a1 ((x4 * (10 : Int32)) + (x5 - x5 / (10 : Int32) * (10 : Int32))).toNatClampNeg)) else (fF σ a1 x5.toNatClampNeg)))) else none) else none) else none) else none) else none)
theorem z4_measure_L136 {l : Launch} {E : am_E} {d : Nat} {σ0 : am_S} {N : Nat} (hd : 1 ≤ d) {k126 : Nat → Int32 → am_S → Option am_S} (hk126 : ∀ (a1 : Nat) (x4 : Int32) (σ : am_S), Z l E msC σ0 YX4_measure d 0 0 126 [(1, .ref a1), (4, .int x4)] [] 0 0 σ (k126 a1 x4 σ) (fun u r s => r = none ∧ s = u)) : ∀ (n : Nat) (a1 : Nat) (x4 : Int32) (x5 : Int32) (σ : am_S), Z l E msC σ0 YX4_measure d 0 0 136 [(1, .ref a1), (4, .int x4), (5, .int x5)] [] 0 0 σ (f4_measure_L136 k126 N n a1 x4 x5 σ) (fun u r s => r = none ∧ s = u) := by
  intro n
  induction n with
  | zero => intros; exact z_none
  | succ n ih =>
    intro a1 x4 x5 σ
    unfold f4_measure_L136
    refine z_iload (pc := 136) 2 dX4_measure_136 rfl ?_
    refine z_bipush (pc := 138) (v := (100 : Int32)) dX4_measure_138 (by decide) ?_
    refine z_ic_ge (pc := 140) (tgt := 191) dX4_measure_140 (by decide) (fun h4 => ?_) (fun h4 => ?_)
    · refine z_lv (lv' := [(1, .ref a1), (4, .int x4)]) [0, 1] rfl ?_
      exact z4_measure_J191 hd hk126 a1 x4 σ
    · refine z_aload_n (pc := 143) 0 dX4_measure_143 rfl rfl ?_
      refine z_iload (pc := 144) 2 dX4_measure_144 rfl ?_
      refine z_bipush (pc := 146) (v := (10 : Int32)) dX4_measure_146 (by decide) ?_
      refine z_idiv (pc := 148) dX4_measure_148 (by decide) ?_
      refine z_bipush (pc := 149) (v := (10 : Int32)) dX4_measure_149 (by decide) ?_
      refine z_imul (pc := 151) dX4_measure_151 ?_
      refine z_iload (pc := 152) 1 dX4_measure_152 rfl ?_
      refine z_iadd (pc := 154) dX4_measure_154 ?_
      refine z_guard (fun g5 => ?_)
      refine z_iald (pc := 155) dX4_measure_155 (am_ar.d (Nat.ne_of_gt g5)) (fun h6 => ?_)
      refine z_aload_n (pc := 156) 0 dX4_measure_156 rfl rfl ?_
      refine z_iload (pc := 157) 1 dX4_measure_157 rfl ?_
      refine z_bipush (pc := 159) (v := (10 : Int32)) dX4_measure_159 (by decide) ?_
      refine z_imul (pc := 161) dX4_measure_161 ?_
      refine z_iload (pc := 162) 2 dX4_measure_162 rfl ?_
      refine z_bipush (pc := 164) (v := (10 : Int32)) dX4_measure_164 (by decide) ?_
      refine z_irem (pc := 166) dX4_measure_166 (by decide) ?_
      refine z_iadd (pc := 167) dX4_measure_167 ?_
      refine z_iald (pc := 168) dX4_measure_168 (am_ar.d (Nat.ne_of_gt g5)) (fun h7 => ?_)
      refine z_iadd (pc := 169) dX4_measure_169 ?_
      refine z_istore (pc := 170) (lv' := [(6, .int ((fF σ a1 (((x5 / (10 : Int32)) * (10 : Int32)) + x4).toNatClampNeg) + (fF σ a1 ((x4 * (10 : Int32)) + (x5 - x5 / (10 : Int32) * (10 : Int32))).toNatClampNeg))), (1, .ref a1), (4, .int x4), (5, .int x5)]) dX4_measure_170 (by decide) rfl ?_
      refine z_aload_n (pc := 172) 1 dX4_measure_172 rfl rfl ?_
      refine z_iload (pc := 173) 3 dX4_measure_173 rfl ?_
      refine z_aload_n (pc := 175) 1 dX4_measure_175 rfl rfl ?_
      refine z_iload (pc := 176) 3 dX4_measure_176 rfl ?_
      refine z_iald (pc := 178) dX4_measure_178 (am_ar.d (Nat.ne_of_gt g5)) (fun h8 => ?_)
      refine z_iload (pc := 179) 0 dX4_measure_179 rfl ?_
      refine z_min (pc := 181) dX4_measure_181 ml_RX4_40 st_math_min in_math cd_math_min (Nat.le_trans (by decide) hd) (Nat.le_of_ble_eq_true rfl) ⟨by decide, by decide⟩ ?_
      refine z_iast (pc := 184) dX4_measure_184 (am_ar.d (Nat.ne_of_gt g5)) (fun h9 => ?_)
      refine z_iinc (pc := 185) (v := x5 + (1 : Int32)) (lv' := [(5, .int (x5 + (1 : Int32))), (6, .int ((fF σ a1 (((x5 / (10 : Int32)) * (10 : Int32)) + x4).toNatClampNeg) + (fF σ a1 ((x4 * (10 : Int32)) + (x5 - x5 / (10 : Int32) * (10 : Int32))).toNatClampNeg))), (1, .ref a1), (4, .int x4)]) 3 dX4_measure_185 rfl rfl (by decide) rfl ?_
      refine z_goto (pc := 188) (tgt := 136) dX4_measure_188 (by decide) ?_
      refine z_lv (lv' := [(1, .ref a1), (4, .int x4), (5, .int (x5 + (1 : Int32)))]) [2, 3, 0] rfl ?_
      exact ih a1 x4 (x5 + (1 : Int32)) (sF σ a1 x5.toNatClampNeg (if ((fF σ a1 (((x5 / (10 : Int32)) * (10 : Int32)) + x4).toNatClampNeg) + (fF σ a1 ((x4 * (10 : Int32)) + (x5 - x5 / (10 : Int32) * (10 : Int32))).toNatClampNeg)) < (fF σ a1 x5.toNatClampNeg) then ((fF σ a1 (((x5 / (10 : Int32)) * (10 : Int32)) + x4).toNatClampNeg) + (fF σ a1 ((x4 * (10 : Int32)) + (x5 - x5 / (10 : Int32) * (10 : Int32))).toNatClampNeg)) else (fF σ a1 x5.toNatClampNeg)))
def f4_measure_L126 (N : Nat) : Nat → Nat → Int32 → am_S → Option am_S
  | 0, _, _, _ => none
  | n + 1, a1, x4, σ => if (10 : Int32) ≤ x4 then (some (σ)) else (f4_measure_L136 (f4_measure_L126 N n) N N a1 x4 (0 : Int32) σ)
theorem z4_measure_L126 {l : Launch} {E : am_E} {d : Nat} {σ0 : am_S} {N : Nat} (hd : 1 ≤ d) : ∀ (n : Nat) (a1 : Nat) (x4 : Int32) (σ : am_S), Z l E msC σ0 YX4_measure d 0 0 126 [(1, .ref a1), (4, .int x4)] [] 0 0 σ (f4_measure_L126 N n a1 x4 σ) (fun u r s => r = none ∧ s = u) := by
  intro n
  induction n with
  | zero => intros; exact z_none
  | succ n ih =>
    intro a1 x4 σ
    unfold f4_measure_L126
    refine z_iload (pc := 126) 1 dX4_measure_126 rfl ?_
    refine z_bipush (pc := 128) (v := (10 : Int32)) dX4_measure_128 (by decide) ?_
    refine z_ic_ge (pc := 130) (tgt := 197) dX4_measure_130 (by decide) (fun h3 => ?_) (fun h3 => ?_)
    · exact z_rVs dX4_measure_197 rfl ⟨by decide, by decide⟩
    · refine z_iconst (pc := 133) (v := (0 : Int32)) dX4_measure_133 (by decide) ?_
      refine z_istore (pc := 134) (lv' := [(5, .int (0 : Int32)), (1, .ref a1), (4, .int x4)]) dX4_measure_134 (by decide) rfl ?_
      refine z_lv (lv' := [(1, .ref a1), (4, .int x4), (5, .int (0 : Int32))]) [1, 2, 0] rfl ?_
      exact z4_measure_L136 hd (fun a1 x4 σ => ih a1 x4 σ) N a1 x4 (0 : Int32) σ
def f4_measure_J123 (N : Nat) (a1 : Nat) (σ : am_S) : Option am_S := f4_measure_L126 N N a1 (0 : Int32) σ
theorem z4_measure_J123 {l : Launch} {E : am_E} {d : Nat} {σ0 : am_S} {N : Nat} (hd : 1 ≤ d) (a1 : Nat) (σ : am_S) : Z l E msC σ0 YX4_measure d 0 0 123 [(1, .ref a1)] [] 0 0 σ (f4_measure_J123 N a1 σ) (fun u r s => r = none ∧ s = u) := by
  unfold f4_measure_J123
  refine z_iconst (pc := 123) (v := (0 : Int32)) dX4_measure_123 (by decide) ?_
  refine z_istore (pc := 124) (lv' := [(4, .int (0 : Int32)), (1, .ref a1)]) dX4_measure_124 (by decide) rfl ?_
  refine z_lv (lv' := [(1, .ref a1), (4, .int (0 : Int32))]) [1, 0] rfl ?_
  exact z4_measure_L126 hd N a1 (0 : Int32) σ
def f4_measure_L62 (N : Nat) : Nat → Nat → Int32 → Int32 → am_S → Option am_S
  | 0, _, _, _, _ => none
  | n + 1, a1, x3, x4, σ => if x3 ≤ x4 then (f4_measure_J123 N a1 σ) else (if am_in x4 7 = true then ((fQ σ 9 x4.toNatClampNeg).elim (none) (fun a11 => if [1].contains (am_ci σ a11) = true then (if fF σ a11 2 = 0 then (f4_measure_L62 N n a1 x3 (x4 + (1 : Int32)) σ) else (if 0 < (am_an σ a1 0) then (if am_in (fF σ a11 1) (am_an σ a1 0) = true then (if am_in (fF σ a11 1) (am_an σ a1 0) = true then ((f4_turned (fF (sF σ a1 (fF σ a11 1).toNatClampNeg (if (5 : Int32) < (fF σ a1 (fF σ a11 1).toNatClampNeg) then (5 : Int32) else (fF σ a1 (fF σ a11 1).toNatClampNeg))) a11 1)).bind fun v18 => (if am_in (fF (sF σ a1 (fF σ a11 1).toNatClampNeg (if (5 : Int32) < (fF σ a1 (fF σ a11 1).toNatClampNeg) then (5 : Int32) else (fF σ a1 (fF σ a11 1).toNatClampNeg))) a11 1) (am_an (sF σ a1 (fF σ a11 1).toNatClampNeg (if (5 : Int32) < (fF σ a1 (fF σ a11 1).toNatClampNeg) then (5 : Int32) else (fF σ a1 (fF σ a11 1).toNatClampNeg))) a1 0) = true then (if am_in v18 (am_an (sF σ a1 (fF σ a11 1).toNatClampNeg (if (5 : Int32) < (fF σ a1 (fF σ a11 1).toNatClampNeg) then (5 : Int32) else (fF σ a1 (fF σ a11 1).toNatClampNeg))) a1 0) = true then (f4_measure_L62 N n a1 x3 (x4 + (1 : Int32)) (sF (sF σ a1 (fF σ a11 1).toNatClampNeg (if (5 : Int32) < (fF σ a1 (fF σ a11 1).toNatClampNeg) then (5 : Int32) else (fF σ a1 (fF σ a11 1).toNatClampNeg))) a1 v18.toNatClampNeg (fF (sF σ a1 (fF σ a11 1).toNatClampNeg (if (5 : Int32) < (fF σ a1 (fF σ a11 1).toNatClampNeg) then (5 : Int32) else (fF σ a1 (fF σ a11 1).toNatClampNeg))) a1 (fF (sF σ a1 (fF σ a11 1).toNatClampNeg (if (5 : Int32) < (fF σ a1 (fF σ a11 1).toNatClampNeg) then (5 : Int32) else (fF σ a1 (fF σ a11 1).toNatClampNeg))) a11 1).toNatClampNeg))) else none) else none)) else none) else none) else none)) else none)) else none)
theorem z4_measure_L62 {l : Launch} {E : am_E} {d : Nat} {σ0 : am_S} {N : Nat} (hd : 1 ≤ d) : ∀ (n : Nat) (a1 : Nat) (x3 : Int32) (x4 : Int32) (σ : am_S), Z l E msC σ0 YX4_measure d 0 0 62 [(1, .ref a1), (2, .ref 9), (3, .int x3), (4, .int x4)] [] 0 0 σ (f4_measure_L62 N n a1 x3 x4 σ) (fun u r s => r = none ∧ s = u) := by
  intro n
  induction n with
  | zero => intros; exact z_none
  | succ n ih =>
    intro a1 x3 x4 σ
    unfold f4_measure_L62
    refine z_iload (pc := 62) 3 dX4_measure_62 rfl ?_
    refine z_iload_n (pc := 64) 2 dX4_measure_64 rfl rfl ?_
    refine z_ic_ge (pc := 65) (tgt := 123) dX4_measure_65 (by decide) (fun h2 => ?_) (fun h2 => ?_)
    · refine z_lv (lv' := [(1, .ref a1)]) [0] rfl ?_
      exact z4_measure_J123 hd a1 σ
    · refine z_aload_n (pc := 68) 1 dX4_measure_68 rfl rfl ?_
      refine z_iload (pc := 69) 3 dX4_measure_69 rfl ?_
      refine z_qald (pc := 71) dX4_measure_71 ⟨by decide, by decide⟩ (am_ar.s kC9) (fun h10 => ?_)
      refine z_elim (fun e12 => ?_) (fun a11 e12 => ?_)
      · refine z_astoreN (pc := 72) (lv' := [(5, .null), (1, .ref a1), (2, .ref 9), (3, .int x3), (4, .int x4)]) dX4_measure_72 (by decide) rfl ?_
        refine z_aloadN (pc := 74) 0 dX4_measure_74 rfl ?_
        exact z_none
      · refine z_astore (pc := 72) (lv' := [(5, .ref a11), (1, .ref a1), (2, .ref 9), (3, .int x3), (4, .int x4)]) dX4_measure_72 (by decide) rfl ?_
        refine z_aload (pc := 74) 0 dX4_measure_74 rfl ?_
        refine z_guard (fun g13 => ?_)
        refine z_getIp (pc := 76) [1] dX4_measure_76 g13 (by decide) fr_RX4_31_p1 ?_
        refine z_if_eq (pc := 79) (tgt := 117) dX4_measure_79 (by decide) (fun h14 => ?_) (fun h14 => ?_)
        · refine z_iinc (pc := 117) (v := x4 + (1 : Int32)) (lv' := [(4, .int (x4 + (1 : Int32))), (5, .ref a11), (1, .ref a1), (2, .ref 9), (3, .int x3)]) 4 dX4_measure_117 rfl rfl (by decide) rfl ?_
          refine z_goto (pc := 120) (tgt := 62) dX4_measure_120 (by decide) ?_
          refine z_lv (lv' := [(1, .ref a1), (2, .ref 9), (3, .int x3), (4, .int (x4 + (1 : Int32)))]) [2, 3, 4, 0] rfl ?_
          exact ih a1 x3 (x4 + (1 : Int32)) σ
        · refine z_aload_n (pc := 82) 1 dX4_measure_82 rfl rfl ?_
          refine z_aload (pc := 83) 0 dX4_measure_83 rfl ?_
          refine z_getIp (pc := 85) [1] dX4_measure_85 g13 (by decide) fr_RX4_37_p1 ?_
          refine z_aload_n (pc := 88) 1 dX4_measure_88 rfl rfl ?_
          refine z_aload (pc := 89) 0 dX4_measure_89 rfl ?_
          refine z_getIp (pc := 91) [1] dX4_measure_91 g13 (by decide) fr_RX4_37_p1 ?_
          refine z_guard (fun g15 => ?_)
          refine z_iald (pc := 94) dX4_measure_94 (am_ar.d (Nat.ne_of_gt g15)) (fun h16 => ?_)
          refine z_iconst (pc := 95) (v := (5 : Int32)) dX4_measure_95 (by decide) ?_
          refine z_min (pc := 96) dX4_measure_96 ml_RX4_40 st_math_min in_math cd_math_min (Nat.le_trans (by decide) hd) (Nat.le_of_ble_eq_true rfl) ⟨by decide, by decide⟩ ?_
          refine z_iast (pc := 99) dX4_measure_99 (am_ar.d (Nat.ne_of_gt g15)) (fun h17 => ?_)
          refine z_aload_n (pc := 100) 1 dX4_measure_100 rfl rfl ?_
          refine z_aload (pc := 101) 0 dX4_measure_101 rfl ?_
          refine z_getIp (pc := 103) [1] dX4_measure_103 g13 (by decide) fr_RX4_37_p1 ?_
          refine z_callI (pc := 106) [.int (fF (sF σ a1 (fF σ a11 1).toNatClampNeg (if (5 : Int32) < (fF σ a1 (fF σ a11 1).toNatClampNeg) then (5 : Int32) else (fF σ a1 (fF σ a11 1).toNatClampNeg))) a11 1)] [.ref a1] rfl (lk_S (Yc := YX4_turned) (n := 1) dX4_measure_106 rfl np_X4_turned mh_RX4 (by decide) ml_RX4_22 st_X4_turned in_RX4 cd_X4_turned) (Nat.le_trans (by decide) hd) ⟨by decide, by decide⟩ (Nat.le_of_ble_eq_true rfl) (am_kp.rf _) (fun v18 h20 => c4_turned h20) (fun v18 h20 => ?_)
          refine z_aload_n (pc := 109) 1 dX4_measure_109 rfl rfl ?_
          refine z_aload (pc := 110) 0 dX4_measure_110 rfl ?_
          refine z_getIp (pc := 112) [1] dX4_measure_112 g13 (by decide) fr_RX4_37_p1 ?_
          refine z_iald (pc := 115) dX4_measure_115 (am_ar.d (Nat.ne_of_gt g15)) (fun h21 => ?_)
          refine z_iast (pc := 116) dX4_measure_116 (am_ar.d (Nat.ne_of_gt g15)) (fun h22 => ?_)
          refine z_iinc (pc := 117) (v := x4 + (1 : Int32)) (lv' := [(4, .int (x4 + (1 : Int32))), (5, .ref a11), (1, .ref a1), (2, .ref 9), (3, .int x3)]) 4 dX4_measure_117 rfl rfl (by decide) rfl ?_
          refine z_goto (pc := 120) (tgt := 62) dX4_measure_120 (by decide) ?_
          refine z_lv (lv' := [(1, .ref a1), (2, .ref 9), (3, .int x3), (4, .int (x4 + (1 : Int32)))]) [2, 3, 4, 0] rfl ?_
          exact ih a1 x3 (x4 + (1 : Int32)) (sF (sF σ a1 (fF σ a11 1).toNatClampNeg (if (5 : Int32) < (fF σ a1 (fF σ a11 1).toNatClampNeg) then (5 : Int32) else (fF σ a1 (fF σ a11 1).toNatClampNeg))) a1 v18.toNatClampNeg (fF (sF σ a1 (fF σ a11 1).toNatClampNeg (if (5 : Int32) < (fF σ a1 (fF σ a11 1).toNatClampNeg) then (5 : Int32) else (fF σ a1 (fF σ a11 1).toNatClampNeg))) a1 (fF (sF σ a1 (fF σ a11 1).toNatClampNeg (if (5 : Int32) < (fF σ a1 (fF σ a11 1).toNatClampNeg) then (5 : Int32) else (fF σ a1 (fF σ a11 1).toNatClampNeg))) a11 1).toNatClampNeg))
def f4_measure_J59 (N : Nat) (a1 : Nat) (x3 : Int32) (σ : am_S) : Option am_S := f4_measure_L62 N N a1 x3 (0 : Int32) σ
theorem z4_measure_J59 {l : Launch} {E : am_E} {d : Nat} {σ0 : am_S} {N : Nat} (hd : 1 ≤ d) (a1 : Nat) (x3 : Int32) (σ : am_S) : Z l E msC σ0 YX4_measure d 0 0 59 [(1, .ref a1), (2, .ref 9), (3, .int x3)] [] 0 0 σ (f4_measure_J59 N a1 x3 σ) (fun u r s => r = none ∧ s = u) := by
  unfold f4_measure_J59
  refine z_iconst (pc := 59) (v := (0 : Int32)) dX4_measure_59 (by decide) ?_
  refine z_istore (pc := 60) (lv' := [(4, .int (0 : Int32)), (1, .ref a1), (2, .ref 9), (3, .int x3)]) dX4_measure_60 (by decide) rfl ?_
  refine z_lv (lv' := [(1, .ref a1), (2, .ref 9), (3, .int x3), (4, .int (0 : Int32))]) [1, 2, 3, 0] rfl ?_
  exact z4_measure_L62 hd N a1 x3 (0 : Int32) σ
def f4_measure_L3 (N : Nat) : Nat → Nat → Int32 → Int32 → am_S → Option am_S
  | 0, _, _, _, _ => none
  | n + 1, a1, x3, x4, σ => if (100 : Int32) ≤ x4 then (f4_measure_J59 N a1 x3 σ) else (if x4 / (10 : Int32) = x4 - x4 / (10 : Int32) * (10 : Int32) then (if 0 < (am_an σ a1 0) then (if am_in x4 (am_an σ a1 0) = true then (f4_measure_L3 N n a1 x3 (x4 + (1 : Int32)) (sF σ a1 x4.toNatClampNeg (0 : Int32))) else none) else none) else (if am_in x4 100 = true then (if fF σ 22 x4.toNatClampNeg ≤ 0 then (if 0 < (am_an σ a1 0) then (if am_in x4 (am_an σ a1 0) = true then (f4_measure_L3 N n a1 x3 (x4 + (1 : Int32)) (sF σ a1 x4.toNatClampNeg (1000000 : Int32))) else none) else none) else (if am_in x4 100 = true then (if 0 < (am_an σ a1 0) then (if am_in x4 (am_an σ a1 0) = true then (f4_measure_L3 N n a1 x3 (x4 + (1 : Int32)) (sF σ a1 x4.toNatClampNeg (fF σ 22 x4.toNatClampNeg))) else none) else none) else none)) else none))
theorem z4_measure_L3 {l : Launch} {E : am_E} {d : Nat} {σ0 : am_S} {N : Nat} (hd : 1 ≤ d) : ∀ (n : Nat) (a1 : Nat) (x3 : Int32) (x4 : Int32) (σ : am_S), Z l E msC σ0 YX4_measure d 0 0 3 [(0, .ref 21), (1, .ref a1), (2, .ref 9), (3, .int x3), (4, .int x4)] [] 0 0 σ (f4_measure_L3 N n a1 x3 x4 σ) (fun u r s => r = none ∧ s = u) := by
  intro n
  induction n with
  | zero => intros; exact z_none
  | succ n ih =>
    intro a1 x3 x4 σ
    unfold f4_measure_L3
    refine z_iload (pc := 3) 4 dX4_measure_3 rfl ?_
    refine z_bipush (pc := 5) (v := (100 : Int32)) dX4_measure_5 (by decide) ?_
    refine z_ic_ge (pc := 7) (tgt := 59) dX4_measure_7 (by decide) (fun h1 => ?_) (fun h1 => ?_)
    · refine z_lv (lv' := [(1, .ref a1), (2, .ref 9), (3, .int x3)]) [1, 2, 3] rfl ?_
      exact z4_measure_J59 hd a1 x3 σ
    · refine z_aload_n (pc := 10) 1 dX4_measure_10 rfl rfl ?_
      refine z_iload (pc := 11) 4 dX4_measure_11 rfl ?_
      refine z_iload (pc := 13) 4 dX4_measure_13 rfl ?_
      refine z_bipush (pc := 15) (v := (10 : Int32)) dX4_measure_15 (by decide) ?_
      refine z_idiv (pc := 17) dX4_measure_17 (by decide) ?_
      refine z_iload (pc := 18) 4 dX4_measure_18 rfl ?_
      refine z_bipush (pc := 20) (v := (10 : Int32)) dX4_measure_20 (by decide) ?_
      refine z_irem (pc := 22) dX4_measure_22 (by decide) ?_
      refine z_ic_ne (pc := 23) (tgt := 30) dX4_measure_23 (by decide) (fun h23 => ?_) (fun h23 => ?_)
      · refine z_iconst (pc := 26) (v := (0 : Int32)) dX4_measure_26 (by decide) ?_
        refine z_goto (pc := 27) (tgt := 52) dX4_measure_27 (by decide) ?_
        refine z_guard (fun g24 => ?_)
        refine z_iast (pc := 52) dX4_measure_52 (am_ar.d (Nat.ne_of_gt g24)) (fun h25 => ?_)
        refine z_iinc (pc := 53) (v := x4 + (1 : Int32)) (lv' := [(4, .int (x4 + (1 : Int32))), (0, .ref 21), (1, .ref a1), (2, .ref 9), (3, .int x3)]) 4 dX4_measure_53 rfl rfl (by decide) rfl ?_
        refine z_goto (pc := 56) (tgt := 3) dX4_measure_56 (by decide) ?_
        refine z_lv (lv' := [(0, .ref 21), (1, .ref a1), (2, .ref 9), (3, .int x3), (4, .int (x4 + (1 : Int32)))]) [1, 2, 3, 4, 0] rfl ?_
        exact ih a1 x3 (x4 + (1 : Int32)) (sF σ a1 x4.toNatClampNeg (0 : Int32))
      · refine z_aload_n (pc := 30) 0 dX4_measure_30 rfl rfl ?_
        refine z_getQ (pc := 31) (b := 22) dX4_measure_31 kC21 fr_RX4_9_4 (by decide) rfl ?_
        refine z_iload (pc := 34) 4 dX4_measure_34 rfl ?_
        refine z_iald (pc := 36) dX4_measure_36 (am_ar.s kC22) (fun h26 => ?_)
        refine z_if_le (pc := 37) (tgt := 50) dX4_measure_37 (by decide) (fun h27 => ?_) (fun h27 => ?_)
        · refine z_ldc (pc := 50) (v := (1000000 : Int32)) dX4_measure_50 ki_RX4_30 ?_
          refine z_guard (fun g28 => ?_)
          refine z_iast (pc := 52) dX4_measure_52 (am_ar.d (Nat.ne_of_gt g28)) (fun h29 => ?_)
          refine z_iinc (pc := 53) (v := x4 + (1 : Int32)) (lv' := [(4, .int (x4 + (1 : Int32))), (0, .ref 21), (1, .ref a1), (2, .ref 9), (3, .int x3)]) 4 dX4_measure_53 rfl rfl (by decide) rfl ?_
          refine z_goto (pc := 56) (tgt := 3) dX4_measure_56 (by decide) ?_
          refine z_lv (lv' := [(0, .ref 21), (1, .ref a1), (2, .ref 9), (3, .int x3), (4, .int (x4 + (1 : Int32)))]) [1, 2, 3, 4, 0] rfl ?_
          exact ih a1 x3 (x4 + (1 : Int32)) (sF σ a1 x4.toNatClampNeg (1000000 : Int32))
        · refine z_aload_n (pc := 40) 0 dX4_measure_40 rfl rfl ?_
          refine z_getQ (pc := 41) (b := 22) dX4_measure_41 kC21 fr_RX4_9_4 (by decide) rfl ?_
          refine z_iload (pc := 44) 4 dX4_measure_44 rfl ?_
          refine z_iald (pc := 46) dX4_measure_46 (am_ar.s kC22) (fun h30 => ?_)
          refine z_goto (pc := 47) (tgt := 52) dX4_measure_47 (by decide) ?_
          refine z_guard (fun g31 => ?_)
          refine z_iast (pc := 52) dX4_measure_52 (am_ar.d (Nat.ne_of_gt g31)) (fun h32 => ?_)
          refine z_iinc (pc := 53) (v := x4 + (1 : Int32)) (lv' := [(4, .int (x4 + (1 : Int32))), (0, .ref 21), (1, .ref a1), (2, .ref 9), (3, .int x3)]) 4 dX4_measure_53 rfl rfl (by decide) rfl ?_
          refine z_goto (pc := 56) (tgt := 3) dX4_measure_56 (by decide) ?_
          refine z_lv (lv' := [(0, .ref 21), (1, .ref a1), (2, .ref 9), (3, .int x3), (4, .int (x4 + (1 : Int32)))]) [1, 2, 3, 4, 0] rfl ?_
          exact ih a1 x3 (x4 + (1 : Int32)) (sF σ a1 x4.toNatClampNeg (fF σ 22 x4.toNatClampNeg))
def f4_measure (N : Nat) (σ : am_S) (a1 : Nat) (x3 : Int32) : Option am_S := f4_measure_L3 N N a1 x3 (0 : Int32) σ
theorem c4_measure {l : Launch} {E : am_E} {N : Nat} {σ : am_S} {a1 : Nat} {x3 : Int32} {σ1 : am_S} (hf : f4_measure N σ a1 x3 = some σ1) : Ctr l E msC YX4_measure (1) 0 0 [.ref 21, .ref a1, .ref 9, .int x3] σ none σ1 := by
  refine ctr_of (G := fun u r s => r = none ∧ s = u) (by decide +kernel) (Nat.le_of_ble_eq_true rfl) hf ⟨rfl, rfl⟩ (fun d hd => ?_)
  refine z_eqlv (lv' := [(0, .ref 21), (1, .ref a1), (2, .ref 9), (3, .int x3)]) rfl ?_
  unfold f4_measure
  refine z_iconst (pc := 0) (v := (0 : Int32)) dX4_measure_0 (by decide) ?_
  refine z_istore (pc := 1) (lv' := [(4, .int (0 : Int32)), (0, .ref 21), (1, .ref a1), (2, .ref 9), (3, .int x3)]) dX4_measure_1 (by decide) rfl ?_
  refine z_lv (lv' := [(0, .ref 21), (1, .ref a1), (2, .ref 9), (3, .int x3), (4, .int (0 : Int32))]) [1, 2, 3, 4, 0] rfl ?_
  exact z4_measure_L3 hd N a1 x3 (0 : Int32) σ
def f4_leastWay (N : Nat) (σ : am_S) (x1 : Int32) (x3 : Int32) : Option (Int32 × am_S) := (f4_measure N σ 24 x3).bind fun s2 => (if am_in x1 100 = true then (some (fF s2 24 x1.toNatClampNeg, s2)) else none)
theorem c4_leastWay {l : Launch} {E : am_E} {N : Nat} {σ : am_S} {x1 : Int32} {x3 : Int32} {v : Int32} {σ1 : am_S} (hf : f4_leastWay N σ x1 x3 = some (v, σ1)) : Ctr l E msC YX4_leastWay (2) 0 0 [.ref 21, .int x1, .ref 9, .int x3] σ (some (.int v)) σ1 := by
  refine ctr_of (G := fun u r s => r = some (.int u.1) ∧ s = u.2) (by decide +kernel) (Nat.le_of_ble_eq_true rfl) hf ⟨rfl, rfl⟩ (fun d hd => ?_)
  refine z_eqlv (lv' := [(0, .ref 21), (1, .int x1), (2, .ref 9), (3, .int x3)]) rfl ?_
  unfold f4_leastWay
  refine z_aload_n (pc := 0) 0 dX4_leastWay_0 rfl rfl ?_
  refine z_aload_n (pc := 1) 0 dX4_leastWay_1 rfl rfl ?_
  refine z_getQ (pc := 2) (b := 24) dX4_leastWay_2 kC21 fr_RX4_16_4 (by decide) rfl ?_
  refine z_aload_n (pc := 5) 2 dX4_leastWay_5 rfl rfl ?_
  refine z_iload_n (pc := 6) 3 dX4_leastWay_6 rfl rfl ?_
  refine z_callVs (pc := 7) [.ref 21, .ref 24, .ref 9, .int x3] [] rfl (lk_V (Yc := YX4_measure) (n := 3) dX4_leastWay_7 rfl rfl (am_ob.s kC21) rfl rfl np_X4_measure mh_RX4 (by decide) ml_RX4_26 im_X4_measure se_RX4_X4_measure_X4_measure in_RX4 cd_X4_measure) (Nat.le_trans (by decide) hd) ⟨by decide, by decide⟩ (Nat.le_of_ble_eq_true rfl) (am_kp.rf _) (fun s2 h3 => c4_measure h3) (fun s2 h3 => ?_)
  refine z_aload_n (pc := 10) 0 dX4_leastWay_10 rfl rfl ?_
  refine z_getQ (pc := 11) (b := 24) dX4_leastWay_11 kC21 fr_RX4_16_4 (by decide) rfl ?_
  refine z_iload_n (pc := 14) 1 dX4_leastWay_14 rfl rfl ?_
  refine z_iald (pc := 15) dX4_leastWay_15 (am_ar.s kC24) (fun h4 => ?_)
  exact z_rIs dX4_leastWay_16 rfl ⟨by decide, by decide⟩
def f1_keep (σ : am_S) (a0 : Nat) : Option am_S := if [1].contains (am_ci σ a0) = true then (some (sF (sF σ a0 4 (fF σ a0 2)) a0 5 (fF (sF σ a0 4 (fF σ a0 2)) a0 3))) else none
theorem c1_keep {l : Launch} {E : am_E} {σ : am_S} {a0 : Nat} {σ1 : am_S} (hf : f1_keep σ a0 = some σ1) : Ctr l E msC YX1_keep (0) 0 0 [.ref a0] σ none σ1 := by
  refine ctr_of (G := fun u r s => r = none ∧ s = u) (by decide +kernel) (Nat.le_of_ble_eq_true rfl) hf ⟨rfl, rfl⟩ (fun d hd => ?_)
  refine z_eqlv (lv' := [(0, .ref a0)]) rfl ?_
  unfold f1_keep
  refine z_aload_n (pc := 0) 0 dX1_keep_0 rfl rfl ?_
  refine z_aload_n (pc := 1) 0 dX1_keep_1 rfl rfl ?_
  refine z_guard (fun g1 => ?_)
  refine z_getIp (pc := 2) [1] dX1_keep_2 g1 (by decide) fr_RX1_7_p1 ?_
  refine z_putIp (pc := 5) [1] dX1_keep_5 g1 (by decide) fw_RX1_22_p1 ?_
  refine z_aload_n (pc := 8) 0 dX1_keep_8 rfl rfl ?_
  refine z_aload_n (pc := 9) 0 dX1_keep_9 rfl rfl ?_
  refine z_getIp (pc := 10) [1] dX1_keep_10 g1 (by decide) fr_RX1_19_p1 ?_
  refine z_putIp (pc := 13) [1] dX1_keep_13 g1 (by decide) fw_RX1_25_p1 ?_
  exact z_rVs dX1_keep_16 rfl ⟨by decide, by decide⟩
def f7_keep (σ : am_S) (a0 : Nat) : Option am_S := if [2, 3, 5, 6, 7, 9].contains (am_ci σ a0) = true then (some (sF (sF σ a0 7 (fF σ a0 5)) a0 8 (fF (sF σ a0 7 (fF σ a0 5)) a0 6))) else none
theorem c7_keep {l : Launch} {E : am_E} {σ : am_S} {a0 : Nat} {σ1 : am_S} (hf : f7_keep σ a0 = some σ1) : Ctr l E msC YX7_keep (0) 0 0 [.ref a0] σ none σ1 := by
  refine ctr_of (G := fun u r s => r = none ∧ s = u) (by decide +kernel) (Nat.le_of_ble_eq_true rfl) hf ⟨rfl, rfl⟩ (fun d hd => ?_)
  refine z_eqlv (lv' := [(0, .ref a0)]) rfl ?_
  unfold f7_keep
  refine z_aload_n (pc := 0) 0 dX7_keep_0 rfl rfl ?_
  refine z_aload_n (pc := 1) 0 dX7_keep_1 rfl rfl ?_
  refine z_guard (fun g1 => ?_)
  refine z_getIp (pc := 2) [2, 3, 5, 6, 7, 9] dX7_keep_2 g1 (by decide) fr_RX7_39_p235679 ?_
  refine z_putIp (pc := 5) [2, 3, 5, 6, 7, 9] dX7_keep_5 g1 (by decide) fw_RX7_42_p235679 ?_
  refine z_aload_n (pc := 8) 0 dX7_keep_8 rfl rfl ?_
  refine z_aload_n (pc := 9) 0 dX7_keep_9 rfl rfl ?_
  refine z_getIp (pc := 10) [2, 3, 5, 6, 7, 9] dX7_keep_10 g1 (by decide) fr_RX7_45_p235679 ?_
  refine z_putIp (pc := 13) [2, 3, 5, 6, 7, 9] dX7_keep_13 g1 (by decide) fw_RX7_48_p235679 ?_
  exact z_rVs dX7_keep_16 rfl ⟨by decide, by decide⟩
def f4_keep (σ : am_S) : Option am_S := if am_cp (0 : Int32) (0 : Int32) (100 : Int32) 100 100 = true then (some (sK σ 23 (va_cpy (fF σ 22) (fF σ 23) (0 : Int32).toNatClampNeg (0 : Int32).toNatClampNeg (100 : Int32).toNatClampNeg))) else none
theorem c4_keep {l : Launch} {E : am_E} {σ : am_S} {σ1 : am_S} (hf : f4_keep σ = some σ1) : Ctr l E msC YX4_keep (1) 0 0 [.ref 21] σ none σ1 := by
  refine ctr_of (G := fun u r s => r = none ∧ s = u) (by decide +kernel) (Nat.le_of_ble_eq_true rfl) hf ⟨rfl, rfl⟩ (fun d hd => ?_)
  refine z_eqlv (lv' := [(0, .ref 21)]) rfl ?_
  unfold f4_keep
  refine z_aload_n (pc := 0) 0 dX4_keep_0 rfl rfl ?_
  refine z_getQ (pc := 1) (b := 22) dX4_keep_1 kC21 fr_RX4_9_4 (by decide) rfl ?_
  refine z_iconst (pc := 4) (v := (0 : Int32)) dX4_keep_4 (by decide) ?_
  refine z_aload_n (pc := 5) 0 dX4_keep_5 rfl rfl ?_
  refine z_getQ (pc := 6) (b := 23) dX4_keep_6 kC21 fr_RX4_13_4 (by decide) rfl ?_
  refine z_iconst (pc := 9) (v := (0 : Int32)) dX4_keep_9 (by decide) ?_
  refine z_bipush (pc := 10) (v := (100 : Int32)) dX4_keep_10 (by decide) ?_
  refine z_copy (pc := 12) dX4_keep_12 ml_RX4_46 nat_copy st_copy in_sys (am_ar.s kC22) (am_ar.s kC23) (Nat.le_trans (by decide) hd) (Nat.le_of_ble_eq_true rfl) (fun h1 => ?_)
  exact z_rVs dX4_keep_15 rfl ⟨by decide, by decide⟩
def f1_become (σ : am_S) (a0 : Nat) (x1 : Int32) : Option (Int32 × am_S) := if [1].contains (am_ci σ a0) = true then (some (fF σ a0 2, sF σ a0 2 x1)) else none
theorem c1_become {l : Launch} {E : am_E} {σ : am_S} {a0 : Nat} {x1 : Int32} {v : Int32} {σ1 : am_S} (hf : f1_become σ a0 x1 = some (v, σ1)) : Ctr l E msC YX1_become (0) 0 0 [.ref a0, .int x1] σ (some (.int v)) σ1 := by
  refine ctr_of (G := fun u r s => r = some (.int u.1) ∧ s = u.2) (by decide +kernel) (Nat.le_of_ble_eq_true rfl) hf ⟨rfl, rfl⟩ (fun d hd => ?_)
  refine z_eqlv (lv' := [(0, .ref a0), (1, .int x1)]) rfl ?_
  unfold f1_become
  refine z_aload_n (pc := 0) 0 dX1_become_0 rfl rfl ?_
  refine z_guard (fun g1 => ?_)
  refine z_getIp (pc := 1) [1] dX1_become_1 g1 (by decide) fr_RX1_7_p1 ?_
  refine z_istore_n (pc := 4) (lv' := [(2, .int (fF σ a0 2)), (0, .ref a0), (1, .int x1)]) dX1_become_4 rfl (by decide) rfl ?_
  refine z_aload_n (pc := 5) 1 dX1_become_5 rfl rfl ?_
  refine z_iload_n (pc := 6) 2 dX1_become_6 rfl rfl ?_
  refine z_putIp (pc := 7) [1] dX1_become_7 g1 (by decide) fw_RX1_7_p1 ?_
  refine z_iload_n (pc := 10) 0 dX1_become_10 rfl rfl ?_
  exact z_rIs dX1_become_11 rfl ⟨by decide, by decide⟩
def f4_measureThen (N : Nat) (σ : am_S) (x2 : Int32) : Option am_S := (f4_measure N σ 25 x2).bind fun s2 => (some (s2))
theorem c4_measureThen {l : Launch} {E : am_E} {N : Nat} {σ : am_S} {x2 : Int32} {σ1 : am_S} (hf : f4_measureThen N σ x2 = some σ1) : Ctr l E msC YX4_measureThen (2) 0 0 [.ref 21, .ref 9, .int x2] σ none σ1 := by
  refine ctr_of (G := fun u r s => r = none ∧ s = u) (by decide +kernel) (Nat.le_of_ble_eq_true rfl) hf ⟨rfl, rfl⟩ (fun d hd => ?_)
  refine z_eqlv (lv' := [(0, .ref 21), (1, .ref 9), (2, .int x2)]) rfl ?_
  unfold f4_measureThen
  refine z_aload_n (pc := 0) 0 dX4_measureThen_0 rfl rfl ?_
  refine z_aload_n (pc := 1) 0 dX4_measureThen_1 rfl rfl ?_
  refine z_getQ (pc := 2) (b := 25) dX4_measureThen_2 kC21 fr_RX4_19_4 (by decide) rfl ?_
  refine z_aload_n (pc := 5) 1 dX4_measureThen_5 rfl rfl ?_
  refine z_iload_n (pc := 6) 2 dX4_measureThen_6 rfl rfl ?_
  refine z_callVs (pc := 7) [.ref 21, .ref 25, .ref 9, .int x2] [] rfl (lk_V (Yc := YX4_measure) (n := 3) dX4_measureThen_7 rfl rfl (am_ob.s kC21) rfl rfl np_X4_measure mh_RX4 (by decide) ml_RX4_26 im_X4_measure se_RX4_X4_measure_X4_measure in_RX4 cd_X4_measure) (Nat.le_trans (by decide) hd) ⟨by decide, by decide⟩ (Nat.le_of_ble_eq_true rfl) (am_kp.rf _) (fun s2 h3 => c4_measure h3) (fun s2 h3 => ?_)
  exact z_rVs dX4_measureThen_10 rfl ⟨by decide, by decide⟩
def f4_measureNow (N : Nat) (σ : am_S) (x2 : Int32) : Option am_S := (f4_measure N σ 24 x2).bind fun s2 => (some (s2))
theorem c4_measureNow {l : Launch} {E : am_E} {N : Nat} {σ : am_S} {x2 : Int32} {σ1 : am_S} (hf : f4_measureNow N σ x2 = some σ1) : Ctr l E msC YX4_measureNow (2) 0 0 [.ref 21, .ref 9, .int x2] σ none σ1 := by
  refine ctr_of (G := fun u r s => r = none ∧ s = u) (by decide +kernel) (Nat.le_of_ble_eq_true rfl) hf ⟨rfl, rfl⟩ (fun d hd => ?_)
  refine z_eqlv (lv' := [(0, .ref 21), (1, .ref 9), (2, .int x2)]) rfl ?_
  unfold f4_measureNow
  refine z_aload_n (pc := 0) 0 dX4_measureNow_0 rfl rfl ?_
  refine z_aload_n (pc := 1) 0 dX4_measureNow_1 rfl rfl ?_
  refine z_getQ (pc := 2) (b := 24) dX4_measureNow_2 kC21 fr_RX4_16_4 (by decide) rfl ?_
  refine z_aload_n (pc := 5) 1 dX4_measureNow_5 rfl rfl ?_
  refine z_iload_n (pc := 6) 2 dX4_measureNow_6 rfl rfl ?_
  refine z_callVs (pc := 7) [.ref 21, .ref 24, .ref 9, .int x2] [] rfl (lk_V (Yc := YX4_measure) (n := 3) dX4_measureNow_7 rfl rfl (am_ob.s kC21) rfl rfl np_X4_measure mh_RX4 (by decide) ml_RX4_26 im_X4_measure se_RX4_X4_measure_X4_measure in_RX4 cd_X4_measure) (Nat.le_trans (by decide) hd) ⟨by decide, by decide⟩ (Nat.le_of_ble_eq_true rfl) (am_kp.rf _) (fun s2 h3 => c4_measure h3) (fun s2 h3 => ?_)
  exact z_rVs dX4_measureNow_10 rfl ⟨by decide, by decide⟩
def f4_lostMinutes_L4 (σ : am_S) (N : Nat) : Nat → Int32 → Int32 → Option Int32
  | 0, _, _ => none
  | n + 1, x1, x2 => if (100 : Int32) ≤ x2 then (some (x1)) else (if x2 - x2 / (10 : Int32) * (10 : Int32) ≤ x2 / (10 : Int32) then (f4_lostMinutes_L4 σ N n x1 (x2 + (1 : Int32))) else (if am_in x2 100 = true then (if (1000000 : Int32) ≤ fF σ 24 x2.toNatClampNeg then (f4_lostMinutes_L4 σ N n x1 (x2 + (1 : Int32))) else (if am_in x2 100 = true then (if (1000000 : Int32) ≤ fF σ 25 x2.toNatClampNeg then (f4_lostMinutes_L4 σ N n (x1 + (100 : Int32)) (x2 + (1 : Int32))) else (if am_in x2 100 = true then (if am_in x2 100 = true then (f4_lostMinutes_L4 σ N n (x1 + ((fF σ 25 x2.toNatClampNeg) - (fF σ 24 x2.toNatClampNeg))) (x2 + (1 : Int32))) else none) else none)) else none)) else none))
theorem z4_lostMinutes_L4 {l : Launch} {E : am_E} {d : Nat} {N : Nat} {σ : am_S} (hd : 0 ≤ d) : ∀ (n : Nat) (x1 : Int32) (x2 : Int32), Z l E msC σ YX4_lostMinutes d 0 0 4 [(0, .ref 21), (1, .int x1), (2, .int x2)] [] 0 0 σ (f4_lostMinutes_L4 σ N n x1 x2) (fun u r s => r = some (.int u) ∧ s = σ) := by
  intro n
  induction n with
  | zero => intros; exact z_none
  | succ n ih =>
    intro x1 x2
    unfold f4_lostMinutes_L4
    refine z_iload_n (pc := 4) 2 dX4_lostMinutes_4 rfl rfl ?_
    refine z_bipush (pc := 5) (v := (100 : Int32)) dX4_lostMinutes_5 (by decide) ?_
    refine z_ic_ge (pc := 7) (tgt := 70) dX4_lostMinutes_7 (by decide) (fun h1 => ?_) (fun h1 => ?_)
    · refine z_iload_n (pc := 70) 1 dX4_lostMinutes_70 rfl rfl ?_
      exact z_rI dX4_lostMinutes_71 rfl ⟨by decide, by decide⟩
    · refine z_iload_n (pc := 10) 2 dX4_lostMinutes_10 rfl rfl ?_
      refine z_bipush (pc := 11) (v := (10 : Int32)) dX4_lostMinutes_11 (by decide) ?_
      refine z_idiv (pc := 13) dX4_lostMinutes_13 (by decide) ?_
      refine z_iload_n (pc := 14) 2 dX4_lostMinutes_14 rfl rfl ?_
      refine z_bipush (pc := 15) (v := (10 : Int32)) dX4_lostMinutes_15 (by decide) ?_
      refine z_irem (pc := 17) dX4_lostMinutes_17 (by decide) ?_
      refine z_ic_ge (pc := 18) (tgt := 64) dX4_lostMinutes_18 (by decide) (fun h2 => ?_) (fun h2 => ?_)
      · refine z_iinc (pc := 64) (v := x2 + (1 : Int32)) (lv' := [(2, .int (x2 + (1 : Int32))), (0, .ref 21), (1, .int x1)]) 2 dX4_lostMinutes_64 rfl rfl (by decide) rfl ?_
        refine z_goto (pc := 67) (tgt := 4) dX4_lostMinutes_67 (by decide) ?_
        refine z_lv (lv' := [(0, .ref 21), (1, .int x1), (2, .int (x2 + (1 : Int32)))]) [1, 2, 0] rfl ?_
        exact ih x1 (x2 + (1 : Int32))
      · refine z_aload_n (pc := 21) 0 dX4_lostMinutes_21 rfl rfl ?_
        refine z_getQ (pc := 22) (b := 24) dX4_lostMinutes_22 kC21 fr_RX4_16_4 (by decide) rfl ?_
        refine z_iload_n (pc := 25) 2 dX4_lostMinutes_25 rfl rfl ?_
        refine z_iald (pc := 26) dX4_lostMinutes_26 (am_ar.s kC24) (fun h3 => ?_)
        refine z_ldc (pc := 27) (v := (1000000 : Int32)) dX4_lostMinutes_27 ki_RX4_30 ?_
        refine z_ic_ge (pc := 29) (tgt := 64) dX4_lostMinutes_29 (by decide) (fun h4 => ?_) (fun h4 => ?_)
        · refine z_iinc (pc := 64) (v := x2 + (1 : Int32)) (lv' := [(2, .int (x2 + (1 : Int32))), (0, .ref 21), (1, .int x1)]) 2 dX4_lostMinutes_64 rfl rfl (by decide) rfl ?_
          refine z_goto (pc := 67) (tgt := 4) dX4_lostMinutes_67 (by decide) ?_
          refine z_lv (lv' := [(0, .ref 21), (1, .int x1), (2, .int (x2 + (1 : Int32)))]) [1, 2, 0] rfl ?_
          exact ih x1 (x2 + (1 : Int32))
        · refine z_iload_n (pc := 32) 1 dX4_lostMinutes_32 rfl rfl ?_
          refine z_aload_n (pc := 33) 0 dX4_lostMinutes_33 rfl rfl ?_
          refine z_getQ (pc := 34) (b := 25) dX4_lostMinutes_34 kC21 fr_RX4_19_4 (by decide) rfl ?_
          refine z_iload_n (pc := 37) 2 dX4_lostMinutes_37 rfl rfl ?_
          refine z_iald (pc := 38) dX4_lostMinutes_38 (am_ar.s kC25) (fun h5 => ?_)
          refine z_ldc (pc := 39) (v := (1000000 : Int32)) dX4_lostMinutes_39 ki_RX4_30 ?_
          refine z_ic_ge (pc := 41) (tgt := 60) dX4_lostMinutes_41 (by decide) (fun h6 => ?_) (fun h6 => ?_)
          · refine z_bipush (pc := 60) (v := (100 : Int32)) dX4_lostMinutes_60 (by decide) ?_
            refine z_iadd (pc := 62) dX4_lostMinutes_62 ?_
            refine z_istore_n (pc := 63) (lv' := [(1, .int (x1 + (100 : Int32))), (0, .ref 21), (2, .int x2)]) dX4_lostMinutes_63 rfl (by decide) rfl ?_
            refine z_iinc (pc := 64) (v := x2 + (1 : Int32)) (lv' := [(2, .int (x2 + (1 : Int32))), (1, .int (x1 + (100 : Int32))), (0, .ref 21)]) 2 dX4_lostMinutes_64 rfl rfl (by decide) rfl ?_
            refine z_goto (pc := 67) (tgt := 4) dX4_lostMinutes_67 (by decide) ?_
            refine z_lv (lv' := [(0, .ref 21), (1, .int (x1 + (100 : Int32))), (2, .int (x2 + (1 : Int32)))]) [2, 1, 0] rfl ?_
            exact ih (x1 + (100 : Int32)) (x2 + (1 : Int32))
          · refine z_aload_n (pc := 44) 0 dX4_lostMinutes_44 rfl rfl ?_
            refine z_getQ (pc := 45) (b := 25) dX4_lostMinutes_45 kC21 fr_RX4_19_4 (by decide) rfl ?_
            refine z_iload_n (pc := 48) 2 dX4_lostMinutes_48 rfl rfl ?_
            refine z_iald (pc := 49) dX4_lostMinutes_49 (am_ar.s kC25) (fun h7 => ?_)
            refine z_aload_n (pc := 50) 0 dX4_lostMinutes_50 rfl rfl ?_
            refine z_getQ (pc := 51) (b := 24) dX4_lostMinutes_51 kC21 fr_RX4_16_4 (by decide) rfl ?_
            refine z_iload_n (pc := 54) 2 dX4_lostMinutes_54 rfl rfl ?_
            refine z_iald (pc := 55) dX4_lostMinutes_55 (am_ar.s kC24) (fun h8 => ?_)
            refine z_isub (pc := 56) dX4_lostMinutes_56 ?_
            refine z_goto (pc := 57) (tgt := 62) dX4_lostMinutes_57 (by decide) ?_
            refine z_iadd (pc := 62) dX4_lostMinutes_62 ?_
            refine z_istore_n (pc := 63) (lv' := [(1, .int (x1 + ((fF σ 25 x2.toNatClampNeg) - (fF σ 24 x2.toNatClampNeg)))), (0, .ref 21), (2, .int x2)]) dX4_lostMinutes_63 rfl (by decide) rfl ?_
            refine z_iinc (pc := 64) (v := x2 + (1 : Int32)) (lv' := [(2, .int (x2 + (1 : Int32))), (1, .int (x1 + ((fF σ 25 x2.toNatClampNeg) - (fF σ 24 x2.toNatClampNeg)))), (0, .ref 21)]) 2 dX4_lostMinutes_64 rfl rfl (by decide) rfl ?_
            refine z_goto (pc := 67) (tgt := 4) dX4_lostMinutes_67 (by decide) ?_
            refine z_lv (lv' := [(0, .ref 21), (1, .int (x1 + ((fF σ 25 x2.toNatClampNeg) - (fF σ 24 x2.toNatClampNeg)))), (2, .int (x2 + (1 : Int32)))]) [2, 1, 0] rfl ?_
            exact ih (x1 + ((fF σ 25 x2.toNatClampNeg) - (fF σ 24 x2.toNatClampNeg))) (x2 + (1 : Int32))
def f4_lostMinutes (N : Nat) (σ : am_S) : Option Int32 := f4_lostMinutes_L4 σ N N (0 : Int32) (0 : Int32)
theorem c4_lostMinutes {l : Launch} {E : am_E} {N : Nat} {σ : am_S} {v : Int32} (hf : f4_lostMinutes N σ = some v) : Ctr l E msC YX4_lostMinutes (0) 0 0 [.ref 21] σ (some (.int v)) σ := by
  refine ctr_of (G := fun u r s => r = some (.int u) ∧ s = σ) (by decide +kernel) (Nat.le_of_ble_eq_true rfl) hf ⟨rfl, rfl⟩ (fun d hd => ?_)
  refine z_eqlv (lv' := [(0, .ref 21)]) rfl ?_
  unfold f4_lostMinutes
  refine z_iconst (pc := 0) (v := (0 : Int32)) dX4_lostMinutes_0 (by decide) ?_
  refine z_istore_n (pc := 1) (lv' := [(1, .int (0 : Int32)), (0, .ref 21)]) dX4_lostMinutes_1 rfl (by decide) rfl ?_
  refine z_iconst (pc := 2) (v := (0 : Int32)) dX4_lostMinutes_2 (by decide) ?_
  refine z_istore_n (pc := 3) (lv' := [(2, .int (0 : Int32)), (1, .int (0 : Int32)), (0, .ref 21)]) dX4_lostMinutes_3 rfl (by decide) rfl ?_
  refine z_lv (lv' := [(0, .ref 21), (1, .int (0 : Int32)), (2, .int (0 : Int32))]) [2, 1, 0] rfl ?_
  exact z4_lostMinutes_L4 hd N (0 : Int32) (0 : Int32)
def f7_init (σ : am_S) (a0 : Nat) (x1 : Int32) (x2 : Int32) (x3 : Int32) : Option am_S := if [2, 3, 5, 6, 7, 9].contains (am_ci σ a0) = true then (some (sF (sF (sF (sF (sF σ a0 0 x1) a0 1 (x2 / (100 : Int32))) a0 2 ((x2 / (10 : Int32)) - (x2 / (10 : Int32)) / (10 : Int32) * (10 : Int32))) a0 3 (x2 - x2 / (10 : Int32) * (10 : Int32))) a0 4 x3)) else none
theorem c7_init {l : Launch} {E : am_E} {σ : am_S} {a0 : Nat} {x1 : Int32} {x2 : Int32} {x3 : Int32} {σ1 : am_S} (hf : f7_init σ a0 x1 x2 x3 = some σ1) : Ctr l E msC YX7_init (1) 0 0 [.ref a0, .int x1, .int x2, .int x3] σ none σ1 := by
  refine ctr_of (G := fun u r s => r = none ∧ s = u) (by decide +kernel) (Nat.le_of_ble_eq_true rfl) hf ⟨rfl, rfl⟩ (fun d hd => ?_)
  refine z_eqlv (lv' := [(0, .ref a0), (1, .int x1), (2, .int x2), (3, .int x3)]) rfl ?_
  unfold f7_init
  refine z_aload_n (pc := 0) 0 dX7_init_0 rfl rfl ?_
  refine z_objInit (pc := 1) dX7_init_1 ml_RX7_1 im_objInit cd_objInit (Nat.le_trans (by decide) hd) (Nat.le_of_ble_eq_true rfl) ?_
  refine z_aload_n (pc := 4) 0 dX7_init_4 rfl rfl ?_
  refine z_iload_n (pc := 5) 1 dX7_init_5 rfl rfl ?_
  refine z_guard (fun g1 => ?_)
  refine z_putFIp (pc := 6) [2, 3, 5, 6, 7, 9] dX7_init_6 rfl g1 (by decide) ff_RX7_7_p235679 ?_
  refine z_aload_n (pc := 9) 0 dX7_init_9 rfl rfl ?_
  refine z_iload_n (pc := 10) 2 dX7_init_10 rfl rfl ?_
  refine z_bipush (pc := 11) (v := (100 : Int32)) dX7_init_11 (by decide) ?_
  refine z_idiv (pc := 13) dX7_init_13 (by decide) ?_
  refine z_putFIp (pc := 14) [2, 3, 5, 6, 7, 9] dX7_init_14 rfl g1 (by decide) ff_RX7_13_p235679 ?_
  refine z_aload_n (pc := 17) 0 dX7_init_17 rfl rfl ?_
  refine z_iload_n (pc := 18) 2 dX7_init_18 rfl rfl ?_
  refine z_bipush (pc := 19) (v := (10 : Int32)) dX7_init_19 (by decide) ?_
  refine z_idiv (pc := 21) dX7_init_21 (by decide) ?_
  refine z_bipush (pc := 22) (v := (10 : Int32)) dX7_init_22 (by decide) ?_
  refine z_irem (pc := 24) dX7_init_24 (by decide) ?_
  refine z_putFIp (pc := 25) [2, 3, 5, 6, 7, 9] dX7_init_25 rfl g1 (by decide) ff_RX7_16_p235679 ?_
  refine z_aload_n (pc := 28) 0 dX7_init_28 rfl rfl ?_
  refine z_iload_n (pc := 29) 2 dX7_init_29 rfl rfl ?_
  refine z_bipush (pc := 30) (v := (10 : Int32)) dX7_init_30 (by decide) ?_
  refine z_irem (pc := 32) dX7_init_32 (by decide) ?_
  refine z_putFIp (pc := 33) [2, 3, 5, 6, 7, 9] dX7_init_33 rfl g1 (by decide) ff_RX7_19_p235679 ?_
  refine z_aload_n (pc := 36) 0 dX7_init_36 rfl rfl ?_
  refine z_iload_n (pc := 37) 3 dX7_init_37 rfl rfl ?_
  refine z_putFIp (pc := 38) [2, 3, 5, 6, 7, 9] dX7_init_38 rfl g1 (by decide) ff_RX7_22_p235679 ?_
  exact z_rVs dX7_init_41 rfl ⟨by decide, by decide⟩
def f3_init (σ : am_S) (a0 : Nat) (x1 : Int32) (x2 : Int32) (x3 : Int32) : Option am_S := (f7_init σ a0 x1 x2 x3).bind fun s2 => (some (s2))
theorem c3_init {l : Launch} {E : am_E} {σ : am_S} {a0 : Nat} {x1 : Int32} {x2 : Int32} {x3 : Int32} {σ1 : am_S} (hf : f3_init σ a0 x1 x2 x3 = some σ1) : Ctr l E msC YX3_init (2) 0 0 [.ref a0, .int x1, .int x2, .int x3] σ none σ1 := by
  refine ctr_of (G := fun u r s => r = none ∧ s = u) (by decide +kernel) (Nat.le_of_ble_eq_true rfl) hf ⟨rfl, rfl⟩ (fun d hd => ?_)
  refine z_eqlv (lv' := [(0, .ref a0), (1, .int x1), (2, .int x2), (3, .int x3)]) rfl ?_
  unfold f3_init
  refine z_aload_n (pc := 0) 0 dX3_init_0 rfl rfl ?_
  refine z_iload_n (pc := 1) 1 dX3_init_1 rfl rfl ?_
  refine z_iload_n (pc := 2) 2 dX3_init_2 rfl rfl ?_
  refine z_iload_n (pc := 3) 3 dX3_init_3 rfl rfl ?_
  refine z_callVs (pc := 4) [.ref a0, .int x1, .int x2, .int x3] [] rfl (lk_I (Yc := YX7_init) (n := 3) dX3_init_4 rfl rfl rfl rfl np_X7_init mh_RX7 (by decide) ml_RX3_1 im_X7_init in_RX7 cd_X7_init) (Nat.le_trans (by decide) hd) ⟨by decide, by decide⟩ (Nat.le_of_ble_eq_true rfl) (am_kp.rf _) (fun s2 h3 => c7_init h3) (fun s2 h3 => ?_)
  exact z_rVs dX3_init_7 rfl ⟨by decide, by decide⟩
def f6_init (σ : am_S) (a0 : Nat) (x1 : Int32) (x2 : Int32) (x3 : Int32) : Option am_S := (f7_init σ a0 x1 x2 x3).bind fun s2 => (some (s2))
theorem c6_init {l : Launch} {E : am_E} {σ : am_S} {a0 : Nat} {x1 : Int32} {x2 : Int32} {x3 : Int32} {σ1 : am_S} (hf : f6_init σ a0 x1 x2 x3 = some σ1) : Ctr l E msC YX6_init (2) 0 0 [.ref a0, .int x1, .int x2, .int x3] σ none σ1 := by
  refine ctr_of (G := fun u r s => r = none ∧ s = u) (by decide +kernel) (Nat.le_of_ble_eq_true rfl) hf ⟨rfl, rfl⟩ (fun d hd => ?_)
  refine z_eqlv (lv' := [(0, .ref a0), (1, .int x1), (2, .int x2), (3, .int x3)]) rfl ?_
  unfold f6_init
  refine z_aload_n (pc := 0) 0 dX6_init_0 rfl rfl ?_
  refine z_iload_n (pc := 1) 1 dX6_init_1 rfl rfl ?_
  refine z_iload_n (pc := 2) 2 dX6_init_2 rfl rfl ?_
  refine z_iload_n (pc := 3) 3 dX6_init_3 rfl rfl ?_
  refine z_callVs (pc := 4) [.ref a0, .int x1, .int x2, .int x3] [] rfl (lk_I (Yc := YX7_init) (n := 3) dX6_init_4 rfl rfl rfl rfl np_X7_init mh_RX7 (by decide) ml_RX6_1 im_X7_init in_RX7 cd_X7_init) (Nat.le_trans (by decide) hd) ⟨by decide, by decide⟩ (Nat.le_of_ble_eq_true rfl) (am_kp.rf _) (fun s2 h3 => c7_init h3) (fun s2 h3 => ?_)
  exact z_rVs dX6_init_7 rfl ⟨by decide, by decide⟩
def f5_init (σ : am_S) (a0 : Nat) (x1 : Int32) (x2 : Int32) (x3 : Int32) : Option am_S := (f3_init σ a0 x1 x2 x3).bind fun s2 => (some (s2))
theorem c5_init {l : Launch} {E : am_E} {σ : am_S} {a0 : Nat} {x1 : Int32} {x2 : Int32} {x3 : Int32} {σ1 : am_S} (hf : f5_init σ a0 x1 x2 x3 = some σ1) : Ctr l E msC YX5_init (3) 0 0 [.ref a0, .int x1, .int x2, .int x3] σ none σ1 := by
  refine ctr_of (G := fun u r s => r = none ∧ s = u) (by decide +kernel) (Nat.le_of_ble_eq_true rfl) hf ⟨rfl, rfl⟩ (fun d hd => ?_)
  refine z_eqlv (lv' := [(0, .ref a0), (1, .int x1), (2, .int x2), (3, .int x3)]) rfl ?_
  unfold f5_init
  refine z_aload_n (pc := 0) 0 dX5_init_0 rfl rfl ?_
  refine z_iload_n (pc := 1) 1 dX5_init_1 rfl rfl ?_
  refine z_iload_n (pc := 2) 2 dX5_init_2 rfl rfl ?_
  refine z_iload_n (pc := 3) 3 dX5_init_3 rfl rfl ?_
  refine z_callVs (pc := 4) [.ref a0, .int x1, .int x2, .int x3] [] rfl (lk_I (Yc := YX3_init) (n := 3) dX5_init_4 rfl rfl rfl rfl np_X3_init mh_RX3 (by decide) ml_RX5_1 im_X3_init in_RX3 cd_X3_init) (Nat.le_trans (by decide) hd) ⟨by decide, by decide⟩ (Nat.le_of_ble_eq_true rfl) (am_kp.rf _) (fun s2 h3 => c3_init h3) (fun s2 h3 => ?_)
  exact z_rVs dX5_init_7 rfl ⟨by decide, by decide⟩
def f9_init (σ : am_S) (a0 : Nat) (x1 : Int32) (x2 : Int32) (x3 : Int32) : Option am_S := (f7_init σ a0 x1 x2 x3).bind fun s2 => (some (s2))
theorem c9_init {l : Launch} {E : am_E} {σ : am_S} {a0 : Nat} {x1 : Int32} {x2 : Int32} {x3 : Int32} {σ1 : am_S} (hf : f9_init σ a0 x1 x2 x3 = some σ1) : Ctr l E msC YX9_init (2) 0 0 [.ref a0, .int x1, .int x2, .int x3] σ none σ1 := by
  refine ctr_of (G := fun u r s => r = none ∧ s = u) (by decide +kernel) (Nat.le_of_ble_eq_true rfl) hf ⟨rfl, rfl⟩ (fun d hd => ?_)
  refine z_eqlv (lv' := [(0, .ref a0), (1, .int x1), (2, .int x2), (3, .int x3)]) rfl ?_
  unfold f9_init
  refine z_aload_n (pc := 0) 0 dX9_init_0 rfl rfl ?_
  refine z_iload_n (pc := 1) 1 dX9_init_1 rfl rfl ?_
  refine z_iload_n (pc := 2) 2 dX9_init_2 rfl rfl ?_
  refine z_iload_n (pc := 3) 3 dX9_init_3 rfl rfl ?_
  refine z_callVs (pc := 4) [.ref a0, .int x1, .int x2, .int x3] [] rfl (lk_I (Yc := YX7_init) (n := 3) dX9_init_4 rfl rfl rfl rfl np_X7_init mh_RX7 (by decide) ml_RX9_1 im_X7_init in_RX7 cd_X7_init) (Nat.le_trans (by decide) hd) ⟨by decide, by decide⟩ (Nat.le_of_ble_eq_true rfl) (am_kp.rf _) (fun s2 h3 => c7_init h3) (fun s2 h3 => ?_)
  exact z_rVs dX9_init_7 rfl ⟨by decide, by decide⟩
def f2_init (σ : am_S) (a0 : Nat) (x1 : Int32) (x2 : Int32) (x3 : Int32) : Option am_S := (f6_init σ a0 x1 x2 x3).bind fun s2 => (some (s2))
theorem c2_init {l : Launch} {E : am_E} {σ : am_S} {a0 : Nat} {x1 : Int32} {x2 : Int32} {x3 : Int32} {σ1 : am_S} (hf : f2_init σ a0 x1 x2 x3 = some σ1) : Ctr l E msC YX2_init (3) 0 0 [.ref a0, .int x1, .int x2, .int x3] σ none σ1 := by
  refine ctr_of (G := fun u r s => r = none ∧ s = u) (by decide +kernel) (Nat.le_of_ble_eq_true rfl) hf ⟨rfl, rfl⟩ (fun d hd => ?_)
  refine z_eqlv (lv' := [(0, .ref a0), (1, .int x1), (2, .int x2), (3, .int x3)]) rfl ?_
  unfold f2_init
  refine z_aload_n (pc := 0) 0 dX2_init_0 rfl rfl ?_
  refine z_iload_n (pc := 1) 1 dX2_init_1 rfl rfl ?_
  refine z_iload_n (pc := 2) 2 dX2_init_2 rfl rfl ?_
  refine z_iload_n (pc := 3) 3 dX2_init_3 rfl rfl ?_
  refine z_callVs (pc := 4) [.ref a0, .int x1, .int x2, .int x3] [] rfl (lk_I (Yc := YX6_init) (n := 3) dX2_init_4 rfl rfl rfl rfl np_X6_init mh_RX6 (by decide) ml_RX2_1 im_X6_init in_RX6 cd_X6_init) (Nat.le_trans (by decide) hd) ⟨by decide, by decide⟩ (Nat.le_of_ble_eq_true rfl) (am_kp.rf _) (fun s2 h3 => c6_init h3) (fun s2 h3 => ?_)
  exact z_rVs dX2_init_7 rfl ⟨by decide, by decide⟩
def f1_crewNeeded (σ : am_S) (a0 : Nat) : Option Int32 := if [1].contains (am_ci σ a0) = true then (if fF σ a0 0 ≤ (30 : Int32) then (some ((2 : Int32))) else (some ((3 : Int32)))) else none
theorem c1_crewNeeded {l : Launch} {E : am_E} {σ : am_S} {a0 : Nat} {v : Int32} (hf : f1_crewNeeded σ a0 = some v) : Ctr l E msC YX1_crewNeeded (0) 0 0 [.ref a0] σ (some (.int v)) σ := by
  refine ctr_of (G := fun u r s => r = some (.int u) ∧ s = σ) (by decide +kernel) (Nat.le_of_ble_eq_true rfl) hf ⟨rfl, rfl⟩ (fun d hd => ?_)
  refine z_eqlv (lv' := [(0, .ref a0)]) rfl ?_
  unfold f1_crewNeeded
  refine z_aload_n (pc := 0) 0 dX1_crewNeeded_0 rfl rfl ?_
  refine z_guard (fun g1 => ?_)
  refine z_getIp (pc := 1) [1] dX1_crewNeeded_1 g1 (by decide) fr_RX1_13_p1 ?_
  refine z_bipush (pc := 4) (v := (30 : Int32)) dX1_crewNeeded_4 (by decide) ?_
  refine z_ic_le (pc := 6) (tgt := 13) dX1_crewNeeded_6 (by decide) (fun h2 => ?_) (fun h2 => ?_)
  · refine z_iconst (pc := 13) (v := (2 : Int32)) dX1_crewNeeded_13 (by decide) ?_
    exact z_rI dX1_crewNeeded_14 rfl ⟨by decide, by decide⟩
  · refine z_iconst (pc := 9) (v := (3 : Int32)) dX1_crewNeeded_9 (by decide) ?_
    refine z_goto (pc := 10) (tgt := 14) dX1_crewNeeded_10 (by decide) ?_
    exact z_rI dX1_crewNeeded_14 rfl ⟨by decide, by decide⟩
def f4_takePath (σ : am_S) (x1 : Int32) (x2 : Int32) : Option (Int32 × am_S) := if am_in x1 100 = true then (if am_in x1 100 = true then ((f4_turned x1).bind fun v3 => (if am_in v3 100 = true then (some (fF σ 22 x1.toNatClampNeg, sF (sF σ 22 x1.toNatClampNeg x2) 22 v3.toNatClampNeg x2)) else none)) else none) else none
theorem c4_takePath {l : Launch} {E : am_E} {σ : am_S} {x1 : Int32} {x2 : Int32} {v : Int32} {σ1 : am_S} (hf : f4_takePath σ x1 x2 = some (v, σ1)) : Ctr l E msC YX4_takePath (1) 0 0 [.ref 21, .int x1, .int x2] σ (some (.int v)) σ1 := by
  refine ctr_of (G := fun u r s => r = some (.int u.1) ∧ s = u.2) (by decide +kernel) (Nat.le_of_ble_eq_true rfl) hf ⟨rfl, rfl⟩ (fun d hd => ?_)
  refine z_eqlv (lv' := [(0, .ref 21), (1, .int x1), (2, .int x2)]) rfl ?_
  unfold f4_takePath
  refine z_aload_n (pc := 0) 0 dX4_takePath_0 rfl rfl ?_
  refine z_getQ (pc := 1) (b := 22) dX4_takePath_1 kC21 fr_RX4_9_4 (by decide) rfl ?_
  refine z_iload_n (pc := 4) 1 dX4_takePath_4 rfl rfl ?_
  refine z_iald (pc := 5) dX4_takePath_5 (am_ar.s kC22) (fun h1 => ?_)
  refine z_istore_n (pc := 6) (lv' := [(3, .int (fF σ 22 x1.toNatClampNeg)), (0, .ref 21), (1, .int x1), (2, .int x2)]) dX4_takePath_6 rfl (by decide) rfl ?_
  refine z_aload_n (pc := 7) 1 dX4_takePath_7 rfl rfl ?_
  refine z_getQ (pc := 8) (b := 22) dX4_takePath_8 kC21 fr_RX4_9_4 (by decide) rfl ?_
  refine z_iload_n (pc := 11) 2 dX4_takePath_11 rfl rfl ?_
  refine z_iload_n (pc := 12) 3 dX4_takePath_12 rfl rfl ?_
  refine z_iast (pc := 13) dX4_takePath_13 (am_ar.s kC22) (fun h2 => ?_)
  refine z_aload_n (pc := 14) 1 dX4_takePath_14 rfl rfl ?_
  refine z_getQ (pc := 15) (b := 22) dX4_takePath_15 kC21 fr_RX4_9_4 (by decide) rfl ?_
  refine z_iload_n (pc := 18) 2 dX4_takePath_18 rfl rfl ?_
  refine z_callI (pc := 19) [.int x1] [.ref 22] rfl (lk_S (Yc := YX4_turned) (n := 1) dX4_takePath_19 rfl np_X4_turned mh_RX4 (by decide) ml_RX4_22 st_X4_turned in_RX4 cd_X4_turned) (Nat.le_trans (by decide) hd) ⟨by decide, by decide⟩ (Nat.le_of_ble_eq_true rfl) (am_kp.rf _) (fun v3 h5 => c4_turned h5) (fun v3 h5 => ?_)
  refine z_iload_n (pc := 22) 3 dX4_takePath_22 rfl rfl ?_
  refine z_iast (pc := 23) dX4_takePath_23 (am_ar.s kC22) (fun h6 => ?_)
  refine z_iload_n (pc := 24) 0 dX4_takePath_24 rfl rfl ?_
  exact z_rIs dX4_takePath_25 rfl ⟨by decide, by decide⟩
def f1_takeHeads (σ : am_S) (a0 : Nat) (x1 : Int32) : Option (Int32 × am_S) := if [1].contains (am_ci σ a0) = true then (some (fF σ a0 3, sF σ a0 3 x1)) else none
theorem c1_takeHeads {l : Launch} {E : am_E} {σ : am_S} {a0 : Nat} {x1 : Int32} {v : Int32} {σ1 : am_S} (hf : f1_takeHeads σ a0 x1 = some (v, σ1)) : Ctr l E msC YX1_takeHeads (0) 0 0 [.ref a0, .int x1] σ (some (.int v)) σ1 := by
  refine ctr_of (G := fun u r s => r = some (.int u.1) ∧ s = u.2) (by decide +kernel) (Nat.le_of_ble_eq_true rfl) hf ⟨rfl, rfl⟩ (fun d hd => ?_)
  refine z_eqlv (lv' := [(0, .ref a0), (1, .int x1)]) rfl ?_
  unfold f1_takeHeads
  refine z_aload_n (pc := 0) 0 dX1_takeHeads_0 rfl rfl ?_
  refine z_guard (fun g1 => ?_)
  refine z_getIp (pc := 1) [1] dX1_takeHeads_1 g1 (by decide) fr_RX1_19_p1 ?_
  refine z_istore_n (pc := 4) (lv' := [(2, .int (fF σ a0 3)), (0, .ref a0), (1, .int x1)]) dX1_takeHeads_4 rfl (by decide) rfl ?_
  refine z_aload_n (pc := 5) 1 dX1_takeHeads_5 rfl rfl ?_
  refine z_iload_n (pc := 6) 2 dX1_takeHeads_6 rfl rfl ?_
  refine z_putIp (pc := 7) [1] dX1_takeHeads_7 g1 (by decide) fw_RX1_19_p1 ?_
  refine z_iload_n (pc := 10) 0 dX1_takeHeads_10 rfl rfl ?_
  exact z_rIs dX1_takeHeads_11 rfl ⟨by decide, by decide⟩
def f7_parts (σ : am_S) (a0 : Nat) : Option Int32 := some ((4 : Int32))
theorem c7_parts {l : Launch} {E : am_E} {σ : am_S} {a0 : Nat} {v : Int32} (hf : f7_parts σ a0 = some v) : Ctr l E msC YX7_parts (0) 0 0 [.ref a0] σ (some (.int v)) σ := by
  refine ctr_of (G := fun u r s => r = some (.int u) ∧ s = σ) (by decide +kernel) (Nat.le_of_ble_eq_true rfl) hf ⟨rfl, rfl⟩ (fun d hd => ?_)
  refine z_eqlv (lv' := [(0, .ref a0)]) rfl ?_
  unfold f7_parts
  refine z_iconst (pc := 0) (v := (4 : Int32)) dX7_parts_0 (by decide) ?_
  exact z_rI dX7_parts_1 rfl ⟨by decide, by decide⟩
def f2_parts (σ : am_S) (a0 : Nat) : Option Int32 := if [2].contains (am_ci σ a0) = true then ((f7_parts σ a0).bind fun v2 => (some (v2 + (1 : Int32)))) else none
theorem c2_parts {l : Launch} {E : am_E} {σ : am_S} {a0 : Nat} {v : Int32} (hf : f2_parts σ a0 = some v) : Ctr l E msC YX2_parts (1) 0 0 [.ref a0] σ (some (.int v)) σ := by
  refine ctr_of (G := fun u r s => r = some (.int u) ∧ s = σ) (by decide +kernel) (Nat.le_of_ble_eq_true rfl) hf ⟨rfl, rfl⟩ (fun d hd => ?_)
  refine z_eqlv (lv' := [(0, .ref a0)]) rfl ?_
  unfold f2_parts
  refine z_aload_n (pc := 0) 0 dX2_parts_0 rfl rfl ?_
  refine z_guard (fun g1 => ?_)
  refine z_callI (pc := 1) [.ref a0] [] rfl (lk_SUi (Yc := YX7_parts) (n := 0) (x := (⟨RX6, "parts", "()I"⟩ : MethodName)) [2] g1 (by decide) RX7 dX2_parts_1 rfl rfl (by decide) rfl np_X7_parts (by decide) ml_RX2_15 sm_RX6_parts_RX7 su_RX2_RX6 su_RX6_RX7 im_X7_parts in_RX7 cd_X7_parts) (Nat.le_trans (by decide) hd) ⟨by decide, by decide⟩ (Nat.le_of_ble_eq_true rfl) (am_kp.rf _) (fun v2 h4 => c7_parts h4) (fun v2 h4 => ?_)
  refine z_iconst (pc := 4) (v := (1 : Int32)) dX2_parts_4 (by decide) ?_
  refine z_iadd (pc := 5) dX2_parts_5 ?_
  exact z_rI dX2_parts_6 rfl ⟨by decide, by decide⟩
def f3_parts (σ : am_S) (a0 : Nat) : Option Int32 := if [3, 5].contains (am_ci σ a0) = true then ((f7_parts σ a0).bind fun v2 => (some (v2 - (1 : Int32)))) else none
theorem c3_parts {l : Launch} {E : am_E} {σ : am_S} {a0 : Nat} {v : Int32} (hf : f3_parts σ a0 = some v) : Ctr l E msC YX3_parts (1) 0 0 [.ref a0] σ (some (.int v)) σ := by
  refine ctr_of (G := fun u r s => r = some (.int u) ∧ s = σ) (by decide +kernel) (Nat.le_of_ble_eq_true rfl) hf ⟨rfl, rfl⟩ (fun d hd => ?_)
  refine z_eqlv (lv' := [(0, .ref a0)]) rfl ?_
  unfold f3_parts
  refine z_aload_n (pc := 0) 0 dX3_parts_0 rfl rfl ?_
  refine z_guard (fun g1 => ?_)
  refine z_callI (pc := 1) [.ref a0] [] rfl (lk_SUp (Yc := YX7_parts) (n := 0) [3, 5] g1 (by decide) dX3_parts_1 rfl rfl (by decide) np_X7_parts (by decide) ml_RX3_21 sm_X7_parts_RX7 su_RX3_RX7 im_X7_parts in_RX7 cd_X7_parts) (Nat.le_trans (by decide) hd) ⟨by decide, by decide⟩ (Nat.le_of_ble_eq_true rfl) (am_kp.rf _) (fun v2 h4 => c7_parts h4) (fun v2 h4 => ?_)
  refine z_iconst (pc := 4) (v := (1 : Int32)) dX3_parts_4 (by decide) ?_
  refine z_isub (pc := 5) dX3_parts_5 ?_
  exact z_rI dX3_parts_6 rfl ⟨by decide, by decide⟩
def f5_parts (σ : am_S) (a0 : Nat) : Option Int32 := if [5].contains (am_ci σ a0) = true then ((f3_parts σ a0).bind fun v2 => (some ((2 : Int32) * v2))) else none
theorem c5_parts {l : Launch} {E : am_E} {σ : am_S} {a0 : Nat} {v : Int32} (hf : f5_parts σ a0 = some v) : Ctr l E msC YX5_parts (2) 0 0 [.ref a0] σ (some (.int v)) σ := by
  refine ctr_of (G := fun u r s => r = some (.int u) ∧ s = σ) (by decide +kernel) (Nat.le_of_ble_eq_true rfl) hf ⟨rfl, rfl⟩ (fun d hd => ?_)
  refine z_eqlv (lv' := [(0, .ref a0)]) rfl ?_
  unfold f5_parts
  refine z_iconst (pc := 0) (v := (2 : Int32)) dX5_parts_0 (by decide) ?_
  refine z_aload_n (pc := 1) 0 dX5_parts_1 rfl rfl ?_
  refine z_guard (fun g1 => ?_)
  refine z_callI (pc := 2) [.ref a0] [.int (2 : Int32)] rfl (lk_SUp (Yc := YX3_parts) (n := 0) [5] g1 (by decide) dX5_parts_2 rfl rfl (by decide) np_X3_parts (by decide) ml_RX5_25 sm_X3_parts_RX3 su_RX5_RX3 im_X3_parts in_RX3 cd_X3_parts) (Nat.le_trans (by decide) hd) ⟨by decide, by decide⟩ (Nat.le_of_ble_eq_true rfl) (am_kp.rf _) (fun v2 h4 => c3_parts h4) (fun v2 h4 => ?_)
  refine z_imul (pc := 5) dX5_parts_5 ?_
  exact z_rI dX5_parts_6 rfl ⟨by decide, by decide⟩
def f9_parts (σ : am_S) (a0 : Nat) : Option Int32 := if [9].contains (am_ci σ a0) = true then ((f7_parts σ a0).bind fun v2 => (some (v2 / (2 : Int32)))) else none
theorem c9_parts {l : Launch} {E : am_E} {σ : am_S} {a0 : Nat} {v : Int32} (hf : f9_parts σ a0 = some v) : Ctr l E msC YX9_parts (1) 0 0 [.ref a0] σ (some (.int v)) σ := by
  refine ctr_of (G := fun u r s => r = some (.int u) ∧ s = σ) (by decide +kernel) (Nat.le_of_ble_eq_true rfl) hf ⟨rfl, rfl⟩ (fun d hd => ?_)
  refine z_eqlv (lv' := [(0, .ref a0)]) rfl ?_
  unfold f9_parts
  refine z_aload_n (pc := 0) 0 dX9_parts_0 rfl rfl ?_
  refine z_guard (fun g1 => ?_)
  refine z_callI (pc := 1) [.ref a0] [] rfl (lk_SUp (Yc := YX7_parts) (n := 0) [9] g1 (by decide) dX9_parts_1 rfl rfl (by decide) np_X7_parts (by decide) ml_RX9_21 sm_X7_parts_RX7 su_RX9_RX7 im_X7_parts in_RX7 cd_X7_parts) (Nat.le_trans (by decide) hd) ⟨by decide, by decide⟩ (Nat.le_of_ble_eq_true rfl) (am_kp.rf _) (fun v2 h4 => c7_parts h4) (fun v2 h4 => ?_)
  refine z_iconst (pc := 4) (v := (2 : Int32)) dX9_parts_4 (by decide) ?_
  refine z_idiv (pc := 5) dX9_parts_5 (by decide) ?_
  exact z_rI dX9_parts_6 rfl ⟨by decide, by decide⟩
def f8_become (N : Nat) (σ : am_S) (a0 : Nat) (x1 : Int32) (x2 : Int32) : Option am_S := if [8].contains (am_ci σ a0) = true then (if x1 = (-1 : Int32) then ((am_rq (sF (sF σ a0 0 x1) a0 1 (0 : Int32)) a0 2).elim none (fun b4 => (fJ7_fill_53178 N (sF (sF σ a0 0 x1) a0 1 (0 : Int32)) b4 (0 : Int32)).bind fun s6 => (some (s6)))) else ((am_rq (sF (sF σ a0 0 x1) a0 1 (if (0 : Int32) < (if x2 < (40 : Int32) then x2 else (40 : Int32)) then (if x2 < (40 : Int32) then x2 else (40 : Int32)) else (0 : Int32))) a0 2).elim none (fun b9 => (fJ7_fill_53178 N (sF (sF σ a0 0 x1) a0 1 (if (0 : Int32) < (if x2 < (40 : Int32) then x2 else (40 : Int32)) then (if x2 < (40 : Int32) then x2 else (40 : Int32)) else (0 : Int32))) b9 (0 : Int32)).bind fun s11 => (some (s11))))) else none
theorem c8_become {l : Launch} {E : am_E} {N : Nat} {σ : am_S} {a0 : Nat} {x1 : Int32} {x2 : Int32} {σ1 : am_S} (hf : f8_become N σ a0 x1 x2 = some σ1) : Ctr l E msC YX8_become (1) 0 0 [.ref a0, .int x1, .int x2] σ none σ1 := by
  refine ctr_of (G := fun u r s => r = none ∧ s = u) (by decide +kernel) (Nat.le_of_ble_eq_true rfl) hf ⟨rfl, rfl⟩ (fun d hd => ?_)
  refine z_eqlv (lv' := [(0, .ref a0), (1, .int x1), (2, .int x2)]) rfl ?_
  unfold f8_become
  refine z_aload_n (pc := 0) 0 dX8_become_0 rfl rfl ?_
  refine z_iload_n (pc := 1) 1 dX8_become_1 rfl rfl ?_
  refine z_guard (fun g1 => ?_)
  refine z_putIp (pc := 2) [8] dX8_become_2 g1 (by decide) fw_RX8_9_p8 ?_
  refine z_aload_n (pc := 5) 0 dX8_become_5 rfl rfl ?_
  refine z_iload_n (pc := 6) 1 dX8_become_6 rfl rfl ?_
  refine z_iconst (pc := 7) (v := (-1 : Int32)) dX8_become_7 (by decide) ?_
  refine z_ic_ne (pc := 8) (tgt := 15) dX8_become_8 (by decide) (fun h2 => ?_) (fun h2 => ?_)
  · refine z_iconst (pc := 11) (v := (0 : Int32)) dX8_become_11 (by decide) ?_
    refine z_goto (pc := 12) (tgt := 25) dX8_become_12 (by decide) ?_
    refine z_putIp (pc := 25) [8] dX8_become_25 g1 (by decide) fw_RX8_26_p8 ?_
    refine z_aload_n (pc := 28) 0 dX8_become_28 rfl rfl ?_
    refine z_getR (pc := 29) dX8_become_29 (am_cis_ob g1 (by decide)) (fr_RX8_13_p8 _ (am_memOf g1)).1 (fr_RX8_13_p8 _ (am_memOf g1)).2 ?_
    refine z_elim (fun e3 => z_none) (fun b4 e3 => ?_)
    refine z_iconst (pc := 32) (v := (0 : Int32)) dX8_become_32 (by decide) ?_
    refine z_callVs (pc := 33) [.ref b4, .int (0 : Int32)] [] rfl (lk_S (Yc := YJ7_fill_53178) (n := 2) dX8_become_33 rfl np_J7_fill_53178 mh_RJ7 (by decide) ml_RX8_29 st_J7_fill_53178 in_RJ7 cd_J7_fill_53178) (Nat.le_trans (by decide) hd) ⟨by decide, by decide⟩ (Nat.le_of_ble_eq_true rfl) (am_kp.rf _) (fun s6 h7 => ccJ7_fill_53178 h7) (fun s6 h7 => ?_)
    exact z_rVs dX8_become_36 rfl ⟨by decide, by decide⟩
  · refine z_iconst (pc := 15) (v := (0 : Int32)) dX8_become_15 (by decide) ?_
    refine z_bipush (pc := 16) (v := (40 : Int32)) dX8_become_16 (by decide) ?_
    refine z_iload_n (pc := 18) 2 dX8_become_18 rfl rfl ?_
    refine z_min (pc := 19) dX8_become_19 ml_RX8_17 st_math_min in_math cd_math_min (Nat.le_trans (by decide) hd) (Nat.le_of_ble_eq_true rfl) ⟨by decide, by decide⟩ ?_
    refine z_max (pc := 22) dX8_become_22 ml_RX8_23 st_math_max in_math cd_math_max (Nat.le_trans (by decide) hd) (Nat.le_of_ble_eq_true rfl) ⟨by decide, by decide⟩ ?_
    refine z_putIp (pc := 25) [8] dX8_become_25 g1 (by decide) fw_RX8_26_p8 ?_
    refine z_aload_n (pc := 28) 0 dX8_become_28 rfl rfl ?_
    refine z_getR (pc := 29) dX8_become_29 (am_cis_ob g1 (by decide)) (fr_RX8_13_p8 _ (am_memOf g1)).1 (fr_RX8_13_p8 _ (am_memOf g1)).2 ?_
    refine z_elim (fun e8 => z_none) (fun b9 e8 => ?_)
    refine z_iconst (pc := 32) (v := (0 : Int32)) dX8_become_32 (by decide) ?_
    refine z_callVs (pc := 33) [.ref b9, .int (0 : Int32)] [] rfl (lk_S (Yc := YJ7_fill_53178) (n := 2) dX8_become_33 rfl np_J7_fill_53178 mh_RJ7 (by decide) ml_RX8_29 st_J7_fill_53178 in_RJ7 cd_J7_fill_53178) (Nat.le_trans (by decide) hd) ⟨by decide, by decide⟩ (Nat.le_of_ble_eq_true rfl) (am_kp.rf _) (fun s11 h12 => ccJ7_fill_53178 h12) (fun s11 h12 => ?_)
    exact z_rVs dX8_become_36 rfl ⟨by decide, by decide⟩
def f7_pace (σ : am_S) (a0 : Nat) : Option Int32 := some ((10 : Int32))
theorem c7_pace {l : Launch} {E : am_E} {σ : am_S} {a0 : Nat} {v : Int32} (hf : f7_pace σ a0 = some v) : Ctr l E msC YX7_pace (0) 0 0 [.ref a0] σ (some (.int v)) σ := by
  refine ctr_of (G := fun u r s => r = some (.int u) ∧ s = σ) (by decide +kernel) (Nat.le_of_ble_eq_true rfl) hf ⟨rfl, rfl⟩ (fun d hd => ?_)
  refine z_eqlv (lv' := [(0, .ref a0)]) rfl ?_
  unfold f7_pace
  refine z_bipush (pc := 0) (v := (10 : Int32)) dX7_pace_0 (by decide) ?_
  exact z_rI dX7_pace_2 rfl ⟨by decide, by decide⟩
def f6_pace (σ : am_S) (a0 : Nat) : Option Int32 := if [2, 6].contains (am_ci σ a0) = true then ((f7_pace σ a0).bind fun v2 => (some (v2 - ((fF σ a0 1) / (20 : Int32))))) else none
theorem c6_pace {l : Launch} {E : am_E} {σ : am_S} {a0 : Nat} {v : Int32} (hf : f6_pace σ a0 = some v) : Ctr l E msC YX6_pace (1) 0 0 [.ref a0] σ (some (.int v)) σ := by
  refine ctr_of (G := fun u r s => r = some (.int u) ∧ s = σ) (by decide +kernel) (Nat.le_of_ble_eq_true rfl) hf ⟨rfl, rfl⟩ (fun d hd => ?_)
  refine z_eqlv (lv' := [(0, .ref a0)]) rfl ?_
  unfold f6_pace
  refine z_aload_n (pc := 0) 0 dX6_pace_0 rfl rfl ?_
  refine z_guard (fun g1 => ?_)
  refine z_callI (pc := 1) [.ref a0] [] rfl (lk_SUp (Yc := YX7_pace) (n := 0) [2, 6] g1 (by decide) dX6_pace_1 rfl rfl (by decide) np_X7_pace (by decide) ml_RX6_7 sm_X7_pace_RX7 su_RX6_RX7 im_X7_pace in_RX7 cd_X7_pace) (Nat.le_trans (by decide) hd) ⟨by decide, by decide⟩ (Nat.le_of_ble_eq_true rfl) (am_kp.rf _) (fun v2 h4 => c7_pace h4) (fun v2 h4 => ?_)
  refine z_aload_n (pc := 4) 0 dX6_pace_4 rfl rfl ?_
  refine z_getIp (pc := 5) [2, 6] dX6_pace_5 g1 (by decide) fr_RX6_11_p26 ?_
  refine z_bipush (pc := 8) (v := (20 : Int32)) dX6_pace_8 (by decide) ?_
  refine z_idiv (pc := 10) dX6_pace_10 (by decide) ?_
  refine z_isub (pc := 11) dX6_pace_11 ?_
  exact z_rI dX6_pace_12 rfl ⟨by decide, by decide⟩
def f2_pace (σ : am_S) (a0 : Nat) : Option Int32 := if [2].contains (am_ci σ a0) = true then ((f6_pace σ a0).bind fun v2 => (some ((v2 / (2 : Int32)) + (2 : Int32)))) else none
theorem c2_pace {l : Launch} {E : am_E} {σ : am_S} {a0 : Nat} {v : Int32} (hf : f2_pace σ a0 = some v) : Ctr l E msC YX2_pace (2) 0 0 [.ref a0] σ (some (.int v)) σ := by
  refine ctr_of (G := fun u r s => r = some (.int u) ∧ s = σ) (by decide +kernel) (Nat.le_of_ble_eq_true rfl) hf ⟨rfl, rfl⟩ (fun d hd => ?_)
  refine z_eqlv (lv' := [(0, .ref a0)]) rfl ?_
  unfold f2_pace
  refine z_aload_n (pc := 0) 0 dX2_pace_0 rfl rfl ?_
  refine z_guard (fun g1 => ?_)
  refine z_callI (pc := 1) [.ref a0] [] rfl (lk_SUp (Yc := YX6_pace) (n := 0) [2] g1 (by decide) dX2_pace_1 rfl rfl (by decide) np_X6_pace (by decide) ml_RX2_7 sm_X6_pace_RX6 su_RX2_RX6 im_X6_pace in_RX6 cd_X6_pace) (Nat.le_trans (by decide) hd) ⟨by decide, by decide⟩ (Nat.le_of_ble_eq_true rfl) (am_kp.rf _) (fun v2 h4 => c6_pace h4) (fun v2 h4 => ?_)
  refine z_iconst (pc := 4) (v := (2 : Int32)) dX2_pace_4 (by decide) ?_
  refine z_idiv (pc := 5) dX2_pace_5 (by decide) ?_
  refine z_iconst (pc := 6) (v := (2 : Int32)) dX2_pace_6 (by decide) ?_
  refine z_iadd (pc := 7) dX2_pace_7 ?_
  exact z_rI dX2_pace_8 rfl ⟨by decide, by decide⟩
def f3_pace (σ : am_S) (a0 : Nat) : Option Int32 := if [3, 5].contains (am_ci σ a0) = true then ((f7_pace σ a0).bind fun v2 => (some (v2 + (2 : Int32)))) else none
theorem c3_pace {l : Launch} {E : am_E} {σ : am_S} {a0 : Nat} {v : Int32} (hf : f3_pace σ a0 = some v) : Ctr l E msC YX3_pace (1) 0 0 [.ref a0] σ (some (.int v)) σ := by
  refine ctr_of (G := fun u r s => r = some (.int u) ∧ s = σ) (by decide +kernel) (Nat.le_of_ble_eq_true rfl) hf ⟨rfl, rfl⟩ (fun d hd => ?_)
  refine z_eqlv (lv' := [(0, .ref a0)]) rfl ?_
  unfold f3_pace
  refine z_aload_n (pc := 0) 0 dX3_pace_0 rfl rfl ?_
  refine z_guard (fun g1 => ?_)
  refine z_callI (pc := 1) [.ref a0] [] rfl (lk_SUp (Yc := YX7_pace) (n := 0) [3, 5] g1 (by decide) dX3_pace_1 rfl rfl (by decide) np_X7_pace (by decide) ml_RX3_7 sm_X7_pace_RX7 su_RX3_RX7 im_X7_pace in_RX7 cd_X7_pace) (Nat.le_trans (by decide) hd) ⟨by decide, by decide⟩ (Nat.le_of_ble_eq_true rfl) (am_kp.rf _) (fun v2 h4 => c7_pace h4) (fun v2 h4 => ?_)
  refine z_iconst (pc := 4) (v := (2 : Int32)) dX3_pace_4 (by decide) ?_
  refine z_iadd (pc := 5) dX3_pace_5 ?_
  exact z_rI dX3_pace_6 rfl ⟨by decide, by decide⟩
def f5_pace (σ : am_S) (a0 : Nat) : Option Int32 := if [5].contains (am_ci σ a0) = true then ((f3_pace σ a0).bind fun v2 => (some (v2 + (fF σ a0 2)))) else none
theorem c5_pace {l : Launch} {E : am_E} {σ : am_S} {a0 : Nat} {v : Int32} (hf : f5_pace σ a0 = some v) : Ctr l E msC YX5_pace (2) 0 0 [.ref a0] σ (some (.int v)) σ := by
  refine ctr_of (G := fun u r s => r = some (.int u) ∧ s = σ) (by decide +kernel) (Nat.le_of_ble_eq_true rfl) hf ⟨rfl, rfl⟩ (fun d hd => ?_)
  refine z_eqlv (lv' := [(0, .ref a0)]) rfl ?_
  unfold f5_pace
  refine z_aload_n (pc := 0) 0 dX5_pace_0 rfl rfl ?_
  refine z_guard (fun g1 => ?_)
  refine z_callI (pc := 1) [.ref a0] [] rfl (lk_SUp (Yc := YX3_pace) (n := 0) [5] g1 (by decide) dX5_pace_1 rfl rfl (by decide) np_X3_pace (by decide) ml_RX5_7 sm_X3_pace_RX3 su_RX5_RX3 im_X3_pace in_RX3 cd_X3_pace) (Nat.le_trans (by decide) hd) ⟨by decide, by decide⟩ (Nat.le_of_ble_eq_true rfl) (am_kp.rf _) (fun v2 h4 => c3_pace h4) (fun v2 h4 => ?_)
  refine z_aload_n (pc := 4) 0 dX5_pace_4 rfl rfl ?_
  refine z_getIp (pc := 5) [5] dX5_pace_5 g1 (by decide) fr_RX5_11_p5 ?_
  refine z_iadd (pc := 8) dX5_pace_8 ?_
  exact z_rI dX5_pace_9 rfl ⟨by decide, by decide⟩
def f9_pace (σ : am_S) (a0 : Nat) : Option Int32 := if [9].contains (am_ci σ a0) = true then ((f7_pace σ a0).bind fun v2 => (some (v2 - (3 : Int32)))) else none
theorem c9_pace {l : Launch} {E : am_E} {σ : am_S} {a0 : Nat} {v : Int32} (hf : f9_pace σ a0 = some v) : Ctr l E msC YX9_pace (1) 0 0 [.ref a0] σ (some (.int v)) σ := by
  refine ctr_of (G := fun u r s => r = some (.int u) ∧ s = σ) (by decide +kernel) (Nat.le_of_ble_eq_true rfl) hf ⟨rfl, rfl⟩ (fun d hd => ?_)
  refine z_eqlv (lv' := [(0, .ref a0)]) rfl ?_
  unfold f9_pace
  refine z_aload_n (pc := 0) 0 dX9_pace_0 rfl rfl ?_
  refine z_guard (fun g1 => ?_)
  refine z_callI (pc := 1) [.ref a0] [] rfl (lk_SUp (Yc := YX7_pace) (n := 0) [9] g1 (by decide) dX9_pace_1 rfl rfl (by decide) np_X7_pace (by decide) ml_RX9_7 sm_X7_pace_RX7 su_RX9_RX7 im_X7_pace in_RX7 cd_X7_pace) (Nat.le_trans (by decide) hd) ⟨by decide, by decide⟩ (Nat.le_of_ble_eq_true rfl) (am_kp.rf _) (fun v2 h4 => c7_pace h4) (fun v2 h4 => ?_)
  refine z_iconst (pc := 4) (v := (3 : Int32)) dX9_pace_4 (by decide) ?_
  refine z_isub (pc := 5) dX9_pace_5 ?_
  exact z_rI dX9_pace_6 rfl ⟨by decide, by decide⟩
def d_pace (σ : am_S) (a : Nat) : Option Int32 := if am_ci σ a = 2 then f2_pace σ a else (if am_ci σ a = 3 then f3_pace σ a else (if am_ci σ a = 5 then f5_pace σ a else (if am_ci σ a = 6 then f6_pace σ a else (if am_ci σ a = 7 then f7_pace σ a else (if am_ci σ a = 9 then f9_pace σ a else (none))))))
theorem d_pace_c {σ : am_S} {a : Nat} {v : Int32} (h : d_pace σ a = some v) : (am_ci σ a = 2 ∧ f2_pace σ a = some v) ∨ (am_ci σ a = 3 ∧ f3_pace σ a = some v) ∨ (am_ci σ a = 5 ∧ f5_pace σ a = some v) ∨ (am_ci σ a = 6 ∧ f6_pace σ a = some v) ∨ (am_ci σ a = 7 ∧ f7_pace σ a = some v) ∨ (am_ci σ a = 9 ∧ f9_pace σ a = some v) := by
  unfold d_pace at h
  by_cases hc : am_ci σ a = 2
  · rw [if_pos hc] at h; exact Or.inl ⟨hc, h⟩
  rw [if_neg hc] at h
  by_cases hc : am_ci σ a = 3
  · rw [if_pos hc] at h; exact Or.inr (Or.inl ⟨hc, h⟩)
  rw [if_neg hc] at h
  by_cases hc : am_ci σ a = 5
  · rw [if_pos hc] at h; exact Or.inr (Or.inr (Or.inl ⟨hc, h⟩))
  rw [if_neg hc] at h
  by_cases hc : am_ci σ a = 6
  · rw [if_pos hc] at h; exact Or.inr (Or.inr (Or.inr (Or.inl ⟨hc, h⟩)))
  rw [if_neg hc] at h
  by_cases hc : am_ci σ a = 7
  · rw [if_pos hc] at h; exact Or.inr (Or.inr (Or.inr (Or.inr (Or.inl ⟨hc, h⟩))))
  rw [if_neg hc] at h
  by_cases hc : am_ci σ a = 9
  · rw [if_pos hc] at h; exact Or.inr (Or.inr (Or.inr (Or.inr (Or.inr (⟨hc, h⟩)))))
  rw [if_neg hc] at h
  cases h
def f7_toldPace (σ : am_S) (a0 : Nat) : Option Int32 := if [2, 3, 5, 6, 7, 9].contains (am_ci σ a0) = true then ((d_pace σ a0).bind fun v2 => (some ((if (1 : Int32) < v2 then v2 else (1 : Int32))))) else none
theorem c7_toldPace {l : Launch} {E : am_E} {σ : am_S} {a0 : Nat} {v : Int32} (hf : f7_toldPace σ a0 = some v) : Ctr l E msC YX7_toldPace (3) 0 0 [.ref a0] σ (some (.int v)) σ := by
  refine ctr_of (G := fun u r s => r = some (.int u) ∧ s = σ) (by decide +kernel) (Nat.le_of_ble_eq_true rfl) hf ⟨rfl, rfl⟩ (fun d hd => ?_)
  refine z_eqlv (lv' := [(0, .ref a0)]) rfl ?_
  unfold f7_toldPace
  refine z_iconst (pc := 0) (v := (1 : Int32)) dX7_toldPace_0 (by decide) ?_
  refine z_aload_n (pc := 1) 0 dX7_toldPace_1 rfl rfl ?_
  refine z_guard (fun g1 => ?_)
  refine z_callDI (pc := 2) [.ref a0] [.int (1 : Int32)] rfl ⟨by decide, by decide⟩ (Nat.le_of_ble_eq_true rfl) (fun v hv => by
    rcases d_pace_c hv with ⟨hc, hv⟩ | ⟨hc, hv⟩ | ⟨hc, hv⟩ | ⟨hc, hv⟩ | ⟨hc, hv⟩ | ⟨hc, hv⟩
    · exact ⟨_, _, lk_O (Yc := YX2_pace) (n := 0) (x := yX7_pace) RX7 (Y0 := YX7_pace) dX7_toldPace_2 rfl rfl (am_ob.d hc (by decide)) rfl rfl np_X7_pace mh_RX7 (by decide) ml_RX7_25 sm_X7_pace_RX7 im_X7_pace cd_X7_pace se_RX2_X7_pace_X2_pace im_X2_pace in_RX2 cd_X2_pace, (Nat.le_trans (by decide) hd), c2_pace hv⟩
    · exact ⟨_, _, lk_O (Yc := YX3_pace) (n := 0) (x := yX7_pace) RX7 (Y0 := YX7_pace) dX7_toldPace_2 rfl rfl (am_ob.d hc (by decide)) rfl rfl np_X7_pace mh_RX7 (by decide) ml_RX7_25 sm_X7_pace_RX7 im_X7_pace cd_X7_pace se_RX3_X7_pace_X3_pace im_X3_pace in_RX3 cd_X3_pace, (Nat.le_trans (by decide) hd), c3_pace hv⟩
    · exact ⟨_, _, lk_O (Yc := YX5_pace) (n := 0) (x := yX7_pace) RX7 (Y0 := YX7_pace) dX7_toldPace_2 rfl rfl (am_ob.d hc (by decide)) rfl rfl np_X7_pace mh_RX7 (by decide) ml_RX7_25 sm_X7_pace_RX7 im_X7_pace cd_X7_pace se_RX5_X7_pace_X5_pace im_X5_pace in_RX5 cd_X5_pace, (Nat.le_trans (by decide) hd), c5_pace hv⟩
    · exact ⟨_, _, lk_O (Yc := YX6_pace) (n := 0) (x := yX7_pace) RX7 (Y0 := YX7_pace) dX7_toldPace_2 rfl rfl (am_ob.d hc (by decide)) rfl rfl np_X7_pace mh_RX7 (by decide) ml_RX7_25 sm_X7_pace_RX7 im_X7_pace cd_X7_pace se_RX6_X7_pace_X6_pace im_X6_pace in_RX6 cd_X6_pace, (Nat.le_trans (by decide) hd), c6_pace hv⟩
    · exact ⟨_, _, lk_V (Yc := YX7_pace) (n := 0) dX7_toldPace_2 rfl rfl (am_ob.d hc (by decide)) rfl rfl np_X7_pace mh_RX7 (by decide) ml_RX7_25 im_X7_pace se_RX7_X7_pace_X7_pace in_RX7 cd_X7_pace, (Nat.le_trans (by decide) hd), c7_pace hv⟩
    · exact ⟨_, _, lk_O (Yc := YX9_pace) (n := 0) (x := yX7_pace) RX7 (Y0 := YX7_pace) dX7_toldPace_2 rfl rfl (am_ob.d hc (by decide)) rfl rfl np_X7_pace mh_RX7 (by decide) ml_RX7_25 sm_X7_pace_RX7 im_X7_pace cd_X7_pace se_RX9_X7_pace_X9_pace im_X9_pace in_RX9 cd_X9_pace, (Nat.le_trans (by decide) hd), c9_pace hv⟩) (fun v2 h4 => ?_)
  refine z_max (pc := 5) dX7_toldPace_5 ml_RX7_29 st_math_max in_math cd_math_max (Nat.le_trans (by decide) hd) (Nat.le_of_ble_eq_true rfl) ⟨by decide, by decide⟩ ?_
  exact z_rI dX7_toldPace_8 rfl ⟨by decide, by decide⟩
