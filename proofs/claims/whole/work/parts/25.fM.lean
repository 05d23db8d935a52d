def f12_isSign (σ : am_S) (x1 : Int32) : Option Bool := if fF σ 36 29 = 0 then (if fF σ 36 24 = (3 : Int32) then (if lg_cmp (fG σ 36 26) x1.toInt64 = 0 then (some (true)) else (some (false))) else (some (false))) else (some (false))
theorem c12_isSign {l : Launch} {E : am_E} {σ : am_S} {x1 : Int32} {v : Bool} (hf : f12_isSign σ x1 = some v) : Ctr l E msM YX12_isSign (0) 0 0 [.ref 36, .int x1] σ (some (.int (bI v))) σ := by
  refine ctr_of (G := fun u r s => r = some (.int (bI u)) ∧ s = σ) (by decide +kernel) (Nat.le_of_ble_eq_true rfl) hf ⟨rfl, rfl⟩ (fun d hd => ?_)
  refine z_eqlv (lv' := [(0, .ref 36), (1, .int x1)]) rfl ?_
  unfold f12_isSign
  refine z_aload_n (pc := 0) 0 dX12_isSign_0 rfl rfl ?_
  refine z_getI (pc := 1) dX12_isSign_1 (am_ob.s kM36) fr_RX12_241_12 (by decide) ?_
  refine z_if_ne (pc := 4) (tgt := 29) dX12_isSign_4 (by decide) (fun h1 => ?_) (fun h1 => ?_)
  · refine z_aload_n (pc := 7) 0 dX12_isSign_7 rfl rfl ?_
    refine z_getI (pc := 8) dX12_isSign_8 (am_ob.s kM36) fr_RX12_218_12 (by decide) ?_
    refine z_iconst (pc := 11) (v := (3 : Int32)) dX12_isSign_11 (by decide) ?_
    refine z_ic_ne (pc := 12) (tgt := 29) dX12_isSign_12 (by decide) (fun h2 => ?_) (fun h2 => ?_)
    · refine z_aload_n (pc := 15) 0 dX12_isSign_15 rfl rfl ?_
      refine z_getL (pc := 16) dX12_isSign_16 (am_ob.s kM36) fr_RX12_225_12 (by decide) ?_
      refine z_iload_n (pc := 19) 1 dX12_isSign_19 rfl rfl ?_
      refine z_i2l (pc := 20) dX12_isSign_20 ?_
      refine z_lcmp (pc := 21) dX12_isSign_21 ?_
      refine z_if_ne (pc := 22) (tgt := 29) dX12_isSign_22 (by decide) (fun h3 => ?_) (fun h3 => ?_)
      · refine z_iconst (pc := 25) (v := (1 : Int32)) dX12_isSign_25 (by decide) ?_
        refine z_goto (pc := 26) (tgt := 30) dX12_isSign_26 (by decide) ?_
        exact z_rB (b := true) rfl dX12_isSign_30 rfl ⟨by decide, by decide⟩
      · refine z_iconst (pc := 29) (v := (0 : Int32)) dX12_isSign_29 (by decide) ?_
        exact z_rB (b := false) rfl dX12_isSign_30 rfl ⟨by decide, by decide⟩
    · refine z_iconst (pc := 29) (v := (0 : Int32)) dX12_isSign_29 (by decide) ?_
      exact z_rB (b := false) rfl dX12_isSign_30 rfl ⟨by decide, by decide⟩
  · refine z_iconst (pc := 29) (v := (0 : Int32)) dX12_isSign_29 (by decide) ?_
    exact z_rB (b := false) rfl dX12_isSign_30 rfl ⟨by decide, by decide⟩
def f12_byteAt (σ : am_S) (x1 : Int32) : Option Int32 := if fF σ 36 23 ≤ x1 then (some ((-1 : Int32))) else (if am_in ((fF σ 36 22) + x1) 960 = true then (some (fF σ 37 ((fF σ 36 22) + x1).toNatClampNeg)) else none)
theorem c12_byteAt {l : Launch} {E : am_E} {σ : am_S} {x1 : Int32} {v : Int32} (hf : f12_byteAt σ x1 = some v) : Ctr l E msM YX12_byteAt (0) 0 0 [.ref 36, .int x1] σ (some (.int v)) σ := by
  refine ctr_of (G := fun u r s => r = some (.int u) ∧ s = σ) (by decide +kernel) (Nat.le_of_ble_eq_true rfl) hf ⟨rfl, rfl⟩ (fun d hd => ?_)
  refine z_eqlv (lv' := [(0, .ref 36), (1, .int x1)]) rfl ?_
  unfold f12_byteAt
  refine z_iload_n (pc := 0) 1 dX12_byteAt_0 rfl rfl ?_
  refine z_aload_n (pc := 1) 0 dX12_byteAt_1 rfl rfl ?_
  refine z_getI (pc := 2) dX12_byteAt_2 (am_ob.s kM36) fr_RX12_203_12 (by decide) ?_
  refine z_ic_ge (pc := 5) (tgt := 22) dX12_byteAt_5 (by decide) (fun h1 => ?_) (fun h1 => ?_)
  · refine z_iconst (pc := 22) (v := (-1 : Int32)) dX12_byteAt_22 (by decide) ?_
    exact z_rI dX12_byteAt_23 rfl ⟨by decide, by decide⟩
  · refine z_aload_n (pc := 8) 0 dX12_byteAt_8 rfl rfl ?_
    refine z_getQ (pc := 9) (b := 37) dX12_byteAt_9 kM36 fr_RX12_13_12 (by decide) rfl ?_
    refine z_aload_n (pc := 12) 0 dX12_byteAt_12 rfl rfl ?_
    refine z_getI (pc := 13) dX12_byteAt_13 (am_ob.s kM36) fr_RX12_206_12 (by decide) ?_
    refine z_iload_n (pc := 16) 1 dX12_byteAt_16 rfl rfl ?_
    refine z_iadd (pc := 17) dX12_byteAt_17 ?_
    refine z_iald (pc := 18) dX12_byteAt_18 (am_ar.s kM37) (fun h2 => ?_)
    refine z_goto (pc := 19) (tgt := 23) dX12_byteAt_19 (by decide) ?_
    exact z_rI dX12_byteAt_23 rfl ⟨by decide, by decide⟩
def f12_in (x0 : Int64) (x2 : Int64) (x4 : Int64) : Option Bool := if lg_cmp x0 x2 < 0 then (some (false)) else (if 0 < lg_cmp x0 x4 then (some (false)) else (some (true)))
theorem c12_in {l : Launch} {E : am_E} {σ : am_S} {x0 : Int64} {x2 : Int64} {x4 : Int64} {v : Bool} (hf : f12_in x0 x2 x4 = some v) : Ctr l E msM YX12_in (0) 0 0 [.long x0, .long x2, .long x4] σ (some (.int (bI v))) σ := by
  refine ctr_of (G := fun u r s => r = some (.int (bI u)) ∧ s = σ) (by decide +kernel) (Nat.le_of_ble_eq_true rfl) hf ⟨rfl, rfl⟩ (fun d hd => ?_)
  refine z_eqlv (lv' := [(0, .long x0), (2, .long x2), (4, .long x4)]) rfl ?_
  unfold f12_in
  refine z_lload_n (pc := 0) 0 dX12_in_0 rfl rfl ?_
  refine z_lload_n (pc := 1) 1 dX12_in_1 rfl rfl ?_
  refine z_lcmp (pc := 2) dX12_in_2 ?_
  refine z_if_lt (pc := 3) (tgt := 17) dX12_in_3 (by decide) (fun h1 => ?_) (fun h1 => ?_)
  · refine z_iconst (pc := 17) (v := (0 : Int32)) dX12_in_17 (by decide) ?_
    exact z_rB (b := false) rfl dX12_in_18 rfl ⟨by decide, by decide⟩
  · refine z_lload_n (pc := 6) 0 dX12_in_6 rfl rfl ?_
    refine z_lload (pc := 7) 2 dX12_in_7 rfl ?_
    refine z_lcmp (pc := 9) dX12_in_9 ?_
    refine z_if_gt (pc := 10) (tgt := 17) dX12_in_10 (by decide) (fun h2 => ?_) (fun h2 => ?_)
    · refine z_iconst (pc := 17) (v := (0 : Int32)) dX12_in_17 (by decide) ?_
      exact z_rB (b := false) rfl dX12_in_18 rfl ⟨by decide, by decide⟩
    · refine z_iconst (pc := 13) (v := (1 : Int32)) dX12_in_13 (by decide) ?_
      refine z_goto (pc := 14) (tgt := 18) dX12_in_14 (by decide) ?_
      exact z_rB (b := true) rfl dX12_in_18 rfl ⟨by decide, by decide⟩
def f12_next_L107 (N : Nat) : Nat → Int32 → am_S → Option am_S
  | 0, _, _ => none
  | n + 1, x2, σ => (f12_byteAt σ (fF σ 36 27)).bind fun v17 => ((f12_in v17.toInt64 (97 : Int64) (122 : Int64)).bind fun v20 => (if v20 = true then (if (8 : Int32) ≤ x2 then (f12_next_L107 N n (x2 + (1 : Int32)) (sF (sG σ 36 26 (-1 : Int64)) 36 27 ((fF (sG σ 36 26 (-1 : Int64)) 36 27) + (1 : Int32)))) else ((f12_byteAt σ (fF σ 36 27)).bind fun v25 => (f12_next_L107 N n (x2 + (1 : Int32)) (sF (sG σ 36 26 ((((27 : Int64) * (fG σ 36 26)) + v25.toInt64) - (96 : Int64))) 36 27 ((fF (sG σ 36 26 ((((27 : Int64) * (fG σ 36 26)) + v25.toInt64) - (96 : Int64))) 36 27) + (1 : Int32)))))) else (some (σ))))
theorem z12_next_L107 {l : Launch} {E : am_E} {d : Nat} {σ0 : am_S} {N : Nat} (hd : 1 ≤ d) : ∀ (n : Nat) (x2 : Int32) (σ : am_S), Z l E msM σ0 YX12_next d 0 0 107 [(0, .ref 36), (2, .int x2)] [] 0 0 σ (f12_next_L107 N n x2 σ) (fun u r s => r = none ∧ s = u) := by
  intro n
  induction n with
  | zero => intros; exact z_none
  | succ n ih =>
    intro x2 σ
    unfold f12_next_L107
    refine z_aload_n (pc := 107) 0 dX12_next_107 rfl rfl ?_
    refine z_aload_n (pc := 108) 0 dX12_next_108 rfl rfl ?_
    refine z_getI (pc := 109) dX12_next_109 (am_ob.s kM36) fr_RX12_209_12 (by decide) ?_
    refine z_callI (pc := 112) [.ref 36, .int (fF σ 36 27)] [] rfl (lk_V (Yc := YX12_byteAt) (n := 1) dX12_next_112 rfl rfl (am_ob.s kM36) rfl rfl np_X12_byteAt mh_RX12 (by decide) ml_RX12_212 im_X12_byteAt se_RX12_X12_byteAt_X12_byteAt in_RX12 cd_X12_byteAt) (Nat.le_trans (by decide) hd) ⟨by decide, by decide⟩ (Nat.le_of_ble_eq_true rfl) (am_kp.rf _) (fun v17 h19 => c12_byteAt h19) (fun v17 h19 => ?_)
    refine z_i2l (pc := 115) dX12_next_115 ?_
    refine z_ldc2 (pc := 116) (v := (97 : Int64)) dX12_next_116 kl_RX12_221 ?_
    refine z_ldc2 (pc := 119) (v := (122 : Int64)) dX12_next_119 kl_RX12_223 ?_
    refine z_callB (pc := 122) [.long v17.toInt64, .long (97 : Int64), .long (122 : Int64)] [] rfl (lk_S (Yc := YX12_in) (n := 3) dX12_next_122 rfl np_X12_in mh_RX12 (by decide) ml_RX12_134 st_X12_in in_RX12 cd_X12_in) (Nat.le_trans (by decide) hd) ⟨by decide, by decide⟩ (Nat.le_of_ble_eq_true rfl) (am_kp.rf _) (fun v20 h22 => c12_in h22) (fun v20 h22 => ?_)
    refine z_bz_eq (pc := 125) (tgt := 182) dX12_next_125 (by decide) (fun h23 => ?_) (fun h23 => ?_)
    · refine z_aload_n (pc := 128) 0 dX12_next_128 rfl rfl ?_
      refine z_iload_n (pc := 129) 1 dX12_next_129 rfl rfl ?_
      refine z_bipush (pc := 130) (v := (8 : Int32)) dX12_next_130 (by decide) ?_
      refine z_ic_ge (pc := 132) (tgt := 160) dX12_next_132 (by decide) (fun h24 => ?_) (fun h24 => ?_)
      · refine z_ldc2 (pc := 160) (v := (-1 : Int64)) dX12_next_160 kl_RX12_233 ?_
        refine z_putL (pc := 163) dX12_next_163 (am_ob.s kM36) fw_RX12_225_12 (by decide) ?_
        refine z_iinc (pc := 166) (v := x2 + (1 : Int32)) (lv' := [(2, .int (x2 + (1 : Int32))), (0, .ref 36)]) 1 dX12_next_166 rfl rfl (by decide) rfl ?_
        refine z_aload_n (pc := 169) 1 dX12_next_169 rfl rfl ?_
        refine z_dup (pc := 170) dX12_next_170 rfl ?_
        refine z_getI (pc := 171) dX12_next_171 (am_ob.s kM36) fr_RX12_209_12 (by decide) ?_
        refine z_iconst (pc := 174) (v := (1 : Int32)) dX12_next_174 (by decide) ?_
        refine z_iadd (pc := 175) dX12_next_175 ?_
        refine z_putI (pc := 176) dX12_next_176 (am_ob.s kM36) fw_RX12_209_12 (by decide) ?_
        refine z_goto (pc := 179) (tgt := 107) dX12_next_179 (by decide) ?_
        refine z_lv (lv' := [(0, .ref 36), (2, .int (x2 + (1 : Int32)))]) [1, 0] rfl ?_
        exact ih (x2 + (1 : Int32)) (sF (sG σ 36 26 (-1 : Int64)) 36 27 ((fF (sG σ 36 26 (-1 : Int64)) 36 27) + (1 : Int32)))
      · refine z_ldc2 (pc := 135) (v := (27 : Int64)) dX12_next_135 kl_RX12_229 ?_
        refine z_aload_n (pc := 138) 0 dX12_next_138 rfl rfl ?_
        refine z_getL (pc := 139) dX12_next_139 (am_ob.s kM36) fr_RX12_225_12 (by decide) ?_
        refine z_lmul (pc := 142) dX12_next_142 ?_
        refine z_aload_n (pc := 143) 0 dX12_next_143 rfl rfl ?_
        refine z_aload_n (pc := 144) 0 dX12_next_144 rfl rfl ?_
        refine z_getI (pc := 145) dX12_next_145 (am_ob.s kM36) fr_RX12_209_12 (by decide) ?_
        refine z_callI (pc := 148) [.ref 36, .int (fF σ 36 27)] [.long ((27 : Int64) * (fG σ 36 26)), .ref 36] rfl (lk_V (Yc := YX12_byteAt) (n := 1) dX12_next_148 rfl rfl (am_ob.s kM36) rfl rfl np_X12_byteAt mh_RX12 (by decide) ml_RX12_212 im_X12_byteAt se_RX12_X12_byteAt_X12_byteAt in_RX12 cd_X12_byteAt) (Nat.le_trans (by decide) hd) ⟨by decide, by decide⟩ (Nat.le_of_ble_eq_true rfl) (am_kp.rf _) (fun v25 h27 => c12_byteAt h27) (fun v25 h27 => ?_)
        refine z_i2l (pc := 151) dX12_next_151 ?_
        refine z_ladd (pc := 152) dX12_next_152 ?_
        refine z_ldc2 (pc := 153) (v := (96 : Int64)) dX12_next_153 kl_RX12_231 ?_
        refine z_lsub (pc := 156) dX12_next_156 ?_
        refine z_goto (pc := 157) (tgt := 163) dX12_next_157 (by decide) ?_
        refine z_putL (pc := 163) dX12_next_163 (am_ob.s kM36) fw_RX12_225_12 (by decide) ?_
        refine z_iinc (pc := 166) (v := x2 + (1 : Int32)) (lv' := [(2, .int (x2 + (1 : Int32))), (0, .ref 36)]) 1 dX12_next_166 rfl rfl (by decide) rfl ?_
        refine z_aload_n (pc := 169) 1 dX12_next_169 rfl rfl ?_
        refine z_dup (pc := 170) dX12_next_170 rfl ?_
        refine z_getI (pc := 171) dX12_next_171 (am_ob.s kM36) fr_RX12_209_12 (by decide) ?_
        refine z_iconst (pc := 174) (v := (1 : Int32)) dX12_next_174 (by decide) ?_
        refine z_iadd (pc := 175) dX12_next_175 ?_
        refine z_putI (pc := 176) dX12_next_176 (am_ob.s kM36) fw_RX12_209_12 (by decide) ?_
        refine z_goto (pc := 179) (tgt := 107) dX12_next_179 (by decide) ?_
        refine z_lv (lv' := [(0, .ref 36), (2, .int (x2 + (1 : Int32)))]) [1, 0] rfl ?_
        exact ih (x2 + (1 : Int32)) (sF (sG σ 36 26 ((((27 : Int64) * (fG σ 36 26)) + v25.toInt64) - (96 : Int64))) 36 27 ((fF (sG σ 36 26 ((((27 : Int64) * (fG σ 36 26)) + v25.toInt64) - (96 : Int64))) 36 27) + (1 : Int32)))
    · refine z_goto (pc := 182) (tgt := 372) dX12_next_182 (by decide) ?_
      exact z_rVs dX12_next_372 rfl ⟨by decide, by decide⟩
def f12_next_J286 (N : Nat) (x2 : Int32) (σ : am_S) : Option am_S := if x2 ≤ (4 : Int32) then (some (sF σ 36 24 (2 : Int32))) else (some (sF σ 36 24 (4 : Int32)))
theorem z12_next_J286 {l : Launch} {E : am_E} {d : Nat} {σ0 : am_S} {N : Nat} (hd : 1 ≤ d) (x2 : Int32) (σ : am_S) : Z l E msM σ0 YX12_next d 0 0 286 [(0, .ref 36), (2, .int x2)] [] 0 0 σ (f12_next_J286 N x2 σ) (fun u r s => r = none ∧ s = u) := by
  unfold f12_next_J286
  refine z_aload_n (pc := 286) 0 dX12_next_286 rfl rfl ?_
  refine z_iload_n (pc := 287) 1 dX12_next_287 rfl rfl ?_
  refine z_iconst (pc := 288) (v := (4 : Int32)) dX12_next_288 (by decide) ?_
  refine z_ic_le (pc := 289) (tgt := 296) dX12_next_289 (by decide) (fun h43 => ?_) (fun h43 => ?_)
  · refine z_iconst (pc := 296) (v := (2 : Int32)) dX12_next_296 (by decide) ?_
    refine z_putI (pc := 297) dX12_next_297 (am_ob.s kM36) fw_RX12_218_12 (by decide) ?_
    refine z_goto (pc := 300) (tgt := 372) dX12_next_300 (by decide) ?_
    exact z_rVs dX12_next_372 rfl ⟨by decide, by decide⟩
  · refine z_iconst (pc := 292) (v := (4 : Int32)) dX12_next_292 (by decide) ?_
    refine z_goto (pc := 293) (tgt := 297) dX12_next_293 (by decide) ?_
    refine z_putI (pc := 297) dX12_next_297 (am_ob.s kM36) fw_RX12_218_12 (by decide) ?_
    refine z_goto (pc := 300) (tgt := 372) dX12_next_300 (by decide) ?_
    exact z_rVs dX12_next_372 rfl ⟨by decide, by decide⟩
def f12_next_L211 (N : Nat) : Nat → Int32 → am_S → Option am_S
  | 0, _, _ => none
  | n + 1, x2, σ => (f12_byteAt σ (fF σ 36 27)).bind fun v32 => ((f12_in v32.toInt64 (48 : Int64) (57 : Int64)).bind fun v35 => (if v35 = true then (if (4 : Int32) ≤ x2 then (f12_next_L211 N n (x2 + (1 : Int32)) (sF (sG σ 36 26 (fG σ 36 26)) 36 27 ((fF (sG σ 36 26 (fG σ 36 26)) 36 27) + (1 : Int32)))) else ((f12_byteAt σ (fF σ 36 27)).bind fun v40 => (f12_next_L211 N n (x2 + (1 : Int32)) (sF (sG σ 36 26 ((((10 : Int64) * (fG σ 36 26)) + v40.toInt64) - (48 : Int64))) 36 27 ((fF (sG σ 36 26 ((((10 : Int64) * (fG σ 36 26)) + v40.toInt64) - (48 : Int64))) 36 27) + (1 : Int32)))))) else (f12_next_J286 N x2 σ)))
theorem z12_next_L211 {l : Launch} {E : am_E} {d : Nat} {σ0 : am_S} {N : Nat} (hd : 1 ≤ d) : ∀ (n : Nat) (x2 : Int32) (σ : am_S), Z l E msM σ0 YX12_next d 0 0 211 [(0, .ref 36), (2, .int x2)] [] 0 0 σ (f12_next_L211 N n x2 σ) (fun u r s => r = none ∧ s = u) := by
  intro n
  induction n with
  | zero => intros; exact z_none
  | succ n ih =>
    intro x2 σ
    unfold f12_next_L211
    refine z_aload_n (pc := 211) 0 dX12_next_211 rfl rfl ?_
    refine z_aload_n (pc := 212) 0 dX12_next_212 rfl rfl ?_
    refine z_getI (pc := 213) dX12_next_213 (am_ob.s kM36) fr_RX12_209_12 (by decide) ?_
    refine z_callI (pc := 216) [.ref 36, .int (fF σ 36 27)] [] rfl (lk_V (Yc := YX12_byteAt) (n := 1) dX12_next_216 rfl rfl (am_ob.s kM36) rfl rfl np_X12_byteAt mh_RX12 (by decide) ml_RX12_212 im_X12_byteAt se_RX12_X12_byteAt_X12_byteAt in_RX12 cd_X12_byteAt) (Nat.le_trans (by decide) hd) ⟨by decide, by decide⟩ (Nat.le_of_ble_eq_true rfl) (am_kp.rf _) (fun v32 h34 => c12_byteAt h34) (fun v32 h34 => ?_)
    refine z_i2l (pc := 219) dX12_next_219 ?_
    refine z_ldc2 (pc := 220) (v := (48 : Int64)) dX12_next_220 kl_RX12_235 ?_
    refine z_ldc2 (pc := 223) (v := (57 : Int64)) dX12_next_223 kl_RX12_237 ?_
    refine z_callB (pc := 226) [.long v32.toInt64, .long (48 : Int64), .long (57 : Int64)] [] rfl (lk_S (Yc := YX12_in) (n := 3) dX12_next_226 rfl np_X12_in mh_RX12 (by decide) ml_RX12_134 st_X12_in in_RX12 cd_X12_in) (Nat.le_trans (by decide) hd) ⟨by decide, by decide⟩ (Nat.le_of_ble_eq_true rfl) (am_kp.rf _) (fun v35 h37 => c12_in h37) (fun v35 h37 => ?_)
    refine z_bz_eq (pc := 229) (tgt := 286) dX12_next_229 (by decide) (fun h38 => ?_) (fun h38 => ?_)
    · refine z_aload_n (pc := 232) 0 dX12_next_232 rfl rfl ?_
      refine z_iload_n (pc := 233) 1 dX12_next_233 rfl rfl ?_
      refine z_iconst (pc := 234) (v := (4 : Int32)) dX12_next_234 (by decide) ?_
      refine z_ic_ge (pc := 235) (tgt := 263) dX12_next_235 (by decide) (fun h39 => ?_) (fun h39 => ?_)
      · refine z_aload_n (pc := 263) 0 dX12_next_263 rfl rfl ?_
        refine z_getL (pc := 264) dX12_next_264 (am_ob.s kM36) fr_RX12_225_12 (by decide) ?_
        refine z_putL (pc := 267) dX12_next_267 (am_ob.s kM36) fw_RX12_225_12 (by decide) ?_
        refine z_iinc (pc := 270) (v := x2 + (1 : Int32)) (lv' := [(2, .int (x2 + (1 : Int32))), (0, .ref 36)]) 1 dX12_next_270 rfl rfl (by decide) rfl ?_
        refine z_aload_n (pc := 273) 1 dX12_next_273 rfl rfl ?_
        refine z_dup (pc := 274) dX12_next_274 rfl ?_
        refine z_getI (pc := 275) dX12_next_275 (am_ob.s kM36) fr_RX12_209_12 (by decide) ?_
        refine z_iconst (pc := 278) (v := (1 : Int32)) dX12_next_278 (by decide) ?_
        refine z_iadd (pc := 279) dX12_next_279 ?_
        refine z_putI (pc := 280) dX12_next_280 (am_ob.s kM36) fw_RX12_209_12 (by decide) ?_
        refine z_goto (pc := 283) (tgt := 211) dX12_next_283 (by decide) ?_
        refine z_lv (lv' := [(0, .ref 36), (2, .int (x2 + (1 : Int32)))]) [1, 0] rfl ?_
        exact ih (x2 + (1 : Int32)) (sF (sG σ 36 26 (fG σ 36 26)) 36 27 ((fF (sG σ 36 26 (fG σ 36 26)) 36 27) + (1 : Int32)))
      · refine z_ldc2 (pc := 238) (v := (10 : Int64)) dX12_next_238 kl_RX12_239 ?_
        refine z_aload_n (pc := 241) 0 dX12_next_241 rfl rfl ?_
        refine z_getL (pc := 242) dX12_next_242 (am_ob.s kM36) fr_RX12_225_12 (by decide) ?_
        refine z_lmul (pc := 245) dX12_next_245 ?_
        refine z_aload_n (pc := 246) 0 dX12_next_246 rfl rfl ?_
        refine z_aload_n (pc := 247) 0 dX12_next_247 rfl rfl ?_
        refine z_getI (pc := 248) dX12_next_248 (am_ob.s kM36) fr_RX12_209_12 (by decide) ?_
        refine z_callI (pc := 251) [.ref 36, .int (fF σ 36 27)] [.long ((10 : Int64) * (fG σ 36 26)), .ref 36] rfl (lk_V (Yc := YX12_byteAt) (n := 1) dX12_next_251 rfl rfl (am_ob.s kM36) rfl rfl np_X12_byteAt mh_RX12 (by decide) ml_RX12_212 im_X12_byteAt se_RX12_X12_byteAt_X12_byteAt in_RX12 cd_X12_byteAt) (Nat.le_trans (by decide) hd) ⟨by decide, by decide⟩ (Nat.le_of_ble_eq_true rfl) (am_kp.rf _) (fun v40 h42 => c12_byteAt h42) (fun v40 h42 => ?_)
        refine z_i2l (pc := 254) dX12_next_254 ?_
        refine z_ladd (pc := 255) dX12_next_255 ?_
        refine z_ldc2 (pc := 256) (v := (48 : Int64)) dX12_next_256 kl_RX12_235 ?_
        refine z_lsub (pc := 259) dX12_next_259 ?_
        refine z_goto (pc := 260) (tgt := 267) dX12_next_260 (by decide) ?_
        refine z_putL (pc := 267) dX12_next_267 (am_ob.s kM36) fw_RX12_225_12 (by decide) ?_
        refine z_iinc (pc := 270) (v := x2 + (1 : Int32)) (lv' := [(2, .int (x2 + (1 : Int32))), (0, .ref 36)]) 1 dX12_next_270 rfl rfl (by decide) rfl ?_
        refine z_aload_n (pc := 273) 1 dX12_next_273 rfl rfl ?_
        refine z_dup (pc := 274) dX12_next_274 rfl ?_
        refine z_getI (pc := 275) dX12_next_275 (am_ob.s kM36) fr_RX12_209_12 (by decide) ?_
        refine z_iconst (pc := 278) (v := (1 : Int32)) dX12_next_278 (by decide) ?_
        refine z_iadd (pc := 279) dX12_next_279 ?_
        refine z_putI (pc := 280) dX12_next_280 (am_ob.s kM36) fw_RX12_209_12 (by decide) ?_
        refine z_goto (pc := 283) (tgt := 211) dX12_next_283 (by decide) ?_
        refine z_lv (lv' := [(0, .ref 36), (2, .int (x2 + (1 : Int32)))]) [1, 0] rfl ?_
        exact ih (x2 + (1 : Int32)) (sF (sG σ 36 26 ((((10 : Int64) * (fG σ 36 26)) + v40.toInt64) - (48 : Int64))) 36 27 ((fF (sG σ 36 26 ((((10 : Int64) * (fG σ 36 26)) + v40.toInt64) - (48 : Int64))) 36 27) + (1 : Int32)))
    · refine z_lv (lv' := [(0, .ref 36), (2, .int x2)]) [0, 1] rfl ?_
      exact z12_next_J286 hd x2 σ
def f12_next_J39 (N : Nat) (σ : am_S) : Option am_S := (f12_byteAt (sF σ 36 25 (fF σ 36 27)) (fF (sF σ 36 25 (fF σ 36 27)) 36 27)).bind fun v9 => (if 0 ≤ v9 then ((f12_in v9.toInt64 (97 : Int64) (122 : Int64)).bind fun v13 => (if v13 = true then (f12_next_L107 N N (0 : Int32) (sG (sF (sF (sF σ 36 25 (fF σ 36 27)) 36 24 (4 : Int32)) 36 24 (1 : Int32)) 36 26 (0 : Int64))) else ((f12_in v9.toInt64 (48 : Int64) (57 : Int64)).bind fun v28 => (if v28 = true then (f12_next_L211 N N (0 : Int32) (sG (sF (sF (sF σ 36 25 (fF σ 36 27)) 36 24 (4 : Int32)) 36 24 (2 : Int32)) 36 26 (0 : Int64))) else (if v9 = (40 : Int32) then (some (sF (sG (sF (sF (sF σ 36 25 (fF σ 36 27)) 36 24 (4 : Int32)) 36 24 (3 : Int32)) 36 26 v9.toInt64) 36 27 ((fF (sG (sF (sF (sF σ 36 25 (fF σ 36 27)) 36 24 (4 : Int32)) 36 24 (3 : Int32)) 36 26 v9.toInt64) 36 27) + (1 : Int32)))) else (if v9 = (41 : Int32) then (some (sF (sG (sF (sF (sF σ 36 25 (fF σ 36 27)) 36 24 (4 : Int32)) 36 24 (3 : Int32)) 36 26 v9.toInt64) 36 27 ((fF (sG (sF (sF (sF σ 36 25 (fF σ 36 27)) 36 24 (4 : Int32)) 36 24 (3 : Int32)) 36 26 v9.toInt64) 36 27) + (1 : Int32)))) else (if v9 = (59 : Int32) then (some (sF (sG (sF (sF (sF σ 36 25 (fF σ 36 27)) 36 24 (4 : Int32)) 36 24 (3 : Int32)) 36 26 v9.toInt64) 36 27 ((fF (sG (sF (sF (sF σ 36 25 (fF σ 36 27)) 36 24 (4 : Int32)) 36 24 (3 : Int32)) 36 26 v9.toInt64) 36 27) + (1 : Int32)))) else (if v9 = (43 : Int32) then (some (sF (sG (sF (sF (sF σ 36 25 (fF σ 36 27)) 36 24 (4 : Int32)) 36 24 (3 : Int32)) 36 26 v9.toInt64) 36 27 ((fF (sG (sF (sF (sF σ 36 25 (fF σ 36 27)) 36 24 (4 : Int32)) 36 24 (3 : Int32)) 36 26 v9.toInt64) 36 27) + (1 : Int32)))) else (if v9 = (45 : Int32) then (some (sF (sG (sF (sF (sF σ 36 25 (fF σ 36 27)) 36 24 (4 : Int32)) 36 24 (3 : Int32)) 36 26 v9.toInt64) 36 27 ((fF (sG (sF (sF (sF σ 36 25 (fF σ 36 27)) 36 24 (4 : Int32)) 36 24 (3 : Int32)) 36 26 v9.toInt64) 36 27) + (1 : Int32)))) else (if v9 = (42 : Int32) then (some (sF (sG (sF (sF (sF σ 36 25 (fF σ 36 27)) 36 24 (4 : Int32)) 36 24 (3 : Int32)) 36 26 v9.toInt64) 36 27 ((fF (sG (sF (sF (sF σ 36 25 (fF σ 36 27)) 36 24 (4 : Int32)) 36 24 (3 : Int32)) 36 26 v9.toInt64) 36 27) + (1 : Int32)))) else (if v9 = (60 : Int32) then (some (sF (sG (sF (sF (sF σ 36 25 (fF σ 36 27)) 36 24 (4 : Int32)) 36 24 (3 : Int32)) 36 26 v9.toInt64) 36 27 ((fF (sG (sF (sF (sF σ 36 25 (fF σ 36 27)) 36 24 (4 : Int32)) 36 24 (3 : Int32)) 36 26 v9.toInt64) 36 27) + (1 : Int32)))) else (if v9 = (61 : Int32) then (some (sF (sG (sF (sF (sF σ 36 25 (fF σ 36 27)) 36 24 (4 : Int32)) 36 24 (3 : Int32)) 36 26 v9.toInt64) 36 27 ((fF (sG (sF (sF (sF σ 36 25 (fF σ 36 27)) 36 24 (4 : Int32)) 36 24 (3 : Int32)) 36 26 v9.toInt64) 36 27) + (1 : Int32)))) else (some (sF (sF σ 36 25 (fF σ 36 27)) 36 24 (4 : Int32))))))))))))))) else (some (sF (sF (sF (sF σ 36 25 (fF σ 36 27)) 36 24 (4 : Int32)) 36 24 (0 : Int32)) 36 25 (fF (sF (sF (sF σ 36 25 (fF σ 36 27)) 36 24 (4 : Int32)) 36 24 (0 : Int32)) 36 23))))
theorem z12_next_J39 {l : Launch} {E : am_E} {d : Nat} {σ0 : am_S} {N : Nat} (hd : 1 ≤ d) (σ : am_S) : Z l E msM σ0 YX12_next d 0 0 39 [(0, .ref 36)] [] 0 0 σ (f12_next_J39 N σ) (fun u r s => r = none ∧ s = u) := by
  unfold f12_next_J39
  refine z_aload_n (pc := 39) 0 dX12_next_39 rfl rfl ?_
  refine z_aload_n (pc := 40) 0 dX12_next_40 rfl rfl ?_
  refine z_getI (pc := 41) dX12_next_41 (am_ob.s kM36) fr_RX12_209_12 (by decide) ?_
  refine z_putI (pc := 44) dX12_next_44 (am_ob.s kM36) fw_RX12_215_12 (by decide) ?_
  refine z_aload_n (pc := 47) 0 dX12_next_47 rfl rfl ?_
  refine z_aload_n (pc := 48) 0 dX12_next_48 rfl rfl ?_
  refine z_getI (pc := 49) dX12_next_49 (am_ob.s kM36) fr_RX12_209_12 (by decide) ?_
  refine z_callI (pc := 52) [.ref 36, .int (fF (sF σ 36 25 (fF σ 36 27)) 36 27)] [] rfl (lk_V (Yc := YX12_byteAt) (n := 1) dX12_next_52 rfl rfl (am_ob.s kM36) rfl rfl np_X12_byteAt mh_RX12 (by decide) ml_RX12_212 im_X12_byteAt se_RX12_X12_byteAt_X12_byteAt in_RX12 cd_X12_byteAt) (Nat.le_trans (by decide) hd) ⟨by decide, by decide⟩ (Nat.le_of_ble_eq_true rfl) (am_kp.rf _) (fun v9 h11 => c12_byteAt h11) (fun v9 h11 => ?_)
  refine z_istore_n (pc := 55) (lv' := [(1, .int v9), (0, .ref 36)]) dX12_next_55 rfl (by decide) rfl ?_
  refine z_aload_n (pc := 56) 1 dX12_next_56 rfl rfl ?_
  refine z_iconst (pc := 57) (v := (4 : Int32)) dX12_next_57 (by decide) ?_
  refine z_putI (pc := 58) dX12_next_58 (am_ob.s kM36) fw_RX12_218_12 (by decide) ?_
  refine z_iload_n (pc := 61) 0 dX12_next_61 rfl rfl ?_
  refine z_if_ge (pc := 62) (tgt := 81) dX12_next_62 (by decide) (fun h12 => ?_) (fun h12 => ?_)
  · refine z_iload_n (pc := 81) 0 dX12_next_81 rfl rfl ?_
    refine z_i2l (pc := 82) dX12_next_82 ?_
    refine z_ldc2 (pc := 83) (v := (97 : Int64)) dX12_next_83 kl_RX12_221 ?_
    refine z_ldc2 (pc := 86) (v := (122 : Int64)) dX12_next_86 kl_RX12_223 ?_
    refine z_callB (pc := 89) [.long v9.toInt64, .long (97 : Int64), .long (122 : Int64)] [] rfl (lk_S (Yc := YX12_in) (n := 3) dX12_next_89 rfl np_X12_in mh_RX12 (by decide) ml_RX12_134 st_X12_in in_RX12 cd_X12_in) (Nat.le_trans (by decide) hd) ⟨by decide, by decide⟩ (Nat.le_of_ble_eq_true rfl) (am_kp.rf _) (fun v13 h15 => c12_in h15) (fun v13 h15 => ?_)
    refine z_bz_eq (pc := 92) (tgt := 185) dX12_next_92 (by decide) (fun h16 => ?_) (fun h16 => ?_)
    · refine z_aload_n (pc := 95) 1 dX12_next_95 rfl rfl ?_
      refine z_iconst (pc := 96) (v := (1 : Int32)) dX12_next_96 (by decide) ?_
      refine z_putI (pc := 97) dX12_next_97 (am_ob.s kM36) fw_RX12_218_12 (by decide) ?_
      refine z_aload_n (pc := 100) 1 dX12_next_100 rfl rfl ?_
      refine z_lconst (pc := 101) (v := (0 : Int64)) dX12_next_101 (by decide) ?_
      refine z_putL (pc := 102) dX12_next_102 (am_ob.s kM36) fw_RX12_225_12 (by decide) ?_
      refine z_iconst (pc := 105) (v := (0 : Int32)) dX12_next_105 (by decide) ?_
      refine z_istore_n (pc := 106) (lv' := [(2, .int (0 : Int32)), (1, .int v9), (0, .ref 36)]) dX12_next_106 rfl (by decide) rfl ?_
      refine z_lv (lv' := [(0, .ref 36), (2, .int (0 : Int32))]) [2, 0] rfl ?_
      exact z12_next_L107 hd N (0 : Int32) (sG (sF (sF (sF σ 36 25 (fF σ 36 27)) 36 24 (4 : Int32)) 36 24 (1 : Int32)) 36 26 (0 : Int64))
    · refine z_iload_n (pc := 185) 0 dX12_next_185 rfl rfl ?_
      refine z_i2l (pc := 186) dX12_next_186 ?_
      refine z_ldc2 (pc := 187) (v := (48 : Int64)) dX12_next_187 kl_RX12_235 ?_
      refine z_ldc2 (pc := 190) (v := (57 : Int64)) dX12_next_190 kl_RX12_237 ?_
      refine z_callB (pc := 193) [.long v9.toInt64, .long (48 : Int64), .long (57 : Int64)] [] rfl (lk_S (Yc := YX12_in) (n := 3) dX12_next_193 rfl np_X12_in mh_RX12 (by decide) ml_RX12_134 st_X12_in in_RX12 cd_X12_in) (Nat.le_trans (by decide) hd) ⟨by decide, by decide⟩ (Nat.le_of_ble_eq_true rfl) (am_kp.rf _) (fun v28 h30 => c12_in h30) (fun v28 h30 => ?_)
      refine z_bz_eq (pc := 196) (tgt := 303) dX12_next_196 (by decide) (fun h31 => ?_) (fun h31 => ?_)
      · refine z_aload_n (pc := 199) 1 dX12_next_199 rfl rfl ?_
        refine z_iconst (pc := 200) (v := (2 : Int32)) dX12_next_200 (by decide) ?_
        refine z_putI (pc := 201) dX12_next_201 (am_ob.s kM36) fw_RX12_218_12 (by decide) ?_
        refine z_aload_n (pc := 204) 1 dX12_next_204 rfl rfl ?_
        refine z_lconst (pc := 205) (v := (0 : Int64)) dX12_next_205 (by decide) ?_
        refine z_putL (pc := 206) dX12_next_206 (am_ob.s kM36) fw_RX12_225_12 (by decide) ?_
        refine z_iconst (pc := 209) (v := (0 : Int32)) dX12_next_209 (by decide) ?_
        refine z_istore_n (pc := 210) (lv' := [(2, .int (0 : Int32)), (1, .int v9), (0, .ref 36)]) dX12_next_210 rfl (by decide) rfl ?_
        refine z_lv (lv' := [(0, .ref 36), (2, .int (0 : Int32))]) [2, 0] rfl ?_
        exact z12_next_L211 hd N (0 : Int32) (sG (sF (sF (sF σ 36 25 (fF σ 36 27)) 36 24 (4 : Int32)) 36 24 (2 : Int32)) 36 26 (0 : Int64))
      · refine z_iload_n (pc := 303) 0 dX12_next_303 rfl rfl ?_
        refine z_bipush (pc := 304) (v := (40 : Int32)) dX12_next_304 (by decide) ?_
        refine z_ic_eq (pc := 306) (tgt := 351) dX12_next_306 (by decide) (fun h44 => ?_) (fun h44 => ?_)
        · refine z_aload_n (pc := 351) 1 dX12_next_351 rfl rfl ?_
          refine z_iconst (pc := 352) (v := (3 : Int32)) dX12_next_352 (by decide) ?_
          refine z_putI (pc := 353) dX12_next_353 (am_ob.s kM36) fw_RX12_218_12 (by decide) ?_
          refine z_aload_n (pc := 356) 1 dX12_next_356 rfl rfl ?_
          refine z_iload_n (pc := 357) 0 dX12_next_357 rfl rfl ?_
          refine z_i2l (pc := 358) dX12_next_358 ?_
          refine z_putL (pc := 359) dX12_next_359 (am_ob.s kM36) fw_RX12_225_12 (by decide) ?_
          refine z_aload_n (pc := 362) 1 dX12_next_362 rfl rfl ?_
          refine z_dup (pc := 363) dX12_next_363 rfl ?_
          refine z_getI (pc := 364) dX12_next_364 (am_ob.s kM36) fr_RX12_209_12 (by decide) ?_
          refine z_iconst (pc := 367) (v := (1 : Int32)) dX12_next_367 (by decide) ?_
          refine z_iadd (pc := 368) dX12_next_368 ?_
          refine z_putI (pc := 369) dX12_next_369 (am_ob.s kM36) fw_RX12_209_12 (by decide) ?_
          exact z_rVs dX12_next_372 rfl ⟨by decide, by decide⟩
        · refine z_iload_n (pc := 309) 0 dX12_next_309 rfl rfl ?_
          refine z_bipush (pc := 310) (v := (41 : Int32)) dX12_next_310 (by decide) ?_
          refine z_ic_eq (pc := 312) (tgt := 351) dX12_next_312 (by decide) (fun h45 => ?_) (fun h45 => ?_)
          · refine z_aload_n (pc := 351) 1 dX12_next_351 rfl rfl ?_
            refine z_iconst (pc := 352) (v := (3 : Int32)) dX12_next_352 (by decide) ?_
            refine z_putI (pc := 353) dX12_next_353 (am_ob.s kM36) fw_RX12_218_12 (by decide) ?_
            refine z_aload_n (pc := 356) 1 dX12_next_356 rfl rfl ?_
            refine z_iload_n (pc := 357) 0 dX12_next_357 rfl rfl ?_
            refine z_i2l (pc := 358) dX12_next_358 ?_
            refine z_putL (pc := 359) dX12_next_359 (am_ob.s kM36) fw_RX12_225_12 (by decide) ?_
            refine z_aload_n (pc := 362) 1 dX12_next_362 rfl rfl ?_
            refine z_dup (pc := 363) dX12_next_363 rfl ?_
            refine z_getI (pc := 364) dX12_next_364 (am_ob.s kM36) fr_RX12_209_12 (by decide) ?_
            refine z_iconst (pc := 367) (v := (1 : Int32)) dX12_next_367 (by decide) ?_
            refine z_iadd (pc := 368) dX12_next_368 ?_
            refine z_putI (pc := 369) dX12_next_369 (am_ob.s kM36) fw_RX12_209_12 (by decide) ?_
            exact z_rVs dX12_next_372 rfl ⟨by decide, by decide⟩
          · refine z_iload_n (pc := 315) 0 dX12_next_315 rfl rfl ?_
            refine z_bipush (pc := 316) (v := (59 : Int32)) dX12_next_316 (by decide) ?_
            refine z_ic_eq (pc := 318) (tgt := 351) dX12_next_318 (by decide) (fun h46 => ?_) (fun h46 => ?_)
            · refine z_aload_n (pc := 351) 1 dX12_next_351 rfl rfl ?_
              refine z_iconst (pc := 352) (v := (3 : Int32)) dX12_next_352 (by decide) ?_
              refine z_putI (pc := 353) dX12_next_353 (am_ob.s kM36) fw_RX12_218_12 (by decide) ?_
              refine z_aload_n (pc := 356) 1 dX12_next_356 rfl rfl ?_
              refine z_iload_n (pc := 357) 0 dX12_next_357 rfl rfl ?_
              refine z_i2l (pc := 358) dX12_next_358 ?_
              refine z_putL (pc := 359) dX12_next_359 (am_ob.s kM36) fw_RX12_225_12 (by decide) ?_
              refine z_aload_n (pc := 362) 1 dX12_next_362 rfl rfl ?_
              refine z_dup (pc := 363) dX12_next_363 rfl ?_
              refine z_getI (pc := 364) dX12_next_364 (am_ob.s kM36) fr_RX12_209_12 (by decide) ?_
              refine z_iconst (pc := 367) (v := (1 : Int32)) dX12_next_367 (by decide) ?_
              refine z_iadd (pc := 368) dX12_next_368 ?_
              refine z_putI (pc := 369) dX12_next_369 (am_ob.s kM36) fw_RX12_209_12 (by decide) ?_
              exact z_rVs dX12_next_372 rfl ⟨by decide, by decide⟩
            · refine z_iload_n (pc := 321) 0 dX12_next_321 rfl rfl ?_
              refine z_bipush (pc := 322) (v := (43 : Int32)) dX12_next_322 (by decide) ?_
              refine z_ic_eq (pc := 324) (tgt := 351) dX12_next_324 (by decide) (fun h47 => ?_) (fun h47 => ?_)
              · refine z_aload_n (pc := 351) 1 dX12_next_351 rfl rfl ?_
                refine z_iconst (pc := 352) (v := (3 : Int32)) dX12_next_352 (by decide) ?_
                refine z_putI (pc := 353) dX12_next_353 (am_ob.s kM36) fw_RX12_218_12 (by decide) ?_
                refine z_aload_n (pc := 356) 1 dX12_next_356 rfl rfl ?_
                refine z_iload_n (pc := 357) 0 dX12_next_357 rfl rfl ?_
                refine z_i2l (pc := 358) dX12_next_358 ?_
                refine z_putL (pc := 359) dX12_next_359 (am_ob.s kM36) fw_RX12_225_12 (by decide) ?_
                refine z_aload_n (pc := 362) 1 dX12_next_362 rfl rfl ?_
                refine z_dup (pc := 363) dX12_next_363 rfl ?_
                refine z_getI (pc := 364) dX12_next_364 (am_ob.s kM36) fr_RX12_209_12 (by decide) ?_
                refine z_iconst (pc := 367) (v := (1 : Int32)) dX12_next_367 (by decide) ?_
                refine z_iadd (pc := 368) dX12_next_368 ?_
                refine z_putI (pc := 369) dX12_next_369 (am_ob.s kM36) fw_RX12_209_12 (by decide) ?_
                exact z_rVs dX12_next_372 rfl ⟨by decide, by decide⟩
              · refine z_iload_n (pc := 327) 0 dX12_next_327 rfl rfl ?_
                refine z_bipush (pc := 328) (v := (45 : Int32)) dX12_next_328 (by decide) ?_
                refine z_ic_eq (pc := 330) (tgt := 351) dX12_next_330 (by decide) (fun h48 => ?_) (fun h48 => ?_)
                · refine z_aload_n (pc := 351) 1 dX12_next_351 rfl rfl ?_
                  refine z_iconst (pc := 352) (v := (3 : Int32)) dX12_next_352 (by decide) ?_
                  refine z_putI (pc := 353) dX12_next_353 (am_ob.s kM36) fw_RX12_218_12 (by decide) ?_
                  refine z_aload_n (pc := 356) 1 dX12_next_356 rfl rfl ?_
                  refine z_iload_n (pc := 357) 0 dX12_next_357 rfl rfl ?_
                  refine z_i2l (pc := 358) dX12_next_358 ?_
                  refine z_putL (pc := 359) dX12_next_359 (am_ob.s kM36) fw_RX12_225_12 (by decide) ?_
                  refine z_aload_n (pc := 362) 1 dX12_next_362 rfl rfl ?_
                  refine z_dup (pc := 363) dX12_next_363 rfl ?_
                  refine z_getI (pc := 364) dX12_next_364 (am_ob.s kM36) fr_RX12_209_12 (by decide) ?_
                  refine z_iconst (pc := 367) (v := (1 : Int32)) dX12_next_367 (by decide) ?_
                  refine z_iadd (pc := 368) dX12_next_368 ?_
                  refine z_putI (pc := 369) dX12_next_369 (am_ob.s kM36) fw_RX12_209_12 (by decide) ?_
                  exact z_rVs dX12_next_372 rfl ⟨by decide, by decide⟩
                · refine z_iload_n (pc := 333) 0 dX12_next_333 rfl rfl ?_
                  refine z_bipush (pc := 334) (v := (42 : Int32)) dX12_next_334 (by decide) ?_
                  refine z_ic_eq (pc := 336) (tgt := 351) dX12_next_336 (by decide) (fun h49 => ?_) (fun h49 => ?_)
                  · refine z_aload_n (pc := 351) 1 dX12_next_351 rfl rfl ?_
                    refine z_iconst (pc := 352) (v := (3 : Int32)) dX12_next_352 (by decide) ?_
                    refine z_putI (pc := 353) dX12_next_353 (am_ob.s kM36) fw_RX12_218_12 (by decide) ?_
                    refine z_aload_n (pc := 356) 1 dX12_next_356 rfl rfl ?_
                    refine z_iload_n (pc := 357) 0 dX12_next_357 rfl rfl ?_
                    refine z_i2l (pc := 358) dX12_next_358 ?_
                    refine z_putL (pc := 359) dX12_next_359 (am_ob.s kM36) fw_RX12_225_12 (by decide) ?_
                    refine z_aload_n (pc := 362) 1 dX12_next_362 rfl rfl ?_
                    refine z_dup (pc := 363) dX12_next_363 rfl ?_
                    refine z_getI (pc := 364) dX12_next_364 (am_ob.s kM36) fr_RX12_209_12 (by decide) ?_
                    refine z_iconst (pc := 367) (v := (1 : Int32)) dX12_next_367 (by decide) ?_
                    refine z_iadd (pc := 368) dX12_next_368 ?_
                    refine z_putI (pc := 369) dX12_next_369 (am_ob.s kM36) fw_RX12_209_12 (by decide) ?_
                    exact z_rVs dX12_next_372 rfl ⟨by decide, by decide⟩
                  · refine z_iload_n (pc := 339) 0 dX12_next_339 rfl rfl ?_
                    refine z_bipush (pc := 340) (v := (60 : Int32)) dX12_next_340 (by decide) ?_
                    refine z_ic_eq (pc := 342) (tgt := 351) dX12_next_342 (by decide) (fun h50 => ?_) (fun h50 => ?_)
                    · refine z_aload_n (pc := 351) 1 dX12_next_351 rfl rfl ?_
                      refine z_iconst (pc := 352) (v := (3 : Int32)) dX12_next_352 (by decide) ?_
                      refine z_putI (pc := 353) dX12_next_353 (am_ob.s kM36) fw_RX12_218_12 (by decide) ?_
                      refine z_aload_n (pc := 356) 1 dX12_next_356 rfl rfl ?_
                      refine z_iload_n (pc := 357) 0 dX12_next_357 rfl rfl ?_
                      refine z_i2l (pc := 358) dX12_next_358 ?_
                      refine z_putL (pc := 359) dX12_next_359 (am_ob.s kM36) fw_RX12_225_12 (by decide) ?_
                      refine z_aload_n (pc := 362) 1 dX12_next_362 rfl rfl ?_
                      refine z_dup (pc := 363) dX12_next_363 rfl ?_
                      refine z_getI (pc := 364) dX12_next_364 (am_ob.s kM36) fr_RX12_209_12 (by decide) ?_
                      refine z_iconst (pc := 367) (v := (1 : Int32)) dX12_next_367 (by decide) ?_
                      refine z_iadd (pc := 368) dX12_next_368 ?_
                      refine z_putI (pc := 369) dX12_next_369 (am_ob.s kM36) fw_RX12_209_12 (by decide) ?_
                      exact z_rVs dX12_next_372 rfl ⟨by decide, by decide⟩
                    · refine z_iload_n (pc := 345) 0 dX12_next_345 rfl rfl ?_
                      refine z_bipush (pc := 346) (v := (61 : Int32)) dX12_next_346 (by decide) ?_
                      refine z_ic_ne (pc := 348) (tgt := 372) dX12_next_348 (by decide) (fun h51 => ?_) (fun h51 => ?_)
                      · refine z_aload_n (pc := 351) 1 dX12_next_351 rfl rfl ?_
                        refine z_iconst (pc := 352) (v := (3 : Int32)) dX12_next_352 (by decide) ?_
                        refine z_putI (pc := 353) dX12_next_353 (am_ob.s kM36) fw_RX12_218_12 (by decide) ?_
                        refine z_aload_n (pc := 356) 1 dX12_next_356 rfl rfl ?_
                        refine z_iload_n (pc := 357) 0 dX12_next_357 rfl rfl ?_
                        refine z_i2l (pc := 358) dX12_next_358 ?_
                        refine z_putL (pc := 359) dX12_next_359 (am_ob.s kM36) fw_RX12_225_12 (by decide) ?_
                        refine z_aload_n (pc := 362) 1 dX12_next_362 rfl rfl ?_
                        refine z_dup (pc := 363) dX12_next_363 rfl ?_
                        refine z_getI (pc := 364) dX12_next_364 (am_ob.s kM36) fr_RX12_209_12 (by decide) ?_
                        refine z_iconst (pc := 367) (v := (1 : Int32)) dX12_next_367 (by decide) ?_
                        refine z_iadd (pc := 368) dX12_next_368 ?_
                        refine z_putI (pc := 369) dX12_next_369 (am_ob.s kM36) fw_RX12_209_12 (by decide) ?_
                        exact z_rVs dX12_next_372 rfl ⟨by decide, by decide⟩
                      · exact z_rVs dX12_next_372 rfl ⟨by decide, by decide⟩
  · refine z_aload_n (pc := 65) 1 dX12_next_65 rfl rfl ?_
    refine z_iconst (pc := 66) (v := (0 : Int32)) dX12_next_66 (by decide) ?_
    refine z_putI (pc := 67) dX12_next_67 (am_ob.s kM36) fw_RX12_218_12 (by decide) ?_
    refine z_aload_n (pc := 70) 1 dX12_next_70 rfl rfl ?_
    refine z_aload_n (pc := 71) 1 dX12_next_71 rfl rfl ?_
    refine z_getI (pc := 72) dX12_next_72 (am_ob.s kM36) fr_RX12_203_12 (by decide) ?_
    refine z_putI (pc := 75) dX12_next_75 (am_ob.s kM36) fw_RX12_215_12 (by decide) ?_
    refine z_goto (pc := 78) (tgt := 372) dX12_next_78 (by decide) ?_
    exact z_rVs dX12_next_372 rfl ⟨by decide, by decide⟩
def f12_next_L0 (N : Nat) : Nat → am_S → Option am_S
  | 0, _ => none
  | n + 1, σ => (f12_byteAt σ (fF σ 36 27)).bind fun v1 => (if v1 = (32 : Int32) then (f12_next_L0 N n (sF σ 36 27 ((fF σ 36 27) + (1 : Int32)))) else ((f12_byteAt σ (fF σ 36 27)).bind fun v5 => (if v5 = (10 : Int32) then (f12_next_L0 N n (sF σ 36 27 ((fF σ 36 27) + (1 : Int32)))) else (f12_next_J39 N σ))))
theorem z12_next_L0 {l : Launch} {E : am_E} {d : Nat} {σ0 : am_S} {N : Nat} (hd : 1 ≤ d) : ∀ (n : Nat) (σ : am_S), Z l E msM σ0 YX12_next d 0 0 0 [(0, .ref 36)] [] 0 0 σ (f12_next_L0 N n σ) (fun u r s => r = none ∧ s = u) := by
  intro n
  induction n with
  | zero => intros; exact z_none
  | succ n ih =>
    intro σ
    unfold f12_next_L0
    refine z_aload_n (pc := 0) 0 dX12_next_0 rfl rfl ?_
    refine z_aload_n (pc := 1) 0 dX12_next_1 rfl rfl ?_
    refine z_getI (pc := 2) dX12_next_2 (am_ob.s kM36) fr_RX12_209_12 (by decide) ?_
    refine z_callI (pc := 5) [.ref 36, .int (fF σ 36 27)] [] rfl (lk_V (Yc := YX12_byteAt) (n := 1) dX12_next_5 rfl rfl (am_ob.s kM36) rfl rfl np_X12_byteAt mh_RX12 (by decide) ml_RX12_212 im_X12_byteAt se_RX12_X12_byteAt_X12_byteAt in_RX12 cd_X12_byteAt) (Nat.le_trans (by decide) hd) ⟨by decide, by decide⟩ (Nat.le_of_ble_eq_true rfl) (am_kp.rf _) (fun v1 h3 => c12_byteAt h3) (fun v1 h3 => ?_)
    refine z_bipush (pc := 8) (v := (32 : Int32)) dX12_next_8 (by decide) ?_
    refine z_ic_eq (pc := 10) (tgt := 26) dX12_next_10 (by decide) (fun h4 => ?_) (fun h4 => ?_)
    · refine z_aload_n (pc := 26) 0 dX12_next_26 rfl rfl ?_
      refine z_dup (pc := 27) dX12_next_27 rfl ?_
      refine z_getI (pc := 28) dX12_next_28 (am_ob.s kM36) fr_RX12_209_12 (by decide) ?_
      refine z_iconst (pc := 31) (v := (1 : Int32)) dX12_next_31 (by decide) ?_
      refine z_iadd (pc := 32) dX12_next_32 ?_
      refine z_putI (pc := 33) dX12_next_33 (am_ob.s kM36) fw_RX12_209_12 (by decide) ?_
      refine z_goto (pc := 36) (tgt := 0) dX12_next_36 (by decide) ?_
      refine z_lv (lv' := [(0, .ref 36)]) [0] rfl ?_
      exact ih (sF σ 36 27 ((fF σ 36 27) + (1 : Int32)))
    · refine z_aload_n (pc := 13) 0 dX12_next_13 rfl rfl ?_
      refine z_aload_n (pc := 14) 0 dX12_next_14 rfl rfl ?_
      refine z_getI (pc := 15) dX12_next_15 (am_ob.s kM36) fr_RX12_209_12 (by decide) ?_
      refine z_callI (pc := 18) [.ref 36, .int (fF σ 36 27)] [] rfl (lk_V (Yc := YX12_byteAt) (n := 1) dX12_next_18 rfl rfl (am_ob.s kM36) rfl rfl np_X12_byteAt mh_RX12 (by decide) ml_RX12_212 im_X12_byteAt se_RX12_X12_byteAt_X12_byteAt in_RX12 cd_X12_byteAt) (Nat.le_trans (by decide) hd) ⟨by decide, by decide⟩ (Nat.le_of_ble_eq_true rfl) (am_kp.rf _) (fun v5 h7 => c12_byteAt h7) (fun v5 h7 => ?_)
      refine z_bipush (pc := 21) (v := (10 : Int32)) dX12_next_21 (by decide) ?_
      refine z_ic_ne (pc := 23) (tgt := 39) dX12_next_23 (by decide) (fun h8 => ?_) (fun h8 => ?_)
      · refine z_aload_n (pc := 26) 0 dX12_next_26 rfl rfl ?_
        refine z_dup (pc := 27) dX12_next_27 rfl ?_
        refine z_getI (pc := 28) dX12_next_28 (am_ob.s kM36) fr_RX12_209_12 (by decide) ?_
        refine z_iconst (pc := 31) (v := (1 : Int32)) dX12_next_31 (by decide) ?_
        refine z_iadd (pc := 32) dX12_next_32 ?_
        refine z_putI (pc := 33) dX12_next_33 (am_ob.s kM36) fw_RX12_209_12 (by decide) ?_
        refine z_goto (pc := 36) (tgt := 0) dX12_next_36 (by decide) ?_
        refine z_lv (lv' := [(0, .ref 36)]) [0] rfl ?_
        exact ih (sF σ 36 27 ((fF σ 36 27) + (1 : Int32)))
      · refine z_lv (lv' := [(0, .ref 36)]) [0] rfl ?_
        exact z12_next_J39 hd σ
def f12_next (N : Nat) (σ : am_S) : Option am_S := f12_next_L0 N N σ
theorem c12_next {l : Launch} {E : am_E} {N : Nat} {σ : am_S} {σ1 : am_S} (hf : f12_next N σ = some σ1) : Ctr l E msM YX12_next (1) 0 0 [.ref 36] σ none σ1 := by
  refine ctr_of (G := fun u r s => r = none ∧ s = u) (by decide +kernel) (Nat.le_of_ble_eq_true rfl) hf ⟨rfl, rfl⟩ (fun d hd => ?_)
  refine z_eqlv (lv' := [(0, .ref 36)]) rfl ?_
  unfold f12_next
  refine z_lv (lv' := [(0, .ref 36)]) [0] rfl ?_
  exact z12_next_L0 hd N σ
def f12_isWord (σ : am_S) (x1 : Int64) : Option Bool := if fF σ 36 29 = 0 then (if fF σ 36 24 = (1 : Int32) then (if lg_cmp (fG σ 36 26) x1 = 0 then (some (true)) else (some (false))) else (some (false))) else (some (false))
theorem c12_isWord {l : Launch} {E : am_E} {σ : am_S} {x1 : Int64} {v : Bool} (hf : f12_isWord σ x1 = some v) : Ctr l E msM YX12_isWord (0) 0 0 [.ref 36, .long x1] σ (some (.int (bI v))) σ := by
  refine ctr_of (G := fun u r s => r = some (.int (bI u)) ∧ s = σ) (by decide +kernel) (Nat.le_of_ble_eq_true rfl) hf ⟨rfl, rfl⟩ (fun d hd => ?_)
  refine z_eqlv (lv' := [(0, .ref 36), (1, .long x1)]) rfl ?_
  unfold f12_isWord
  refine z_aload_n (pc := 0) 0 dX12_isWord_0 rfl rfl ?_
  refine z_getI (pc := 1) dX12_isWord_1 (am_ob.s kM36) fr_RX12_241_12 (by decide) ?_
  refine z_if_ne (pc := 4) (tgt := 28) dX12_isWord_4 (by decide) (fun h1 => ?_) (fun h1 => ?_)
  · refine z_aload_n (pc := 7) 0 dX12_isWord_7 rfl rfl ?_
    refine z_getI (pc := 8) dX12_isWord_8 (am_ob.s kM36) fr_RX12_218_12 (by decide) ?_
    refine z_iconst (pc := 11) (v := (1 : Int32)) dX12_isWord_11 (by decide) ?_
    refine z_ic_ne (pc := 12) (tgt := 28) dX12_isWord_12 (by decide) (fun h2 => ?_) (fun h2 => ?_)
    · refine z_aload_n (pc := 15) 0 dX12_isWord_15 rfl rfl ?_
      refine z_getL (pc := 16) dX12_isWord_16 (am_ob.s kM36) fr_RX12_225_12 (by decide) ?_
      refine z_lload_n (pc := 19) 1 dX12_isWord_19 rfl rfl ?_
      refine z_lcmp (pc := 20) dX12_isWord_20 ?_
      refine z_if_ne (pc := 21) (tgt := 28) dX12_isWord_21 (by decide) (fun h3 => ?_) (fun h3 => ?_)
      · refine z_iconst (pc := 24) (v := (1 : Int32)) dX12_isWord_24 (by decide) ?_
        refine z_goto (pc := 25) (tgt := 29) dX12_isWord_25 (by decide) ?_
        exact z_rB (b := true) rfl dX12_isWord_29 rfl ⟨by decide, by decide⟩
      · refine z_iconst (pc := 28) (v := (0 : Int32)) dX12_isWord_28 (by decide) ?_
        exact z_rB (b := false) rfl dX12_isWord_29 rfl ⟨by decide, by decide⟩
    · refine z_iconst (pc := 28) (v := (0 : Int32)) dX12_isWord_28 (by decide) ?_
      exact z_rB (b := false) rfl dX12_isWord_29 rfl ⟨by decide, by decide⟩
  · refine z_iconst (pc := 28) (v := (0 : Int32)) dX12_isWord_28 (by decide) ?_
    exact z_rB (b := false) rfl dX12_isWord_29 rfl ⟨by decide, by decide⟩
def f12_fail (σ : am_S) : Option am_S := if fF σ 36 29 = 0 then (some (sF (sF σ 36 29 (1 : Int32)) 36 30 (fF (sF σ 36 29 (1 : Int32)) 36 25))) else (some (σ))
theorem c12_fail {l : Launch} {E : am_E} {σ : am_S} {σ1 : am_S} (hf : f12_fail σ = some σ1) : Ctr l E msM YX12_fail (0) 0 0 [.ref 36] σ none σ1 := by
  refine ctr_of (G := fun u r s => r = none ∧ s = u) (by decide +kernel) (Nat.le_of_ble_eq_true rfl) hf ⟨rfl, rfl⟩ (fun d hd => ?_)
  refine z_eqlv (lv' := [(0, .ref 36)]) rfl ?_
  unfold f12_fail
  refine z_aload_n (pc := 0) 0 dX12_fail_0 rfl rfl ?_
  refine z_getI (pc := 1) dX12_fail_1 (am_ob.s kM36) fr_RX12_241_12 (by decide) ?_
  refine z_if_ne (pc := 4) (tgt := 20) dX12_fail_4 (by decide) (fun h1 => ?_) (fun h1 => ?_)
  · refine z_aload_n (pc := 7) 0 dX12_fail_7 rfl rfl ?_
    refine z_iconst (pc := 8) (v := (1 : Int32)) dX12_fail_8 (by decide) ?_
    refine z_putZ (pc := 9) dX12_fail_9 (am_ob.s kM36) fw_RX12_241_12 (by decide) ⟨by decide +kernel, by decide +kernel⟩ ?_
    refine z_aload_n (pc := 12) 0 dX12_fail_12 rfl rfl ?_
    refine z_aload_n (pc := 13) 0 dX12_fail_13 rfl rfl ?_
    refine z_getI (pc := 14) dX12_fail_14 (am_ob.s kM36) fr_RX12_215_12 (by decide) ?_
    refine z_putI (pc := 17) dX12_fail_17 (am_ob.s kM36) fw_RX12_245_12 (by decide) ?_
    exact z_rVs dX12_fail_20 rfl ⟨by decide, by decide⟩
  · exact z_rVs dX12_fail_20 rfl ⟨by decide, by decide⟩
def f12_opens (N : Nat) (σ : am_S) : Option (Bool × am_S) := if fF σ 36 28 = (5 : Int32) then ((f12_fail σ).bind fun s3 => (some (false, s3))) else ((f12_next N (sF σ 36 28 ((fF σ 36 28) + (1 : Int32)))).bind fun s6 => (some (true, s6)))
theorem c12_opens {l : Launch} {E : am_E} {N : Nat} {σ : am_S} {v : Bool} {σ1 : am_S} (hf : f12_opens N σ = some (v, σ1)) : Ctr l E msM YX12_opens (2) 0 0 [.ref 36] σ (some (.int (bI v))) σ1 := by
  refine ctr_of (G := fun u r s => r = some (.int (bI u.1)) ∧ s = u.2) (by decide +kernel) (Nat.le_of_ble_eq_true rfl) hf ⟨rfl, rfl⟩ (fun d hd => ?_)
  refine z_eqlv (lv' := [(0, .ref 36)]) rfl ?_
  unfold f12_opens
  refine z_aload_n (pc := 0) 0 dX12_opens_0 rfl rfl ?_
  refine z_getI (pc := 1) dX12_opens_1 (am_ob.s kM36) fr_RX12_248_12 (by decide) ?_
  refine z_iconst (pc := 4) (v := (5 : Int32)) dX12_opens_4 (by decide) ?_
  refine z_ic_ne (pc := 5) (tgt := 14) dX12_opens_5 (by decide) (fun h1 => ?_) (fun h1 => ?_)
  · refine z_aload_n (pc := 8) 0 dX12_opens_8 rfl rfl ?_
    refine z_callVs (pc := 9) [.ref 36] [] rfl (lk_V (Yc := YX12_fail) (n := 0) dX12_opens_9 rfl rfl (am_ob.s kM36) rfl rfl np_X12_fail mh_RX12 (by decide) ml_RX12_251 im_X12_fail se_RX12_X12_fail_X12_fail in_RX12 cd_X12_fail) (Nat.le_trans (by decide) hd) ⟨by decide, by decide⟩ (Nat.le_of_ble_eq_true rfl) (am_kp.rf _) (fun s3 h4 => c12_fail h4) (fun s3 h4 => ?_)
    refine z_iconst (pc := 12) (v := (0 : Int32)) dX12_opens_12 (by decide) ?_
    exact z_rBs (b := false) rfl dX12_opens_13 rfl ⟨by decide, by decide⟩
  · refine z_aload_n (pc := 14) 0 dX12_opens_14 rfl rfl ?_
    refine z_dup (pc := 15) dX12_opens_15 rfl ?_
    refine z_getI (pc := 16) dX12_opens_16 (am_ob.s kM36) fr_RX12_248_12 (by decide) ?_
    refine z_iconst (pc := 19) (v := (1 : Int32)) dX12_opens_19 (by decide) ?_
    refine z_iadd (pc := 20) dX12_opens_20 ?_
    refine z_putI (pc := 21) dX12_opens_21 (am_ob.s kM36) fw_RX12_248_12 (by decide) ?_
    refine z_aload_n (pc := 24) 0 dX12_opens_24 rfl rfl ?_
    refine z_callVs (pc := 25) [.ref 36] [] rfl (lk_V (Yc := YX12_next) (n := 0) dX12_opens_25 rfl rfl (am_ob.s kM36) rfl rfl np_X12_next mh_RX12 (by decide) ml_RX12_254 im_X12_next se_RX12_X12_next_X12_next in_RX12 cd_X12_next) (Nat.le_trans (by decide) hd) ⟨by decide, by decide⟩ (Nat.le_of_ble_eq_true rfl) (am_kp.rf _) (fun s6 h7 => c12_next h7) (fun s6 h7 => ?_)
    refine z_iconst (pc := 28) (v := (1 : Int32)) dX12_opens_28 (by decide) ?_
    exact z_rBs (b := true) rfl dX12_opens_29 rfl ⟨by decide, by decide⟩
def f12_name (σ : am_S) : Option (Int32 × am_S) := (f12_isWord σ (4350799 : Int64)).bind fun v1 => (if v1 = true then (some (fF σ 36 31, σ)) else ((f12_isWord σ (400334 : Int64)).bind fun v5 => (if v5 = true then (some (fF σ 36 12, σ)) else ((f12_isWord σ (453959 : Int64)).bind fun v9 => (if v9 = true then (some (fF σ 36 13, σ)) else ((f12_isWord σ (923 : Int64)).bind fun v13 => (if v13 = true then (some (fF σ 36 32, σ)) else ((f12_isWord σ (168984 : Int64)).bind fun v17 => (if v17 = true then (some (fF σ 36 33, σ)) else ((f12_isWord σ (11055682 : Int64)).bind fun v21 => (if v21 = true then (some (fF σ 36 34, σ)) else ((f12_fail σ).bind fun s26 => (some ((0 : Int32), s26))))))))))))))
theorem c12_name {l : Launch} {E : am_E} {σ : am_S} {v : Int32} {σ1 : am_S} (hf : f12_name σ = some (v, σ1)) : Ctr l E msM YX12_name (1) 0 0 [.ref 36] σ (some (.int v)) σ1 := by
  refine ctr_of (G := fun u r s => r = some (.int u.1) ∧ s = u.2) (by decide +kernel) (Nat.le_of_ble_eq_true rfl) hf ⟨rfl, rfl⟩ (fun d hd => ?_)
  refine z_eqlv (lv' := [(0, .ref 36)]) rfl ?_
  unfold f12_name
  refine z_aload_n (pc := 0) 0 dX12_name_0 rfl rfl ?_
  refine z_ldc2 (pc := 1) (v := (4350799 : Int64)) dX12_name_1 kl_RX12_257 ?_
  refine z_callB (pc := 4) [.ref 36, .long (4350799 : Int64)] [] rfl (lk_V (Yc := YX12_isWord) (n := 1) dX12_name_4 rfl rfl (am_ob.s kM36) rfl rfl np_X12_isWord mh_RX12 (by decide) ml_RX12_259 im_X12_isWord se_RX12_X12_isWord_X12_isWord in_RX12 cd_X12_isWord) (Nat.le_trans (by decide) hd) ⟨by decide, by decide⟩ (Nat.le_of_ble_eq_true rfl) (am_kp.rf _) (fun v1 h3 => c12_isWord h3) (fun v1 h3 => ?_)
  refine z_bz_eq (pc := 7) (tgt := 15) dX12_name_7 (by decide) (fun h4 => ?_) (fun h4 => ?_)
  · refine z_aload_n (pc := 10) 0 dX12_name_10 rfl rfl ?_
    refine z_getI (pc := 11) dX12_name_11 (am_ob.s kM36) fr_RX12_263_12 (by decide) ?_
    exact z_rIs dX12_name_14 rfl ⟨by decide, by decide⟩
  · refine z_aload_n (pc := 15) 0 dX12_name_15 rfl rfl ?_
    refine z_ldc2 (pc := 16) (v := (400334 : Int64)) dX12_name_16 kl_RX12_266 ?_
    refine z_callB (pc := 19) [.ref 36, .long (400334 : Int64)] [] rfl (lk_V (Yc := YX12_isWord) (n := 1) dX12_name_19 rfl rfl (am_ob.s kM36) rfl rfl np_X12_isWord mh_RX12 (by decide) ml_RX12_259 im_X12_isWord se_RX12_X12_isWord_X12_isWord in_RX12 cd_X12_isWord) (Nat.le_trans (by decide) hd) ⟨by decide, by decide⟩ (Nat.le_of_ble_eq_true rfl) (am_kp.rf _) (fun v5 h7 => c12_isWord h7) (fun v5 h7 => ?_)
    refine z_bz_eq (pc := 22) (tgt := 30) dX12_name_22 (by decide) (fun h8 => ?_) (fun h8 => ?_)
    · refine z_aload_n (pc := 25) 0 dX12_name_25 rfl rfl ?_
      refine z_getI (pc := 26) dX12_name_26 (am_ob.s kM36) fr_RX12_153_12 (by decide) ?_
      exact z_rIs dX12_name_29 rfl ⟨by decide, by decide⟩
    · refine z_aload_n (pc := 30) 0 dX12_name_30 rfl rfl ?_
      refine z_ldc2 (pc := 31) (v := (453959 : Int64)) dX12_name_31 kl_RX12_268 ?_
      refine z_callB (pc := 34) [.ref 36, .long (453959 : Int64)] [] rfl (lk_V (Yc := YX12_isWord) (n := 1) dX12_name_34 rfl rfl (am_ob.s kM36) rfl rfl np_X12_isWord mh_RX12 (by decide) ml_RX12_259 im_X12_isWord se_RX12_X12_isWord_X12_isWord in_RX12 cd_X12_isWord) (Nat.le_trans (by decide) hd) ⟨by decide, by decide⟩ (Nat.le_of_ble_eq_true rfl) (am_kp.rf _) (fun v9 h11 => c12_isWord h11) (fun v9 h11 => ?_)
      refine z_bz_eq (pc := 37) (tgt := 45) dX12_name_37 (by decide) (fun h12 => ?_) (fun h12 => ?_)
      · refine z_aload_n (pc := 40) 0 dX12_name_40 rfl rfl ?_
        refine z_getI (pc := 41) dX12_name_41 (am_ob.s kM36) fr_RX12_156_12 (by decide) ?_
        exact z_rIs dX12_name_44 rfl ⟨by decide, by decide⟩
      · refine z_aload_n (pc := 45) 0 dX12_name_45 rfl rfl ?_
        refine z_ldc2 (pc := 46) (v := (923 : Int64)) dX12_name_46 kl_RX12_270 ?_
        refine z_callB (pc := 49) [.ref 36, .long (923 : Int64)] [] rfl (lk_V (Yc := YX12_isWord) (n := 1) dX12_name_49 rfl rfl (am_ob.s kM36) rfl rfl np_X12_isWord mh_RX12 (by decide) ml_RX12_259 im_X12_isWord se_RX12_X12_isWord_X12_isWord in_RX12 cd_X12_isWord) (Nat.le_trans (by decide) hd) ⟨by decide, by decide⟩ (Nat.le_of_ble_eq_true rfl) (am_kp.rf _) (fun v13 h15 => c12_isWord h15) (fun v13 h15 => ?_)
        refine z_bz_eq (pc := 52) (tgt := 60) dX12_name_52 (by decide) (fun h16 => ?_) (fun h16 => ?_)
        · refine z_aload_n (pc := 55) 0 dX12_name_55 rfl rfl ?_
          refine z_getI (pc := 56) dX12_name_56 (am_ob.s kM36) fr_RX12_272_12 (by decide) ?_
          exact z_rIs dX12_name_59 rfl ⟨by decide, by decide⟩
        · refine z_aload_n (pc := 60) 0 dX12_name_60 rfl rfl ?_
          refine z_ldc2 (pc := 61) (v := (168984 : Int64)) dX12_name_61 kl_RX12_275 ?_
          refine z_callB (pc := 64) [.ref 36, .long (168984 : Int64)] [] rfl (lk_V (Yc := YX12_isWord) (n := 1) dX12_name_64 rfl rfl (am_ob.s kM36) rfl rfl np_X12_isWord mh_RX12 (by decide) ml_RX12_259 im_X12_isWord se_RX12_X12_isWord_X12_isWord in_RX12 cd_X12_isWord) (Nat.le_trans (by decide) hd) ⟨by decide, by decide⟩ (Nat.le_of_ble_eq_true rfl) (am_kp.rf _) (fun v17 h19 => c12_isWord h19) (fun v17 h19 => ?_)
          refine z_bz_eq (pc := 67) (tgt := 75) dX12_name_67 (by decide) (fun h20 => ?_) (fun h20 => ?_)
          · refine z_aload_n (pc := 70) 0 dX12_name_70 rfl rfl ?_
            refine z_getI (pc := 71) dX12_name_71 (am_ob.s kM36) fr_RX12_277_12 (by decide) ?_
            exact z_rIs dX12_name_74 rfl ⟨by decide, by decide⟩
          · refine z_aload_n (pc := 75) 0 dX12_name_75 rfl rfl ?_
            refine z_ldc2 (pc := 76) (v := (11055682 : Int64)) dX12_name_76 kl_RX12_280 ?_
            refine z_callB (pc := 79) [.ref 36, .long (11055682 : Int64)] [] rfl (lk_V (Yc := YX12_isWord) (n := 1) dX12_name_79 rfl rfl (am_ob.s kM36) rfl rfl np_X12_isWord mh_RX12 (by decide) ml_RX12_259 im_X12_isWord se_RX12_X12_isWord_X12_isWord in_RX12 cd_X12_isWord) (Nat.le_trans (by decide) hd) ⟨by decide, by decide⟩ (Nat.le_of_ble_eq_true rfl) (am_kp.rf _) (fun v21 h23 => c12_isWord h23) (fun v21 h23 => ?_)
            refine z_bz_eq (pc := 82) (tgt := 90) dX12_name_82 (by decide) (fun h24 => ?_) (fun h24 => ?_)
            · refine z_aload_n (pc := 85) 0 dX12_name_85 rfl rfl ?_
              refine z_getI (pc := 86) dX12_name_86 (am_ob.s kM36) fr_RX12_282_12 (by decide) ?_
              exact z_rIs dX12_name_89 rfl ⟨by decide, by decide⟩
            · refine z_aload_n (pc := 90) 0 dX12_name_90 rfl rfl ?_
              refine z_callVs (pc := 91) [.ref 36] [] rfl (lk_V (Yc := YX12_fail) (n := 0) dX12_name_91 rfl rfl (am_ob.s kM36) rfl rfl np_X12_fail mh_RX12 (by decide) ml_RX12_251 im_X12_fail se_RX12_X12_fail_X12_fail in_RX12 cd_X12_fail) (Nat.le_trans (by decide) hd) ⟨by decide, by decide⟩ (Nat.le_of_ble_eq_true rfl) (am_kp.rf _) (fun s26 h27 => c12_fail h27) (fun s26 h27 => ?_)
              refine z_iconst (pc := 94) (v := (0 : Int32)) dX12_name_94 (by decide) ?_
              exact z_rIs dX12_name_95 rfl ⟨by decide, by decide⟩
def f12_added_J23 (k5 : Int32 → am_S → Option (Int32 × am_S)) (N : Nat) (r_term : am_S → Option (Int32 × am_S)) (x1 : Int32) (σ : am_S) : Option (Int32 × am_S) := if lg_cmp (fG σ 36 26) (43 : Int64) = 0 then ((f12_next N σ).bind fun s11 => ((r_term s11).bind fun (v14, s15) => (k5 (x1 + v14) s15))) else ((f12_next N σ).bind fun s18 => ((r_term s18).bind fun (v21, s22) => (k5 (x1 - v21) s22)))
theorem z12_added_J23 {l : Launch} {E : am_E} {d : Nat} {σ0 : am_S} {N : Nat} {r_term : am_S → Option (Int32 × am_S)} {K : Nat} (hK : 3 ≤ K) (hd : K + 1 ≤ d) (hr_term : ∀ (σ : am_S) (v : Int32) (σ1 : am_S), r_term σ = some (v, σ1) → Ctr l E msM YX12_term K 0 0 [.ref 36] σ (some (.int v)) σ1) {k5 : Int32 → am_S → Option (Int32 × am_S)} (hk5 : ∀ (x1 : Int32) (σ : am_S), Z l E msM σ0 YX12_added d 0 0 5 [(0, .ref 36), (1, .int x1)] [] 0 0 σ (k5 x1 σ) (fun u r s => r = some (.int u.1) ∧ s = u.2)) (x1 : Int32) (σ : am_S) : Z l E msM σ0 YX12_added d 0 0 23 [(0, .ref 36), (1, .int x1)] [] 0 0 σ (f12_added_J23 k5 N r_term x1 σ) (fun u r s => r = some (.int u.1) ∧ s = u.2) := by
  unfold f12_added_J23
  refine z_aload_n (pc := 23) 0 dX12_added_23 rfl rfl ?_
  refine z_getL (pc := 24) dX12_added_24 (am_ob.s kM36) fr_RX12_225_12 (by decide) ?_
  refine z_ldc2 (pc := 27) (v := (43 : Int64)) dX12_added_27 kl_RX12_305 ?_
  refine z_lcmp (pc := 30) dX12_added_30 ?_
  refine z_if_ne (pc := 31) (tgt := 38) dX12_added_31 (by decide) (fun h9 => ?_) (fun h9 => ?_)
  · refine z_iconst (pc := 34) (v := (1 : Int32)) dX12_added_34 (by decide) ?_
    refine z_goto (pc := 35) (tgt := 39) dX12_added_35 (by decide) ?_
    refine z_istore_n (pc := 39) (lv' := [(2, .int (1 : Int32)), (0, .ref 36), (1, .int x1)]) dX12_added_39 rfl (by decide) rfl ?_
    refine z_aload_n (pc := 40) 1 dX12_added_40 rfl rfl ?_
    refine z_callVs (pc := 41) [.ref 36] [] rfl (lk_V (Yc := YX12_next) (n := 0) dX12_added_41 rfl rfl (am_ob.s kM36) rfl rfl np_X12_next mh_RX12 (by decide) ml_RX12_254 im_X12_next se_RX12_X12_next_X12_next in_RX12 cd_X12_next) (by omega) ⟨by decide, by decide⟩ (Nat.le_of_ble_eq_true rfl) (am_kp.rf _) (fun s11 h12 => c12_next h12) (fun s11 h12 => ?_)
    refine z_aload_n (pc := 44) 1 dX12_added_44 rfl rfl ?_
    refine z_callIs (pc := 45) [.ref 36] [] rfl (lk_V (Yc := YX12_term) (n := 0) dX12_added_45 rfl rfl (am_ob.s kM36) rfl rfl np_X12_term mh_RX12 (by decide) ml_RX12_302 im_X12_term se_RX12_X12_term_X12_term in_RX12 cd_X12_term) hd ⟨by decide, by decide⟩ (Nat.le_of_ble_eq_true rfl) (am_kp.rf _) (fun v14 s15 h16 => hr_term _ _ _ h16) (fun v14 s15 h16 => ?_)
    refine z_istore_n (pc := 48) (lv' := [(3, .int v14), (2, .int (1 : Int32)), (0, .ref 36), (1, .int x1)]) dX12_added_48 rfl (by decide) rfl ?_
    refine z_iload_n (pc := 49) 1 dX12_added_49 rfl rfl ?_
    refine z_if_eq_f (pc := 50) (tgt := 59) dX12_added_50 (by decide) (by decide) ?_
    refine z_iload_n (pc := 53) 3 dX12_added_53 rfl rfl ?_
    refine z_iload_n (pc := 54) 0 dX12_added_54 rfl rfl ?_
    refine z_iadd (pc := 55) dX12_added_55 ?_
    refine z_goto (pc := 56) (tgt := 62) dX12_added_56 (by decide) ?_
    refine z_istore_n (pc := 62) (lv' := [(1, .int (x1 + v14)), (3, .int v14), (2, .int (1 : Int32)), (0, .ref 36)]) dX12_added_62 rfl (by decide) rfl ?_
    refine z_goto (pc := 63) (tgt := 5) dX12_added_63 (by decide) ?_
    refine z_lv (lv' := [(0, .ref 36), (1, .int (x1 + v14))]) [3, 0] rfl ?_
    exact hk5 (x1 + v14) s15
  · refine z_iconst (pc := 38) (v := (0 : Int32)) dX12_added_38 (by decide) ?_
    refine z_istore_n (pc := 39) (lv' := [(2, .int (0 : Int32)), (0, .ref 36), (1, .int x1)]) dX12_added_39 rfl (by decide) rfl ?_
    refine z_aload_n (pc := 40) 1 dX12_added_40 rfl rfl ?_
    refine z_callVs (pc := 41) [.ref 36] [] rfl (lk_V (Yc := YX12_next) (n := 0) dX12_added_41 rfl rfl (am_ob.s kM36) rfl rfl np_X12_next mh_RX12 (by decide) ml_RX12_254 im_X12_next se_RX12_X12_next_X12_next in_RX12 cd_X12_next) (by omega) ⟨by decide, by decide⟩ (Nat.le_of_ble_eq_true rfl) (am_kp.rf _) (fun s18 h19 => c12_next h19) (fun s18 h19 => ?_)
    refine z_aload_n (pc := 44) 1 dX12_added_44 rfl rfl ?_
    refine z_callIs (pc := 45) [.ref 36] [] rfl (lk_V (Yc := YX12_term) (n := 0) dX12_added_45 rfl rfl (am_ob.s kM36) rfl rfl np_X12_term mh_RX12 (by decide) ml_RX12_302 im_X12_term se_RX12_X12_term_X12_term in_RX12 cd_X12_term) hd ⟨by decide, by decide⟩ (Nat.le_of_ble_eq_true rfl) (am_kp.rf _) (fun v21 s22 h23 => hr_term _ _ _ h23) (fun v21 s22 h23 => ?_)
    refine z_istore_n (pc := 48) (lv' := [(3, .int v21), (2, .int (0 : Int32)), (0, .ref 36), (1, .int x1)]) dX12_added_48 rfl (by decide) rfl ?_
    refine z_iload_n (pc := 49) 1 dX12_added_49 rfl rfl ?_
    refine z_if_eq_t (pc := 50) (tgt := 59) dX12_added_50 (by decide) (by decide) ?_
    refine z_iload_n (pc := 59) 3 dX12_added_59 rfl rfl ?_
    refine z_iload_n (pc := 60) 0 dX12_added_60 rfl rfl ?_
    refine z_isub (pc := 61) dX12_added_61 ?_
    refine z_istore_n (pc := 62) (lv' := [(1, .int (x1 - v21)), (3, .int v21), (2, .int (0 : Int32)), (0, .ref 36)]) dX12_added_62 rfl (by decide) rfl ?_
    refine z_goto (pc := 63) (tgt := 5) dX12_added_63 (by decide) ?_
    refine z_lv (lv' := [(0, .ref 36), (1, .int (x1 - v21))]) [3, 0] rfl ?_
    exact hk5 (x1 - v21) s22
def f12_added_L5 (N : Nat) (r_term : am_S → Option (Int32 × am_S)) : Nat → Int32 → am_S → Option (Int32 × am_S)
  | 0, _, _ => none
  | n + 1, x1, σ => (f12_isSign σ (43 : Int32)).bind fun v5 => (if v5 = true then (f12_added_J23 (f12_added_L5 N r_term n) N r_term x1 σ) else ((f12_isSign σ (45 : Int32)).bind fun v24 => (if v24 = true then (f12_added_J23 (f12_added_L5 N r_term n) N r_term x1 σ) else (some (x1, σ)))))
theorem z12_added_L5 {l : Launch} {E : am_E} {d : Nat} {σ0 : am_S} {N : Nat} {r_term : am_S → Option (Int32 × am_S)} {K : Nat} (hK : 3 ≤ K) (hd : K + 1 ≤ d) (hr_term : ∀ (σ : am_S) (v : Int32) (σ1 : am_S), r_term σ = some (v, σ1) → Ctr l E msM YX12_term K 0 0 [.ref 36] σ (some (.int v)) σ1) : ∀ (n : Nat) (x1 : Int32) (σ : am_S), Z l E msM σ0 YX12_added d 0 0 5 [(0, .ref 36), (1, .int x1)] [] 0 0 σ (f12_added_L5 N r_term n x1 σ) (fun u r s => r = some (.int u.1) ∧ s = u.2) := by
  intro n
  induction n with
  | zero => intros; exact z_none
  | succ n ih =>
    intro x1 σ
    unfold f12_added_L5
    refine z_aload_n (pc := 5) 0 dX12_added_5 rfl rfl ?_
    refine z_bipush (pc := 6) (v := (43 : Int32)) dX12_added_6 (by decide) ?_
    refine z_callB (pc := 8) [.ref 36, .int (43 : Int32)] [] rfl (lk_V (Yc := YX12_isSign) (n := 1) dX12_added_8 rfl rfl (am_ob.s kM36) rfl rfl np_X12_isSign mh_RX12 (by decide) ml_RX12_285 im_X12_isSign se_RX12_X12_isSign_X12_isSign in_RX12 cd_X12_isSign) (by omega) ⟨by decide, by decide⟩ (Nat.le_of_ble_eq_true rfl) (am_kp.rf _) (fun v5 h7 => c12_isSign h7) (fun v5 h7 => ?_)
    refine z_bz_ne (pc := 11) (tgt := 23) dX12_added_11 (by decide) (fun h8 => ?_) (fun h8 => ?_)
    · refine z_lv (lv' := [(0, .ref 36), (1, .int x1)]) [0, 1] rfl ?_
      exact z12_added_J23 hK hd hr_term (fun x1 σ => ih x1 σ) x1 σ
    · refine z_aload_n (pc := 14) 0 dX12_added_14 rfl rfl ?_
      refine z_bipush (pc := 15) (v := (45 : Int32)) dX12_added_15 (by decide) ?_
      refine z_callB (pc := 17) [.ref 36, .int (45 : Int32)] [] rfl (lk_V (Yc := YX12_isSign) (n := 1) dX12_added_17 rfl rfl (am_ob.s kM36) rfl rfl np_X12_isSign mh_RX12 (by decide) ml_RX12_285 im_X12_isSign se_RX12_X12_isSign_X12_isSign in_RX12 cd_X12_isSign) (by omega) ⟨by decide, by decide⟩ (Nat.le_of_ble_eq_true rfl) (am_kp.rf _) (fun v24 h26 => c12_isSign h26) (fun v24 h26 => ?_)
      refine z_bz_eq (pc := 20) (tgt := 66) dX12_added_20 (by decide) (fun h27 => ?_) (fun h27 => ?_)
      · refine z_lv (lv' := [(0, .ref 36), (1, .int x1)]) [0, 1] rfl ?_
        exact z12_added_J23 hK hd hr_term (fun x1 σ => ih x1 σ) x1 σ
      · refine z_iload_n (pc := 66) 1 dX12_added_66 rfl rfl ?_
        exact z_rIs dX12_added_67 rfl ⟨by decide, by decide⟩
def f12_added_r (N : Nat) (r_term : am_S → Option (Int32 × am_S)) (σ : am_S) : Option (Int32 × am_S) := (r_term σ).bind fun (v2, s3) => (f12_added_L5 N r_term N v2 s3)
theorem c12_added_r {l : Launch} {E : am_E} {N : Nat} {r_term : am_S → Option (Int32 × am_S)} {K : Nat} (hK : 3 ≤ K) (hr_term : ∀ (σ : am_S) (v : Int32) (σ1 : am_S), r_term σ = some (v, σ1) → Ctr l E msM YX12_term K 0 0 [.ref 36] σ (some (.int v)) σ1) {σ : am_S} {v : Int32} {σ1 : am_S} (hf : f12_added_r N r_term σ = some (v, σ1)) : Ctr l E msM YX12_added (K + 1) 0 0 [.ref 36] σ (some (.int v)) σ1 := by
  refine ctr_of (G := fun u r s => r = some (.int u.1) ∧ s = u.2) (by decide +kernel) (Nat.le_of_ble_eq_true rfl) hf ⟨rfl, rfl⟩ (fun d hd => ?_)
  refine z_eqlv (lv' := [(0, .ref 36)]) rfl ?_
  unfold f12_added_r
  refine z_aload_n (pc := 0) 0 dX12_added_0 rfl rfl ?_
  refine z_callIs (pc := 1) [.ref 36] [] rfl (lk_V (Yc := YX12_term) (n := 0) dX12_added_1 rfl rfl (am_ob.s kM36) rfl rfl np_X12_term mh_RX12 (by decide) ml_RX12_302 im_X12_term se_RX12_X12_term_X12_term in_RX12 cd_X12_term) hd ⟨by decide, by decide⟩ (Nat.le_of_ble_eq_true rfl) (am_kp.rf _) (fun v2 s3 h4 => hr_term _ _ _ h4) (fun v2 s3 h4 => ?_)
  refine z_istore_n (pc := 4) (lv' := [(1, .int v2), (0, .ref 36)]) dX12_added_4 rfl (by decide) rfl ?_
  refine z_lv (lv' := [(0, .ref 36), (1, .int v2)]) [1, 0] rfl ?_
  exact z12_added_L5 hK hd hr_term N v2 s3
def f12_both_L5 (N : Nat) (r_not : am_S → Option (Int32 × am_S)) : Nat → Int32 → am_S → Option (Int32 × am_S)
  | 0, _, _ => none
  | n + 1, x1, σ => (f12_isWord σ (1111 : Int64)).bind fun v5 => (if v5 = true then ((f12_next N σ).bind fun s10 => ((r_not s10).bind fun (v13, s14) => (if x1 = 0 then (f12_both_L5 N r_not n (0 : Int32) s14) else (if v13 = 0 then (f12_both_L5 N r_not n (0 : Int32) s14) else (f12_both_L5 N r_not n (1 : Int32) s14))))) else (some (x1, σ)))
theorem z12_both_L5 {l : Launch} {E : am_E} {d : Nat} {σ0 : am_S} {N : Nat} {r_not : am_S → Option (Int32 × am_S)} {K : Nat} (hK : 3 ≤ K) (hd : K + 1 ≤ d) (hr_not : ∀ (σ : am_S) (v : Int32) (σ1 : am_S), r_not σ = some (v, σ1) → Ctr l E msM YX12_not K 0 0 [.ref 36] σ (some (.int v)) σ1) : ∀ (n : Nat) (x1 : Int32) (σ : am_S), Z l E msM σ0 YX12_both d 0 0 5 [(0, .ref 36), (1, .int x1)] [] 0 0 σ (f12_both_L5 N r_not n x1 σ) (fun u r s => r = some (.int u.1) ∧ s = u.2) := by
  intro n
  induction n with
  | zero => intros; exact z_none
  | succ n ih =>
    intro x1 σ
    unfold f12_both_L5
    refine z_aload_n (pc := 5) 0 dX12_both_5 rfl rfl ?_
    refine z_ldc2 (pc := 6) (v := (1111 : Int64)) dX12_both_6 kl_RX12_315 ?_
    refine z_callB (pc := 9) [.ref 36, .long (1111 : Int64)] [] rfl (lk_V (Yc := YX12_isWord) (n := 1) dX12_both_9 rfl rfl (am_ob.s kM36) rfl rfl np_X12_isWord mh_RX12 (by decide) ml_RX12_259 im_X12_isWord se_RX12_X12_isWord_X12_isWord in_RX12 cd_X12_isWord) (by omega) ⟨by decide, by decide⟩ (Nat.le_of_ble_eq_true rfl) (am_kp.rf _) (fun v5 h7 => c12_isWord h7) (fun v5 h7 => ?_)
    refine z_bz_eq (pc := 12) (tgt := 41) dX12_both_12 (by decide) (fun h8 => ?_) (fun h8 => ?_)
    · refine z_aload_n (pc := 15) 0 dX12_both_15 rfl rfl ?_
      refine z_callVs (pc := 16) [.ref 36] [] rfl (lk_V (Yc := YX12_next) (n := 0) dX12_both_16 rfl rfl (am_ob.s kM36) rfl rfl np_X12_next mh_RX12 (by decide) ml_RX12_254 im_X12_next se_RX12_X12_next_X12_next in_RX12 cd_X12_next) (by omega) ⟨by decide, by decide⟩ (Nat.le_of_ble_eq_true rfl) (am_kp.rf _) (fun s10 h11 => c12_next h11) (fun s10 h11 => ?_)
      refine z_aload_n (pc := 19) 0 dX12_both_19 rfl rfl ?_
      refine z_callIs (pc := 20) [.ref 36] [] rfl (lk_V (Yc := YX12_not) (n := 0) dX12_both_20 rfl rfl (am_ob.s kM36) rfl rfl np_X12_not mh_RX12 (by decide) ml_RX12_309 im_X12_not se_RX12_X12_not_X12_not in_RX12 cd_X12_not) hd ⟨by decide, by decide⟩ (Nat.le_of_ble_eq_true rfl) (am_kp.rf _) (fun v13 s14 h15 => hr_not _ _ _ h15) (fun v13 s14 h15 => ?_)
      refine z_istore_n (pc := 23) (lv' := [(2, .int v13), (0, .ref 36), (1, .int x1)]) dX12_both_23 rfl (by decide) rfl ?_
      refine z_iload_n (pc := 24) 2 dX12_both_24 rfl rfl ?_
      refine z_if_eq (pc := 25) (tgt := 36) dX12_both_25 (by decide) (fun h16 => ?_) (fun h16 => ?_)
      · refine z_iconst (pc := 36) (v := (0 : Int32)) dX12_both_36 (by decide) ?_
        refine z_istore_n (pc := 37) (lv' := [(1, .int (0 : Int32)), (2, .int v13), (0, .ref 36)]) dX12_both_37 rfl (by decide) rfl ?_
        refine z_goto (pc := 38) (tgt := 5) dX12_both_38 (by decide) ?_
        refine z_lv (lv' := [(0, .ref 36), (1, .int (0 : Int32))]) [2, 0] rfl ?_
        exact ih (0 : Int32) s14
      · refine z_iload_n (pc := 28) 0 dX12_both_28 rfl rfl ?_
        refine z_if_eq (pc := 29) (tgt := 36) dX12_both_29 (by decide) (fun h17 => ?_) (fun h17 => ?_)
        · refine z_iconst (pc := 36) (v := (0 : Int32)) dX12_both_36 (by decide) ?_
          refine z_istore_n (pc := 37) (lv' := [(1, .int (0 : Int32)), (2, .int v13), (0, .ref 36)]) dX12_both_37 rfl (by decide) rfl ?_
          refine z_goto (pc := 38) (tgt := 5) dX12_both_38 (by decide) ?_
          refine z_lv (lv' := [(0, .ref 36), (1, .int (0 : Int32))]) [2, 0] rfl ?_
          exact ih (0 : Int32) s14
        · refine z_iconst (pc := 32) (v := (1 : Int32)) dX12_both_32 (by decide) ?_
          refine z_goto (pc := 33) (tgt := 37) dX12_both_33 (by decide) ?_
          refine z_istore_n (pc := 37) (lv' := [(1, .int (1 : Int32)), (2, .int v13), (0, .ref 36)]) dX12_both_37 rfl (by decide) rfl ?_
          refine z_goto (pc := 38) (tgt := 5) dX12_both_38 (by decide) ?_
          refine z_lv (lv' := [(0, .ref 36), (1, .int (1 : Int32))]) [2, 0] rfl ?_
          exact ih (1 : Int32) s14
    · refine z_iload_n (pc := 41) 1 dX12_both_41 rfl rfl ?_
      exact z_rIs dX12_both_42 rfl ⟨by decide, by decide⟩
def f12_both_r (N : Nat) (r_not : am_S → Option (Int32 × am_S)) (σ : am_S) : Option (Int32 × am_S) := (r_not σ).bind fun (v2, s3) => (f12_both_L5 N r_not N v2 s3)
theorem c12_both_r {l : Launch} {E : am_E} {N : Nat} {r_not : am_S → Option (Int32 × am_S)} {K : Nat} (hK : 3 ≤ K) (hr_not : ∀ (σ : am_S) (v : Int32) (σ1 : am_S), r_not σ = some (v, σ1) → Ctr l E msM YX12_not K 0 0 [.ref 36] σ (some (.int v)) σ1) {σ : am_S} {v : Int32} {σ1 : am_S} (hf : f12_both_r N r_not σ = some (v, σ1)) : Ctr l E msM YX12_both (K + 1) 0 0 [.ref 36] σ (some (.int v)) σ1 := by
  refine ctr_of (G := fun u r s => r = some (.int u.1) ∧ s = u.2) (by decide +kernel) (Nat.le_of_ble_eq_true rfl) hf ⟨rfl, rfl⟩ (fun d hd => ?_)
  refine z_eqlv (lv' := [(0, .ref 36)]) rfl ?_
  unfold f12_both_r
  refine z_aload_n (pc := 0) 0 dX12_both_0 rfl rfl ?_
  refine z_callIs (pc := 1) [.ref 36] [] rfl (lk_V (Yc := YX12_not) (n := 0) dX12_both_1 rfl rfl (am_ob.s kM36) rfl rfl np_X12_not mh_RX12 (by decide) ml_RX12_309 im_X12_not se_RX12_X12_not_X12_not in_RX12 cd_X12_not) hd ⟨by decide, by decide⟩ (Nat.le_of_ble_eq_true rfl) (am_kp.rf _) (fun v2 s3 h4 => hr_not _ _ _ h4) (fun v2 s3 h4 => ?_)
  refine z_istore_n (pc := 4) (lv' := [(1, .int v2), (0, .ref 36)]) dX12_both_4 rfl (by decide) rfl ?_
  refine z_lv (lv' := [(0, .ref 36), (1, .int v2)]) [1, 0] rfl ?_
  exact z12_both_L5 hK hd hr_not N v2 s3
def f12_either_L5 (N : Nat) (r_both : am_S → Option (Int32 × am_S)) : Nat → Int32 → am_S → Option (Int32 × am_S)
  | 0, _, _ => none
  | n + 1, x1, σ => (f12_isWord σ (423 : Int64)).bind fun v5 => (if v5 = true then ((f12_next N σ).bind fun s10 => ((r_both s10).bind fun (v13, s14) => (if x1 = 0 then (if v13 = 0 then (f12_either_L5 N r_both n (0 : Int32) s14) else (f12_either_L5 N r_both n (1 : Int32) s14)) else (f12_either_L5 N r_both n (1 : Int32) s14)))) else (some (x1, σ)))
theorem z12_either_L5 {l : Launch} {E : am_E} {d : Nat} {σ0 : am_S} {N : Nat} {r_both : am_S → Option (Int32 × am_S)} {K : Nat} (hK : 3 ≤ K) (hd : K + 1 ≤ d) (hr_both : ∀ (σ : am_S) (v : Int32) (σ1 : am_S), r_both σ = some (v, σ1) → Ctr l E msM YX12_both K 0 0 [.ref 36] σ (some (.int v)) σ1) : ∀ (n : Nat) (x1 : Int32) (σ : am_S), Z l E msM σ0 YX12_either d 0 0 5 [(0, .ref 36), (1, .int x1)] [] 0 0 σ (f12_either_L5 N r_both n x1 σ) (fun u r s => r = some (.int u.1) ∧ s = u.2) := by
  intro n
  induction n with
  | zero => intros; exact z_none
  | succ n ih =>
    intro x1 σ
    unfold f12_either_L5
    refine z_aload_n (pc := 5) 0 dX12_either_5 rfl rfl ?_
    refine z_ldc2 (pc := 6) (v := (423 : Int64)) dX12_either_6 kl_RX12_320 ?_
    refine z_callB (pc := 9) [.ref 36, .long (423 : Int64)] [] rfl (lk_V (Yc := YX12_isWord) (n := 1) dX12_either_9 rfl rfl (am_ob.s kM36) rfl rfl np_X12_isWord mh_RX12 (by decide) ml_RX12_259 im_X12_isWord se_RX12_X12_isWord_X12_isWord in_RX12 cd_X12_isWord) (by omega) ⟨by decide, by decide⟩ (Nat.le_of_ble_eq_true rfl) (am_kp.rf _) (fun v5 h7 => c12_isWord h7) (fun v5 h7 => ?_)
    refine z_bz_eq (pc := 12) (tgt := 41) dX12_either_12 (by decide) (fun h8 => ?_) (fun h8 => ?_)
    · refine z_aload_n (pc := 15) 0 dX12_either_15 rfl rfl ?_
      refine z_callVs (pc := 16) [.ref 36] [] rfl (lk_V (Yc := YX12_next) (n := 0) dX12_either_16 rfl rfl (am_ob.s kM36) rfl rfl np_X12_next mh_RX12 (by decide) ml_RX12_254 im_X12_next se_RX12_X12_next_X12_next in_RX12 cd_X12_next) (by omega) ⟨by decide, by decide⟩ (Nat.le_of_ble_eq_true rfl) (am_kp.rf _) (fun s10 h11 => c12_next h11) (fun s10 h11 => ?_)
      refine z_aload_n (pc := 19) 0 dX12_either_19 rfl rfl ?_
      refine z_callIs (pc := 20) [.ref 36] [] rfl (lk_V (Yc := YX12_both) (n := 0) dX12_either_20 rfl rfl (am_ob.s kM36) rfl rfl np_X12_both mh_RX12 (by decide) ml_RX12_317 im_X12_both se_RX12_X12_both_X12_both in_RX12 cd_X12_both) hd ⟨by decide, by decide⟩ (Nat.le_of_ble_eq_true rfl) (am_kp.rf _) (fun v13 s14 h15 => hr_both _ _ _ h15) (fun v13 s14 h15 => ?_)
      refine z_istore_n (pc := 23) (lv' := [(2, .int v13), (0, .ref 36), (1, .int x1)]) dX12_either_23 rfl (by decide) rfl ?_
      refine z_iload_n (pc := 24) 2 dX12_either_24 rfl rfl ?_
      refine z_if_ne (pc := 25) (tgt := 32) dX12_either_25 (by decide) (fun h16 => ?_) (fun h16 => ?_)
      · refine z_iload_n (pc := 28) 0 dX12_either_28 rfl rfl ?_
        refine z_if_eq (pc := 29) (tgt := 36) dX12_either_29 (by decide) (fun h17 => ?_) (fun h17 => ?_)
        · refine z_iconst (pc := 36) (v := (0 : Int32)) dX12_either_36 (by decide) ?_
          refine z_istore_n (pc := 37) (lv' := [(1, .int (0 : Int32)), (2, .int v13), (0, .ref 36)]) dX12_either_37 rfl (by decide) rfl ?_
          refine z_goto (pc := 38) (tgt := 5) dX12_either_38 (by decide) ?_
          refine z_lv (lv' := [(0, .ref 36), (1, .int (0 : Int32))]) [2, 0] rfl ?_
          exact ih (0 : Int32) s14
        · refine z_iconst (pc := 32) (v := (1 : Int32)) dX12_either_32 (by decide) ?_
          refine z_goto (pc := 33) (tgt := 37) dX12_either_33 (by decide) ?_
          refine z_istore_n (pc := 37) (lv' := [(1, .int (1 : Int32)), (2, .int v13), (0, .ref 36)]) dX12_either_37 rfl (by decide) rfl ?_
          refine z_goto (pc := 38) (tgt := 5) dX12_either_38 (by decide) ?_
          refine z_lv (lv' := [(0, .ref 36), (1, .int (1 : Int32))]) [2, 0] rfl ?_
          exact ih (1 : Int32) s14
      · refine z_iconst (pc := 32) (v := (1 : Int32)) dX12_either_32 (by decide) ?_
        refine z_goto (pc := 33) (tgt := 37) dX12_either_33 (by decide) ?_
        refine z_istore_n (pc := 37) (lv' := [(1, .int (1 : Int32)), (2, .int v13), (0, .ref 36)]) dX12_either_37 rfl (by decide) rfl ?_
        refine z_goto (pc := 38) (tgt := 5) dX12_either_38 (by decide) ?_
        refine z_lv (lv' := [(0, .ref 36), (1, .int (1 : Int32))]) [2, 0] rfl ?_
        exact ih (1 : Int32) s14
    · refine z_iload_n (pc := 41) 1 dX12_either_41 rfl rfl ?_
      exact z_rIs dX12_either_42 rfl ⟨by decide, by decide⟩
def f12_either_r (N : Nat) (r_both : am_S → Option (Int32 × am_S)) (σ : am_S) : Option (Int32 × am_S) := (r_both σ).bind fun (v2, s3) => (f12_either_L5 N r_both N v2 s3)
theorem c12_either_r {l : Launch} {E : am_E} {N : Nat} {r_both : am_S → Option (Int32 × am_S)} {K : Nat} (hK : 3 ≤ K) (hr_both : ∀ (σ : am_S) (v : Int32) (σ1 : am_S), r_both σ = some (v, σ1) → Ctr l E msM YX12_both K 0 0 [.ref 36] σ (some (.int v)) σ1) {σ : am_S} {v : Int32} {σ1 : am_S} (hf : f12_either_r N r_both σ = some (v, σ1)) : Ctr l E msM YX12_either (K + 1) 0 0 [.ref 36] σ (some (.int v)) σ1 := by
  refine ctr_of (G := fun u r s => r = some (.int u.1) ∧ s = u.2) (by decide +kernel) (Nat.le_of_ble_eq_true rfl) hf ⟨rfl, rfl⟩ (fun d hd => ?_)
  refine z_eqlv (lv' := [(0, .ref 36)]) rfl ?_
  unfold f12_either_r
  refine z_aload_n (pc := 0) 0 dX12_either_0 rfl rfl ?_
  refine z_callIs (pc := 1) [.ref 36] [] rfl (lk_V (Yc := YX12_both) (n := 0) dX12_either_1 rfl rfl (am_ob.s kM36) rfl rfl np_X12_both mh_RX12 (by decide) ml_RX12_317 im_X12_both se_RX12_X12_both_X12_both in_RX12 cd_X12_both) hd ⟨by decide, by decide⟩ (Nat.le_of_ble_eq_true rfl) (am_kp.rf _) (fun v2 s3 h4 => hr_both _ _ _ h4) (fun v2 s3 h4 => ?_)
  refine z_istore_n (pc := 4) (lv' := [(1, .int v2), (0, .ref 36)]) dX12_either_4 rfl (by decide) rfl ?_
  refine z_lv (lv' := [(0, .ref 36), (1, .int v2)]) [1, 0] rfl ?_
  exact z12_either_L5 hK hd hr_both N v2 s3
def f12_not_J69 (N : Nat) (r_added : am_S → Option (Int32 × am_S)) (r_not : am_S → Option (Int32 × am_S)) (x1 : Int32) (σ : am_S) : Option (Int32 × am_S) := if lg_cmp (fG σ 36 26) (60 : Int64) = 0 then ((f12_next N σ).bind fun s24 => ((r_added s24).bind fun (v27, s28) => (if v27 ≤ x1 then (some ((0 : Int32), s28)) else (some ((1 : Int32), s28))))) else ((f12_next N σ).bind fun s32 => ((r_added s32).bind fun (v35, s36) => (if x1 = v35 then (some ((1 : Int32), s36)) else (some ((0 : Int32), s36)))))
theorem z12_not_J69 {l : Launch} {E : am_E} {d : Nat} {σ0 : am_S} {N : Nat} {r_added : am_S → Option (Int32 × am_S)} {r_not : am_S → Option (Int32 × am_S)} {K : Nat} (hK : 3 ≤ K) (hd : K + 1 ≤ d) (hr_added : ∀ (σ : am_S) (v : Int32) (σ1 : am_S), r_added σ = some (v, σ1) → Ctr l E msM YX12_added K 0 0 [.ref 36] σ (some (.int v)) σ1) (hr_not : ∀ (σ : am_S) (v : Int32) (σ1 : am_S), r_not σ = some (v, σ1) → Ctr l E msM YX12_not K 0 0 [.ref 36] σ (some (.int v)) σ1) (x1 : Int32) (σ : am_S) : Z l E msM σ0 YX12_not d 0 0 69 [(0, .ref 36), (1, .int x1)] [] 0 0 σ (f12_not_J69 N r_added r_not x1 σ) (fun u r s => r = some (.int u.1) ∧ s = u.2) := by
  unfold f12_not_J69
  refine z_aload_n (pc := 69) 0 dX12_not_69 rfl rfl ?_
  refine z_getL (pc := 70) dX12_not_70 (am_ob.s kM36) fr_RX12_225_12 (by decide) ?_
  refine z_ldc2 (pc := 73) (v := (60 : Int64)) dX12_not_73 kl_RX12_145 ?_
  refine z_lcmp (pc := 76) dX12_not_76 ?_
  refine z_if_ne (pc := 77) (tgt := 84) dX12_not_77 (by decide) (fun h22 => ?_) (fun h22 => ?_)
  · refine z_iconst (pc := 80) (v := (1 : Int32)) dX12_not_80 (by decide) ?_
    refine z_goto (pc := 81) (tgt := 85) dX12_not_81 (by decide) ?_
    refine z_istore_n (pc := 85) (lv' := [(2, .int (1 : Int32)), (0, .ref 36), (1, .int x1)]) dX12_not_85 rfl (by decide) rfl ?_
    refine z_aload_n (pc := 86) 1 dX12_not_86 rfl rfl ?_
    refine z_callVs (pc := 87) [.ref 36] [] rfl (lk_V (Yc := YX12_next) (n := 0) dX12_not_87 rfl rfl (am_ob.s kM36) rfl rfl np_X12_next mh_RX12 (by decide) ml_RX12_254 im_X12_next se_RX12_X12_next_X12_next in_RX12 cd_X12_next) (by omega) ⟨by decide, by decide⟩ (Nat.le_of_ble_eq_true rfl) (am_kp.rf _) (fun s24 h25 => c12_next h25) (fun s24 h25 => ?_)
    refine z_aload_n (pc := 90) 1 dX12_not_90 rfl rfl ?_
    refine z_callIs (pc := 91) [.ref 36] [] rfl (lk_V (Yc := YX12_added) (n := 0) dX12_not_91 rfl rfl (am_ob.s kM36) rfl rfl np_X12_added mh_RX12 (by decide) ml_RX12_312 im_X12_added se_RX12_X12_added_X12_added in_RX12 cd_X12_added) hd ⟨by decide, by decide⟩ (Nat.le_of_ble_eq_true rfl) (am_kp.rf _) (fun v27 s28 h29 => hr_added _ _ _ h29) (fun v27 s28 h29 => ?_)
    refine z_istore_n (pc := 94) (lv' := [(3, .int v27), (2, .int (1 : Int32)), (0, .ref 36), (1, .int x1)]) dX12_not_94 rfl (by decide) rfl ?_
    refine z_iload_n (pc := 95) 1 dX12_not_95 rfl rfl ?_
    refine z_if_eq_f (pc := 96) (tgt := 107) dX12_not_96 (by decide) (by decide) ?_
    refine z_iload_n (pc := 99) 3 dX12_not_99 rfl rfl ?_
    refine z_iload_n (pc := 100) 0 dX12_not_100 rfl rfl ?_
    refine z_ic_ge (pc := 101) (tgt := 116) dX12_not_101 (by decide) (fun h30 => ?_) (fun h30 => ?_)
    · refine z_iconst (pc := 116) (v := (0 : Int32)) dX12_not_116 (by decide) ?_
      exact z_rIs dX12_not_117 rfl ⟨by decide, by decide⟩
    · refine z_goto (pc := 104) (tgt := 112) dX12_not_104 (by decide) ?_
      refine z_iconst (pc := 112) (v := (1 : Int32)) dX12_not_112 (by decide) ?_
      refine z_goto (pc := 113) (tgt := 117) dX12_not_113 (by decide) ?_
      exact z_rIs dX12_not_117 rfl ⟨by decide, by decide⟩
  · refine z_iconst (pc := 84) (v := (0 : Int32)) dX12_not_84 (by decide) ?_
    refine z_istore_n (pc := 85) (lv' := [(2, .int (0 : Int32)), (0, .ref 36), (1, .int x1)]) dX12_not_85 rfl (by decide) rfl ?_
    refine z_aload_n (pc := 86) 1 dX12_not_86 rfl rfl ?_
    refine z_callVs (pc := 87) [.ref 36] [] rfl (lk_V (Yc := YX12_next) (n := 0) dX12_not_87 rfl rfl (am_ob.s kM36) rfl rfl np_X12_next mh_RX12 (by decide) ml_RX12_254 im_X12_next se_RX12_X12_next_X12_next in_RX12 cd_X12_next) (by omega) ⟨by decide, by decide⟩ (Nat.le_of_ble_eq_true rfl) (am_kp.rf _) (fun s32 h33 => c12_next h33) (fun s32 h33 => ?_)
    refine z_aload_n (pc := 90) 1 dX12_not_90 rfl rfl ?_
    refine z_callIs (pc := 91) [.ref 36] [] rfl (lk_V (Yc := YX12_added) (n := 0) dX12_not_91 rfl rfl (am_ob.s kM36) rfl rfl np_X12_added mh_RX12 (by decide) ml_RX12_312 im_X12_added se_RX12_X12_added_X12_added in_RX12 cd_X12_added) hd ⟨by decide, by decide⟩ (Nat.le_of_ble_eq_true rfl) (am_kp.rf _) (fun v35 s36 h37 => hr_added _ _ _ h37) (fun v35 s36 h37 => ?_)
    refine z_istore_n (pc := 94) (lv' := [(3, .int v35), (2, .int (0 : Int32)), (0, .ref 36), (1, .int x1)]) dX12_not_94 rfl (by decide) rfl ?_
    refine z_iload_n (pc := 95) 1 dX12_not_95 rfl rfl ?_
    refine z_if_eq_t (pc := 96) (tgt := 107) dX12_not_96 (by decide) (by decide) ?_
    refine z_iload_n (pc := 107) 3 dX12_not_107 rfl rfl ?_
    refine z_iload_n (pc := 108) 0 dX12_not_108 rfl rfl ?_
    refine z_ic_ne (pc := 109) (tgt := 116) dX12_not_109 (by decide) (fun h38 => ?_) (fun h38 => ?_)
    · refine z_iconst (pc := 112) (v := (1 : Int32)) dX12_not_112 (by decide) ?_
      refine z_goto (pc := 113) (tgt := 117) dX12_not_113 (by decide) ?_
      exact z_rIs dX12_not_117 rfl ⟨by decide, by decide⟩
    · refine z_iconst (pc := 116) (v := (0 : Int32)) dX12_not_116 (by decide) ?_
      exact z_rIs dX12_not_117 rfl ⟨by decide, by decide⟩
def f12_not_r (N : Nat) (r_added : am_S → Option (Int32 × am_S)) (r_not : am_S → Option (Int32 × am_S)) (σ : am_S) : Option (Int32 × am_S) := (f12_isWord σ (10631 : Int64)).bind fun v1 => (if v1 = true then ((f12_opens N σ).bind fun (v5, s6) => (if v5 = true then ((r_not s6).bind fun (v10, s11) => (if v10 = 0 then (some ((1 : Int32), sF s11 36 28 ((fF s11 36 28) - (1 : Int32)))) else (some ((0 : Int32), sF s11 36 28 ((fF s11 36 28) - (1 : Int32)))))) else (some ((0 : Int32), s6)))) else ((r_added σ).bind fun (v15, s16) => ((f12_isSign s16 (60 : Int32)).bind fun v18 => (if v18 = true then (f12_not_J69 N r_added r_not v15 s16) else ((f12_isSign s16 (61 : Int32)).bind fun v39 => (if v39 = true then (f12_not_J69 N r_added r_not v15 s16) else (some (v15, s16))))))))
theorem c12_not_r {l : Launch} {E : am_E} {N : Nat} {r_added : am_S → Option (Int32 × am_S)} {r_not : am_S → Option (Int32 × am_S)} {K : Nat} (hK : 3 ≤ K) (hr_added : ∀ (σ : am_S) (v : Int32) (σ1 : am_S), r_added σ = some (v, σ1) → Ctr l E msM YX12_added K 0 0 [.ref 36] σ (some (.int v)) σ1) (hr_not : ∀ (σ : am_S) (v : Int32) (σ1 : am_S), r_not σ = some (v, σ1) → Ctr l E msM YX12_not K 0 0 [.ref 36] σ (some (.int v)) σ1) {σ : am_S} {v : Int32} {σ1 : am_S} (hf : f12_not_r N r_added r_not σ = some (v, σ1)) : Ctr l E msM YX12_not (K + 1) 0 0 [.ref 36] σ (some (.int v)) σ1 := by
  refine ctr_of (G := fun u r s => r = some (.int u.1) ∧ s = u.2) (by decide +kernel) (Nat.le_of_ble_eq_true rfl) hf ⟨rfl, rfl⟩ (fun d hd => ?_)
  refine z_eqlv (lv' := [(0, .ref 36)]) rfl ?_
  unfold f12_not_r
  refine z_aload_n (pc := 0) 0 dX12_not_0 rfl rfl ?_
  refine z_ldc2 (pc := 1) (v := (10631 : Int64)) dX12_not_1 kl_RX12_307 ?_
  refine z_callB (pc := 4) [.ref 36, .long (10631 : Int64)] [] rfl (lk_V (Yc := YX12_isWord) (n := 1) dX12_not_4 rfl rfl (am_ob.s kM36) rfl rfl np_X12_isWord mh_RX12 (by decide) ml_RX12_259 im_X12_isWord se_RX12_X12_isWord_X12_isWord in_RX12 cd_X12_isWord) (by omega) ⟨by decide, by decide⟩ (Nat.le_of_ble_eq_true rfl) (am_kp.rf _) (fun v1 h3 => c12_isWord h3) (fun v1 h3 => ?_)
  refine z_bz_eq (pc := 7) (tgt := 44) dX12_not_7 (by decide) (fun h4 => ?_) (fun h4 => ?_)
  · refine z_aload_n (pc := 10) 0 dX12_not_10 rfl rfl ?_
    refine z_callBs (pc := 11) [.ref 36] [] rfl (lk_V (Yc := YX12_opens) (n := 0) dX12_not_11 rfl rfl (am_ob.s kM36) rfl rfl np_X12_opens mh_RX12 (by decide) ml_RX12_288 im_X12_opens se_RX12_X12_opens_X12_opens in_RX12 cd_X12_opens) (by omega) ⟨by decide, by decide⟩ (Nat.le_of_ble_eq_true rfl) (am_kp.rf _) (fun v5 s6 h7 => c12_opens h7) (fun v5 s6 h7 => ?_)
    refine z_bz_ne (pc := 14) (tgt := 19) dX12_not_14 (by decide) (fun h8 => ?_) (fun h8 => ?_)
    · refine z_aload_n (pc := 19) 0 dX12_not_19 rfl rfl ?_
      refine z_callIs (pc := 20) [.ref 36] [] rfl (lk_V (Yc := YX12_not) (n := 0) dX12_not_20 rfl rfl (am_ob.s kM36) rfl rfl np_X12_not mh_RX12 (by decide) ml_RX12_309 im_X12_not se_RX12_X12_not_X12_not in_RX12 cd_X12_not) hd ⟨by decide, by decide⟩ (Nat.le_of_ble_eq_true rfl) (am_kp.rf _) (fun v10 s11 h12 => hr_not _ _ _ h12) (fun v10 s11 h12 => ?_)
      refine z_istore_n (pc := 23) (lv' := [(1, .int v10), (0, .ref 36)]) dX12_not_23 rfl (by decide) rfl ?_
      refine z_aload_n (pc := 24) 1 dX12_not_24 rfl rfl ?_
      refine z_dup (pc := 25) dX12_not_25 rfl ?_
      refine z_getI (pc := 26) dX12_not_26 (am_ob.s kM36) fr_RX12_248_12 (by decide) ?_
      refine z_iconst (pc := 29) (v := (1 : Int32)) dX12_not_29 (by decide) ?_
      refine z_isub (pc := 30) dX12_not_30 ?_
      refine z_putI (pc := 31) dX12_not_31 (am_ob.s kM36) fw_RX12_248_12 (by decide) ?_
      refine z_iload_n (pc := 34) 0 dX12_not_34 rfl rfl ?_
      refine z_if_ne (pc := 35) (tgt := 42) dX12_not_35 (by decide) (fun h13 => ?_) (fun h13 => ?_)
      · refine z_iconst (pc := 38) (v := (1 : Int32)) dX12_not_38 (by decide) ?_
        refine z_goto (pc := 39) (tgt := 43) dX12_not_39 (by decide) ?_
        exact z_rIs dX12_not_43 rfl ⟨by decide, by decide⟩
      · refine z_iconst (pc := 42) (v := (0 : Int32)) dX12_not_42 (by decide) ?_
        exact z_rIs dX12_not_43 rfl ⟨by decide, by decide⟩
    · refine z_iconst (pc := 17) (v := (0 : Int32)) dX12_not_17 (by decide) ?_
      exact z_rIs dX12_not_18 rfl ⟨by decide, by decide⟩
  · refine z_aload_n (pc := 44) 0 dX12_not_44 rfl rfl ?_
    refine z_callIs (pc := 45) [.ref 36] [] rfl (lk_V (Yc := YX12_added) (n := 0) dX12_not_45 rfl rfl (am_ob.s kM36) rfl rfl np_X12_added mh_RX12 (by decide) ml_RX12_312 im_X12_added se_RX12_X12_added_X12_added in_RX12 cd_X12_added) hd ⟨by decide, by decide⟩ (Nat.le_of_ble_eq_true rfl) (am_kp.rf _) (fun v15 s16 h17 => hr_added _ _ _ h17) (fun v15 s16 h17 => ?_)
    refine z_istore_n (pc := 48) (lv' := [(1, .int v15), (0, .ref 36)]) dX12_not_48 rfl (by decide) rfl ?_
    refine z_aload_n (pc := 49) 1 dX12_not_49 rfl rfl ?_
    refine z_bipush (pc := 50) (v := (60 : Int32)) dX12_not_50 (by decide) ?_
    refine z_callB (pc := 52) [.ref 36, .int (60 : Int32)] [] rfl (lk_V (Yc := YX12_isSign) (n := 1) dX12_not_52 rfl rfl (am_ob.s kM36) rfl rfl np_X12_isSign mh_RX12 (by decide) ml_RX12_285 im_X12_isSign se_RX12_X12_isSign_X12_isSign in_RX12 cd_X12_isSign) (by omega) ⟨by decide, by decide⟩ (Nat.le_of_ble_eq_true rfl) (am_kp.rf _) (fun v18 h20 => c12_isSign h20) (fun v18 h20 => ?_)
    refine z_bz_ne (pc := 55) (tgt := 69) dX12_not_55 (by decide) (fun h21 => ?_) (fun h21 => ?_)
    · refine z_lv (lv' := [(0, .ref 36), (1, .int v15)]) [1, 0] rfl ?_
      exact z12_not_J69 hK hd hr_added hr_not v15 s16
    · refine z_aload_n (pc := 58) 1 dX12_not_58 rfl rfl ?_
      refine z_bipush (pc := 59) (v := (61 : Int32)) dX12_not_59 (by decide) ?_
      refine z_callB (pc := 61) [.ref 36, .int (61 : Int32)] [] rfl (lk_V (Yc := YX12_isSign) (n := 1) dX12_not_61 rfl rfl (am_ob.s kM36) rfl rfl np_X12_isSign mh_RX12 (by decide) ml_RX12_285 im_X12_isSign se_RX12_X12_isSign_X12_isSign in_RX12 cd_X12_isSign) (by omega) ⟨by decide, by decide⟩ (Nat.le_of_ble_eq_true rfl) (am_kp.rf _) (fun v39 h41 => c12_isSign h41) (fun v39 h41 => ?_)
      refine z_bz_ne (pc := 64) (tgt := 69) dX12_not_64 (by decide) (fun h42 => ?_) (fun h42 => ?_)
      · refine z_lv (lv' := [(0, .ref 36), (1, .int v15)]) [1, 0] rfl ?_
        exact z12_not_J69 hK hd hr_added hr_not v15 s16
      · refine z_iload_n (pc := 67) 0 dX12_not_67 rfl rfl ?_
        exact z_rIs dX12_not_68 rfl ⟨by decide, by decide⟩
def f12_one_r (N : Nat) (r_either : am_S → Option (Int32 × am_S)) (r_one : am_S → Option (Int32 × am_S)) (σ : am_S) : Option (Int32 × am_S) := (f12_isSign σ (45 : Int32)).bind fun v1 => (if v1 = true then ((f12_opens N σ).bind fun (v5, s6) => (if v5 = true then ((r_one s6).bind fun (v10, s11) => (some (-v10, sF s11 36 28 ((fF s11 36 28) - (1 : Int32))))) else (some ((0 : Int32), s6)))) else ((f12_isSign σ (40 : Int32)).bind fun v13 => (if v13 = true then ((f12_opens N σ).bind fun (v17, s18) => (if v17 = true then ((r_either s18).bind fun (v22, s23) => ((f12_isSign s23 (41 : Int32)).bind fun v25 => (if v25 = true then (if fF (sF s23 36 28 ((fF s23 36 28) - (1 : Int32))) 36 29 = 0 then ((f12_next N (sF s23 36 28 ((fF s23 36 28) - (1 : Int32)))).bind fun s31 => (some (v22, s31))) else (some (v22, sF s23 36 28 ((fF s23 36 28) - (1 : Int32))))) else ((f12_fail s23).bind fun s34 => (if fF (sF s34 36 28 ((fF s34 36 28) - (1 : Int32))) 36 29 = 0 then ((f12_next N (sF s34 36 28 ((fF s34 36 28) - (1 : Int32)))).bind fun s38 => (some (v22, s38))) else (some (v22, sF s34 36 28 ((fF s34 36 28) - (1 : Int32))))))))) else (some ((0 : Int32), s18)))) else (if fF σ 36 29 = 0 then (if fF σ 36 24 = (2 : Int32) then ((f12_next N σ).bind fun s43 => (some ((fG σ 36 26).toInt32, s43))) else (if fF σ 36 29 = 0 then (if fF σ 36 24 = (1 : Int32) then ((f12_name σ).bind fun (v47, s48) => (if fF s48 36 29 = 0 then ((f12_next N s48).bind fun s52 => (some (v47, s52))) else (some (v47, s48)))) else ((f12_fail σ).bind fun s55 => (some ((0 : Int32), s55)))) else ((f12_fail σ).bind fun s58 => (some ((0 : Int32), s58))))) else (if fF σ 36 29 = 0 then (if fF σ 36 24 = (1 : Int32) then ((f12_name σ).bind fun (v62, s63) => (if fF s63 36 29 = 0 then ((f12_next N s63).bind fun s67 => (some (v62, s67))) else (some (v62, s63)))) else ((f12_fail σ).bind fun s70 => (some ((0 : Int32), s70)))) else ((f12_fail σ).bind fun s73 => (some ((0 : Int32), s73))))))))
theorem c12_one_r {l : Launch} {E : am_E} {N : Nat} {r_either : am_S → Option (Int32 × am_S)} {r_one : am_S → Option (Int32 × am_S)} {K : Nat} (hK : 3 ≤ K) (hr_either : ∀ (σ : am_S) (v : Int32) (σ1 : am_S), r_either σ = some (v, σ1) → Ctr l E msM YX12_either K 0 0 [.ref 36] σ (some (.int v)) σ1) (hr_one : ∀ (σ : am_S) (v : Int32) (σ1 : am_S), r_one σ = some (v, σ1) → Ctr l E msM YX12_one K 0 0 [.ref 36] σ (some (.int v)) σ1) {σ : am_S} {v : Int32} {σ1 : am_S} (hf : f12_one_r N r_either r_one σ = some (v, σ1)) : Ctr l E msM YX12_one (K + 1) 0 0 [.ref 36] σ (some (.int v)) σ1 := by
  refine ctr_of (G := fun u r s => r = some (.int u.1) ∧ s = u.2) (by decide +kernel) (Nat.le_of_ble_eq_true rfl) hf ⟨rfl, rfl⟩ (fun d hd => ?_)
  refine z_eqlv (lv' := [(0, .ref 36)]) rfl ?_
  unfold f12_one_r
  refine z_iconst (pc := 0) (v := (0 : Int32)) dX12_one_0 (by decide) ?_
  refine z_istore_n (pc := 1) (lv' := [(1, .int (0 : Int32)), (0, .ref 36)]) dX12_one_1 rfl (by decide) rfl ?_
  refine z_aload_n (pc := 2) 1 dX12_one_2 rfl rfl ?_
  refine z_bipush (pc := 3) (v := (45 : Int32)) dX12_one_3 (by decide) ?_
  refine z_callB (pc := 5) [.ref 36, .int (45 : Int32)] [] rfl (lk_V (Yc := YX12_isSign) (n := 1) dX12_one_5 rfl rfl (am_ob.s kM36) rfl rfl np_X12_isSign mh_RX12 (by decide) ml_RX12_285 im_X12_isSign se_RX12_X12_isSign_X12_isSign in_RX12 cd_X12_isSign) (by omega) ⟨by decide, by decide⟩ (Nat.le_of_ble_eq_true rfl) (am_kp.rf _) (fun v1 h3 => c12_isSign h3) (fun v1 h3 => ?_)
  refine z_bz_eq (pc := 8) (tgt := 37) dX12_one_8 (by decide) (fun h4 => ?_) (fun h4 => ?_)
  · refine z_aload_n (pc := 11) 1 dX12_one_11 rfl rfl ?_
    refine z_callBs (pc := 12) [.ref 36] [] rfl (lk_V (Yc := YX12_opens) (n := 0) dX12_one_12 rfl rfl (am_ob.s kM36) rfl rfl np_X12_opens mh_RX12 (by decide) ml_RX12_288 im_X12_opens se_RX12_X12_opens_X12_opens in_RX12 cd_X12_opens) (by omega) ⟨by decide, by decide⟩ (Nat.le_of_ble_eq_true rfl) (am_kp.rf _) (fun v5 s6 h7 => c12_opens h7) (fun v5 s6 h7 => ?_)
    refine z_bz_eq (pc := 15) (tgt := 161) dX12_one_15 (by decide) (fun h8 => ?_) (fun h8 => ?_)
    · refine z_aload_n (pc := 18) 1 dX12_one_18 rfl rfl ?_
      refine z_callIs (pc := 19) [.ref 36] [] rfl (lk_V (Yc := YX12_one) (n := 0) dX12_one_19 rfl rfl (am_ob.s kM36) rfl rfl np_X12_one mh_RX12 (by decide) ml_RX12_292 im_X12_one se_RX12_X12_one_X12_one in_RX12 cd_X12_one) hd ⟨by decide, by decide⟩ (Nat.le_of_ble_eq_true rfl) (am_kp.rf _) (fun v10 s11 h12 => hr_one _ _ _ h12) (fun v10 s11 h12 => ?_)
      refine z_ineg (pc := 22) dX12_one_22 ?_
      refine z_istore_n (pc := 23) (lv' := [(1, .int (-v10)), (0, .ref 36)]) dX12_one_23 rfl (by decide) rfl ?_
      refine z_aload_n (pc := 24) 1 dX12_one_24 rfl rfl ?_
      refine z_dup (pc := 25) dX12_one_25 rfl ?_
      refine z_getI (pc := 26) dX12_one_26 (am_ob.s kM36) fr_RX12_248_12 (by decide) ?_
      refine z_iconst (pc := 29) (v := (1 : Int32)) dX12_one_29 (by decide) ?_
      refine z_isub (pc := 30) dX12_one_30 ?_
      refine z_putI (pc := 31) dX12_one_31 (am_ob.s kM36) fw_RX12_248_12 (by decide) ?_
      refine z_goto (pc := 34) (tgt := 161) dX12_one_34 (by decide) ?_
      refine z_iload_n (pc := 161) 0 dX12_one_161 rfl rfl ?_
      exact z_rIs dX12_one_162 rfl ⟨by decide, by decide⟩
    · refine z_iload_n (pc := 161) 0 dX12_one_161 rfl rfl ?_
      exact z_rIs dX12_one_162 rfl ⟨by decide, by decide⟩
  · refine z_aload_n (pc := 37) 1 dX12_one_37 rfl rfl ?_
    refine z_bipush (pc := 38) (v := (40 : Int32)) dX12_one_38 (by decide) ?_
    refine z_callB (pc := 40) [.ref 36, .int (40 : Int32)] [] rfl (lk_V (Yc := YX12_isSign) (n := 1) dX12_one_40 rfl rfl (am_ob.s kM36) rfl rfl np_X12_isSign mh_RX12 (by decide) ml_RX12_285 im_X12_isSign se_RX12_X12_isSign_X12_isSign in_RX12 cd_X12_isSign) (by omega) ⟨by decide, by decide⟩ (Nat.le_of_ble_eq_true rfl) (am_kp.rf _) (fun v13 h15 => c12_isSign h15) (fun v13 h15 => ?_)
    refine z_bz_eq (pc := 43) (tgt := 95) dX12_one_43 (by decide) (fun h16 => ?_) (fun h16 => ?_)
    · refine z_aload_n (pc := 46) 1 dX12_one_46 rfl rfl ?_
      refine z_callBs (pc := 47) [.ref 36] [] rfl (lk_V (Yc := YX12_opens) (n := 0) dX12_one_47 rfl rfl (am_ob.s kM36) rfl rfl np_X12_opens mh_RX12 (by decide) ml_RX12_288 im_X12_opens se_RX12_X12_opens_X12_opens in_RX12 cd_X12_opens) (by omega) ⟨by decide, by decide⟩ (Nat.le_of_ble_eq_true rfl) (am_kp.rf _) (fun v17 s18 h19 => c12_opens h19) (fun v17 s18 h19 => ?_)
      refine z_bz_eq (pc := 50) (tgt := 161) dX12_one_50 (by decide) (fun h20 => ?_) (fun h20 => ?_)
      · refine z_aload_n (pc := 53) 1 dX12_one_53 rfl rfl ?_
        refine z_callIs (pc := 54) [.ref 36] [] rfl (lk_V (Yc := YX12_either) (n := 0) dX12_one_54 rfl rfl (am_ob.s kM36) rfl rfl np_X12_either mh_RX12 (by decide) ml_RX12_296 im_X12_either se_RX12_X12_either_X12_either in_RX12 cd_X12_either) hd ⟨by decide, by decide⟩ (Nat.le_of_ble_eq_true rfl) (am_kp.rf _) (fun v22 s23 h24 => hr_either _ _ _ h24) (fun v22 s23 h24 => ?_)
        refine z_istore_n (pc := 57) (lv' := [(1, .int v22), (0, .ref 36)]) dX12_one_57 rfl (by decide) rfl ?_
        refine z_aload_n (pc := 58) 1 dX12_one_58 rfl rfl ?_
        refine z_bipush (pc := 59) (v := (41 : Int32)) dX12_one_59 (by decide) ?_
        refine z_callB (pc := 61) [.ref 36, .int (41 : Int32)] [] rfl (lk_V (Yc := YX12_isSign) (n := 1) dX12_one_61 rfl rfl (am_ob.s kM36) rfl rfl np_X12_isSign mh_RX12 (by decide) ml_RX12_285 im_X12_isSign se_RX12_X12_isSign_X12_isSign in_RX12 cd_X12_isSign) (by omega) ⟨by decide, by decide⟩ (Nat.le_of_ble_eq_true rfl) (am_kp.rf _) (fun v25 h27 => c12_isSign h27) (fun v25 h27 => ?_)
        refine z_bz_ne (pc := 64) (tgt := 71) dX12_one_64 (by decide) (fun h28 => ?_) (fun h28 => ?_)
        · refine z_aload_n (pc := 71) 1 dX12_one_71 rfl rfl ?_
          refine z_dup (pc := 72) dX12_one_72 rfl ?_
          refine z_getI (pc := 73) dX12_one_73 (am_ob.s kM36) fr_RX12_248_12 (by decide) ?_
          refine z_iconst (pc := 76) (v := (1 : Int32)) dX12_one_76 (by decide) ?_
          refine z_isub (pc := 77) dX12_one_77 ?_
          refine z_putI (pc := 78) dX12_one_78 (am_ob.s kM36) fw_RX12_248_12 (by decide) ?_
          refine z_aload_n (pc := 81) 1 dX12_one_81 rfl rfl ?_
          refine z_getI (pc := 82) dX12_one_82 (am_ob.s kM36) fr_RX12_241_12 (by decide) ?_
          refine z_if_ne (pc := 85) (tgt := 161) dX12_one_85 (by decide) (fun h29 => ?_) (fun h29 => ?_)
          · refine z_aload_n (pc := 88) 1 dX12_one_88 rfl rfl ?_
            refine z_callVs (pc := 89) [.ref 36] [] rfl (lk_V (Yc := YX12_next) (n := 0) dX12_one_89 rfl rfl (am_ob.s kM36) rfl rfl np_X12_next mh_RX12 (by decide) ml_RX12_254 im_X12_next se_RX12_X12_next_X12_next in_RX12 cd_X12_next) (by omega) ⟨by decide, by decide⟩ (Nat.le_of_ble_eq_true rfl) (am_kp.rf _) (fun s31 h32 => c12_next h32) (fun s31 h32 => ?_)
            refine z_goto (pc := 92) (tgt := 161) dX12_one_92 (by decide) ?_
            refine z_iload_n (pc := 161) 0 dX12_one_161 rfl rfl ?_
            exact z_rIs dX12_one_162 rfl ⟨by decide, by decide⟩
          · refine z_iload_n (pc := 161) 0 dX12_one_161 rfl rfl ?_
            exact z_rIs dX12_one_162 rfl ⟨by decide, by decide⟩
        · refine z_aload_n (pc := 67) 1 dX12_one_67 rfl rfl ?_
          refine z_callVs (pc := 68) [.ref 36] [] rfl (lk_V (Yc := YX12_fail) (n := 0) dX12_one_68 rfl rfl (am_ob.s kM36) rfl rfl np_X12_fail mh_RX12 (by decide) ml_RX12_251 im_X12_fail se_RX12_X12_fail_X12_fail in_RX12 cd_X12_fail) (by omega) ⟨by decide, by decide⟩ (Nat.le_of_ble_eq_true rfl) (am_kp.rf _) (fun s34 h35 => c12_fail h35) (fun s34 h35 => ?_)
          refine z_aload_n (pc := 71) 1 dX12_one_71 rfl rfl ?_
          refine z_dup (pc := 72) dX12_one_72 rfl ?_
          refine z_getI (pc := 73) dX12_one_73 (am_ob.s kM36) fr_RX12_248_12 (by decide) ?_
          refine z_iconst (pc := 76) (v := (1 : Int32)) dX12_one_76 (by decide) ?_
          refine z_isub (pc := 77) dX12_one_77 ?_
          refine z_putI (pc := 78) dX12_one_78 (am_ob.s kM36) fw_RX12_248_12 (by decide) ?_
          refine z_aload_n (pc := 81) 1 dX12_one_81 rfl rfl ?_
          refine z_getI (pc := 82) dX12_one_82 (am_ob.s kM36) fr_RX12_241_12 (by decide) ?_
          refine z_if_ne (pc := 85) (tgt := 161) dX12_one_85 (by decide) (fun h36 => ?_) (fun h36 => ?_)
          · refine z_aload_n (pc := 88) 1 dX12_one_88 rfl rfl ?_
            refine z_callVs (pc := 89) [.ref 36] [] rfl (lk_V (Yc := YX12_next) (n := 0) dX12_one_89 rfl rfl (am_ob.s kM36) rfl rfl np_X12_next mh_RX12 (by decide) ml_RX12_254 im_X12_next se_RX12_X12_next_X12_next in_RX12 cd_X12_next) (by omega) ⟨by decide, by decide⟩ (Nat.le_of_ble_eq_true rfl) (am_kp.rf _) (fun s38 h39 => c12_next h39) (fun s38 h39 => ?_)
            refine z_goto (pc := 92) (tgt := 161) dX12_one_92 (by decide) ?_
            refine z_iload_n (pc := 161) 0 dX12_one_161 rfl rfl ?_
            exact z_rIs dX12_one_162 rfl ⟨by decide, by decide⟩
          · refine z_iload_n (pc := 161) 0 dX12_one_161 rfl rfl ?_
            exact z_rIs dX12_one_162 rfl ⟨by decide, by decide⟩
      · refine z_iload_n (pc := 161) 0 dX12_one_161 rfl rfl ?_
        exact z_rIs dX12_one_162 rfl ⟨by decide, by decide⟩
    · refine z_aload_n (pc := 95) 1 dX12_one_95 rfl rfl ?_
      refine z_getI (pc := 96) dX12_one_96 (am_ob.s kM36) fr_RX12_241_12 (by decide) ?_
      refine z_if_ne (pc := 99) (tgt := 123) dX12_one_99 (by decide) (fun h40 => ?_) (fun h40 => ?_)
      · refine z_aload_n (pc := 102) 1 dX12_one_102 rfl rfl ?_
        refine z_getI (pc := 103) dX12_one_103 (am_ob.s kM36) fr_RX12_218_12 (by decide) ?_
        refine z_iconst (pc := 106) (v := (2 : Int32)) dX12_one_106 (by decide) ?_
        refine z_ic_ne (pc := 107) (tgt := 123) dX12_one_107 (by decide) (fun h41 => ?_) (fun h41 => ?_)
        · refine z_aload_n (pc := 110) 1 dX12_one_110 rfl rfl ?_
          refine z_getL (pc := 111) dX12_one_111 (am_ob.s kM36) fr_RX12_225_12 (by decide) ?_
          refine z_l2i (pc := 114) dX12_one_114 ?_
          refine z_istore_n (pc := 115) (lv' := [(1, .int ((fG σ 36 26).toInt32)), (0, .ref 36)]) dX12_one_115 rfl (by decide) rfl ?_
          refine z_aload_n (pc := 116) 1 dX12_one_116 rfl rfl ?_
          refine z_callVs (pc := 117) [.ref 36] [] rfl (lk_V (Yc := YX12_next) (n := 0) dX12_one_117 rfl rfl (am_ob.s kM36) rfl rfl np_X12_next mh_RX12 (by decide) ml_RX12_254 im_X12_next se_RX12_X12_next_X12_next in_RX12 cd_X12_next) (by omega) ⟨by decide, by decide⟩ (Nat.le_of_ble_eq_true rfl) (am_kp.rf _) (fun s43 h44 => c12_next h44) (fun s43 h44 => ?_)
          refine z_goto (pc := 120) (tgt := 161) dX12_one_120 (by decide) ?_
          refine z_iload_n (pc := 161) 0 dX12_one_161 rfl rfl ?_
          exact z_rIs dX12_one_162 rfl ⟨by decide, by decide⟩
        · refine z_aload_n (pc := 123) 1 dX12_one_123 rfl rfl ?_
          refine z_getI (pc := 124) dX12_one_124 (am_ob.s kM36) fr_RX12_241_12 (by decide) ?_
          refine z_if_ne (pc := 127) (tgt := 157) dX12_one_127 (by decide) (fun h45 => ?_) (fun h45 => ?_)
          · refine z_aload_n (pc := 130) 1 dX12_one_130 rfl rfl ?_
            refine z_getI (pc := 131) dX12_one_131 (am_ob.s kM36) fr_RX12_218_12 (by decide) ?_
            refine z_iconst (pc := 134) (v := (1 : Int32)) dX12_one_134 (by decide) ?_
            refine z_ic_ne (pc := 135) (tgt := 157) dX12_one_135 (by decide) (fun h46 => ?_) (fun h46 => ?_)
            · refine z_aload_n (pc := 138) 1 dX12_one_138 rfl rfl ?_
              refine z_callIs (pc := 139) [.ref 36] [] rfl (lk_V (Yc := YX12_name) (n := 0) dX12_one_139 rfl rfl (am_ob.s kM36) rfl rfl np_X12_name mh_RX12 (by decide) ml_RX12_299 im_X12_name se_RX12_X12_name_X12_name in_RX12 cd_X12_name) (by omega) ⟨by decide, by decide⟩ (Nat.le_of_ble_eq_true rfl) (am_kp.rf _) (fun v47 s48 h49 => c12_name h49) (fun v47 s48 h49 => ?_)
              refine z_istore_n (pc := 142) (lv' := [(1, .int v47), (0, .ref 36)]) dX12_one_142 rfl (by decide) rfl ?_
              refine z_aload_n (pc := 143) 1 dX12_one_143 rfl rfl ?_
              refine z_getI (pc := 144) dX12_one_144 (am_ob.s kM36) fr_RX12_241_12 (by decide) ?_
              refine z_if_ne (pc := 147) (tgt := 161) dX12_one_147 (by decide) (fun h50 => ?_) (fun h50 => ?_)
              · refine z_aload_n (pc := 150) 1 dX12_one_150 rfl rfl ?_
                refine z_callVs (pc := 151) [.ref 36] [] rfl (lk_V (Yc := YX12_next) (n := 0) dX12_one_151 rfl rfl (am_ob.s kM36) rfl rfl np_X12_next mh_RX12 (by decide) ml_RX12_254 im_X12_next se_RX12_X12_next_X12_next in_RX12 cd_X12_next) (by omega) ⟨by decide, by decide⟩ (Nat.le_of_ble_eq_true rfl) (am_kp.rf _) (fun s52 h53 => c12_next h53) (fun s52 h53 => ?_)
                refine z_goto (pc := 154) (tgt := 161) dX12_one_154 (by decide) ?_
                refine z_iload_n (pc := 161) 0 dX12_one_161 rfl rfl ?_
                exact z_rIs dX12_one_162 rfl ⟨by decide, by decide⟩
              · refine z_iload_n (pc := 161) 0 dX12_one_161 rfl rfl ?_
                exact z_rIs dX12_one_162 rfl ⟨by decide, by decide⟩
            · refine z_aload_n (pc := 157) 1 dX12_one_157 rfl rfl ?_
              refine z_callVs (pc := 158) [.ref 36] [] rfl (lk_V (Yc := YX12_fail) (n := 0) dX12_one_158 rfl rfl (am_ob.s kM36) rfl rfl np_X12_fail mh_RX12 (by decide) ml_RX12_251 im_X12_fail se_RX12_X12_fail_X12_fail in_RX12 cd_X12_fail) (by omega) ⟨by decide, by decide⟩ (Nat.le_of_ble_eq_true rfl) (am_kp.rf _) (fun s55 h56 => c12_fail h56) (fun s55 h56 => ?_)
              refine z_iload_n (pc := 161) 0 dX12_one_161 rfl rfl ?_
              exact z_rIs dX12_one_162 rfl ⟨by decide, by decide⟩
          · refine z_aload_n (pc := 157) 1 dX12_one_157 rfl rfl ?_
            refine z_callVs (pc := 158) [.ref 36] [] rfl (lk_V (Yc := YX12_fail) (n := 0) dX12_one_158 rfl rfl (am_ob.s kM36) rfl rfl np_X12_fail mh_RX12 (by decide) ml_RX12_251 im_X12_fail se_RX12_X12_fail_X12_fail in_RX12 cd_X12_fail) (by omega) ⟨by decide, by decide⟩ (Nat.le_of_ble_eq_true rfl) (am_kp.rf _) (fun s58 h59 => c12_fail h59) (fun s58 h59 => ?_)
            refine z_iload_n (pc := 161) 0 dX12_one_161 rfl rfl ?_
            exact z_rIs dX12_one_162 rfl ⟨by decide, by decide⟩
      · refine z_aload_n (pc := 123) 1 dX12_one_123 rfl rfl ?_
        refine z_getI (pc := 124) dX12_one_124 (am_ob.s kM36) fr_RX12_241_12 (by decide) ?_
        refine z_if_ne (pc := 127) (tgt := 157) dX12_one_127 (by decide) (fun h60 => ?_) (fun h60 => ?_)
        · refine z_aload_n (pc := 130) 1 dX12_one_130 rfl rfl ?_
          refine z_getI (pc := 131) dX12_one_131 (am_ob.s kM36) fr_RX12_218_12 (by decide) ?_
          refine z_iconst (pc := 134) (v := (1 : Int32)) dX12_one_134 (by decide) ?_
          refine z_ic_ne (pc := 135) (tgt := 157) dX12_one_135 (by decide) (fun h61 => ?_) (fun h61 => ?_)
          · refine z_aload_n (pc := 138) 1 dX12_one_138 rfl rfl ?_
            refine z_callIs (pc := 139) [.ref 36] [] rfl (lk_V (Yc := YX12_name) (n := 0) dX12_one_139 rfl rfl (am_ob.s kM36) rfl rfl np_X12_name mh_RX12 (by decide) ml_RX12_299 im_X12_name se_RX12_X12_name_X12_name in_RX12 cd_X12_name) (by omega) ⟨by decide, by decide⟩ (Nat.le_of_ble_eq_true rfl) (am_kp.rf _) (fun v62 s63 h64 => c12_name h64) (fun v62 s63 h64 => ?_)
            refine z_istore_n (pc := 142) (lv' := [(1, .int v62), (0, .ref 36)]) dX12_one_142 rfl (by decide) rfl ?_
            refine z_aload_n (pc := 143) 1 dX12_one_143 rfl rfl ?_
            refine z_getI (pc := 144) dX12_one_144 (am_ob.s kM36) fr_RX12_241_12 (by decide) ?_
            refine z_if_ne (pc := 147) (tgt := 161) dX12_one_147 (by decide) (fun h65 => ?_) (fun h65 => ?_)
            · refine z_aload_n (pc := 150) 1 dX12_one_150 rfl rfl ?_
              refine z_callVs (pc := 151) [.ref 36] [] rfl (lk_V (Yc := YX12_next) (n := 0) dX12_one_151 rfl rfl (am_ob.s kM36) rfl rfl np_X12_next mh_RX12 (by decide) ml_RX12_254 im_X12_next se_RX12_X12_next_X12_next in_RX12 cd_X12_next) (by omega) ⟨by decide, by decide⟩ (Nat.le_of_ble_eq_true rfl) (am_kp.rf _) (fun s67 h68 => c12_next h68) (fun s67 h68 => ?_)
              refine z_goto (pc := 154) (tgt := 161) dX12_one_154 (by decide) ?_
              refine z_iload_n (pc := 161) 0 dX12_one_161 rfl rfl ?_
              exact z_rIs dX12_one_162 rfl ⟨by decide, by decide⟩
            · refine z_iload_n (pc := 161) 0 dX12_one_161 rfl rfl ?_
              exact z_rIs dX12_one_162 rfl ⟨by decide, by decide⟩
          · refine z_aload_n (pc := 157) 1 dX12_one_157 rfl rfl ?_
            refine z_callVs (pc := 158) [.ref 36] [] rfl (lk_V (Yc := YX12_fail) (n := 0) dX12_one_158 rfl rfl (am_ob.s kM36) rfl rfl np_X12_fail mh_RX12 (by decide) ml_RX12_251 im_X12_fail se_RX12_X12_fail_X12_fail in_RX12 cd_X12_fail) (by omega) ⟨by decide, by decide⟩ (Nat.le_of_ble_eq_true rfl) (am_kp.rf _) (fun s70 h71 => c12_fail h71) (fun s70 h71 => ?_)
            refine z_iload_n (pc := 161) 0 dX12_one_161 rfl rfl ?_
            exact z_rIs dX12_one_162 rfl ⟨by decide, by decide⟩
        · refine z_aload_n (pc := 157) 1 dX12_one_157 rfl rfl ?_
          refine z_callVs (pc := 158) [.ref 36] [] rfl (lk_V (Yc := YX12_fail) (n := 0) dX12_one_158 rfl rfl (am_ob.s kM36) rfl rfl np_X12_fail mh_RX12 (by decide) ml_RX12_251 im_X12_fail se_RX12_X12_fail_X12_fail in_RX12 cd_X12_fail) (by omega) ⟨by decide, by decide⟩ (Nat.le_of_ble_eq_true rfl) (am_kp.rf _) (fun s73 h74 => c12_fail h74) (fun s73 h74 => ?_)
          refine z_iload_n (pc := 161) 0 dX12_one_161 rfl rfl ?_
          exact z_rIs dX12_one_162 rfl ⟨by decide, by decide⟩
def f12_term_L5 (N : Nat) (r_one : am_S → Option (Int32 × am_S)) : Nat → Int32 → am_S → Option (Int32 × am_S)
  | 0, _, _ => none
  | n + 1, x1, σ => (f12_isSign σ (42 : Int32)).bind fun v5 => (if v5 = true then ((f12_next N σ).bind fun s10 => ((r_one s10).bind fun (v13, s14) => (f12_term_L5 N r_one n (x1 * v13) s14))) else (some (x1, σ)))
theorem z12_term_L5 {l : Launch} {E : am_E} {d : Nat} {σ0 : am_S} {N : Nat} {r_one : am_S → Option (Int32 × am_S)} {K : Nat} (hK : 3 ≤ K) (hd : K + 1 ≤ d) (hr_one : ∀ (σ : am_S) (v : Int32) (σ1 : am_S), r_one σ = some (v, σ1) → Ctr l E msM YX12_one K 0 0 [.ref 36] σ (some (.int v)) σ1) : ∀ (n : Nat) (x1 : Int32) (σ : am_S), Z l E msM σ0 YX12_term d 0 0 5 [(0, .ref 36), (1, .int x1)] [] 0 0 σ (f12_term_L5 N r_one n x1 σ) (fun u r s => r = some (.int u.1) ∧ s = u.2) := by
  intro n
  induction n with
  | zero => intros; exact z_none
  | succ n ih =>
    intro x1 σ
    unfold f12_term_L5
    refine z_aload_n (pc := 5) 0 dX12_term_5 rfl rfl ?_
    refine z_bipush (pc := 6) (v := (42 : Int32)) dX12_term_6 (by decide) ?_
    refine z_callB (pc := 8) [.ref 36, .int (42 : Int32)] [] rfl (lk_V (Yc := YX12_isSign) (n := 1) dX12_term_8 rfl rfl (am_ob.s kM36) rfl rfl np_X12_isSign mh_RX12 (by decide) ml_RX12_285 im_X12_isSign se_RX12_X12_isSign_X12_isSign in_RX12 cd_X12_isSign) (by omega) ⟨by decide, by decide⟩ (Nat.le_of_ble_eq_true rfl) (am_kp.rf _) (fun v5 h7 => c12_isSign h7) (fun v5 h7 => ?_)
    refine z_bz_eq (pc := 11) (tgt := 28) dX12_term_11 (by decide) (fun h8 => ?_) (fun h8 => ?_)
    · refine z_aload_n (pc := 14) 0 dX12_term_14 rfl rfl ?_
      refine z_callVs (pc := 15) [.ref 36] [] rfl (lk_V (Yc := YX12_next) (n := 0) dX12_term_15 rfl rfl (am_ob.s kM36) rfl rfl np_X12_next mh_RX12 (by decide) ml_RX12_254 im_X12_next se_RX12_X12_next_X12_next in_RX12 cd_X12_next) (by omega) ⟨by decide, by decide⟩ (Nat.le_of_ble_eq_true rfl) (am_kp.rf _) (fun s10 h11 => c12_next h11) (fun s10 h11 => ?_)
      refine z_iload_n (pc := 18) 1 dX12_term_18 rfl rfl ?_
      refine z_aload_n (pc := 19) 0 dX12_term_19 rfl rfl ?_
      refine z_callIs (pc := 20) [.ref 36] [.int x1] rfl (lk_V (Yc := YX12_one) (n := 0) dX12_term_20 rfl rfl (am_ob.s kM36) rfl rfl np_X12_one mh_RX12 (by decide) ml_RX12_292 im_X12_one se_RX12_X12_one_X12_one in_RX12 cd_X12_one) hd ⟨by decide, by decide⟩ (Nat.le_of_ble_eq_true rfl) (am_kp.rf _) (fun v13 s14 h15 => hr_one _ _ _ h15) (fun v13 s14 h15 => ?_)
      refine z_imul (pc := 23) dX12_term_23 ?_
      refine z_istore_n (pc := 24) (lv' := [(1, .int (x1 * v13)), (0, .ref 36)]) dX12_term_24 rfl (by decide) rfl ?_
      refine z_goto (pc := 25) (tgt := 5) dX12_term_25 (by decide) ?_
      refine z_lv (lv' := [(0, .ref 36), (1, .int (x1 * v13))]) [1, 0] rfl ?_
      exact ih (x1 * v13) s14
    · refine z_iload_n (pc := 28) 1 dX12_term_28 rfl rfl ?_
      exact z_rIs dX12_term_29 rfl ⟨by decide, by decide⟩
def f12_term_r (N : Nat) (r_one : am_S → Option (Int32 × am_S)) (σ : am_S) : Option (Int32 × am_S) := (r_one σ).bind fun (v2, s3) => (f12_term_L5 N r_one N v2 s3)
theorem c12_term_r {l : Launch} {E : am_E} {N : Nat} {r_one : am_S → Option (Int32 × am_S)} {K : Nat} (hK : 3 ≤ K) (hr_one : ∀ (σ : am_S) (v : Int32) (σ1 : am_S), r_one σ = some (v, σ1) → Ctr l E msM YX12_one K 0 0 [.ref 36] σ (some (.int v)) σ1) {σ : am_S} {v : Int32} {σ1 : am_S} (hf : f12_term_r N r_one σ = some (v, σ1)) : Ctr l E msM YX12_term (K + 1) 0 0 [.ref 36] σ (some (.int v)) σ1 := by
  refine ctr_of (G := fun u r s => r = some (.int u.1) ∧ s = u.2) (by decide +kernel) (Nat.le_of_ble_eq_true rfl) hf ⟨rfl, rfl⟩ (fun d hd => ?_)
  refine z_eqlv (lv' := [(0, .ref 36)]) rfl ?_
  unfold f12_term_r
  refine z_aload_n (pc := 0) 0 dX12_term_0 rfl rfl ?_
  refine z_callIs (pc := 1) [.ref 36] [] rfl (lk_V (Yc := YX12_one) (n := 0) dX12_term_1 rfl rfl (am_ob.s kM36) rfl rfl np_X12_one mh_RX12 (by decide) ml_RX12_292 im_X12_one se_RX12_X12_one_X12_one in_RX12 cd_X12_one) hd ⟨by decide, by decide⟩ (Nat.le_of_ble_eq_true rfl) (am_kp.rf _) (fun v2 s3 h4 => hr_one _ _ _ h4) (fun v2 s3 h4 => ?_)
  refine z_istore_n (pc := 4) (lv' := [(1, .int v2), (0, .ref 36)]) dX12_term_4 rfl (by decide) rfl ?_
  refine z_lv (lv' := [(0, .ref 36), (1, .int v2)]) [1, 0] rfl ?_
  exact z12_term_L5 hK hd hr_one N v2 s3
def gM (N : Nat) : Nat → (am_S → Option (Int32 × am_S)) × (am_S → Option (Int32 × am_S)) × (am_S → Option (Int32 × am_S)) × (am_S → Option (Int32 × am_S)) × (am_S → Option (Int32 × am_S)) × (am_S → Option (Int32 × am_S))
  | 0 => (fun _ => none, fun _ => none, fun _ => none, fun _ => none, fun _ => none, fun _ => none)
  | D + 1 => (fun σ => f12_added_r N (gM N D).2.2.2.2.2 σ, fun σ => f12_both_r N (gM N D).2.2.2.1 σ, fun σ => f12_either_r N (gM N D).2.1 σ, fun σ => f12_not_r N (gM N D).1 (gM N D).2.2.2.1 σ, fun σ => f12_one_r N (gM N D).2.2.1 (gM N D).2.2.2.2.1 σ, fun σ => f12_term_r N (gM N D).2.2.2.2.1 σ)
theorem gM_ok {l : Launch} {E : am_E} {N : Nat} : ∀ D : Nat, (∀ (σ : am_S) (v : Int32) (σ1 : am_S), (gM N D).1 σ = some (v, σ1) → Ctr l E msM YX12_added (3 + D) 0 0 [.ref 36] σ (some (.int v)) σ1) ∧ (∀ (σ : am_S) (v : Int32) (σ1 : am_S), (gM N D).2.1 σ = some (v, σ1) → Ctr l E msM YX12_both (3 + D) 0 0 [.ref 36] σ (some (.int v)) σ1) ∧ (∀ (σ : am_S) (v : Int32) (σ1 : am_S), (gM N D).2.2.1 σ = some (v, σ1) → Ctr l E msM YX12_either (3 + D) 0 0 [.ref 36] σ (some (.int v)) σ1) ∧ (∀ (σ : am_S) (v : Int32) (σ1 : am_S), (gM N D).2.2.2.1 σ = some (v, σ1) → Ctr l E msM YX12_not (3 + D) 0 0 [.ref 36] σ (some (.int v)) σ1) ∧ (∀ (σ : am_S) (v : Int32) (σ1 : am_S), (gM N D).2.2.2.2.1 σ = some (v, σ1) → Ctr l E msM YX12_one (3 + D) 0 0 [.ref 36] σ (some (.int v)) σ1) ∧ (∀ (σ : am_S) (v : Int32) (σ1 : am_S), (gM N D).2.2.2.2.2 σ = some (v, σ1) → Ctr l E msM YX12_term (3 + D) 0 0 [.ref 36] σ (some (.int v)) σ1) := by
  intro D
  induction D with
  | zero => exact ⟨fun _ _ _ h => (by simp [gM] at h), fun _ _ _ h => (by simp [gM] at h), fun _ _ _ h => (by simp [gM] at h), fun _ _ _ h => (by simp [gM] at h), fun _ _ _ h => (by simp [gM] at h), fun _ _ _ h => (by simp [gM] at h)⟩
  | succ D ih =>
    obtain ⟨i_added, i_both, i_either, i_not, i_one, i_term⟩ := ih
    exact ⟨fun _ _ _ h => c12_added_r (Nat.le_add_right _ _) i_term h,
      fun _ _ _ h => c12_both_r (Nat.le_add_right _ _) i_not h,
      fun _ _ _ h => c12_either_r (Nat.le_add_right _ _) i_both h,
      fun _ _ _ h => c12_not_r (Nat.le_add_right _ _) i_added i_not h,
      fun _ _ _ h => c12_one_r (Nat.le_add_right _ _) i_either i_one h,
      fun _ _ _ h => c12_term_r (Nat.le_add_right _ _) i_one h⟩
def f12_added (N : Nat) (σ : am_S) : Option (Int32 × am_S) := (gM N 100).1 σ
theorem c12_added {l : Launch} {E : am_E} {N : Nat} {σ : am_S} {v : Int32} {σ1 : am_S} (hf : f12_added N σ = some (v, σ1)) : Ctr l E msM YX12_added 103 0 0 [.ref 36] σ (some (.int v)) σ1 := (gM_ok 100).1 σ _ _ hf
def f12_both (N : Nat) (σ : am_S) : Option (Int32 × am_S) := (gM N 100).2.1 σ
theorem c12_both {l : Launch} {E : am_E} {N : Nat} {σ : am_S} {v : Int32} {σ1 : am_S} (hf : f12_both N σ = some (v, σ1)) : Ctr l E msM YX12_both 103 0 0 [.ref 36] σ (some (.int v)) σ1 := (gM_ok 100).2.1 σ _ _ hf
def f12_either (N : Nat) (σ : am_S) : Option (Int32 × am_S) := (gM N 100).2.2.1 σ
theorem c12_either {l : Launch} {E : am_E} {N : Nat} {σ : am_S} {v : Int32} {σ1 : am_S} (hf : f12_either N σ = some (v, σ1)) : Ctr l E msM YX12_either 103 0 0 [.ref 36] σ (some (.int v)) σ1 := (gM_ok 100).2.2.1 σ _ _ hf
def f12_not (N : Nat) (σ : am_S) : Option (Int32 × am_S) := (gM N 100).2.2.2.1 σ
theorem c12_not {l : Launch} {E : am_E} {N : Nat} {σ : am_S} {v : Int32} {σ1 : am_S} (hf : f12_not N σ = some (v, σ1)) : Ctr l E msM YX12_not 103 0 0 [.ref 36] σ (some (.int v)) σ1 := (gM_ok 100).2.2.2.1 σ _ _ hf
def f12_one (N : Nat) (σ : am_S) : Option (Int32 × am_S) := (gM N 100).2.2.2.2.1 σ
theorem c12_one {l : Launch} {E : am_E} {N : Nat} {σ : am_S} {v : Int32} {σ1 : am_S} (hf : f12_one N σ = some (v, σ1)) : Ctr l E msM YX12_one 103 0 0 [.ref 36] σ (some (.int v)) σ1 := (gM_ok 100).2.2.2.2.1 σ _ _ hf
def f12_term (N : Nat) (σ : am_S) : Option (Int32 × am_S) := (gM N 100).2.2.2.2.2 σ
theorem c12_term {l : Launch} {E : am_E} {N : Nat} {σ : am_S} {v : Int32} {σ1 : am_S} (hf : f12_term N σ = some (v, σ1)) : Ctr l E msM YX12_term 103 0 0 [.ref 36] σ (some (.int v)) σ1 := (gM_ok 100).2.2.2.2.2 σ _ _ hf
def f12_areLandings (x0 : Int32) : Option Bool := (f12_in x0.toInt64 (0 : Int64) (99 : Int64)).bind fun v1 => (if v1 = true then (if x0 / (10 : Int32) = x0 - x0 / (10 : Int32) * (10 : Int32) then (some (false)) else (some (true))) else (some (false)))
theorem c12_areLandings {l : Launch} {E : am_E} {σ : am_S} {x0 : Int32} {v : Bool} (hf : f12_areLandings x0 = some v) : Ctr l E msM YX12_areLandings (1) 0 0 [.int x0] σ (some (.int (bI v))) σ := by
  refine ctr_of (G := fun u r s => r = some (.int (bI u)) ∧ s = σ) (by decide +kernel) (Nat.le_of_ble_eq_true rfl) hf ⟨rfl, rfl⟩ (fun d hd => ?_)
  refine z_eqlv (lv' := [(0, .int x0)]) rfl ?_
  unfold f12_areLandings
  refine z_iload_n (pc := 0) 0 dX12_areLandings_0 rfl rfl ?_
  refine z_i2l (pc := 1) dX12_areLandings_1 ?_
  refine z_lconst (pc := 2) (v := (0 : Int64)) dX12_areLandings_2 (by decide) ?_
  refine z_ldc2 (pc := 3) (v := (99 : Int64)) dX12_areLandings_3 kl_RX12_143 ?_
  refine z_callB (pc := 6) [.long x0.toInt64, .long (0 : Int64), .long (99 : Int64)] [] rfl (lk_S (Yc := YX12_in) (n := 3) dX12_areLandings_6 rfl np_X12_in mh_RX12 (by decide) ml_RX12_134 st_X12_in in_RX12 cd_X12_in) (Nat.le_trans (by decide) hd) ⟨by decide, by decide⟩ (Nat.le_of_ble_eq_true rfl) (am_kp.rf _) (fun v1 h3 => c12_in h3) (fun v1 h3 => ?_)
  refine z_bz_eq (pc := 9) (tgt := 27) dX12_areLandings_9 (by decide) (fun h4 => ?_) (fun h4 => ?_)
  · refine z_iload_n (pc := 12) 0 dX12_areLandings_12 rfl rfl ?_
    refine z_bipush (pc := 13) (v := (10 : Int32)) dX12_areLandings_13 (by decide) ?_
    refine z_idiv (pc := 15) dX12_areLandings_15 (by decide) ?_
    refine z_iload_n (pc := 16) 0 dX12_areLandings_16 rfl rfl ?_
    refine z_bipush (pc := 17) (v := (10 : Int32)) dX12_areLandings_17 (by decide) ?_
    refine z_irem (pc := 19) dX12_areLandings_19 (by decide) ?_
    refine z_ic_eq (pc := 20) (tgt := 27) dX12_areLandings_20 (by decide) (fun h5 => ?_) (fun h5 => ?_)
    · refine z_iconst (pc := 27) (v := (0 : Int32)) dX12_areLandings_27 (by decide) ?_
      exact z_rB (b := false) rfl dX12_areLandings_28 rfl ⟨by decide, by decide⟩
    · refine z_iconst (pc := 23) (v := (1 : Int32)) dX12_areLandings_23 (by decide) ?_
      refine z_goto (pc := 24) (tgt := 28) dX12_areLandings_24 (by decide) ?_
      exact z_rB (b := true) rfl dX12_areLandings_28 rfl ⟨by decide, by decide⟩
  · refine z_iconst (pc := 27) (v := (0 : Int32)) dX12_areLandings_27 (by decide) ?_
    exact z_rB (b := false) rfl dX12_areLandings_28 rfl ⟨by decide, by decide⟩
def f12_isRower (σ : am_S) (x1 : Int32) : Option Bool := (f12_in x1.toInt64 (0 : Int64) (((fF σ 36 21) - (1 : Int32)).toInt64)).bind fun v1 => (some (v1))
theorem c12_isRower {l : Launch} {E : am_E} {σ : am_S} {x1 : Int32} {v : Bool} (hf : f12_isRower σ x1 = some v) : Ctr l E msM YX12_isRower (1) 0 0 [.ref 36, .int x1] σ (some (.int (bI v))) σ := by
  refine ctr_of (G := fun u r s => r = some (.int (bI u)) ∧ s = σ) (by decide +kernel) (Nat.le_of_ble_eq_true rfl) hf ⟨rfl, rfl⟩ (fun d hd => ?_)
  refine z_eqlv (lv' := [(0, .ref 36), (1, .int x1)]) rfl ?_
  unfold f12_isRower
  refine z_iload_n (pc := 0) 1 dX12_isRower_0 rfl rfl ?_
  refine z_i2l (pc := 1) dX12_isRower_1 ?_
  refine z_lconst (pc := 2) (v := (0 : Int64)) dX12_isRower_2 (by decide) ?_
  refine z_aload_n (pc := 3) 0 dX12_isRower_3 rfl rfl ?_
  refine z_getI (pc := 4) dX12_isRower_4 (am_ob.s kM36) fr_RX12_138_12 (by decide) ?_
  refine z_iconst (pc := 7) (v := (1 : Int32)) dX12_isRower_7 (by decide) ?_
  refine z_isub (pc := 8) dX12_isRower_8 ?_
  refine z_i2l (pc := 9) dX12_isRower_9 ?_
  refine z_callB (pc := 10) [.long x1.toInt64, .long (0 : Int64), .long (((fF σ 36 21) - (1 : Int32)).toInt64)] [] rfl (lk_S (Yc := YX12_in) (n := 3) dX12_isRower_10 rfl np_X12_in mh_RX12 (by decide) ml_RX12_134 st_X12_in in_RX12 cd_X12_in) (Nat.le_trans (by decide) hd) ⟨by decide, by decide⟩ (Nat.le_of_ble_eq_true rfl) (am_kp.rf _) (fun v1 h3 => c12_in h3) (fun v1 h3 => ?_)
  exact z_rB (b := v1) rfl dX12_isRower_13 rfl ⟨by decide, by decide⟩
def f12_areTwo (σ : am_S) (x1 : Int32) : Option Bool := if x1 < 0 then (some (false)) else ((f12_isRower σ (x1 / (20 : Int32))).bind fun v2 => (if v2 = true then ((f12_isRower σ (x1 - x1 / (20 : Int32) * (20 : Int32))).bind fun v6 => (if v6 = true then (some (true)) else (some (false)))) else (some (false))))
theorem c12_areTwo {l : Launch} {E : am_E} {σ : am_S} {x1 : Int32} {v : Bool} (hf : f12_areTwo σ x1 = some v) : Ctr l E msM YX12_areTwo (2) 0 0 [.ref 36, .int x1] σ (some (.int (bI v))) σ := by
  refine ctr_of (G := fun u r s => r = some (.int (bI u)) ∧ s = σ) (by decide +kernel) (Nat.le_of_ble_eq_true rfl) hf ⟨rfl, rfl⟩ (fun d hd => ?_)
  refine z_eqlv (lv' := [(0, .ref 36), (1, .int x1)]) rfl ?_
  unfold f12_areTwo
  refine z_iload_n (pc := 0) 1 dX12_areTwo_0 rfl rfl ?_
  refine z_if_lt (pc := 1) (tgt := 30) dX12_areTwo_1 (by decide) (fun h1 => ?_) (fun h1 => ?_)
  · refine z_iconst (pc := 30) (v := (0 : Int32)) dX12_areTwo_30 (by decide) ?_
    exact z_rB (b := false) rfl dX12_areTwo_31 rfl ⟨by decide, by decide⟩
  · refine z_aload_n (pc := 4) 0 dX12_areTwo_4 rfl rfl ?_
    refine z_iload_n (pc := 5) 1 dX12_areTwo_5 rfl rfl ?_
    refine z_bipush (pc := 6) (v := (20 : Int32)) dX12_areTwo_6 (by decide) ?_
    refine z_idiv (pc := 8) dX12_areTwo_8 (by decide) ?_
    refine z_callB (pc := 9) [.ref 36, .int (x1 / (20 : Int32))] [] rfl (lk_V (Yc := YX12_isRower) (n := 1) dX12_areTwo_9 rfl rfl (am_ob.s kM36) rfl rfl np_X12_isRower mh_RX12 (by decide) ml_RX12_170 im_X12_isRower se_RX12_X12_isRower_X12_isRower in_RX12 cd_X12_isRower) (Nat.le_trans (by decide) hd) ⟨by decide, by decide⟩ (Nat.le_of_ble_eq_true rfl) (am_kp.rf _) (fun v2 h4 => c12_isRower h4) (fun v2 h4 => ?_)
    refine z_bz_eq (pc := 12) (tgt := 30) dX12_areTwo_12 (by decide) (fun h5 => ?_) (fun h5 => ?_)
    · refine z_aload_n (pc := 15) 0 dX12_areTwo_15 rfl rfl ?_
      refine z_iload_n (pc := 16) 1 dX12_areTwo_16 rfl rfl ?_
      refine z_bipush (pc := 17) (v := (20 : Int32)) dX12_areTwo_17 (by decide) ?_
      refine z_irem (pc := 19) dX12_areTwo_19 (by decide) ?_
      refine z_callB (pc := 20) [.ref 36, .int (x1 - x1 / (20 : Int32) * (20 : Int32))] [] rfl (lk_V (Yc := YX12_isRower) (n := 1) dX12_areTwo_20 rfl rfl (am_ob.s kM36) rfl rfl np_X12_isRower mh_RX12 (by decide) ml_RX12_170 im_X12_isRower se_RX12_X12_isRower_X12_isRower in_RX12 cd_X12_isRower) (Nat.le_trans (by decide) hd) ⟨by decide, by decide⟩ (Nat.le_of_ble_eq_true rfl) (am_kp.rf _) (fun v6 h8 => c12_isRower h8) (fun v6 h8 => ?_)
      refine z_bz_eq (pc := 23) (tgt := 30) dX12_areTwo_23 (by decide) (fun h9 => ?_) (fun h9 => ?_)
      · refine z_iconst (pc := 26) (v := (1 : Int32)) dX12_areTwo_26 (by decide) ?_
        refine z_goto (pc := 27) (tgt := 31) dX12_areTwo_27 (by decide) ?_
        exact z_rB (b := true) rfl dX12_areTwo_31 rfl ⟨by decide, by decide⟩
      · refine z_iconst (pc := 30) (v := (0 : Int32)) dX12_areTwo_30 (by decide) ?_
        exact z_rB (b := false) rfl dX12_areTwo_31 rfl ⟨by decide, by decide⟩
    · refine z_iconst (pc := 30) (v := (0 : Int32)) dX12_areTwo_30 (by decide) ?_
      exact z_rB (b := false) rfl dX12_areTwo_31 rfl ⟨by decide, by decide⟩
def f12_back_L116 (N : Nat) : Nat → Int32 → am_S → Option (Int32 × am_S)
  | 0, _, _ => none
  | n + 1, x1, σ => if (100 : Int32) ≤ x1 then (some (fF σ 36 21, σ)) else (if am_in x1 100 = true then (if am_in x1 100 = true then (f12_back_L116 N n (x1 + (1 : Int32)) (sF σ 56 x1.toNatClampNeg (fF σ 63 x1.toNatClampNeg))) else none) else none)
theorem z12_back_L116 {l : Launch} {E : am_E} {d : Nat} {σ0 : am_S} {N : Nat} (hd : 0 ≤ d) : ∀ (n : Nat) (x1 : Int32) (σ : am_S), Z l E msM σ0 YX12_back d 0 0 116 [(0, .ref 36), (1, .int x1)] [] 0 0 σ (f12_back_L116 N n x1 σ) (fun u r s => r = some (.int u.1) ∧ s = u.2) := by
  intro n
  induction n with
  | zero => intros; exact z_none
  | succ n ih =>
    intro x1 σ
    unfold f12_back_L116
    refine z_iload_n (pc := 116) 1 dX12_back_116 rfl rfl ?_
    refine z_bipush (pc := 117) (v := (100 : Int32)) dX12_back_117 (by decide) ?_
    refine z_ic_ge (pc := 119) (tgt := 140) dX12_back_119 (by decide) (fun h4 => ?_) (fun h4 => ?_)
    · refine z_aload_n (pc := 140) 0 dX12_back_140 rfl rfl ?_
      refine z_getI (pc := 141) dX12_back_141 (am_ob.s kM36) fr_RX12_138_12 (by decide) ?_
      exact z_rIs dX12_back_144 rfl ⟨by decide, by decide⟩
    · refine z_aload_n (pc := 122) 0 dX12_back_122 rfl rfl ?_
      refine z_getQ (pc := 123) (b := 56) dX12_back_123 kM36 fr_RX12_71_12 (by decide) rfl ?_
      refine z_iload_n (pc := 126) 1 dX12_back_126 rfl rfl ?_
      refine z_aload_n (pc := 127) 0 dX12_back_127 rfl rfl ?_
      refine z_getQ (pc := 128) (b := 63) dX12_back_128 kM36 fr_RX12_92_12 (by decide) rfl ?_
      refine z_iload_n (pc := 131) 1 dX12_back_131 rfl rfl ?_
      refine z_iald (pc := 132) dX12_back_132 (am_ar.s kM63) (fun h5 => ?_)
      refine z_iast (pc := 133) dX12_back_133 (am_ar.s kM56) (fun h6 => ?_)
      refine z_iinc (pc := 134) (v := x1 + (1 : Int32)) (lv' := [(1, .int (x1 + (1 : Int32))), (0, .ref 36)]) 1 dX12_back_134 rfl rfl (by decide) rfl ?_
      refine z_goto (pc := 137) (tgt := 116) dX12_back_137 (by decide) ?_
      refine z_lv (lv' := [(0, .ref 36), (1, .int (x1 + (1 : Int32)))]) [1, 0] rfl ?_
      exact ih (x1 + (1 : Int32)) (sF σ 56 x1.toNatClampNeg (fF σ 63 x1.toNatClampNeg))
def f12_back_J114 (N : Nat) (σ : am_S) : Option (Int32 × am_S) := f12_back_L116 N N (0 : Int32) σ
theorem z12_back_J114 {l : Launch} {E : am_E} {d : Nat} {σ0 : am_S} {N : Nat} (hd : 0 ≤ d) (σ : am_S) : Z l E msM σ0 YX12_back d 0 0 114 [(0, .ref 36)] [] 0 0 σ (f12_back_J114 N σ) (fun u r s => r = some (.int u.1) ∧ s = u.2) := by
  unfold f12_back_J114
  refine z_iconst (pc := 114) (v := (0 : Int32)) dX12_back_114 (by decide) ?_
  refine z_istore_n (pc := 115) (lv' := [(1, .int (0 : Int32)), (0, .ref 36)]) dX12_back_115 rfl (by decide) rfl ?_
  refine z_lv (lv' := [(0, .ref 36), (1, .int (0 : Int32))]) [1, 0] rfl ?_
  exact z12_back_L116 hd N (0 : Int32) σ
def f12_back_L76 (N : Nat) : Nat → Int32 → am_S → Option (Int32 × am_S)
  | 0, _, _ => none
  | n + 1, x1, σ => if fF σ 36 50 ≤ x1 then (f12_back_J114 N σ) else (if am_in x1 14 = true then (if am_in x1 14 = true then (if am_in x1 14 = true then (if am_in x1 14 = true then (f12_back_L76 N n (x1 + (1 : Int32)) (sF (sF σ 49 x1.toNatClampNeg (fF σ 61 x1.toNatClampNeg)) 50 x1.toNatClampNeg (fF (sF σ 49 x1.toNatClampNeg (fF σ 61 x1.toNatClampNeg)) 62 x1.toNatClampNeg))) else none) else none) else none) else none)
theorem z12_back_L76 {l : Launch} {E : am_E} {d : Nat} {σ0 : am_S} {N : Nat} (hd : 0 ≤ d) : ∀ (n : Nat) (x1 : Int32) (σ : am_S), Z l E msM σ0 YX12_back d 0 0 76 [(0, .ref 36), (1, .int x1)] [] 0 0 σ (f12_back_L76 N n x1 σ) (fun u r s => r = some (.int u.1) ∧ s = u.2) := by
  intro n
  induction n with
  | zero => intros; exact z_none
  | succ n ih =>
    intro x1 σ
    unfold f12_back_L76
    refine z_iload_n (pc := 76) 1 dX12_back_76 rfl rfl ?_
    refine z_aload_n (pc := 77) 0 dX12_back_77 rfl rfl ?_
    refine z_getI (pc := 78) dX12_back_78 (am_ob.s kM36) fr_RX12_410_12 (by decide) ?_
    refine z_ic_ge (pc := 81) (tgt := 114) dX12_back_81 (by decide) (fun h3 => ?_) (fun h3 => ?_)
    · refine z_lv (lv' := [(0, .ref 36)]) [0] rfl ?_
      exact z12_back_J114 hd σ
    · refine z_aload_n (pc := 84) 0 dX12_back_84 rfl rfl ?_
      refine z_getQ (pc := 85) (b := 49) dX12_back_85 kM36 fr_RX12_50_12 (by decide) rfl ?_
      refine z_iload_n (pc := 88) 1 dX12_back_88 rfl rfl ?_
      refine z_aload_n (pc := 89) 0 dX12_back_89 rfl rfl ?_
      refine z_getQ (pc := 90) (b := 61) dX12_back_90 kM36 fr_RX12_86_12 (by decide) rfl ?_
      refine z_iload_n (pc := 93) 1 dX12_back_93 rfl rfl ?_
      refine z_iald (pc := 94) dX12_back_94 (am_ar.s kM61) (fun h7 => ?_)
      refine z_iast (pc := 95) dX12_back_95 (am_ar.s kM49) (fun h8 => ?_)
      refine z_aload_n (pc := 96) 0 dX12_back_96 rfl rfl ?_
      refine z_getQ (pc := 97) (b := 50) dX12_back_97 kM36 fr_RX12_53_12 (by decide) rfl ?_
      refine z_iload_n (pc := 100) 1 dX12_back_100 rfl rfl ?_
      refine z_aload_n (pc := 101) 0 dX12_back_101 rfl rfl ?_
      refine z_getQ (pc := 102) (b := 62) dX12_back_102 kM36 fr_RX12_89_12 (by decide) rfl ?_
      refine z_iload_n (pc := 105) 1 dX12_back_105 rfl rfl ?_
      refine z_iald (pc := 106) dX12_back_106 (am_ar.s kM62) (fun h9 => ?_)
      refine z_iast (pc := 107) dX12_back_107 (am_ar.s kM50) (fun h10 => ?_)
      refine z_iinc (pc := 108) (v := x1 + (1 : Int32)) (lv' := [(1, .int (x1 + (1 : Int32))), (0, .ref 36)]) 1 dX12_back_108 rfl rfl (by decide) rfl ?_
      refine z_goto (pc := 111) (tgt := 76) dX12_back_111 (by decide) ?_
      refine z_lv (lv' := [(0, .ref 36), (1, .int (x1 + (1 : Int32)))]) [1, 0] rfl ?_
      exact ih (x1 + (1 : Int32)) (sF (sF σ 49 x1.toNatClampNeg (fF σ 61 x1.toNatClampNeg)) 50 x1.toNatClampNeg (fF (sF σ 49 x1.toNatClampNeg (fF σ 61 x1.toNatClampNeg)) 62 x1.toNatClampNeg))
def f12_back_J74 (N : Nat) (σ : am_S) : Option (Int32 × am_S) := f12_back_L76 N N (0 : Int32) σ
theorem z12_back_J74 {l : Launch} {E : am_E} {d : Nat} {σ0 : am_S} {N : Nat} (hd : 0 ≤ d) (σ : am_S) : Z l E msM σ0 YX12_back d 0 0 74 [(0, .ref 36)] [] 0 0 σ (f12_back_J74 N σ) (fun u r s => r = some (.int u.1) ∧ s = u.2) := by
  unfold f12_back_J74
  refine z_iconst (pc := 74) (v := (0 : Int32)) dX12_back_74 (by decide) ?_
  refine z_istore_n (pc := 75) (lv' := [(1, .int (0 : Int32)), (0, .ref 36)]) dX12_back_75 rfl (by decide) rfl ?_
  refine z_lv (lv' := [(0, .ref 36), (1, .int (0 : Int32))]) [1, 0] rfl ?_
  exact z12_back_L76 hd N (0 : Int32) σ
def f12_back_L36 (N : Nat) : Nat → Int32 → am_S → Option (Int32 × am_S)
  | 0, _, _ => none
  | n + 1, x1, σ => if fF σ 36 49 ≤ x1 then (f12_back_J74 N σ) else (if am_in x1 7 = true then (if am_in x1 7 = true then (if am_in x1 7 = true then (if am_in x1 7 = true then (f12_back_L36 N n (x1 + (1 : Int32)) (sF (sF σ 42 x1.toNatClampNeg (fF σ 59 x1.toNatClampNeg)) 43 x1.toNatClampNeg (fF (sF σ 42 x1.toNatClampNeg (fF σ 59 x1.toNatClampNeg)) 60 x1.toNatClampNeg))) else none) else none) else none) else none)
theorem z12_back_L36 {l : Launch} {E : am_E} {d : Nat} {σ0 : am_S} {N : Nat} (hd : 0 ≤ d) : ∀ (n : Nat) (x1 : Int32) (σ : am_S), Z l E msM σ0 YX12_back d 0 0 36 [(0, .ref 36), (1, .int x1)] [] 0 0 σ (f12_back_L36 N n x1 σ) (fun u r s => r = some (.int u.1) ∧ s = u.2) := by
  intro n
  induction n with
  | zero => intros; exact z_none
  | succ n ih =>
    intro x1 σ
    unfold f12_back_L36
    refine z_iload_n (pc := 36) 1 dX12_back_36 rfl rfl ?_
    refine z_aload_n (pc := 37) 0 dX12_back_37 rfl rfl ?_
    refine z_getI (pc := 38) dX12_back_38 (am_ob.s kM36) fr_RX12_407_12 (by decide) ?_
    refine z_ic_ge (pc := 41) (tgt := 74) dX12_back_41 (by decide) (fun h2 => ?_) (fun h2 => ?_)
    · refine z_lv (lv' := [(0, .ref 36)]) [0] rfl ?_
      exact z12_back_J74 hd σ
    · refine z_aload_n (pc := 44) 0 dX12_back_44 rfl rfl ?_
      refine z_getQ (pc := 45) (b := 42) dX12_back_45 kM36 fr_RX12_29_12 (by decide) rfl ?_
      refine z_iload_n (pc := 48) 1 dX12_back_48 rfl rfl ?_
      refine z_aload_n (pc := 49) 0 dX12_back_49 rfl rfl ?_
      refine z_getQ (pc := 50) (b := 59) dX12_back_50 kM36 fr_RX12_80_12 (by decide) rfl ?_
      refine z_iload_n (pc := 53) 1 dX12_back_53 rfl rfl ?_
      refine z_iald (pc := 54) dX12_back_54 (am_ar.s kM59) (fun h11 => ?_)
      refine z_iast (pc := 55) dX12_back_55 (am_ar.s kM42) (fun h12 => ?_)
      refine z_aload_n (pc := 56) 0 dX12_back_56 rfl rfl ?_
      refine z_getQ (pc := 57) (b := 43) dX12_back_57 kM36 fr_RX12_32_12 (by decide) rfl ?_
      refine z_iload_n (pc := 60) 1 dX12_back_60 rfl rfl ?_
      refine z_aload_n (pc := 61) 0 dX12_back_61 rfl rfl ?_
      refine z_getQ (pc := 62) (b := 60) dX12_back_62 kM36 fr_RX12_83_12 (by decide) rfl ?_
      refine z_iload_n (pc := 65) 1 dX12_back_65 rfl rfl ?_
      refine z_iald (pc := 66) dX12_back_66 (am_ar.s kM60) (fun h13 => ?_)
      refine z_iast (pc := 67) dX12_back_67 (am_ar.s kM43) (fun h14 => ?_)
      refine z_iinc (pc := 68) (v := x1 + (1 : Int32)) (lv' := [(1, .int (x1 + (1 : Int32))), (0, .ref 36)]) 1 dX12_back_68 rfl rfl (by decide) rfl ?_
      refine z_goto (pc := 71) (tgt := 36) dX12_back_71 (by decide) ?_
      refine z_lv (lv' := [(0, .ref 36), (1, .int (x1 + (1 : Int32)))]) [1, 0] rfl ?_
      exact ih (x1 + (1 : Int32)) (sF (sF σ 42 x1.toNatClampNeg (fF σ 59 x1.toNatClampNeg)) 43 x1.toNatClampNeg (fF (sF σ 42 x1.toNatClampNeg (fF σ 59 x1.toNatClampNeg)) 60 x1.toNatClampNeg))
def f12_back (N : Nat) (σ : am_S) : Option (Int32 × am_S) := if fF σ 36 48 = 0 then (some ((-3 : Int32), σ)) else (f12_back_L36 N N (0 : Int32) (sF (sF (sF σ 36 12 (fF σ 36 51)) 36 13 (fF (sF σ 36 12 (fF σ 36 51)) 36 52)) 36 4 (fF (sF (sF σ 36 12 (fF σ 36 51)) 36 13 (fF (sF σ 36 12 (fF σ 36 51)) 36 52)) 36 53)))
theorem c12_back {l : Launch} {E : am_E} {N : Nat} {σ : am_S} {v : Int32} {σ1 : am_S} (hf : f12_back N σ = some (v, σ1)) : Ctr l E msM YX12_back (0) 0 0 [.ref 36] σ (some (.int v)) σ1 := by
  refine ctr_of (G := fun u r s => r = some (.int u.1) ∧ s = u.2) (by decide +kernel) (Nat.le_of_ble_eq_true rfl) hf ⟨rfl, rfl⟩ (fun d hd => ?_)
  refine z_eqlv (lv' := [(0, .ref 36)]) rfl ?_
  unfold f12_back
  refine z_aload_n (pc := 0) 0 dX12_back_0 rfl rfl ?_
  refine z_getI (pc := 1) dX12_back_1 (am_ob.s kM36) fr_RX12_404_12 (by decide) ?_
  refine z_if_ne (pc := 4) (tgt := 10) dX12_back_4 (by decide) (fun h1 => ?_) (fun h1 => ?_)
  · refine z_bipush (pc := 7) (v := (-3 : Int32)) dX12_back_7 (by decide) ?_
    exact z_rIs dX12_back_9 rfl ⟨by decide, by decide⟩
  · refine z_aload_n (pc := 10) 0 dX12_back_10 rfl rfl ?_
    refine z_aload_n (pc := 11) 0 dX12_back_11 rfl rfl ?_
    refine z_getI (pc := 12) dX12_back_12 (am_ob.s kM36) fr_RX12_413_12 (by decide) ?_
    refine z_putI (pc := 15) dX12_back_15 (am_ob.s kM36) fw_RX12_153_12 (by decide) ?_
    refine z_aload_n (pc := 18) 0 dX12_back_18 rfl rfl ?_
    refine z_aload_n (pc := 19) 0 dX12_back_19 rfl rfl ?_
    refine z_getI (pc := 20) dX12_back_20 (am_ob.s kM36) fr_RX12_416_12 (by decide) ?_
    refine z_putI (pc := 23) dX12_back_23 (am_ob.s kM36) fw_RX12_156_12 (by decide) ?_
    refine z_aload_n (pc := 26) 0 dX12_back_26 rfl rfl ?_
    refine z_aload_n (pc := 27) 0 dX12_back_27 rfl rfl ?_
    refine z_getI (pc := 28) dX12_back_28 (am_ob.s kM36) fr_RX12_419_12 (by decide) ?_
    refine z_putI (pc := 31) dX12_back_31 (am_ob.s kM36) fw_RX12_332_12 (by decide) ?_
    refine z_iconst (pc := 34) (v := (0 : Int32)) dX12_back_34 (by decide) ?_
    refine z_istore_n (pc := 35) (lv' := [(1, .int (0 : Int32)), (0, .ref 36)]) dX12_back_35 rfl (by decide) rfl ?_
    refine z_lv (lv' := [(0, .ref 36), (1, .int (0 : Int32))]) [1, 0] rfl ?_
    exact z12_back_L36 hd N (0 : Int32) (sF (sF (sF σ 36 12 (fF σ 36 51)) 36 13 (fF (sF σ 36 12 (fF σ 36 51)) 36 52)) 36 4 (fF (sF (sF σ 36 12 (fF σ 36 51)) 36 13 (fF (sF σ 36 12 (fF σ 36 51)) 36 52)) 36 53))
def f12_isHour (x0 : Int32) : Option Bool := (f12_in x0.toInt64 (0 : Int64) (23 : Int64)).bind fun v1 => (some (v1))
theorem c12_isHour {l : Launch} {E : am_E} {σ : am_S} {x0 : Int32} {v : Bool} (hf : f12_isHour x0 = some v) : Ctr l E msM YX12_isHour (1) 0 0 [.int x0] σ (some (.int (bI v))) σ := by
  refine ctr_of (G := fun u r s => r = some (.int (bI u)) ∧ s = σ) (by decide +kernel) (Nat.le_of_ble_eq_true rfl) hf ⟨rfl, rfl⟩ (fun d hd => ?_)
  refine z_eqlv (lv' := [(0, .int x0)]) rfl ?_
  unfold f12_isHour
  refine z_iload_n (pc := 0) 0 dX12_isHour_0 rfl rfl ?_
  refine z_i2l (pc := 1) dX12_isHour_1 ?_
  refine z_lconst (pc := 2) (v := (0 : Int64)) dX12_isHour_2 (by decide) ?_
  refine z_ldc2 (pc := 3) (v := (23 : Int64)) dX12_isHour_3 kl_RX12_141 ?_
  refine z_callB (pc := 6) [.long x0.toInt64, .long (0 : Int64), .long (23 : Int64)] [] rfl (lk_S (Yc := YX12_in) (n := 3) dX12_isHour_6 rfl np_X12_in mh_RX12 (by decide) ml_RX12_134 st_X12_in in_RX12 cd_X12_in) (Nat.le_trans (by decide) hd) ⟨by decide, by decide⟩ (Nat.le_of_ble_eq_true rfl) (am_kp.rf _) (fun v1 h3 => c12_in h3) (fun v1 h3 => ?_)
  exact z_rB (b := v1) rfl dX12_isHour_9 rfl ⟨by decide, by decide⟩
def f12_part_J23 (N : Nat) (σ : am_S) : Option (Int32 × am_S) := if fF σ 36 29 = 0 then ((f12_either N σ).bind fun (v10, s11) => ((f12_isSign s11 (59 : Int32)).bind fun v13 => (if v13 = true then (if fF s11 36 29 = 0 then ((f12_next N s11).bind fun s19 => (some (v10, s19))) else (some (v10, s11))) else ((f12_fail s11).bind fun s22 => (if fF s22 36 29 = 0 then ((f12_next N s22).bind fun s26 => (some (v10, s26))) else (some (v10, s22))))))) else ((f12_isSign σ (59 : Int32)).bind fun v28 => (if v28 = true then (if fF σ 36 29 = 0 then ((f12_next N σ).bind fun s34 => (some ((0 : Int32), s34))) else (some ((0 : Int32), σ))) else ((f12_fail σ).bind fun s37 => (if fF s37 36 29 = 0 then ((f12_next N s37).bind fun s41 => (some ((0 : Int32), s41))) else (some ((0 : Int32), s37))))))
theorem z12_part_J23 {l : Launch} {E : am_E} {d : Nat} {σ0 : am_S} {N : Nat} (hd : 104 ≤ d) (σ : am_S) : Z l E msM σ0 YX12_part d 0 0 23 [(0, .ref 36)] [] 0 0 σ (f12_part_J23 N σ) (fun u r s => r = some (.int u.1) ∧ s = u.2) := by
  unfold f12_part_J23
  refine z_aload_n (pc := 23) 0 dX12_part_23 rfl rfl ?_
  refine z_getI (pc := 24) dX12_part_24 (am_ob.s kM36) fr_RX12_241_12 (by decide) ?_
  refine z_if_eq (pc := 27) (tgt := 34) dX12_part_27 (by decide) (fun h9 => ?_) (fun h9 => ?_)
  · refine z_aload_n (pc := 34) 0 dX12_part_34 rfl rfl ?_
    refine z_callIs (pc := 35) [.ref 36] [] rfl (lk_V (Yc := YX12_either) (n := 0) dX12_part_35 rfl rfl (am_ob.s kM36) rfl rfl np_X12_either mh_RX12 (by decide) ml_RX12_296 im_X12_either se_RX12_X12_either_X12_either in_RX12 cd_X12_either) (Nat.le_trans (by decide) hd) ⟨by decide, by decide⟩ (Nat.le_of_ble_eq_true rfl) (am_kp.rf _) (fun v10 s11 h12 => c12_either h12) (fun v10 s11 h12 => ?_)
    refine z_istore_n (pc := 38) (lv' := [(3, .int v10), (0, .ref 36)]) dX12_part_38 rfl (by decide) rfl ?_
    refine z_aload_n (pc := 39) 1 dX12_part_39 rfl rfl ?_
    refine z_bipush (pc := 40) (v := (59 : Int32)) dX12_part_40 (by decide) ?_
    refine z_callB (pc := 42) [.ref 36, .int (59 : Int32)] [] rfl (lk_V (Yc := YX12_isSign) (n := 1) dX12_part_42 rfl rfl (am_ob.s kM36) rfl rfl np_X12_isSign mh_RX12 (by decide) ml_RX12_285 im_X12_isSign se_RX12_X12_isSign_X12_isSign in_RX12 cd_X12_isSign) (Nat.le_trans (by decide) hd) ⟨by decide, by decide⟩ (Nat.le_of_ble_eq_true rfl) (am_kp.rf _) (fun v13 h15 => c12_isSign h15) (fun v13 h15 => ?_)
    refine z_bz_ne (pc := 45) (tgt := 52) dX12_part_45 (by decide) (fun h16 => ?_) (fun h16 => ?_)
    · refine z_aload_n (pc := 52) 1 dX12_part_52 rfl rfl ?_
      refine z_getI (pc := 53) dX12_part_53 (am_ob.s kM36) fr_RX12_241_12 (by decide) ?_
      refine z_if_ne (pc := 56) (tgt := 63) dX12_part_56 (by decide) (fun h17 => ?_) (fun h17 => ?_)
      · refine z_aload_n (pc := 59) 1 dX12_part_59 rfl rfl ?_
        refine z_callVs (pc := 60) [.ref 36] [] rfl (lk_V (Yc := YX12_next) (n := 0) dX12_part_60 rfl rfl (am_ob.s kM36) rfl rfl np_X12_next mh_RX12 (by decide) ml_RX12_254 im_X12_next se_RX12_X12_next_X12_next in_RX12 cd_X12_next) (Nat.le_trans (by decide) hd) ⟨by decide, by decide⟩ (Nat.le_of_ble_eq_true rfl) (am_kp.rf _) (fun s19 h20 => c12_next h20) (fun s19 h20 => ?_)
        refine z_iload_n (pc := 63) 0 dX12_part_63 rfl rfl ?_
        exact z_rIs dX12_part_64 rfl ⟨by decide, by decide⟩
      · refine z_iload_n (pc := 63) 0 dX12_part_63 rfl rfl ?_
        exact z_rIs dX12_part_64 rfl ⟨by decide, by decide⟩
    · refine z_aload_n (pc := 48) 1 dX12_part_48 rfl rfl ?_
      refine z_callVs (pc := 49) [.ref 36] [] rfl (lk_V (Yc := YX12_fail) (n := 0) dX12_part_49 rfl rfl (am_ob.s kM36) rfl rfl np_X12_fail mh_RX12 (by decide) ml_RX12_251 im_X12_fail se_RX12_X12_fail_X12_fail in_RX12 cd_X12_fail) (Nat.le_trans (by decide) hd) ⟨by decide, by decide⟩ (Nat.le_of_ble_eq_true rfl) (am_kp.rf _) (fun s22 h23 => c12_fail h23) (fun s22 h23 => ?_)
      refine z_aload_n (pc := 52) 1 dX12_part_52 rfl rfl ?_
      refine z_getI (pc := 53) dX12_part_53 (am_ob.s kM36) fr_RX12_241_12 (by decide) ?_
      refine z_if_ne (pc := 56) (tgt := 63) dX12_part_56 (by decide) (fun h24 => ?_) (fun h24 => ?_)
      · refine z_aload_n (pc := 59) 1 dX12_part_59 rfl rfl ?_
        refine z_callVs (pc := 60) [.ref 36] [] rfl (lk_V (Yc := YX12_next) (n := 0) dX12_part_60 rfl rfl (am_ob.s kM36) rfl rfl np_X12_next mh_RX12 (by decide) ml_RX12_254 im_X12_next se_RX12_X12_next_X12_next in_RX12 cd_X12_next) (Nat.le_trans (by decide) hd) ⟨by decide, by decide⟩ (Nat.le_of_ble_eq_true rfl) (am_kp.rf _) (fun s26 h27 => c12_next h27) (fun s26 h27 => ?_)
        refine z_iload_n (pc := 63) 0 dX12_part_63 rfl rfl ?_
        exact z_rIs dX12_part_64 rfl ⟨by decide, by decide⟩
      · refine z_iload_n (pc := 63) 0 dX12_part_63 rfl rfl ?_
        exact z_rIs dX12_part_64 rfl ⟨by decide, by decide⟩
  · refine z_iconst (pc := 30) (v := (0 : Int32)) dX12_part_30 (by decide) ?_
    refine z_goto (pc := 31) (tgt := 38) dX12_part_31 (by decide) ?_
    refine z_istore_n (pc := 38) (lv' := [(3, .int (0 : Int32)), (0, .ref 36)]) dX12_part_38 rfl (by decide) rfl ?_
    refine z_aload_n (pc := 39) 1 dX12_part_39 rfl rfl ?_
    refine z_bipush (pc := 40) (v := (59 : Int32)) dX12_part_40 (by decide) ?_
    refine z_callB (pc := 42) [.ref 36, .int (59 : Int32)] [] rfl (lk_V (Yc := YX12_isSign) (n := 1) dX12_part_42 rfl rfl (am_ob.s kM36) rfl rfl np_X12_isSign mh_RX12 (by decide) ml_RX12_285 im_X12_isSign se_RX12_X12_isSign_X12_isSign in_RX12 cd_X12_isSign) (Nat.le_trans (by decide) hd) ⟨by decide, by decide⟩ (Nat.le_of_ble_eq_true rfl) (am_kp.rf _) (fun v28 h30 => c12_isSign h30) (fun v28 h30 => ?_)
    refine z_bz_ne (pc := 45) (tgt := 52) dX12_part_45 (by decide) (fun h31 => ?_) (fun h31 => ?_)
    · refine z_aload_n (pc := 52) 1 dX12_part_52 rfl rfl ?_
      refine z_getI (pc := 53) dX12_part_53 (am_ob.s kM36) fr_RX12_241_12 (by decide) ?_
      refine z_if_ne (pc := 56) (tgt := 63) dX12_part_56 (by decide) (fun h32 => ?_) (fun h32 => ?_)
      · refine z_aload_n (pc := 59) 1 dX12_part_59 rfl rfl ?_
        refine z_callVs (pc := 60) [.ref 36] [] rfl (lk_V (Yc := YX12_next) (n := 0) dX12_part_60 rfl rfl (am_ob.s kM36) rfl rfl np_X12_next mh_RX12 (by decide) ml_RX12_254 im_X12_next se_RX12_X12_next_X12_next in_RX12 cd_X12_next) (Nat.le_trans (by decide) hd) ⟨by decide, by decide⟩ (Nat.le_of_ble_eq_true rfl) (am_kp.rf _) (fun s34 h35 => c12_next h35) (fun s34 h35 => ?_)
        refine z_iload_n (pc := 63) 0 dX12_part_63 rfl rfl ?_
        exact z_rIs dX12_part_64 rfl ⟨by decide, by decide⟩
      · refine z_iload_n (pc := 63) 0 dX12_part_63 rfl rfl ?_
        exact z_rIs dX12_part_64 rfl ⟨by decide, by decide⟩
    · refine z_aload_n (pc := 48) 1 dX12_part_48 rfl rfl ?_
      refine z_callVs (pc := 49) [.ref 36] [] rfl (lk_V (Yc := YX12_fail) (n := 0) dX12_part_49 rfl rfl (am_ob.s kM36) rfl rfl np_X12_fail mh_RX12 (by decide) ml_RX12_251 im_X12_fail se_RX12_X12_fail_X12_fail in_RX12 cd_X12_fail) (Nat.le_trans (by decide) hd) ⟨by decide, by decide⟩ (Nat.le_of_ble_eq_true rfl) (am_kp.rf _) (fun s37 h38 => c12_fail h38) (fun s37 h38 => ?_)
      refine z_aload_n (pc := 52) 1 dX12_part_52 rfl rfl ?_
      refine z_getI (pc := 53) dX12_part_53 (am_ob.s kM36) fr_RX12_241_12 (by decide) ?_
      refine z_if_ne (pc := 56) (tgt := 63) dX12_part_56 (by decide) (fun h39 => ?_) (fun h39 => ?_)
      · refine z_aload_n (pc := 59) 1 dX12_part_59 rfl rfl ?_
        refine z_callVs (pc := 60) [.ref 36] [] rfl (lk_V (Yc := YX12_next) (n := 0) dX12_part_60 rfl rfl (am_ob.s kM36) rfl rfl np_X12_next mh_RX12 (by decide) ml_RX12_254 im_X12_next se_RX12_X12_next_X12_next in_RX12 cd_X12_next) (Nat.le_trans (by decide) hd) ⟨by decide, by decide⟩ (Nat.le_of_ble_eq_true rfl) (am_kp.rf _) (fun s41 h42 => c12_next h42) (fun s41 h42 => ?_)
        refine z_iload_n (pc := 63) 0 dX12_part_63 rfl rfl ?_
        exact z_rIs dX12_part_64 rfl ⟨by decide, by decide⟩
      · refine z_iload_n (pc := 63) 0 dX12_part_63 rfl rfl ?_
        exact z_rIs dX12_part_64 rfl ⟨by decide, by decide⟩
def f12_part (N : Nat) (σ : am_S) (x1 : Int64) : Option (Int32 × am_S) := (f12_isWord σ x1).bind fun v1 => (if v1 = true then (if fF σ 36 29 = 0 then ((f12_next N σ).bind fun s7 => (f12_part_J23 N s7)) else (f12_part_J23 N σ)) else ((f12_fail σ).bind fun s44 => (if fF s44 36 29 = 0 then ((f12_next N s44).bind fun s48 => (f12_part_J23 N s48)) else (f12_part_J23 N s44))))
theorem c12_part {l : Launch} {E : am_E} {N : Nat} {σ : am_S} {x1 : Int64} {v : Int32} {σ1 : am_S} (hf : f12_part N σ x1 = some (v, σ1)) : Ctr l E msM YX12_part (104) 0 0 [.ref 36, .long x1] σ (some (.int v)) σ1 := by
  refine ctr_of (G := fun u r s => r = some (.int u.1) ∧ s = u.2) (by decide +kernel) (Nat.le_of_ble_eq_true rfl) hf ⟨rfl, rfl⟩ (fun d hd => ?_)
  refine z_eqlv (lv' := [(0, .ref 36), (1, .long x1)]) rfl ?_
  unfold f12_part
  refine z_aload_n (pc := 0) 0 dX12_part_0 rfl rfl ?_
  refine z_lload_n (pc := 1) 1 dX12_part_1 rfl rfl ?_
  refine z_callB (pc := 2) [.ref 36, .long x1] [] rfl (lk_V (Yc := YX12_isWord) (n := 1) dX12_part_2 rfl rfl (am_ob.s kM36) rfl rfl np_X12_isWord mh_RX12 (by decide) ml_RX12_259 im_X12_isWord se_RX12_X12_isWord_X12_isWord in_RX12 cd_X12_isWord) (Nat.le_trans (by decide) hd) ⟨by decide, by decide⟩ (Nat.le_of_ble_eq_true rfl) (am_kp.rf _) (fun v1 h3 => c12_isWord h3) (fun v1 h3 => ?_)
  refine z_bz_ne (pc := 5) (tgt := 12) dX12_part_5 (by decide) (fun h4 => ?_) (fun h4 => ?_)
  · refine z_aload_n (pc := 12) 0 dX12_part_12 rfl rfl ?_
    refine z_getI (pc := 13) dX12_part_13 (am_ob.s kM36) fr_RX12_241_12 (by decide) ?_
    refine z_if_ne (pc := 16) (tgt := 23) dX12_part_16 (by decide) (fun h5 => ?_) (fun h5 => ?_)
    · refine z_aload_n (pc := 19) 0 dX12_part_19 rfl rfl ?_
      refine z_callVs (pc := 20) [.ref 36] [] rfl (lk_V (Yc := YX12_next) (n := 0) dX12_part_20 rfl rfl (am_ob.s kM36) rfl rfl np_X12_next mh_RX12 (by decide) ml_RX12_254 im_X12_next se_RX12_X12_next_X12_next in_RX12 cd_X12_next) (Nat.le_trans (by decide) hd) ⟨by decide, by decide⟩ (Nat.le_of_ble_eq_true rfl) (am_kp.rf _) (fun s7 h8 => c12_next h8) (fun s7 h8 => ?_)
      refine z_lv (lv' := [(0, .ref 36)]) [0] rfl ?_
      exact z12_part_J23 hd s7
    · refine z_lv (lv' := [(0, .ref 36)]) [0] rfl ?_
      exact z12_part_J23 hd σ
  · refine z_aload_n (pc := 8) 0 dX12_part_8 rfl rfl ?_
    refine z_callVs (pc := 9) [.ref 36] [] rfl (lk_V (Yc := YX12_fail) (n := 0) dX12_part_9 rfl rfl (am_ob.s kM36) rfl rfl np_X12_fail mh_RX12 (by decide) ml_RX12_251 im_X12_fail se_RX12_X12_fail_X12_fail in_RX12 cd_X12_fail) (Nat.le_trans (by decide) hd) ⟨by decide, by decide⟩ (Nat.le_of_ble_eq_true rfl) (am_kp.rf _) (fun s44 h45 => c12_fail h45) (fun s44 h45 => ?_)
    refine z_aload_n (pc := 12) 0 dX12_part_12 rfl rfl ?_
    refine z_getI (pc := 13) dX12_part_13 (am_ob.s kM36) fr_RX12_241_12 (by decide) ?_
    refine z_if_ne (pc := 16) (tgt := 23) dX12_part_16 (by decide) (fun h46 => ?_) (fun h46 => ?_)
    · refine z_aload_n (pc := 19) 0 dX12_part_19 rfl rfl ?_
      refine z_callVs (pc := 20) [.ref 36] [] rfl (lk_V (Yc := YX12_next) (n := 0) dX12_part_20 rfl rfl (am_ob.s kM36) rfl rfl np_X12_next mh_RX12 (by decide) ml_RX12_254 im_X12_next se_RX12_X12_next_X12_next in_RX12 cd_X12_next) (Nat.le_trans (by decide) hd) ⟨by decide, by decide⟩ (Nat.le_of_ble_eq_true rfl) (am_kp.rf _) (fun s48 h49 => c12_next h49) (fun s48 h49 => ?_)
      refine z_lv (lv' := [(0, .ref 36)]) [0] rfl ?_
      exact z12_part_J23 hd s48
    · refine z_lv (lv' := [(0, .ref 36)]) [0] rfl ?_
      exact z12_part_J23 hd s44
def f12_read_J107 (N : Nat) (x6 : Int32) (x7 : Int32) (x8 : Int32) (s0 : Int32) (σ : am_S) : Option (Int32 × am_S) := if fF σ 36 29 = 0 then (if fF σ 36 24 = 0 then (if x6 = 0 then (some (x7, σ)) else (if x6 = (1 : Int32) then (some (x8, σ)) else (some (s0, σ)))) else ((f12_fail σ).bind fun s21 => (if x6 = 0 then (some (x7, s21)) else (if x6 = (1 : Int32) then (some (x8, s21)) else (some (s0, s21)))))) else (if x6 = 0 then (some (x7, σ)) else (if x6 = (1 : Int32) then (some (x8, σ)) else (some (s0, σ))))
theorem z12_read_J107 {l : Launch} {E : am_E} {d : Nat} {σ0 : am_S} {N : Nat} (hd : 105 ≤ d) (x6 : Int32) (x7 : Int32) (x8 : Int32) (s0 : Int32) (σ : am_S) : Z l E msM σ0 YX12_read d 0 0 107 [(0, .ref 36), (6, .int x6), (7, .int x7), (8, .int x8)] [.int s0] 0 0 σ (f12_read_J107 N x6 x7 x8 s0 σ) (fun u r s => r = some (.int u.1) ∧ s = u.2) := by
  unfold f12_read_J107
  refine z_istore (pc := 107) (lv' := [(9, .int s0), (0, .ref 36), (6, .int x6), (7, .int x7), (8, .int x8)]) dX12_read_107 (by decide) rfl ?_
  refine z_aload_n (pc := 109) 1 dX12_read_109 rfl rfl ?_
  refine z_getI (pc := 110) dX12_read_110 (am_ob.s kM36) fr_RX12_241_12 (by decide) ?_
  refine z_if_ne (pc := 113) (tgt := 127) dX12_read_113 (by decide) (fun h16 => ?_) (fun h16 => ?_)
  · refine z_aload_n (pc := 116) 1 dX12_read_116 rfl rfl ?_
    refine z_getI (pc := 117) dX12_read_117 (am_ob.s kM36) fr_RX12_218_12 (by decide) ?_
    refine z_if_eq (pc := 120) (tgt := 127) dX12_read_120 (by decide) (fun h17 => ?_) (fun h17 => ?_)
    · refine z_iload (pc := 127) 2 dX12_read_127 rfl ?_
      refine z_if_ne (pc := 129) (tgt := 137) dX12_read_129 (by decide) (fun h18 => ?_) (fun h18 => ?_)
      · refine z_iload (pc := 132) 3 dX12_read_132 rfl ?_
        refine z_goto (pc := 134) (tgt := 150) dX12_read_134 (by decide) ?_
        exact z_rIs dX12_read_150 rfl ⟨by decide, by decide⟩
      · refine z_iload (pc := 137) 2 dX12_read_137 rfl ?_
        refine z_iconst (pc := 139) (v := (1 : Int32)) dX12_read_139 (by decide) ?_
        refine z_ic_ne (pc := 140) (tgt := 148) dX12_read_140 (by decide) (fun h19 => ?_) (fun h19 => ?_)
        · refine z_iload (pc := 143) 4 dX12_read_143 rfl ?_
          refine z_goto (pc := 145) (tgt := 150) dX12_read_145 (by decide) ?_
          exact z_rIs dX12_read_150 rfl ⟨by decide, by decide⟩
        · refine z_iload (pc := 148) 0 dX12_read_148 rfl ?_
          exact z_rIs dX12_read_150 rfl ⟨by decide, by decide⟩
    · refine z_aload_n (pc := 123) 1 dX12_read_123 rfl rfl ?_
      refine z_callVs (pc := 124) [.ref 36] [] rfl (lk_V (Yc := YX12_fail) (n := 0) dX12_read_124 rfl rfl (am_ob.s kM36) rfl rfl np_X12_fail mh_RX12 (by decide) ml_RX12_251 im_X12_fail se_RX12_X12_fail_X12_fail in_RX12 cd_X12_fail) (Nat.le_trans (by decide) hd) ⟨by decide, by decide⟩ (Nat.le_of_ble_eq_true rfl) (am_kp.rf _) (fun s21 h22 => c12_fail h22) (fun s21 h22 => ?_)
      refine z_iload (pc := 127) 2 dX12_read_127 rfl ?_
      refine z_if_ne (pc := 129) (tgt := 137) dX12_read_129 (by decide) (fun h23 => ?_) (fun h23 => ?_)
      · refine z_iload (pc := 132) 3 dX12_read_132 rfl ?_
        refine z_goto (pc := 134) (tgt := 150) dX12_read_134 (by decide) ?_
        exact z_rIs dX12_read_150 rfl ⟨by decide, by decide⟩
      · refine z_iload (pc := 137) 2 dX12_read_137 rfl ?_
        refine z_iconst (pc := 139) (v := (1 : Int32)) dX12_read_139 (by decide) ?_
        refine z_ic_ne (pc := 140) (tgt := 148) dX12_read_140 (by decide) (fun h24 => ?_) (fun h24 => ?_)
        · refine z_iload (pc := 143) 4 dX12_read_143 rfl ?_
          refine z_goto (pc := 145) (tgt := 150) dX12_read_145 (by decide) ?_
          exact z_rIs dX12_read_150 rfl ⟨by decide, by decide⟩
        · refine z_iload (pc := 148) 0 dX12_read_148 rfl ?_
          exact z_rIs dX12_read_150 rfl ⟨by decide, by decide⟩
  · refine z_iload (pc := 127) 2 dX12_read_127 rfl ?_
    refine z_if_ne (pc := 129) (tgt := 137) dX12_read_129 (by decide) (fun h25 => ?_) (fun h25 => ?_)
    · refine z_iload (pc := 132) 3 dX12_read_132 rfl ?_
      refine z_goto (pc := 134) (tgt := 150) dX12_read_134 (by decide) ?_
      exact z_rIs dX12_read_150 rfl ⟨by decide, by decide⟩
    · refine z_iload (pc := 137) 2 dX12_read_137 rfl ?_
      refine z_iconst (pc := 139) (v := (1 : Int32)) dX12_read_139 (by decide) ?_
      refine z_ic_ne (pc := 140) (tgt := 148) dX12_read_140 (by decide) (fun h26 => ?_) (fun h26 => ?_)
      · refine z_iload (pc := 143) 4 dX12_read_143 rfl ?_
        refine z_goto (pc := 145) (tgt := 150) dX12_read_145 (by decide) ?_
        exact z_rIs dX12_read_150 rfl ⟨by decide, by decide⟩
      · refine z_iload (pc := 148) 0 dX12_read_148 rfl ?_
        exact z_rIs dX12_read_150 rfl ⟨by decide, by decide⟩
def f12_read (N : Nat) (σ : am_S) (x1 : Int32) (x2 : Int32) (x3 : Int32) (x4 : Int32) (x5 : Int32) (x6 : Int32) : Option (Int32 × am_S) := if am_in x1 6 = true then ((f12_next N (sF (sF (sF (sF (sF (sF (sF (sF (sF σ 36 31 x2) 36 32 x3) 36 33 x4) 36 34 x5) 36 22 ((160 : Int32) * x1)) 36 23 (fF (sF (sF (sF (sF (sF σ 36 31 x2) 36 32 x3) 36 33 x4) 36 34 x5) 36 22 ((160 : Int32) * x1)) 38 x1.toNatClampNeg)) 36 27 (0 : Int32)) 36 28 (0 : Int32)) 36 29 (0 : Int32))).bind fun s3 => ((f12_part N s3 (247162 : Int64)).bind fun (v5, s6) => (if fF s6 36 29 = 0 then ((f12_part N s6 (8863997 : Int64)).bind fun (v9, s10) => (if fF s10 36 29 = 0 then ((f12_part N s10 (409469 : Int64)).bind fun (v13, s14) => (f12_read_J107 N x6 v5 v9 v13 s14)) else (f12_read_J107 N x6 v5 v9 (0 : Int32) s10))) else (if fF s6 36 29 = 0 then ((f12_part N s6 (409469 : Int64)).bind fun (v28, s29) => (f12_read_J107 N x6 v5 (0 : Int32) v28 s29)) else (f12_read_J107 N x6 v5 (0 : Int32) (0 : Int32) s6))))) else none
theorem c12_read {l : Launch} {E : am_E} {N : Nat} {σ : am_S} {x1 : Int32} {x2 : Int32} {x3 : Int32} {x4 : Int32} {x5 : Int32} {x6 : Int32} {v : Int32} {σ1 : am_S} (hf : f12_read N σ x1 x2 x3 x4 x5 x6 = some (v, σ1)) : Ctr l E msM YX12_read (105) 0 0 [.ref 36, .int x1, .int x2, .int x3, .int x4, .int x5, .int x6] σ (some (.int v)) σ1 := by
  refine ctr_of (G := fun u r s => r = some (.int u.1) ∧ s = u.2) (by decide +kernel) (Nat.le_of_ble_eq_true rfl) hf ⟨rfl, rfl⟩ (fun d hd => ?_)
  refine z_eqlv (lv' := [(0, .ref 36), (1, .int x1), (2, .int x2), (3, .int x3), (4, .int x4), (5, .int x5), (6, .int x6)]) rfl ?_
  unfold f12_read
  refine z_aload_n (pc := 0) 0 dX12_read_0 rfl rfl ?_
  refine z_iload_n (pc := 1) 2 dX12_read_1 rfl rfl ?_
  refine z_putI (pc := 2) dX12_read_2 (am_ob.s kM36) fw_RX12_263_12 (by decide) ?_
  refine z_aload_n (pc := 5) 0 dX12_read_5 rfl rfl ?_
  refine z_iload_n (pc := 6) 3 dX12_read_6 rfl rfl ?_
  refine z_putI (pc := 7) dX12_read_7 (am_ob.s kM36) fw_RX12_272_12 (by decide) ?_
  refine z_aload_n (pc := 10) 0 dX12_read_10 rfl rfl ?_
  refine z_iload (pc := 11) 4 dX12_read_11 rfl ?_
  refine z_putI (pc := 13) dX12_read_13 (am_ob.s kM36) fw_RX12_277_12 (by decide) ?_
  refine z_aload_n (pc := 16) 0 dX12_read_16 rfl rfl ?_
  refine z_iload (pc := 17) 5 dX12_read_17 rfl ?_
  refine z_putI (pc := 19) dX12_read_19 (am_ob.s kM36) fw_RX12_282_12 (by decide) ?_
  refine z_aload_n (pc := 22) 0 dX12_read_22 rfl rfl ?_
  refine z_sipush (pc := 23) (v := (160 : Int32)) dX12_read_23 (by decide) ?_
  refine z_iload_n (pc := 26) 1 dX12_read_26 rfl rfl ?_
  refine z_imul (pc := 27) dX12_read_27 ?_
  refine z_putI (pc := 28) dX12_read_28 (am_ob.s kM36) fw_RX12_206_12 (by decide) ?_
  refine z_aload_n (pc := 31) 0 dX12_read_31 rfl rfl ?_
  refine z_aload_n (pc := 32) 0 dX12_read_32 rfl rfl ?_
  refine z_getQ (pc := 33) (b := 38) dX12_read_33 kM36 fr_RX12_17_12 (by decide) rfl ?_
  refine z_iload_n (pc := 36) 1 dX12_read_36 rfl rfl ?_
  refine z_iald (pc := 37) dX12_read_37 (am_ar.s kM38) (fun h1 => ?_)
  refine z_putI (pc := 38) dX12_read_38 (am_ob.s kM36) fw_RX12_203_12 (by decide) ?_
  refine z_aload_n (pc := 41) 0 dX12_read_41 rfl rfl ?_
  refine z_iconst (pc := 42) (v := (0 : Int32)) dX12_read_42 (by decide) ?_
  refine z_putI (pc := 43) dX12_read_43 (am_ob.s kM36) fw_RX12_209_12 (by decide) ?_
  refine z_aload_n (pc := 46) 0 dX12_read_46 rfl rfl ?_
  refine z_iconst (pc := 47) (v := (0 : Int32)) dX12_read_47 (by decide) ?_
  refine z_putI (pc := 48) dX12_read_48 (am_ob.s kM36) fw_RX12_248_12 (by decide) ?_
  refine z_aload_n (pc := 51) 0 dX12_read_51 rfl rfl ?_
  refine z_iconst (pc := 52) (v := (0 : Int32)) dX12_read_52 (by decide) ?_
  refine z_putZ (pc := 53) dX12_read_53 (am_ob.s kM36) fw_RX12_241_12 (by decide) ⟨by decide +kernel, by decide +kernel⟩ ?_
  refine z_aload_n (pc := 56) 0 dX12_read_56 rfl rfl ?_
  refine z_callVs (pc := 57) [.ref 36] [] rfl (lk_V (Yc := YX12_next) (n := 0) dX12_read_57 rfl rfl (am_ob.s kM36) rfl rfl np_X12_next mh_RX12 (by decide) ml_RX12_254 im_X12_next se_RX12_X12_next_X12_next in_RX12 cd_X12_next) (Nat.le_trans (by decide) hd) ⟨by decide, by decide⟩ (Nat.le_of_ble_eq_true rfl) (am_kp.rf _) (fun s3 h4 => c12_next h4) (fun s3 h4 => ?_)
  refine z_aload_n (pc := 60) 0 dX12_read_60 rfl rfl ?_
  refine z_ldc2 (pc := 61) (v := (247162 : Int64)) dX12_read_61 kl_RX12_322 ?_
  refine z_callIs (pc := 64) [.ref 36, .long (247162 : Int64)] [] rfl (lk_V (Yc := YX12_part) (n := 1) dX12_read_64 rfl rfl (am_ob.s kM36) rfl rfl np_X12_part mh_RX12 (by decide) ml_RX12_324 im_X12_part se_RX12_X12_part_X12_part in_RX12 cd_X12_part) (Nat.le_trans (by decide) hd) ⟨by decide, by decide⟩ (Nat.le_of_ble_eq_true rfl) (am_kp.rf _) (fun v5 s6 h7 => c12_part h7) (fun v5 s6 h7 => ?_)
  refine z_istore (pc := 67) (lv' := [(7, .int v5), (0, .ref 36), (1, .int x1), (2, .int x2), (3, .int x3), (4, .int x4), (5, .int x5), (6, .int x6)]) dX12_read_67 (by decide) rfl ?_
  refine z_aload_n (pc := 69) 1 dX12_read_69 rfl rfl ?_
  refine z_getI (pc := 70) dX12_read_70 (am_ob.s kM36) fr_RX12_241_12 (by decide) ?_
  refine z_if_eq (pc := 73) (tgt := 80) dX12_read_73 (by decide) (fun h8 => ?_) (fun h8 => ?_)
  · refine z_aload_n (pc := 80) 1 dX12_read_80 rfl rfl ?_
    refine z_ldc2 (pc := 81) (v := (8863997 : Int64)) dX12_read_81 kl_RX12_328 ?_
    refine z_callIs (pc := 84) [.ref 36, .long (8863997 : Int64)] [] rfl (lk_V (Yc := YX12_part) (n := 1) dX12_read_84 rfl rfl (am_ob.s kM36) rfl rfl np_X12_part mh_RX12 (by decide) ml_RX12_324 im_X12_part se_RX12_X12_part_X12_part in_RX12 cd_X12_part) (Nat.le_trans (by decide) hd) ⟨by decide, by decide⟩ (Nat.le_of_ble_eq_true rfl) (am_kp.rf _) (fun v9 s10 h11 => c12_part h11) (fun v9 s10 h11 => ?_)
    refine z_istore (pc := 87) (lv' := [(8, .int v9), (7, .int v5), (0, .ref 36), (1, .int x1), (2, .int x2), (3, .int x3), (4, .int x4), (5, .int x5), (6, .int x6)]) dX12_read_87 (by decide) rfl ?_
    refine z_aload_n (pc := 89) 2 dX12_read_89 rfl rfl ?_
    refine z_getI (pc := 90) dX12_read_90 (am_ob.s kM36) fr_RX12_241_12 (by decide) ?_
    refine z_if_eq (pc := 93) (tgt := 100) dX12_read_93 (by decide) (fun h12 => ?_) (fun h12 => ?_)
    · refine z_aload_n (pc := 100) 2 dX12_read_100 rfl rfl ?_
      refine z_ldc2 (pc := 101) (v := (409469 : Int64)) dX12_read_101 kl_RX12_330 ?_
      refine z_callIs (pc := 104) [.ref 36, .long (409469 : Int64)] [] rfl (lk_V (Yc := YX12_part) (n := 1) dX12_read_104 rfl rfl (am_ob.s kM36) rfl rfl np_X12_part mh_RX12 (by decide) ml_RX12_324 im_X12_part se_RX12_X12_part_X12_part in_RX12 cd_X12_part) (Nat.le_trans (by decide) hd) ⟨by decide, by decide⟩ (Nat.le_of_ble_eq_true rfl) (am_kp.rf _) (fun v13 s14 h15 => c12_part h15) (fun v13 s14 h15 => ?_)
      refine z_lv (lv' := [(0, .ref 36), (6, .int x6), (7, .int v5), (8, .int v9)]) [2, 8, 1, 0] rfl ?_
      exact z12_read_J107 hd x6 v5 v9 v13 s14
    · refine z_iconst (pc := 96) (v := (0 : Int32)) dX12_read_96 (by decide) ?_
      refine z_goto (pc := 97) (tgt := 107) dX12_read_97 (by decide) ?_
      refine z_lv (lv' := [(0, .ref 36), (6, .int x6), (7, .int v5), (8, .int v9)]) [2, 8, 1, 0] rfl ?_
      exact z12_read_J107 hd x6 v5 v9 (0 : Int32) s10
  · refine z_iconst (pc := 76) (v := (0 : Int32)) dX12_read_76 (by decide) ?_
    refine z_goto (pc := 77) (tgt := 87) dX12_read_77 (by decide) ?_
    refine z_istore (pc := 87) (lv' := [(8, .int (0 : Int32)), (7, .int v5), (0, .ref 36), (1, .int x1), (2, .int x2), (3, .int x3), (4, .int x4), (5, .int x5), (6, .int x6)]) dX12_read_87 (by decide) rfl ?_
    refine z_aload_n (pc := 89) 2 dX12_read_89 rfl rfl ?_
    refine z_getI (pc := 90) dX12_read_90 (am_ob.s kM36) fr_RX12_241_12 (by decide) ?_
    refine z_if_eq (pc := 93) (tgt := 100) dX12_read_93 (by decide) (fun h27 => ?_) (fun h27 => ?_)
    · refine z_aload_n (pc := 100) 2 dX12_read_100 rfl rfl ?_
      refine z_ldc2 (pc := 101) (v := (409469 : Int64)) dX12_read_101 kl_RX12_330 ?_
      refine z_callIs (pc := 104) [.ref 36, .long (409469 : Int64)] [] rfl (lk_V (Yc := YX12_part) (n := 1) dX12_read_104 rfl rfl (am_ob.s kM36) rfl rfl np_X12_part mh_RX12 (by decide) ml_RX12_324 im_X12_part se_RX12_X12_part_X12_part in_RX12 cd_X12_part) (Nat.le_trans (by decide) hd) ⟨by decide, by decide⟩ (Nat.le_of_ble_eq_true rfl) (am_kp.rf _) (fun v28 s29 h30 => c12_part h30) (fun v28 s29 h30 => ?_)
      refine z_lv (lv' := [(0, .ref 36), (6, .int x6), (7, .int v5), (8, .int (0 : Int32))]) [2, 8, 1, 0] rfl ?_
      exact z12_read_J107 hd x6 v5 (0 : Int32) v28 s29
    · refine z_iconst (pc := 96) (v := (0 : Int32)) dX12_read_96 (by decide) ?_
      refine z_goto (pc := 97) (tgt := 107) dX12_read_97 (by decide) ?_
      refine z_lv (lv' := [(0, .ref 36), (6, .int x6), (7, .int v5), (8, .int (0 : Int32))]) [2, 8, 1, 0] rfl ?_
      exact z12_read_J107 hd x6 v5 (0 : Int32) (0 : Int32) s6
def f12_within (x0 : Int32) (x1 : Int32) (x2 : Int32) : Option Int32 := if x1 ≤ x0 then (if x0 ≤ x2 then (some (x0)) else (some (x2))) else (some (x1))
theorem c12_within {l : Launch} {E : am_E} {σ : am_S} {x0 : Int32} {x1 : Int32} {x2 : Int32} {v : Int32} (hf : f12_within x0 x1 x2 = some v) : Ctr l E msM YX12_within (0) 0 0 [.int x0, .int x1, .int x2] σ (some (.int v)) σ := by
  refine ctr_of (G := fun u r s => r = some (.int u) ∧ s = σ) (by decide +kernel) (Nat.le_of_ble_eq_true rfl) hf ⟨rfl, rfl⟩ (fun d hd => ?_)
  refine z_eqlv (lv' := [(0, .int x0), (1, .int x1), (2, .int x2)]) rfl ?_
  unfold f12_within
  refine z_iload_n (pc := 0) 0 dX12_within_0 rfl rfl ?_
  refine z_iload_n (pc := 1) 1 dX12_within_1 rfl rfl ?_
  refine z_ic_ge (pc := 2) (tgt := 9) dX12_within_2 (by decide) (fun h1 => ?_) (fun h1 => ?_)
  · refine z_iload_n (pc := 9) 0 dX12_within_9 rfl rfl ?_
    refine z_iload_n (pc := 10) 2 dX12_within_10 rfl rfl ?_
    refine z_ic_le (pc := 11) (tgt := 18) dX12_within_11 (by decide) (fun h2 => ?_) (fun h2 => ?_)
    · refine z_iload_n (pc := 18) 0 dX12_within_18 rfl rfl ?_
      exact z_rI dX12_within_19 rfl ⟨by decide, by decide⟩
    · refine z_iload_n (pc := 14) 2 dX12_within_14 rfl rfl ?_
      refine z_goto (pc := 15) (tgt := 19) dX12_within_15 (by decide) ?_
      exact z_rI dX12_within_19 rfl ⟨by decide, by decide⟩
  · refine z_iload_n (pc := 5) 1 dX12_within_5 rfl rfl ?_
    refine z_goto (pc := 6) (tgt := 19) dX12_within_6 (by decide) ?_
    exact z_rI dX12_within_19 rfl ⟨by decide, by decide⟩
def f12_priceOf (N : Nat) (σ : am_S) (x1 : Int32) (x2 : Int32) : Option (Int32 × am_S) := (f12_read N σ (fF σ 36 4) x1 (0 : Int32) x2 (0 : Int32) (1 : Int32)).bind fun (v1, s2) => ((f12_within v1 (0 : Int32) (99 : Int32)).bind fun v4 => (some (v4, s2)))
theorem c12_priceOf {l : Launch} {E : am_E} {N : Nat} {σ : am_S} {x1 : Int32} {x2 : Int32} {v : Int32} {σ1 : am_S} (hf : f12_priceOf N σ x1 x2 = some (v, σ1)) : Ctr l E msM YX12_priceOf (106) 0 0 [.ref 36, .int x1, .int x2] σ (some (.int v)) σ1 := by
  refine ctr_of (G := fun u r s => r = some (.int u.1) ∧ s = u.2) (by decide +kernel) (Nat.le_of_ble_eq_true rfl) hf ⟨rfl, rfl⟩ (fun d hd => ?_)
  refine z_eqlv (lv' := [(0, .ref 36), (1, .int x1), (2, .int x2)]) rfl ?_
  unfold f12_priceOf
  refine z_aload_n (pc := 0) 0 dX12_priceOf_0 rfl rfl ?_
  refine z_aload_n (pc := 1) 0 dX12_priceOf_1 rfl rfl ?_
  refine z_getI (pc := 2) dX12_priceOf_2 (am_ob.s kM36) fr_RX12_332_12 (by decide) ?_
  refine z_iload_n (pc := 5) 1 dX12_priceOf_5 rfl rfl ?_
  refine z_iconst (pc := 6) (v := (0 : Int32)) dX12_priceOf_6 (by decide) ?_
  refine z_iload_n (pc := 7) 2 dX12_priceOf_7 rfl rfl ?_
  refine z_iconst (pc := 8) (v := (0 : Int32)) dX12_priceOf_8 (by decide) ?_
  refine z_iconst (pc := 9) (v := (1 : Int32)) dX12_priceOf_9 (by decide) ?_
  refine z_callIs (pc := 10) [.ref 36, .int (fF σ 36 4), .int x1, .int (0 : Int32), .int x2, .int (0 : Int32), .int (1 : Int32)] [] rfl (lk_V (Yc := YX12_read) (n := 6) dX12_priceOf_10 rfl rfl (am_ob.s kM36) rfl rfl np_X12_read mh_RX12 (by decide) ml_RX12_335 im_X12_read se_RX12_X12_read_X12_read in_RX12 cd_X12_read) (Nat.le_trans (by decide) hd) ⟨by decide, by decide⟩ (Nat.le_of_ble_eq_true rfl) (am_kp.rf _) (fun v1 s2 h3 => c12_read h3) (fun v1 s2 h3 => ?_)
  refine z_iconst (pc := 13) (v := (0 : Int32)) dX12_priceOf_13 (by decide) ?_
  refine z_bipush (pc := 14) (v := (99 : Int32)) dX12_priceOf_14 (by decide) ?_
  refine z_callI (pc := 16) [.int v1, .int (0 : Int32), .int (99 : Int32)] [] rfl (lk_S (Yc := YX12_within) (n := 3) dX12_priceOf_16 rfl np_X12_within mh_RX12 (by decide) ml_RX12_342 st_X12_within in_RX12 cd_X12_within) (Nat.le_trans (by decide) hd) ⟨by decide, by decide⟩ (Nat.le_of_ble_eq_true rfl) (am_kp.rf _) (fun v4 h6 => c12_within h6) (fun v4 h6 => ?_)
  exact z_rIs dX12_priceOf_19 rfl ⟨by decide, by decide⟩
def f12_plain (x0 : Int32) : Option Int32 := if 0 ≤ x0 then (some (x0)) else (some (-x0))
theorem c12_plain {l : Launch} {E : am_E} {σ : am_S} {x0 : Int32} {v : Int32} (hf : f12_plain x0 = some v) : Ctr l E msM YX12_plain (0) 0 0 [.int x0] σ (some (.int v)) σ := by
  refine ctr_of (G := fun u r s => r = some (.int u) ∧ s = σ) (by decide +kernel) (Nat.le_of_ble_eq_true rfl) hf ⟨rfl, rfl⟩ (fun d hd => ?_)
  refine z_eqlv (lv' := [(0, .int x0)]) rfl ?_
  unfold f12_plain
  refine z_iload_n (pc := 0) 0 dX12_plain_0 rfl rfl ?_
  refine z_if_ge (pc := 1) (tgt := 9) dX12_plain_1 (by decide) (fun h1 => ?_) (fun h1 => ?_)
  · refine z_iload_n (pc := 9) 0 dX12_plain_9 rfl rfl ?_
    exact z_rI dX12_plain_10 rfl ⟨by decide, by decide⟩
  · refine z_iload_n (pc := 4) 0 dX12_plain_4 rfl rfl ?_
    refine z_ineg (pc := 5) dX12_plain_5 ?_
    refine z_goto (pc := 6) (tgt := 10) dX12_plain_6 (by decide) ?_
    exact z_rI dX12_plain_10 rfl ⟨by decide, by decide⟩
def f12_box_J181 (k85 : Int32 → Int32 → Int32 → Int32 → Int32 → Int32 → Int32 → am_S → Option (Int32 × am_S)) (N : Nat) (x1 : Int32) (x2 : Int32) (x3 : Int32) (x5 : Int32) (x6 : Int32) (x7 : Int32) (x8 : Int32) (σ : am_S) : Option (Int32 × am_S) := k85 x1 x2 x3 x5 x6 x7 (x8 + (1 : Int32)) σ
theorem z12_box_J181 {l : Launch} {E : am_E} {d : Nat} {σ0 : am_S} {N : Nat} (hd : 107 ≤ d) {k85 : Int32 → Int32 → Int32 → Int32 → Int32 → Int32 → Int32 → am_S → Option (Int32 × am_S)} (hk85 : ∀ (x1 : Int32) (x2 : Int32) (x3 : Int32) (x5 : Int32) (x6 : Int32) (x7 : Int32) (x8 : Int32) (σ : am_S), Z l E msM σ0 YX12_box d 0 0 85 [(1, .int x1), (2, .int x2), (3, .int x3), (5, .int x5), (6, .int x6), (7, .int x7), (8, .int x8)] [] 0 0 σ (k85 x1 x2 x3 x5 x6 x7 x8 σ) (fun u r s => r = some (.int u.1) ∧ s = u.2)) (x1 : Int32) (x2 : Int32) (x3 : Int32) (x5 : Int32) (x6 : Int32) (x7 : Int32) (x8 : Int32) (σ : am_S) : Z l E msM σ0 YX12_box d 0 0 181 [(1, .int x1), (2, .int x2), (3, .int x3), (5, .int x5), (6, .int x6), (7, .int x7), (8, .int x8)] [] 0 0 σ (f12_box_J181 k85 N x1 x2 x3 x5 x6 x7 x8 σ) (fun u r s => r = some (.int u.1) ∧ s = u.2) := by
  unfold f12_box_J181
  refine z_iinc (pc := 181) (v := x8 + (1 : Int32)) (lv' := [(8, .int (x8 + (1 : Int32))), (1, .int x1), (2, .int x2), (3, .int x3), (5, .int x5), (6, .int x6), (7, .int x7)]) 6 dX12_box_181 rfl rfl (by decide) rfl ?_
  refine z_goto (pc := 184) (tgt := 85) dX12_box_184 (by decide) ?_
  refine z_lv (lv' := [(1, .int x1), (2, .int x2), (3, .int x3), (5, .int x5), (6, .int x6), (7, .int x7), (8, .int (x8 + (1 : Int32)))]) [1, 2, 3, 4, 5, 6, 0] rfl ?_
  exact hk85 x1 x2 x3 x5 x6 x7 (x8 + (1 : Int32)) σ
def f12_box_L95 (k85 : Int32 → Int32 → Int32 → Int32 → Int32 → Int32 → Int32 → am_S → Option (Int32 × am_S)) (N : Nat) : Nat → Int32 → Int32 → Int32 → Int32 → Int32 → Int32 → Int32 → Int32 → am_S → Option (Int32 × am_S)
  | 0, _, _, _, _, _, _, _, _, _ => none
  | n + 1, x1, x2, x3, x5, x6, x7, x8, x9, σ => if (100 : Int32) ≤ x9 then (f12_box_J181 k85 N x1 x2 x3 x5 x6 x7 x8 σ) else ((f12_plain ((x8 + x9) - (x1 / (1000 : Int32)))).bind fun v24 => (if x2 < v24 then (f12_box_L95 k85 N n x1 x2 x3 x5 x6 (x7 + (0 : Int32)) x8 (x9 + (1 : Int32)) σ) else ((f12_plain ((x8 + x9) - (x1 - x1 / (1000 : Int32) * (1000 : Int32)))).bind fun v28 => (if x2 < v28 then (f12_box_L95 k85 N n x1 x2 x3 x5 x6 (x7 + (0 : Int32)) x8 (x9 + (1 : Int32)) σ) else (if (x8 * x5) + (x9 * x6) = x3 then (f12_box_L95 k85 N n x1 x2 x3 x5 x6 (x7 + (1 : Int32)) x8 (x9 + (1 : Int32)) σ) else (f12_box_L95 k85 N n x1 x2 x3 x5 x6 (x7 + (0 : Int32)) x8 (x9 + (1 : Int32)) σ))))))
theorem z12_box_L95 {l : Launch} {E : am_E} {d : Nat} {σ0 : am_S} {N : Nat} (hd : 107 ≤ d) {k85 : Int32 → Int32 → Int32 → Int32 → Int32 → Int32 → Int32 → am_S → Option (Int32 × am_S)} (hk85 : ∀ (x1 : Int32) (x2 : Int32) (x3 : Int32) (x5 : Int32) (x6 : Int32) (x7 : Int32) (x8 : Int32) (σ : am_S), Z l E msM σ0 YX12_box d 0 0 85 [(1, .int x1), (2, .int x2), (3, .int x3), (5, .int x5), (6, .int x6), (7, .int x7), (8, .int x8)] [] 0 0 σ (k85 x1 x2 x3 x5 x6 x7 x8 σ) (fun u r s => r = some (.int u.1) ∧ s = u.2)) : ∀ (n : Nat) (x1 : Int32) (x2 : Int32) (x3 : Int32) (x5 : Int32) (x6 : Int32) (x7 : Int32) (x8 : Int32) (x9 : Int32) (σ : am_S), Z l E msM σ0 YX12_box d 0 0 95 [(1, .int x1), (2, .int x2), (3, .int x3), (5, .int x5), (6, .int x6), (7, .int x7), (8, .int x8), (9, .int x9)] [] 0 0 σ (f12_box_L95 k85 N n x1 x2 x3 x5 x6 x7 x8 x9 σ) (fun u r s => r = some (.int u.1) ∧ s = u.2) := by
  intro n
  induction n with
  | zero => intros; exact z_none
  | succ n ih =>
    intro x1 x2 x3 x5 x6 x7 x8 x9 σ
    unfold f12_box_L95
    refine z_iload (pc := 95) 7 dX12_box_95 rfl ?_
    refine z_bipush (pc := 97) (v := (100 : Int32)) dX12_box_97 (by decide) ?_
    refine z_ic_ge (pc := 99) (tgt := 181) dX12_box_99 (by decide) (fun h23 => ?_) (fun h23 => ?_)
    · refine z_lv (lv' := [(1, .int x1), (2, .int x2), (3, .int x3), (5, .int x5), (6, .int x6), (7, .int x7), (8, .int x8)]) [0, 1, 2, 3, 4, 5, 6] rfl ?_
      exact z12_box_J181 hd hk85 x1 x2 x3 x5 x6 x7 x8 σ
    · refine z_iload (pc := 102) 6 dX12_box_102 rfl ?_
      refine z_iload (pc := 104) 7 dX12_box_104 rfl ?_
      refine z_iadd (pc := 106) dX12_box_106 ?_
      refine z_iload_n (pc := 107) 0 dX12_box_107 rfl rfl ?_
      refine z_sipush (pc := 108) (v := (1000 : Int32)) dX12_box_108 (by decide) ?_
      refine z_idiv (pc := 111) dX12_box_111 (by decide) ?_
      refine z_isub (pc := 112) dX12_box_112 ?_
      refine z_callI (pc := 113) [.int ((x8 + x9) - (x1 / (1000 : Int32)))] [] rfl (lk_S (Yc := YX12_plain) (n := 1) dX12_box_113 rfl np_X12_plain mh_RX12 (by decide) ml_RX12_391 st_X12_plain in_RX12 cd_X12_plain) (Nat.le_trans (by decide) hd) ⟨by decide, by decide⟩ (Nat.le_of_ble_eq_true rfl) (am_kp.rf _) (fun v24 h26 => c12_plain h26) (fun v24 h26 => ?_)
      refine z_iload_n (pc := 116) 1 dX12_box_116 rfl rfl ?_
      refine z_ic_gt (pc := 117) (tgt := 142) dX12_box_117 (by decide) (fun h27 => ?_) (fun h27 => ?_)
      · refine z_iconst (pc := 142) (v := (0 : Int32)) dX12_box_142 (by decide) ?_
        refine z_istore (pc := 143) (lv' := [(10, .int (0 : Int32)), (1, .int x1), (2, .int x2), (3, .int x3), (5, .int x5), (6, .int x6), (7, .int x7), (8, .int x8), (9, .int x9)]) dX12_box_143 (by decide) rfl ?_
        refine z_iload (pc := 145) 6 dX12_box_145 rfl ?_
        refine z_iload (pc := 147) 0 dX12_box_147 rfl ?_
        refine z_if_eq_t (pc := 149) (tgt := 171) dX12_box_149 (by decide) (by decide) ?_
        refine z_iconst (pc := 171) (v := (0 : Int32)) dX12_box_171 (by decide) ?_
        refine z_iadd (pc := 172) dX12_box_172 ?_
        refine z_istore (pc := 173) (lv' := [(7, .int (x7 + (0 : Int32))), (10, .int (0 : Int32)), (1, .int x1), (2, .int x2), (3, .int x3), (5, .int x5), (6, .int x6), (8, .int x8), (9, .int x9)]) dX12_box_173 (by decide) rfl ?_
        refine z_iinc (pc := 175) (v := x9 + (1 : Int32)) (lv' := [(9, .int (x9 + (1 : Int32))), (7, .int (x7 + (0 : Int32))), (10, .int (0 : Int32)), (1, .int x1), (2, .int x2), (3, .int x3), (5, .int x5), (6, .int x6), (8, .int x8)]) 8 dX12_box_175 rfl rfl (by decide) rfl ?_
        refine z_goto (pc := 178) (tgt := 95) dX12_box_178 (by decide) ?_
        refine z_lv (lv' := [(1, .int x1), (2, .int x2), (3, .int x3), (5, .int x5), (6, .int x6), (7, .int (x7 + (0 : Int32))), (8, .int x8), (9, .int (x9 + (1 : Int32)))]) [3, 4, 5, 6, 7, 1, 8, 0] rfl ?_
        exact ih x1 x2 x3 x5 x6 (x7 + (0 : Int32)) x8 (x9 + (1 : Int32)) σ
      · refine z_iload (pc := 120) 6 dX12_box_120 rfl ?_
        refine z_iload (pc := 122) 7 dX12_box_122 rfl ?_
        refine z_iadd (pc := 124) dX12_box_124 ?_
        refine z_iload_n (pc := 125) 0 dX12_box_125 rfl rfl ?_
        refine z_sipush (pc := 126) (v := (1000 : Int32)) dX12_box_126 (by decide) ?_
        refine z_irem (pc := 129) dX12_box_129 (by decide) ?_
        refine z_isub (pc := 130) dX12_box_130 ?_
        refine z_callI (pc := 131) [.int ((x8 + x9) - (x1 - x1 / (1000 : Int32) * (1000 : Int32)))] [] rfl (lk_S (Yc := YX12_plain) (n := 1) dX12_box_131 rfl np_X12_plain mh_RX12 (by decide) ml_RX12_391 st_X12_plain in_RX12 cd_X12_plain) (Nat.le_trans (by decide) hd) ⟨by decide, by decide⟩ (Nat.le_of_ble_eq_true rfl) (am_kp.rf _) (fun v28 h30 => c12_plain h30) (fun v28 h30 => ?_)
        refine z_iload_n (pc := 134) 1 dX12_box_134 rfl rfl ?_
        refine z_ic_gt (pc := 135) (tgt := 142) dX12_box_135 (by decide) (fun h31 => ?_) (fun h31 => ?_)
        · refine z_iconst (pc := 142) (v := (0 : Int32)) dX12_box_142 (by decide) ?_
          refine z_istore (pc := 143) (lv' := [(10, .int (0 : Int32)), (1, .int x1), (2, .int x2), (3, .int x3), (5, .int x5), (6, .int x6), (7, .int x7), (8, .int x8), (9, .int x9)]) dX12_box_143 (by decide) rfl ?_
          refine z_iload (pc := 145) 6 dX12_box_145 rfl ?_
          refine z_iload (pc := 147) 0 dX12_box_147 rfl ?_
          refine z_if_eq_t (pc := 149) (tgt := 171) dX12_box_149 (by decide) (by decide) ?_
          refine z_iconst (pc := 171) (v := (0 : Int32)) dX12_box_171 (by decide) ?_
          refine z_iadd (pc := 172) dX12_box_172 ?_
          refine z_istore (pc := 173) (lv' := [(7, .int (x7 + (0 : Int32))), (10, .int (0 : Int32)), (1, .int x1), (2, .int x2), (3, .int x3), (5, .int x5), (6, .int x6), (8, .int x8), (9, .int x9)]) dX12_box_173 (by decide) rfl ?_
          refine z_iinc (pc := 175) (v := x9 + (1 : Int32)) (lv' := [(9, .int (x9 + (1 : Int32))), (7, .int (x7 + (0 : Int32))), (10, .int (0 : Int32)), (1, .int x1), (2, .int x2), (3, .int x3), (5, .int x5), (6, .int x6), (8, .int x8)]) 8 dX12_box_175 rfl rfl (by decide) rfl ?_
          refine z_goto (pc := 178) (tgt := 95) dX12_box_178 (by decide) ?_
          refine z_lv (lv' := [(1, .int x1), (2, .int x2), (3, .int x3), (5, .int x5), (6, .int x6), (7, .int (x7 + (0 : Int32))), (8, .int x8), (9, .int (x9 + (1 : Int32)))]) [3, 4, 5, 6, 7, 1, 8, 0] rfl ?_
          exact ih x1 x2 x3 x5 x6 (x7 + (0 : Int32)) x8 (x9 + (1 : Int32)) σ
        · refine z_iconst (pc := 138) (v := (1 : Int32)) dX12_box_138 (by decide) ?_
          refine z_goto (pc := 139) (tgt := 143) dX12_box_139 (by decide) ?_
          refine z_istore (pc := 143) (lv' := [(10, .int (1 : Int32)), (1, .int x1), (2, .int x2), (3, .int x3), (5, .int x5), (6, .int x6), (7, .int x7), (8, .int x8), (9, .int x9)]) dX12_box_143 (by decide) rfl ?_
          refine z_iload (pc := 145) 6 dX12_box_145 rfl ?_
          refine z_iload (pc := 147) 0 dX12_box_147 rfl ?_
          refine z_if_eq_f (pc := 149) (tgt := 171) dX12_box_149 (by decide) (by decide) ?_
          refine z_iload (pc := 152) 7 dX12_box_152 rfl ?_
          refine z_iload (pc := 154) 4 dX12_box_154 rfl ?_
          refine z_imul (pc := 156) dX12_box_156 ?_
          refine z_iload (pc := 157) 8 dX12_box_157 rfl ?_
          refine z_iload (pc := 159) 5 dX12_box_159 rfl ?_
          refine z_imul (pc := 161) dX12_box_161 ?_
          refine z_iadd (pc := 162) dX12_box_162 ?_
          refine z_iload_n (pc := 163) 3 dX12_box_163 rfl rfl ?_
          refine z_ic_ne (pc := 164) (tgt := 171) dX12_box_164 (by decide) (fun h32 => ?_) (fun h32 => ?_)
          · refine z_iconst (pc := 167) (v := (1 : Int32)) dX12_box_167 (by decide) ?_
            refine z_goto (pc := 168) (tgt := 172) dX12_box_168 (by decide) ?_
            refine z_iadd (pc := 172) dX12_box_172 ?_
            refine z_istore (pc := 173) (lv' := [(7, .int (x7 + (1 : Int32))), (10, .int (1 : Int32)), (1, .int x1), (2, .int x2), (3, .int x3), (5, .int x5), (6, .int x6), (8, .int x8), (9, .int x9)]) dX12_box_173 (by decide) rfl ?_
            refine z_iinc (pc := 175) (v := x9 + (1 : Int32)) (lv' := [(9, .int (x9 + (1 : Int32))), (7, .int (x7 + (1 : Int32))), (10, .int (1 : Int32)), (1, .int x1), (2, .int x2), (3, .int x3), (5, .int x5), (6, .int x6), (8, .int x8)]) 8 dX12_box_175 rfl rfl (by decide) rfl ?_
            refine z_goto (pc := 178) (tgt := 95) dX12_box_178 (by decide) ?_
            refine z_lv (lv' := [(1, .int x1), (2, .int x2), (3, .int x3), (5, .int x5), (6, .int x6), (7, .int (x7 + (1 : Int32))), (8, .int x8), (9, .int (x9 + (1 : Int32)))]) [3, 4, 5, 6, 7, 1, 8, 0] rfl ?_
            exact ih x1 x2 x3 x5 x6 (x7 + (1 : Int32)) x8 (x9 + (1 : Int32)) σ
          · refine z_iconst (pc := 171) (v := (0 : Int32)) dX12_box_171 (by decide) ?_
            refine z_iadd (pc := 172) dX12_box_172 ?_
            refine z_istore (pc := 173) (lv' := [(7, .int (x7 + (0 : Int32))), (10, .int (1 : Int32)), (1, .int x1), (2, .int x2), (3, .int x3), (5, .int x5), (6, .int x6), (8, .int x8), (9, .int x9)]) dX12_box_173 (by decide) rfl ?_
            refine z_iinc (pc := 175) (v := x9 + (1 : Int32)) (lv' := [(9, .int (x9 + (1 : Int32))), (7, .int (x7 + (0 : Int32))), (10, .int (1 : Int32)), (1, .int x1), (2, .int x2), (3, .int x3), (5, .int x5), (6, .int x6), (8, .int x8)]) 8 dX12_box_175 rfl rfl (by decide) rfl ?_
            refine z_goto (pc := 178) (tgt := 95) dX12_box_178 (by decide) ?_
            refine z_lv (lv' := [(1, .int x1), (2, .int x2), (3, .int x3), (5, .int x5), (6, .int x6), (7, .int (x7 + (0 : Int32))), (8, .int x8), (9, .int (x9 + (1 : Int32)))]) [3, 4, 5, 6, 7, 1, 8, 0] rfl ?_
            exact ih x1 x2 x3 x5 x6 (x7 + (0 : Int32)) x8 (x9 + (1 : Int32)) σ
def f12_box_L85 (N : Nat) : Nat → Int32 → Int32 → Int32 → Int32 → Int32 → Int32 → Int32 → am_S → Option (Int32 × am_S)
  | 0, _, _, _, _, _, _, _, _ => none
  | n + 1, x1, x2, x3, x5, x6, x7, x8, σ => if (100 : Int32) ≤ x8 then (some (x7, σ)) else (f12_box_L95 (f12_box_L85 N n) N N x1 x2 x3 x5 x6 x7 x8 (0 : Int32) σ)
theorem z12_box_L85 {l : Launch} {E : am_E} {d : Nat} {σ0 : am_S} {N : Nat} (hd : 107 ≤ d) : ∀ (n : Nat) (x1 : Int32) (x2 : Int32) (x3 : Int32) (x5 : Int32) (x6 : Int32) (x7 : Int32) (x8 : Int32) (σ : am_S), Z l E msM σ0 YX12_box d 0 0 85 [(1, .int x1), (2, .int x2), (3, .int x3), (5, .int x5), (6, .int x6), (7, .int x7), (8, .int x8)] [] 0 0 σ (f12_box_L85 N n x1 x2 x3 x5 x6 x7 x8 σ) (fun u r s => r = some (.int u.1) ∧ s = u.2) := by
  intro n
  induction n with
  | zero => intros; exact z_none
  | succ n ih =>
    intro x1 x2 x3 x5 x6 x7 x8 σ
    unfold f12_box_L85
    refine z_iload (pc := 85) 6 dX12_box_85 rfl ?_
    refine z_bipush (pc := 87) (v := (100 : Int32)) dX12_box_87 (by decide) ?_
    refine z_ic_ge (pc := 89) (tgt := 187) dX12_box_89 (by decide) (fun h22 => ?_) (fun h22 => ?_)
    · refine z_iload (pc := 187) 5 dX12_box_187 rfl ?_
      exact z_rIs dX12_box_189 rfl ⟨by decide, by decide⟩
    · refine z_iconst (pc := 92) (v := (0 : Int32)) dX12_box_92 (by decide) ?_
      refine z_istore (pc := 93) (lv' := [(9, .int (0 : Int32)), (1, .int x1), (2, .int x2), (3, .int x3), (5, .int x5), (6, .int x6), (7, .int x7), (8, .int x8)]) dX12_box_93 (by decide) rfl ?_
      refine z_lv (lv' := [(1, .int x1), (2, .int x2), (3, .int x3), (5, .int x5), (6, .int x6), (7, .int x7), (8, .int x8), (9, .int (0 : Int32))]) [1, 2, 3, 4, 5, 6, 7, 0] rfl ?_
      exact z12_box_L95 hd (fun x1 x2 x3 x5 x6 x7 x8 σ => ih x1 x2 x3 x5 x6 x7 x8 σ) N x1 x2 x3 x5 x6 x7 x8 (0 : Int32) σ
def f12_box (N : Nat) (σ : am_S) (x1 : Int32) (x2 : Int32) (x3 : Int32) (x4 : Int32) : Option (Int32 × am_S) := if x1 < 0 then (some ((-2 : Int32), σ)) else (if (198 : Int32) < x1 / (1000 : Int32) then (some ((-2 : Int32), σ)) else (if (198 : Int32) < x1 - x1 / (1000 : Int32) * (1000 : Int32) then (some ((-2 : Int32), σ)) else ((f12_in x2.toInt64 (0 : Int64) (9 : Int64)).bind fun v4 => (if v4 = true then ((f12_in x3.toInt64 (0 : Int64) (99999 : Int64)).bind fun v8 => (if v8 = true then ((f12_isHour x4).bind fun v12 => (if v12 = true then ((f12_priceOf N σ (1 : Int32) x4).bind fun (v16, s17) => ((f12_priceOf N s17 (0 : Int32) x4).bind fun (v19, s20) => (f12_box_L85 N N x1 x2 x3 v16 v19 (0 : Int32) (0 : Int32) s20))) else (some ((-2 : Int32), σ)))) else (some ((-2 : Int32), σ)))) else (some ((-2 : Int32), σ))))))
theorem c12_box {l : Launch} {E : am_E} {N : Nat} {σ : am_S} {x1 : Int32} {x2 : Int32} {x3 : Int32} {x4 : Int32} {v : Int32} {σ1 : am_S} (hf : f12_box N σ x1 x2 x3 x4 = some (v, σ1)) : Ctr l E msM YX12_box (107) 0 0 [.ref 36, .int x1, .int x2, .int x3, .int x4] σ (some (.int v)) σ1 := by
  refine ctr_of (G := fun u r s => r = some (.int u.1) ∧ s = u.2) (by decide +kernel) (Nat.le_of_ble_eq_true rfl) hf ⟨rfl, rfl⟩ (fun d hd => ?_)
  refine z_eqlv (lv' := [(0, .ref 36), (1, .int x1), (2, .int x2), (3, .int x3), (4, .int x4)]) rfl ?_
  unfold f12_box
  refine z_iload_n (pc := 0) 1 dX12_box_0 rfl rfl ?_
  refine z_if_lt (pc := 1) (tgt := 58) dX12_box_1 (by decide) (fun h1 => ?_) (fun h1 => ?_)
  · refine z_bipush (pc := 58) (v := (-2 : Int32)) dX12_box_58 (by decide) ?_
    exact z_rIs dX12_box_60 rfl ⟨by decide, by decide⟩
  · refine z_iload_n (pc := 4) 1 dX12_box_4 rfl rfl ?_
    refine z_sipush (pc := 5) (v := (1000 : Int32)) dX12_box_5 (by decide) ?_
    refine z_idiv (pc := 8) dX12_box_8 (by decide) ?_
    refine z_sipush (pc := 9) (v := (198 : Int32)) dX12_box_9 (by decide) ?_
    refine z_ic_gt (pc := 12) (tgt := 58) dX12_box_12 (by decide) (fun h2 => ?_) (fun h2 => ?_)
    · refine z_bipush (pc := 58) (v := (-2 : Int32)) dX12_box_58 (by decide) ?_
      exact z_rIs dX12_box_60 rfl ⟨by decide, by decide⟩
    · refine z_iload_n (pc := 15) 1 dX12_box_15 rfl rfl ?_
      refine z_sipush (pc := 16) (v := (1000 : Int32)) dX12_box_16 (by decide) ?_
      refine z_irem (pc := 19) dX12_box_19 (by decide) ?_
      refine z_sipush (pc := 20) (v := (198 : Int32)) dX12_box_20 (by decide) ?_
      refine z_ic_gt (pc := 23) (tgt := 58) dX12_box_23 (by decide) (fun h3 => ?_) (fun h3 => ?_)
      · refine z_bipush (pc := 58) (v := (-2 : Int32)) dX12_box_58 (by decide) ?_
        exact z_rIs dX12_box_60 rfl ⟨by decide, by decide⟩
      · refine z_iload_n (pc := 26) 2 dX12_box_26 rfl rfl ?_
        refine z_i2l (pc := 27) dX12_box_27 ?_
        refine z_lconst (pc := 28) (v := (0 : Int64)) dX12_box_28 (by decide) ?_
        refine z_ldc2 (pc := 29) (v := (9 : Int64)) dX12_box_29 kl_RX12_151 ?_
        refine z_callB (pc := 32) [.long x2.toInt64, .long (0 : Int64), .long (9 : Int64)] [] rfl (lk_S (Yc := YX12_in) (n := 3) dX12_box_32 rfl np_X12_in mh_RX12 (by decide) ml_RX12_134 st_X12_in in_RX12 cd_X12_in) (Nat.le_trans (by decide) hd) ⟨by decide, by decide⟩ (Nat.le_of_ble_eq_true rfl) (am_kp.rf _) (fun v4 h6 => c12_in h6) (fun v4 h6 => ?_)
        refine z_bz_eq (pc := 35) (tgt := 58) dX12_box_35 (by decide) (fun h7 => ?_) (fun h7 => ?_)
        · refine z_iload_n (pc := 38) 3 dX12_box_38 rfl rfl ?_
          refine z_i2l (pc := 39) dX12_box_39 ?_
          refine z_lconst (pc := 40) (v := (0 : Int64)) dX12_box_40 (by decide) ?_
          refine z_ldc2 (pc := 41) (v := (99999 : Int64)) dX12_box_41 kl_RX12_397 ?_
          refine z_callB (pc := 44) [.long x3.toInt64, .long (0 : Int64), .long (99999 : Int64)] [] rfl (lk_S (Yc := YX12_in) (n := 3) dX12_box_44 rfl np_X12_in mh_RX12 (by decide) ml_RX12_134 st_X12_in in_RX12 cd_X12_in) (Nat.le_trans (by decide) hd) ⟨by decide, by decide⟩ (Nat.le_of_ble_eq_true rfl) (am_kp.rf _) (fun v8 h10 => c12_in h10) (fun v8 h10 => ?_)
          refine z_bz_eq (pc := 47) (tgt := 58) dX12_box_47 (by decide) (fun h11 => ?_) (fun h11 => ?_)
          · refine z_iload (pc := 50) 4 dX12_box_50 rfl ?_
            refine z_callB (pc := 52) [.int x4] [] rfl (lk_S (Yc := YX12_isHour) (n := 1) dX12_box_52 rfl np_X12_isHour mh_RX12 (by decide) ml_RX12_179 st_X12_isHour in_RX12 cd_X12_isHour) (Nat.le_trans (by decide) hd) ⟨by decide, by decide⟩ (Nat.le_of_ble_eq_true rfl) (am_kp.rf _) (fun v12 h14 => c12_isHour h14) (fun v12 h14 => ?_)
            refine z_bz_ne (pc := 55) (tgt := 61) dX12_box_55 (by decide) (fun h15 => ?_) (fun h15 => ?_)
            · refine z_aload_n (pc := 61) 0 dX12_box_61 rfl rfl ?_
              refine z_iconst (pc := 62) (v := (1 : Int32)) dX12_box_62 (by decide) ?_
              refine z_iload (pc := 63) 4 dX12_box_63 rfl ?_
              refine z_callIs (pc := 65) [.ref 36, .int (1 : Int32), .int x4] [] rfl (lk_V (Yc := YX12_priceOf) (n := 2) dX12_box_65 rfl rfl (am_ob.s kM36) rfl rfl np_X12_priceOf mh_RX12 (by decide) ml_RX12_399 im_X12_priceOf se_RX12_X12_priceOf_X12_priceOf in_RX12 cd_X12_priceOf) (Nat.le_trans (by decide) hd) ⟨by decide, by decide⟩ (Nat.le_of_ble_eq_true rfl) (am_kp.rf _) (fun v16 s17 h18 => c12_priceOf h18) (fun v16 s17 h18 => ?_)
              refine z_istore (pc := 68) (lv' := [(5, .int v16), (0, .ref 36), (1, .int x1), (2, .int x2), (3, .int x3), (4, .int x4)]) dX12_box_68 (by decide) rfl ?_
              refine z_aload_n (pc := 70) 1 dX12_box_70 rfl rfl ?_
              refine z_iconst (pc := 71) (v := (0 : Int32)) dX12_box_71 (by decide) ?_
              refine z_iload (pc := 72) 5 dX12_box_72 rfl ?_
              refine z_callIs (pc := 74) [.ref 36, .int (0 : Int32), .int x4] [] rfl (lk_V (Yc := YX12_priceOf) (n := 2) dX12_box_74 rfl rfl (am_ob.s kM36) rfl rfl np_X12_priceOf mh_RX12 (by decide) ml_RX12_399 im_X12_priceOf se_RX12_X12_priceOf_X12_priceOf in_RX12 cd_X12_priceOf) (Nat.le_trans (by decide) hd) ⟨by decide, by decide⟩ (Nat.le_of_ble_eq_true rfl) (am_kp.rf _) (fun v19 s20 h21 => c12_priceOf h21) (fun v19 s20 h21 => ?_)
              refine z_istore (pc := 77) (lv' := [(6, .int v19), (5, .int v16), (0, .ref 36), (1, .int x1), (2, .int x2), (3, .int x3), (4, .int x4)]) dX12_box_77 (by decide) rfl ?_
              refine z_iconst (pc := 79) (v := (0 : Int32)) dX12_box_79 (by decide) ?_
              refine z_istore (pc := 80) (lv' := [(7, .int (0 : Int32)), (6, .int v19), (5, .int v16), (0, .ref 36), (1, .int x1), (2, .int x2), (3, .int x3), (4, .int x4)]) dX12_box_80 (by decide) rfl ?_
              refine z_iconst (pc := 82) (v := (0 : Int32)) dX12_box_82 (by decide) ?_
              refine z_istore (pc := 83) (lv' := [(8, .int (0 : Int32)), (7, .int (0 : Int32)), (6, .int v19), (5, .int v16), (0, .ref 36), (1, .int x1), (2, .int x2), (3, .int x3), (4, .int x4)]) dX12_box_83 (by decide) rfl ?_
              refine z_lv (lv' := [(1, .int x1), (2, .int x2), (3, .int x3), (5, .int v16), (6, .int v19), (7, .int (0 : Int32)), (8, .int (0 : Int32))]) [5, 6, 7, 3, 2, 1, 0] rfl ?_
              exact z12_box_L85 hd N x1 x2 x3 v16 v19 (0 : Int32) (0 : Int32) s20
            · refine z_bipush (pc := 58) (v := (-2 : Int32)) dX12_box_58 (by decide) ?_
              exact z_rIs dX12_box_60 rfl ⟨by decide, by decide⟩
          · refine z_bipush (pc := 58) (v := (-2 : Int32)) dX12_box_58 (by decide) ?_
            exact z_rIs dX12_box_60 rfl ⟨by decide, by decide⟩
        · refine z_bipush (pc := 58) (v := (-2 : Int32)) dX12_box_58 (by decide) ?_
          exact z_rIs dX12_box_60 rfl ⟨by decide, by decide⟩
def f12_isCrossing (σ : am_S) (x1 : Int32) : Option Bool := (f12_in x1.toInt64 (0 : Int64) (((fF σ 36 11) - (1 : Int32)).toInt64)).bind fun v1 => (some (v1))
theorem c12_isCrossing {l : Launch} {E : am_E} {σ : am_S} {x1 : Int32} {v : Bool} (hf : f12_isCrossing σ x1 = some v) : Ctr l E msM YX12_isCrossing (1) 0 0 [.ref 36, .int x1] σ (some (.int (bI v))) σ := by
  refine ctr_of (G := fun u r s => r = some (.int (bI u)) ∧ s = σ) (by decide +kernel) (Nat.le_of_ble_eq_true rfl) hf ⟨rfl, rfl⟩ (fun d hd => ?_)
  refine z_eqlv (lv' := [(0, .ref 36), (1, .int x1)]) rfl ?_
  unfold f12_isCrossing
  refine z_iload_n (pc := 0) 1 dX12_isCrossing_0 rfl rfl ?_
  refine z_i2l (pc := 1) dX12_isCrossing_1 ?_
  refine z_lconst (pc := 2) (v := (0 : Int64)) dX12_isCrossing_2 (by decide) ?_
  refine z_aload_n (pc := 3) 0 dX12_isCrossing_3 rfl rfl ?_
  refine z_getI (pc := 4) dX12_isCrossing_4 (am_ob.s kM36) fr_RX12_131_12 (by decide) ?_
  refine z_iconst (pc := 7) (v := (1 : Int32)) dX12_isCrossing_7 (by decide) ?_
  refine z_isub (pc := 8) dX12_isCrossing_8 ?_
  refine z_i2l (pc := 9) dX12_isCrossing_9 ?_
  refine z_callB (pc := 10) [.long x1.toInt64, .long (0 : Int64), .long (((fF σ 36 11) - (1 : Int32)).toInt64)] [] rfl (lk_S (Yc := YX12_in) (n := 3) dX12_isCrossing_10 rfl np_X12_in mh_RX12 (by decide) ml_RX12_134 st_X12_in in_RX12 cd_X12_in) (Nat.le_trans (by decide) hd) ⟨by decide, by decide⟩ (Nat.le_of_ble_eq_true rfl) (am_kp.rf _) (fun v1 h3 => c12_in h3) (fun v1 h3 => ?_)
  exact z_rB (b := v1) rfl dX12_isCrossing_13 rfl ⟨by decide, by decide⟩
def f12_bridge (σ : am_S) (x1 : Int32) (x2 : Int32) : Option Int32 := (f12_isCrossing σ x1).bind fun v1 => (if v1 = true then ((f12_in x2.toInt64 (0 : Int64) (100 : Int64)).bind fun v5 => (if v5 = true then (if am_in x1 7 = true then (some (((fF σ 43 x1.toNatClampNeg) * ((100 : Int32) - x2)) / (100 : Int32))) else none) else (some ((-2 : Int32))))) else (some ((-2 : Int32))))
theorem c12_bridge {l : Launch} {E : am_E} {σ : am_S} {x1 : Int32} {x2 : Int32} {v : Int32} (hf : f12_bridge σ x1 x2 = some v) : Ctr l E msM YX12_bridge (2) 0 0 [.ref 36, .int x1, .int x2] σ (some (.int v)) σ := by
  refine ctr_of (G := fun u r s => r = some (.int u) ∧ s = σ) (by decide +kernel) (Nat.le_of_ble_eq_true rfl) hf ⟨rfl, rfl⟩ (fun d hd => ?_)
  refine z_eqlv (lv' := [(0, .ref 36), (1, .int x1), (2, .int x2)]) rfl ?_
  unfold f12_bridge
  refine z_aload_n (pc := 0) 0 dX12_bridge_0 rfl rfl ?_
  refine z_iload_n (pc := 1) 1 dX12_bridge_1 rfl rfl ?_
  refine z_callB (pc := 2) [.ref 36, .int x1] [] rfl (lk_V (Yc := YX12_isCrossing) (n := 1) dX12_bridge_2 rfl rfl (am_ob.s kM36) rfl rfl np_X12_isCrossing mh_RX12 (by decide) ml_RX12_159 im_X12_isCrossing se_RX12_X12_isCrossing_X12_isCrossing in_RX12 cd_X12_isCrossing) (Nat.le_trans (by decide) hd) ⟨by decide, by decide⟩ (Nat.le_of_ble_eq_true rfl) (am_kp.rf _) (fun v1 h3 => c12_isCrossing h3) (fun v1 h3 => ?_)
  refine z_bz_eq (pc := 5) (tgt := 37) dX12_bridge_5 (by decide) (fun h4 => ?_) (fun h4 => ?_)
  · refine z_iload_n (pc := 8) 2 dX12_bridge_8 rfl rfl ?_
    refine z_i2l (pc := 9) dX12_bridge_9 ?_
    refine z_lconst (pc := 10) (v := (0 : Int64)) dX12_bridge_10 (by decide) ?_
    refine z_ldc2 (pc := 11) (v := (100 : Int64)) dX12_bridge_11 kl_RX12_402 ?_
    refine z_callB (pc := 14) [.long x2.toInt64, .long (0 : Int64), .long (100 : Int64)] [] rfl (lk_S (Yc := YX12_in) (n := 3) dX12_bridge_14 rfl np_X12_in mh_RX12 (by decide) ml_RX12_134 st_X12_in in_RX12 cd_X12_in) (Nat.le_trans (by decide) hd) ⟨by decide, by decide⟩ (Nat.le_of_ble_eq_true rfl) (am_kp.rf _) (fun v5 h7 => c12_in h7) (fun v5 h7 => ?_)
    refine z_bz_eq (pc := 17) (tgt := 37) dX12_bridge_17 (by decide) (fun h8 => ?_) (fun h8 => ?_)
    · refine z_aload_n (pc := 20) 0 dX12_bridge_20 rfl rfl ?_
      refine z_getQ (pc := 21) (b := 43) dX12_bridge_21 kM36 fr_RX12_32_12 (by decide) rfl ?_
      refine z_iload_n (pc := 24) 1 dX12_bridge_24 rfl rfl ?_
      refine z_iald (pc := 25) dX12_bridge_25 (am_ar.s kM43) (fun h9 => ?_)
      refine z_bipush (pc := 26) (v := (100 : Int32)) dX12_bridge_26 (by decide) ?_
      refine z_iload_n (pc := 28) 2 dX12_bridge_28 rfl rfl ?_
      refine z_isub (pc := 29) dX12_bridge_29 ?_
      refine z_imul (pc := 30) dX12_bridge_30 ?_
      refine z_bipush (pc := 31) (v := (100 : Int32)) dX12_bridge_31 (by decide) ?_
      refine z_idiv (pc := 33) dX12_bridge_33 (by decide) ?_
      refine z_goto (pc := 34) (tgt := 39) dX12_bridge_34 (by decide) ?_
      exact z_rI dX12_bridge_39 rfl ⟨by decide, by decide⟩
    · refine z_bipush (pc := 37) (v := (-2 : Int32)) dX12_bridge_37 (by decide) ?_
      exact z_rI dX12_bridge_39 rfl ⟨by decide, by decide⟩
  · refine z_bipush (pc := 37) (v := (-2 : Int32)) dX12_bridge_37 (by decide) ?_
    exact z_rI dX12_bridge_39 rfl ⟨by decide, by decide⟩
def f12_isSheet (x0 : Int32) : Option Bool := (f12_in x0.toInt64 (0 : Int64) (3 : Int64)).bind fun v1 => (some (v1))
theorem c12_isSheet {l : Launch} {E : am_E} {σ : am_S} {x0 : Int32} {v : Bool} (hf : f12_isSheet x0 = some v) : Ctr l E msM YX12_isSheet (1) 0 0 [.int x0] σ (some (.int (bI v))) σ := by
  refine ctr_of (G := fun u r s => r = some (.int (bI u)) ∧ s = σ) (by decide +kernel) (Nat.le_of_ble_eq_true rfl) hf ⟨rfl, rfl⟩ (fun d hd => ?_)
  refine z_eqlv (lv' := [(0, .int x0)]) rfl ?_
  unfold f12_isSheet
  refine z_iload_n (pc := 0) 0 dX12_isSheet_0 rfl rfl ?_
  refine z_i2l (pc := 1) dX12_isSheet_1 ?_
  refine z_lconst (pc := 2) (v := (0 : Int64)) dX12_isSheet_2 (by decide) ?_
  refine z_ldc2 (pc := 3) (v := (3 : Int64)) dX12_isSheet_3 kl_RX12_374 ?_
  refine z_callB (pc := 6) [.long x0.toInt64, .long (0 : Int64), .long (3 : Int64)] [] rfl (lk_S (Yc := YX12_in) (n := 3) dX12_isSheet_6 rfl np_X12_in mh_RX12 (by decide) ml_RX12_134 st_X12_in in_RX12 cd_X12_in) (Nat.le_trans (by decide) hd) ⟨by decide, by decide⟩ (Nat.le_of_ble_eq_true rfl) (am_kp.rf _) (fun v1 h3 => c12_in h3) (fun v1 h3 => ?_)
  exact z_rB (b := v1) rfl dX12_isSheet_9 rfl ⟨by decide, by decide⟩
def f12_cell (σ : am_S) (x1 : Int32) (x2 : Int32) (x3 : Int32) : Option (Int32 × am_S) := (f12_isSheet x1).bind fun v1 => (if v1 = true then (if am_in x1 4 = true then (if fF σ 64 x1.toNatClampNeg = 0 then (some ((-11 : Int32), σ)) else (if am_in x1 4 = true then ((f12_in x2.toInt64 (0 : Int64) (((fF σ 66 x1.toNatClampNeg) - (1 : Int32)).toInt64)).bind fun v8 => (if v8 = true then (if am_in x1 4 = true then (if fF σ 65 x1.toNatClampNeg = 0 then (if am_in (((40 : Int32) * x1) + x2) 160 = true then (some ((1 : Int32), sF σ 67 (((40 : Int32) * x1) + x2).toNatClampNeg x3.toInt8.toInt32)) else none) else (if am_in x1 4 = true then (if fF σ 65 x1.toNatClampNeg = (1 : Int32) then (if am_in (((40 : Int32) * x1) + x2) 160 = true then (some ((1 : Int32), sF σ 67 (((40 : Int32) * x1) + x2).toNatClampNeg x3.toInt16.toInt32)) else none) else (if am_in (((40 : Int32) * x1) + x2) 160 = true then (some ((1 : Int32), sF σ 67 (((40 : Int32) * x1) + x2).toNatClampNeg x3)) else none)) else none)) else none) else (some ((-12 : Int32), σ)))) else none)) else none) else (some ((-2 : Int32), σ)))
theorem c12_cell {l : Launch} {E : am_E} {σ : am_S} {x1 : Int32} {x2 : Int32} {x3 : Int32} {v : Int32} {σ1 : am_S} (hf : f12_cell σ x1 x2 x3 = some (v, σ1)) : Ctr l E msM YX12_cell (2) 0 0 [.ref 36, .int x1, .int x2, .int x3] σ (some (.int v)) σ1 := by
  refine ctr_of (G := fun u r s => r = some (.int u.1) ∧ s = u.2) (by decide +kernel) (Nat.le_of_ble_eq_true rfl) hf ⟨rfl, rfl⟩ (fun d hd => ?_)
  refine z_eqlv (lv' := [(0, .ref 36), (1, .int x1), (2, .int x2), (3, .int x3)]) rfl ?_
  unfold f12_cell
  refine z_iload_n (pc := 0) 1 dX12_cell_0 rfl rfl ?_
  refine z_callB (pc := 1) [.int x1] [] rfl (lk_S (Yc := YX12_isSheet) (n := 1) dX12_cell_1 rfl np_X12_isSheet mh_RX12 (by decide) ml_RX12_346 st_X12_isSheet in_RX12 cd_X12_isSheet) (Nat.le_trans (by decide) hd) ⟨by decide, by decide⟩ (Nat.le_of_ble_eq_true rfl) (am_kp.rf _) (fun v1 h3 => c12_isSheet h3) (fun v1 h3 => ?_)
  refine z_bz_ne (pc := 4) (tgt := 10) dX12_cell_4 (by decide) (fun h4 => ?_) (fun h4 => ?_)
  · refine z_aload_n (pc := 10) 0 dX12_cell_10 rfl rfl ?_
    refine z_getQ (pc := 11) (b := 64) dX12_cell_11 kM36 fr_RX12_95_12 (by decide) rfl ?_
    refine z_iload_n (pc := 14) 1 dX12_cell_14 rfl rfl ?_
    refine z_zald (pc := 15) dX12_cell_15 (am_ar.s kM64) (fun h5 => ?_)
    refine z_if_ne (pc := 16) (tgt := 22) dX12_cell_16 (by decide) (fun h6 => ?_) (fun h6 => ?_)
    · refine z_bipush (pc := 19) (v := (-11 : Int32)) dX12_cell_19 (by decide) ?_
      exact z_rIs dX12_cell_21 rfl ⟨by decide, by decide⟩
    · refine z_iload_n (pc := 22) 2 dX12_cell_22 rfl rfl ?_
      refine z_i2l (pc := 23) dX12_cell_23 ?_
      refine z_lconst (pc := 24) (v := (0 : Int64)) dX12_cell_24 (by decide) ?_
      refine z_aload_n (pc := 25) 0 dX12_cell_25 rfl rfl ?_
      refine z_getQ (pc := 26) (b := 66) dX12_cell_26 kM36 fr_RX12_102_12 (by decide) rfl ?_
      refine z_iload_n (pc := 29) 1 dX12_cell_29 rfl rfl ?_
      refine z_iald (pc := 30) dX12_cell_30 (am_ar.s kM66) (fun h7 => ?_)
      refine z_iconst (pc := 31) (v := (1 : Int32)) dX12_cell_31 (by decide) ?_
      refine z_isub (pc := 32) dX12_cell_32 ?_
      refine z_i2l (pc := 33) dX12_cell_33 ?_
      refine z_callB (pc := 34) [.long x2.toInt64, .long (0 : Int64), .long (((fF σ 66 x1.toNatClampNeg) - (1 : Int32)).toInt64)] [] rfl (lk_S (Yc := YX12_in) (n := 3) dX12_cell_34 rfl np_X12_in mh_RX12 (by decide) ml_RX12_134 st_X12_in in_RX12 cd_X12_in) (Nat.le_trans (by decide) hd) ⟨by decide, by decide⟩ (Nat.le_of_ble_eq_true rfl) (am_kp.rf _) (fun v8 h10 => c12_in h10) (fun v8 h10 => ?_)
      refine z_bz_ne (pc := 37) (tgt := 43) dX12_cell_37 (by decide) (fun h11 => ?_) (fun h11 => ?_)
      · refine z_aload_n (pc := 43) 0 dX12_cell_43 rfl rfl ?_
        refine z_getQ (pc := 44) (b := 67) dX12_cell_44 kM36 fr_RX12_105_12 (by decide) rfl ?_
        refine z_bipush (pc := 47) (v := (40 : Int32)) dX12_cell_47 (by decide) ?_
        refine z_iload_n (pc := 49) 1 dX12_cell_49 rfl rfl ?_
        refine z_imul (pc := 50) dX12_cell_50 ?_
        refine z_iload_n (pc := 51) 2 dX12_cell_51 rfl rfl ?_
        refine z_iadd (pc := 52) dX12_cell_52 ?_
        refine z_aload_n (pc := 53) 0 dX12_cell_53 rfl rfl ?_
        refine z_getQ (pc := 54) (b := 65) dX12_cell_54 kM36 fr_RX12_99_12 (by decide) rfl ?_
        refine z_iload_n (pc := 57) 1 dX12_cell_57 rfl rfl ?_
        refine z_iald (pc := 58) dX12_cell_58 (am_ar.s kM65) (fun h12 => ?_)
        refine z_if_ne (pc := 59) (tgt := 67) dX12_cell_59 (by decide) (fun h13 => ?_) (fun h13 => ?_)
        · refine z_iload_n (pc := 62) 3 dX12_cell_62 rfl rfl ?_
          refine z_i2b (pc := 63) dX12_cell_63 ?_
          refine z_goto (pc := 64) (tgt := 83) dX12_cell_64 (by decide) ?_
          refine z_iast (pc := 83) dX12_cell_83 (am_ar.s kM67) (fun h14 => ?_)
          refine z_iconst (pc := 84) (v := (1 : Int32)) dX12_cell_84 (by decide) ?_
          exact z_rIs dX12_cell_85 rfl ⟨by decide, by decide⟩
        · refine z_aload_n (pc := 67) 0 dX12_cell_67 rfl rfl ?_
          refine z_getQ (pc := 68) (b := 65) dX12_cell_68 kM36 fr_RX12_99_12 (by decide) rfl ?_
          refine z_iload_n (pc := 71) 1 dX12_cell_71 rfl rfl ?_
          refine z_iald (pc := 72) dX12_cell_72 (am_ar.s kM65) (fun h15 => ?_)
          refine z_iconst (pc := 73) (v := (1 : Int32)) dX12_cell_73 (by decide) ?_
          refine z_ic_ne (pc := 74) (tgt := 82) dX12_cell_74 (by decide) (fun h16 => ?_) (fun h16 => ?_)
          · refine z_iload_n (pc := 77) 3 dX12_cell_77 rfl rfl ?_
            refine z_i2s (pc := 78) dX12_cell_78 ?_
            refine z_goto (pc := 79) (tgt := 83) dX12_cell_79 (by decide) ?_
            refine z_iast (pc := 83) dX12_cell_83 (am_ar.s kM67) (fun h17 => ?_)
            refine z_iconst (pc := 84) (v := (1 : Int32)) dX12_cell_84 (by decide) ?_
            exact z_rIs dX12_cell_85 rfl ⟨by decide, by decide⟩
          · refine z_iload_n (pc := 82) 3 dX12_cell_82 rfl rfl ?_
            refine z_iast (pc := 83) dX12_cell_83 (am_ar.s kM67) (fun h18 => ?_)
            refine z_iconst (pc := 84) (v := (1 : Int32)) dX12_cell_84 (by decide) ?_
            exact z_rIs dX12_cell_85 rfl ⟨by decide, by decide⟩
      · refine z_bipush (pc := 40) (v := (-12 : Int32)) dX12_cell_40 (by decide) ?_
        exact z_rIs dX12_cell_42 rfl ⟨by decide, by decide⟩
  · refine z_bipush (pc := 7) (v := (-2 : Int32)) dX12_cell_7 (by decide) ?_
    exact z_rIs dX12_cell_9 rfl ⟨by decide, by decide⟩
def f12_copy_L121 (N : Nat) : Nat → Int32 → Int32 → Int32 → Int32 → Int32 → Int32 → Int32 → am_S → Option (Int32 × am_S)
  | 0, _, _, _, _, _, _, _, _ => none
  | n + 1, x1, x2, x3, x4, x5, x6, x7, σ => if x5 ≤ x7 then (some (x5, σ)) else (if x6 = 0 then (if am_in ((((40 : Int32) * x1) + x2) + x7) 160 = true then (if am_in ((((40 : Int32) * x3) + x4) + x7) 160 = true then (f12_copy_L121 N n x1 x2 x3 x4 x5 x6 (x7 + (1 : Int32)) (sF σ 67 ((((40 : Int32) * x3) + x4) + x7).toNatClampNeg (fF σ 67 ((((40 : Int32) * x1) + x2) + x7).toNatClampNeg))) else none) else none) else (if am_in ((((40 : Int32) * x1) + x2) + ((x5 - (1 : Int32)) - x7)) 160 = true then (if am_in ((((40 : Int32) * x3) + x4) + ((x5 - (1 : Int32)) - x7)) 160 = true then (f12_copy_L121 N n x1 x2 x3 x4 x5 x6 (x7 + (1 : Int32)) (sF σ 67 ((((40 : Int32) * x3) + x4) + ((x5 - (1 : Int32)) - x7)).toNatClampNeg (fF σ 67 ((((40 : Int32) * x1) + x2) + ((x5 - (1 : Int32)) - x7)).toNatClampNeg))) else none) else none))
theorem z12_copy_L121 {l : Launch} {E : am_E} {d : Nat} {σ0 : am_S} {N : Nat} (hd : 2 ≤ d) : ∀ (n : Nat) (x1 : Int32) (x2 : Int32) (x3 : Int32) (x4 : Int32) (x5 : Int32) (x6 : Int32) (x7 : Int32) (σ : am_S), Z l E msM σ0 YX12_copy d 0 0 121 [(0, .ref 36), (1, .int x1), (2, .int x2), (3, .int x3), (4, .int x4), (5, .int x5), (6, .int x6), (7, .int x7)] [] 0 0 σ (f12_copy_L121 N n x1 x2 x3 x4 x5 x6 x7 σ) (fun u r s => r = some (.int u.1) ∧ s = u.2) := by
  intro n
  induction n with
  | zero => intros; exact z_none
  | succ n ih =>
    intro x1 x2 x3 x4 x5 x6 x7 σ
    unfold f12_copy_L121
    refine z_iload (pc := 121) 7 dX12_copy_121 rfl ?_
    refine z_iload (pc := 123) 5 dX12_copy_123 rfl ?_
    refine z_ic_ge (pc := 125) (tgt := 182) dX12_copy_125 (by decide) (fun h25 => ?_) (fun h25 => ?_)
    · refine z_iload (pc := 182) 5 dX12_copy_182 rfl ?_
      exact z_rIs dX12_copy_184 rfl ⟨by decide, by decide⟩
    · refine z_iload (pc := 128) 6 dX12_copy_128 rfl ?_
      refine z_if_eq (pc := 130) (tgt := 143) dX12_copy_130 (by decide) (fun h26 => ?_) (fun h26 => ?_)
      · refine z_iload (pc := 143) 7 dX12_copy_143 rfl ?_
        refine z_istore (pc := 145) (lv' := [(8, .int x7), (0, .ref 36), (1, .int x1), (2, .int x2), (3, .int x3), (4, .int x4), (5, .int x5), (6, .int x6), (7, .int x7)]) dX12_copy_145 (by decide) rfl ?_
        refine z_aload_n (pc := 147) 1 dX12_copy_147 rfl rfl ?_
        refine z_getQ (pc := 148) (b := 67) dX12_copy_148 kM36 fr_RX12_105_12 (by decide) rfl ?_
        refine z_bipush (pc := 151) (v := (40 : Int32)) dX12_copy_151 (by decide) ?_
        refine z_iload_n (pc := 153) 4 dX12_copy_153 rfl rfl ?_
        refine z_imul (pc := 154) dX12_copy_154 ?_
        refine z_iload (pc := 155) 5 dX12_copy_155 rfl ?_
        refine z_iadd (pc := 157) dX12_copy_157 ?_
        refine z_iload (pc := 158) 0 dX12_copy_158 rfl ?_
        refine z_iadd (pc := 160) dX12_copy_160 ?_
        refine z_aload_n (pc := 161) 1 dX12_copy_161 rfl rfl ?_
        refine z_getQ (pc := 162) (b := 67) dX12_copy_162 kM36 fr_RX12_105_12 (by decide) rfl ?_
        refine z_bipush (pc := 165) (v := (40 : Int32)) dX12_copy_165 (by decide) ?_
        refine z_iload_n (pc := 167) 2 dX12_copy_167 rfl rfl ?_
        refine z_imul (pc := 168) dX12_copy_168 ?_
        refine z_iload_n (pc := 169) 3 dX12_copy_169 rfl rfl ?_
        refine z_iadd (pc := 170) dX12_copy_170 ?_
        refine z_iload (pc := 171) 0 dX12_copy_171 rfl ?_
        refine z_iadd (pc := 173) dX12_copy_173 ?_
        refine z_iald (pc := 174) dX12_copy_174 (am_ar.s kM67) (fun h27 => ?_)
        refine z_iast (pc := 175) dX12_copy_175 (am_ar.s kM67) (fun h28 => ?_)
        refine z_iinc (pc := 176) (v := x7 + (1 : Int32)) (lv' := [(7, .int (x7 + (1 : Int32))), (8, .int x7), (0, .ref 36), (1, .int x1), (2, .int x2), (3, .int x3), (4, .int x4), (5, .int x5), (6, .int x6)]) 8 dX12_copy_176 rfl rfl (by decide) rfl ?_
        refine z_goto (pc := 179) (tgt := 121) dX12_copy_179 (by decide) ?_
        refine z_lv (lv' := [(0, .ref 36), (1, .int x1), (2, .int x2), (3, .int x3), (4, .int x4), (5, .int x5), (6, .int x6), (7, .int (x7 + (1 : Int32)))]) [2, 3, 4, 5, 6, 7, 8, 0] rfl ?_
        exact ih x1 x2 x3 x4 x5 x6 (x7 + (1 : Int32)) (sF σ 67 ((((40 : Int32) * x3) + x4) + x7).toNatClampNeg (fF σ 67 ((((40 : Int32) * x1) + x2) + x7).toNatClampNeg))
      · refine z_iload (pc := 133) 5 dX12_copy_133 rfl ?_
        refine z_iconst (pc := 135) (v := (1 : Int32)) dX12_copy_135 (by decide) ?_
        refine z_isub (pc := 136) dX12_copy_136 ?_
        refine z_iload (pc := 137) 7 dX12_copy_137 rfl ?_
        refine z_isub (pc := 139) dX12_copy_139 ?_
        refine z_goto (pc := 140) (tgt := 145) dX12_copy_140 (by decide) ?_
        refine z_istore (pc := 145) (lv' := [(8, .int ((x5 - (1 : Int32)) - x7)), (0, .ref 36), (1, .int x1), (2, .int x2), (3, .int x3), (4, .int x4), (5, .int x5), (6, .int x6), (7, .int x7)]) dX12_copy_145 (by decide) rfl ?_
        refine z_aload_n (pc := 147) 1 dX12_copy_147 rfl rfl ?_
        refine z_getQ (pc := 148) (b := 67) dX12_copy_148 kM36 fr_RX12_105_12 (by decide) rfl ?_
        refine z_bipush (pc := 151) (v := (40 : Int32)) dX12_copy_151 (by decide) ?_
        refine z_iload_n (pc := 153) 4 dX12_copy_153 rfl rfl ?_
        refine z_imul (pc := 154) dX12_copy_154 ?_
        refine z_iload (pc := 155) 5 dX12_copy_155 rfl ?_
        refine z_iadd (pc := 157) dX12_copy_157 ?_
        refine z_iload (pc := 158) 0 dX12_copy_158 rfl ?_
        refine z_iadd (pc := 160) dX12_copy_160 ?_
        refine z_aload_n (pc := 161) 1 dX12_copy_161 rfl rfl ?_
        refine z_getQ (pc := 162) (b := 67) dX12_copy_162 kM36 fr_RX12_105_12 (by decide) rfl ?_
        refine z_bipush (pc := 165) (v := (40 : Int32)) dX12_copy_165 (by decide) ?_
        refine z_iload_n (pc := 167) 2 dX12_copy_167 rfl rfl ?_
        refine z_imul (pc := 168) dX12_copy_168 ?_
        refine z_iload_n (pc := 169) 3 dX12_copy_169 rfl rfl ?_
        refine z_iadd (pc := 170) dX12_copy_170 ?_
        refine z_iload (pc := 171) 0 dX12_copy_171 rfl ?_
        refine z_iadd (pc := 173) dX12_copy_173 ?_
        refine z_iald (pc := 174) dX12_copy_174 (am_ar.s kM67) (fun h29 => ?_)
        refine z_iast (pc := 175) dX12_copy_175 (am_ar.s kM67) (fun h30 => ?_)
        refine z_iinc (pc := 176) (v := x7 + (1 : Int32)) (lv' := [(7, .int (x7 + (1 : Int32))), (8, .int ((x5 - (1 : Int32)) - x7)), (0, .ref 36), (1, .int x1), (2, .int x2), (3, .int x3), (4, .int x4), (5, .int x5), (6, .int x6)]) 8 dX12_copy_176 rfl rfl (by decide) rfl ?_
        refine z_goto (pc := 179) (tgt := 121) dX12_copy_179 (by decide) ?_
        refine z_lv (lv' := [(0, .ref 36), (1, .int x1), (2, .int x2), (3, .int x3), (4, .int x4), (5, .int x5), (6, .int x6), (7, .int (x7 + (1 : Int32)))]) [2, 3, 4, 5, 6, 7, 8, 0] rfl ?_
        exact ih x1 x2 x3 x4 x5 x6 (x7 + (1 : Int32)) (sF σ 67 ((((40 : Int32) * x3) + x4) + ((x5 - (1 : Int32)) - x7)).toNatClampNeg (fF σ 67 ((((40 : Int32) * x1) + x2) + ((x5 - (1 : Int32)) - x7)).toNatClampNeg))
def f12_copy (N : Nat) (σ : am_S) (x1 : Int32) (x2 : Int32) (x3 : Int32) (x4 : Int32) (x5 : Int32) : Option (Int32 × am_S) := (f12_isSheet x1).bind fun v1 => (if v1 = true then ((f12_isSheet x3).bind fun v5 => (if v5 = true then (if am_in x1 4 = true then (if fF σ 64 x1.toNatClampNeg = 0 then (some ((-11 : Int32), σ)) else (if am_in x3 4 = true then (if fF σ 64 x3.toNatClampNeg = 0 then (some ((-11 : Int32), σ)) else (if am_in x1 4 = true then (if am_in x3 4 = true then (if fF σ 65 x1.toNatClampNeg = fF σ 65 x3.toNatClampNeg then (if x5 < 0 then (some ((-12 : Int32), σ)) else (if x2 < 0 then (some ((-12 : Int32), σ)) else (if x4 < 0 then (some ((-12 : Int32), σ)) else (if am_in x1 4 = true then (if (fF σ 66 x1.toNatClampNeg) - x5 < x2 then (some ((-12 : Int32), σ)) else (if am_in x3 4 = true then (if x4 ≤ (fF σ 66 x3.toNatClampNeg) - x5 then (if x1 = x3 then (if x4 ≤ x2 then (f12_copy_L121 N N x1 x2 x3 x4 x5 (0 : Int32) (0 : Int32) σ) else (f12_copy_L121 N N x1 x2 x3 x4 x5 (1 : Int32) (0 : Int32) σ)) else (f12_copy_L121 N N x1 x2 x3 x4 x5 (0 : Int32) (0 : Int32) σ)) else (some ((-12 : Int32), σ))) else none)) else none)))) else (some ((-13 : Int32), σ))) else none) else none)) else none)) else none) else (some ((-2 : Int32), σ)))) else (some ((-2 : Int32), σ)))
theorem c12_copy {l : Launch} {E : am_E} {N : Nat} {σ : am_S} {x1 : Int32} {x2 : Int32} {x3 : Int32} {x4 : Int32} {x5 : Int32} {v : Int32} {σ1 : am_S} (hf : f12_copy N σ x1 x2 x3 x4 x5 = some (v, σ1)) : Ctr l E msM YX12_copy (2) 0 0 [.ref 36, .int x1, .int x2, .int x3, .int x4, .int x5] σ (some (.int v)) σ1 := by
  refine ctr_of (G := fun u r s => r = some (.int u.1) ∧ s = u.2) (by decide +kernel) (Nat.le_of_ble_eq_true rfl) hf ⟨rfl, rfl⟩ (fun d hd => ?_)
  refine z_eqlv (lv' := [(0, .ref 36), (1, .int x1), (2, .int x2), (3, .int x3), (4, .int x4), (5, .int x5)]) rfl ?_
  unfold f12_copy
  refine z_iload_n (pc := 0) 1 dX12_copy_0 rfl rfl ?_
  refine z_callB (pc := 1) [.int x1] [] rfl (lk_S (Yc := YX12_isSheet) (n := 1) dX12_copy_1 rfl np_X12_isSheet mh_RX12 (by decide) ml_RX12_346 st_X12_isSheet in_RX12 cd_X12_isSheet) (Nat.le_trans (by decide) hd) ⟨by decide, by decide⟩ (Nat.le_of_ble_eq_true rfl) (am_kp.rf _) (fun v1 h3 => c12_isSheet h3) (fun v1 h3 => ?_)
  refine z_bz_eq (pc := 4) (tgt := 14) dX12_copy_4 (by decide) (fun h4 => ?_) (fun h4 => ?_)
  · refine z_iload_n (pc := 7) 3 dX12_copy_7 rfl rfl ?_
    refine z_callB (pc := 8) [.int x3] [] rfl (lk_S (Yc := YX12_isSheet) (n := 1) dX12_copy_8 rfl np_X12_isSheet mh_RX12 (by decide) ml_RX12_346 st_X12_isSheet in_RX12 cd_X12_isSheet) (Nat.le_trans (by decide) hd) ⟨by decide, by decide⟩ (Nat.le_of_ble_eq_true rfl) (am_kp.rf _) (fun v5 h7 => c12_isSheet h7) (fun v5 h7 => ?_)
    refine z_bz_ne (pc := 11) (tgt := 17) dX12_copy_11 (by decide) (fun h8 => ?_) (fun h8 => ?_)
    · refine z_aload_n (pc := 17) 0 dX12_copy_17 rfl rfl ?_
      refine z_getQ (pc := 18) (b := 64) dX12_copy_18 kM36 fr_RX12_95_12 (by decide) rfl ?_
      refine z_iload_n (pc := 21) 1 dX12_copy_21 rfl rfl ?_
      refine z_zald (pc := 22) dX12_copy_22 (am_ar.s kM64) (fun h9 => ?_)
      refine z_if_eq (pc := 23) (tgt := 35) dX12_copy_23 (by decide) (fun h10 => ?_) (fun h10 => ?_)
      · refine z_bipush (pc := 35) (v := (-11 : Int32)) dX12_copy_35 (by decide) ?_
        exact z_rIs dX12_copy_37 rfl ⟨by decide, by decide⟩
      · refine z_aload_n (pc := 26) 0 dX12_copy_26 rfl rfl ?_
        refine z_getQ (pc := 27) (b := 64) dX12_copy_27 kM36 fr_RX12_95_12 (by decide) rfl ?_
        refine z_iload_n (pc := 30) 3 dX12_copy_30 rfl rfl ?_
        refine z_zald (pc := 31) dX12_copy_31 (am_ar.s kM64) (fun h11 => ?_)
        refine z_if_ne (pc := 32) (tgt := 38) dX12_copy_32 (by decide) (fun h12 => ?_) (fun h12 => ?_)
        · refine z_bipush (pc := 35) (v := (-11 : Int32)) dX12_copy_35 (by decide) ?_
          exact z_rIs dX12_copy_37 rfl ⟨by decide, by decide⟩
        · refine z_aload_n (pc := 38) 0 dX12_copy_38 rfl rfl ?_
          refine z_getQ (pc := 39) (b := 65) dX12_copy_39 kM36 fr_RX12_99_12 (by decide) rfl ?_
          refine z_iload_n (pc := 42) 1 dX12_copy_42 rfl rfl ?_
          refine z_iald (pc := 43) dX12_copy_43 (am_ar.s kM65) (fun h13 => ?_)
          refine z_aload_n (pc := 44) 0 dX12_copy_44 rfl rfl ?_
          refine z_getQ (pc := 45) (b := 65) dX12_copy_45 kM36 fr_RX12_99_12 (by decide) rfl ?_
          refine z_iload_n (pc := 48) 3 dX12_copy_48 rfl rfl ?_
          refine z_iald (pc := 49) dX12_copy_49 (am_ar.s kM65) (fun h14 => ?_)
          refine z_ic_eq (pc := 50) (tgt := 56) dX12_copy_50 (by decide) (fun h15 => ?_) (fun h15 => ?_)
          · refine z_iload (pc := 56) 5 dX12_copy_56 rfl ?_
            refine z_if_lt (pc := 58) (tgt := 97) dX12_copy_58 (by decide) (fun h16 => ?_) (fun h16 => ?_)
            · refine z_bipush (pc := 97) (v := (-12 : Int32)) dX12_copy_97 (by decide) ?_
              exact z_rIs dX12_copy_99 rfl ⟨by decide, by decide⟩
            · refine z_iload_n (pc := 61) 2 dX12_copy_61 rfl rfl ?_
              refine z_if_lt (pc := 62) (tgt := 97) dX12_copy_62 (by decide) (fun h17 => ?_) (fun h17 => ?_)
              · refine z_bipush (pc := 97) (v := (-12 : Int32)) dX12_copy_97 (by decide) ?_
                exact z_rIs dX12_copy_99 rfl ⟨by decide, by decide⟩
              · refine z_iload (pc := 65) 4 dX12_copy_65 rfl ?_
                refine z_if_lt (pc := 67) (tgt := 97) dX12_copy_67 (by decide) (fun h18 => ?_) (fun h18 => ?_)
                · refine z_bipush (pc := 97) (v := (-12 : Int32)) dX12_copy_97 (by decide) ?_
                  exact z_rIs dX12_copy_99 rfl ⟨by decide, by decide⟩
                · refine z_iload_n (pc := 70) 2 dX12_copy_70 rfl rfl ?_
                  refine z_aload_n (pc := 71) 0 dX12_copy_71 rfl rfl ?_
                  refine z_getQ (pc := 72) (b := 66) dX12_copy_72 kM36 fr_RX12_102_12 (by decide) rfl ?_
                  refine z_iload_n (pc := 75) 1 dX12_copy_75 rfl rfl ?_
                  refine z_iald (pc := 76) dX12_copy_76 (am_ar.s kM66) (fun h19 => ?_)
                  refine z_iload (pc := 77) 5 dX12_copy_77 rfl ?_
                  refine z_isub (pc := 79) dX12_copy_79 ?_
                  refine z_ic_gt (pc := 80) (tgt := 97) dX12_copy_80 (by decide) (fun h20 => ?_) (fun h20 => ?_)
                  · refine z_bipush (pc := 97) (v := (-12 : Int32)) dX12_copy_97 (by decide) ?_
                    exact z_rIs dX12_copy_99 rfl ⟨by decide, by decide⟩
                  · refine z_iload (pc := 83) 4 dX12_copy_83 rfl ?_
                    refine z_aload_n (pc := 85) 0 dX12_copy_85 rfl rfl ?_
                    refine z_getQ (pc := 86) (b := 66) dX12_copy_86 kM36 fr_RX12_102_12 (by decide) rfl ?_
                    refine z_iload_n (pc := 89) 3 dX12_copy_89 rfl rfl ?_
                    refine z_iald (pc := 90) dX12_copy_90 (am_ar.s kM66) (fun h21 => ?_)
                    refine z_iload (pc := 91) 5 dX12_copy_91 rfl ?_
                    refine z_isub (pc := 93) dX12_copy_93 ?_
                    refine z_ic_le (pc := 94) (tgt := 100) dX12_copy_94 (by decide) (fun h22 => ?_) (fun h22 => ?_)
                    · refine z_iload_n (pc := 100) 1 dX12_copy_100 rfl rfl ?_
                      refine z_iload_n (pc := 101) 3 dX12_copy_101 rfl rfl ?_
                      refine z_ic_ne (pc := 102) (tgt := 115) dX12_copy_102 (by decide) (fun h23 => ?_) (fun h23 => ?_)
                      · refine z_iload_n (pc := 105) 2 dX12_copy_105 rfl rfl ?_
                        refine z_iload (pc := 106) 4 dX12_copy_106 rfl ?_
                        refine z_ic_ge (pc := 108) (tgt := 115) dX12_copy_108 (by decide) (fun h24 => ?_) (fun h24 => ?_)
                        · refine z_iconst (pc := 115) (v := (0 : Int32)) dX12_copy_115 (by decide) ?_
                          refine z_istore (pc := 116) (lv' := [(6, .int (0 : Int32)), (0, .ref 36), (1, .int x1), (2, .int x2), (3, .int x3), (4, .int x4), (5, .int x5)]) dX12_copy_116 (by decide) rfl ?_
                          refine z_iconst (pc := 118) (v := (0 : Int32)) dX12_copy_118 (by decide) ?_
                          refine z_istore (pc := 119) (lv' := [(7, .int (0 : Int32)), (6, .int (0 : Int32)), (0, .ref 36), (1, .int x1), (2, .int x2), (3, .int x3), (4, .int x4), (5, .int x5)]) dX12_copy_119 (by decide) rfl ?_
                          refine z_lv (lv' := [(0, .ref 36), (1, .int x1), (2, .int x2), (3, .int x3), (4, .int x4), (5, .int x5), (6, .int (0 : Int32)), (7, .int (0 : Int32))]) [2, 3, 4, 5, 6, 7, 1, 0] rfl ?_
                          exact z12_copy_L121 hd N x1 x2 x3 x4 x5 (0 : Int32) (0 : Int32) σ
                        · refine z_iconst (pc := 111) (v := (1 : Int32)) dX12_copy_111 (by decide) ?_
                          refine z_goto (pc := 112) (tgt := 116) dX12_copy_112 (by decide) ?_
                          refine z_istore (pc := 116) (lv' := [(6, .int (1 : Int32)), (0, .ref 36), (1, .int x1), (2, .int x2), (3, .int x3), (4, .int x4), (5, .int x5)]) dX12_copy_116 (by decide) rfl ?_
                          refine z_iconst (pc := 118) (v := (0 : Int32)) dX12_copy_118 (by decide) ?_
                          refine z_istore (pc := 119) (lv' := [(7, .int (0 : Int32)), (6, .int (1 : Int32)), (0, .ref 36), (1, .int x1), (2, .int x2), (3, .int x3), (4, .int x4), (5, .int x5)]) dX12_copy_119 (by decide) rfl ?_
                          refine z_lv (lv' := [(0, .ref 36), (1, .int x1), (2, .int x2), (3, .int x3), (4, .int x4), (5, .int x5), (6, .int (1 : Int32)), (7, .int (0 : Int32))]) [2, 3, 4, 5, 6, 7, 1, 0] rfl ?_
                          exact z12_copy_L121 hd N x1 x2 x3 x4 x5 (1 : Int32) (0 : Int32) σ
                      · refine z_iconst (pc := 115) (v := (0 : Int32)) dX12_copy_115 (by decide) ?_
                        refine z_istore (pc := 116) (lv' := [(6, .int (0 : Int32)), (0, .ref 36), (1, .int x1), (2, .int x2), (3, .int x3), (4, .int x4), (5, .int x5)]) dX12_copy_116 (by decide) rfl ?_
                        refine z_iconst (pc := 118) (v := (0 : Int32)) dX12_copy_118 (by decide) ?_
                        refine z_istore (pc := 119) (lv' := [(7, .int (0 : Int32)), (6, .int (0 : Int32)), (0, .ref 36), (1, .int x1), (2, .int x2), (3, .int x3), (4, .int x4), (5, .int x5)]) dX12_copy_119 (by decide) rfl ?_
                        refine z_lv (lv' := [(0, .ref 36), (1, .int x1), (2, .int x2), (3, .int x3), (4, .int x4), (5, .int x5), (6, .int (0 : Int32)), (7, .int (0 : Int32))]) [2, 3, 4, 5, 6, 7, 1, 0] rfl ?_
                        exact z12_copy_L121 hd N x1 x2 x3 x4 x5 (0 : Int32) (0 : Int32) σ
                    · refine z_bipush (pc := 97) (v := (-12 : Int32)) dX12_copy_97 (by decide) ?_
                      exact z_rIs dX12_copy_99 rfl ⟨by decide, by decide⟩
          · refine z_bipush (pc := 53) (v := (-13 : Int32)) dX12_copy_53 (by decide) ?_
            exact z_rIs dX12_copy_55 rfl ⟨by decide, by decide⟩
    · refine z_bipush (pc := 14) (v := (-2 : Int32)) dX12_copy_14 (by decide) ?_
      exact z_rIs dX12_copy_16 rfl ⟨by decide, by decide⟩
  · refine z_bipush (pc := 14) (v := (-2 : Int32)) dX12_copy_14 (by decide) ?_
    exact z_rIs dX12_copy_16 rfl ⟨by decide, by decide⟩
def f12_count_L60 (σ : am_S) (N : Nat) : Nat → Int32 → Int32 → Option Int32
  | 0, _, _ => none
  | n + 1, x2, x3 => if fF σ 36 11 ≤ x3 then (some (x2)) else (if am_in x3 7 = true then (f12_count_L60 σ N n (x2 + (fF σ 42 x3.toNatClampNeg)) (x3 + (1 : Int32))) else none)
theorem z12_count_L60 {l : Launch} {E : am_E} {d : Nat} {N : Nat} {σ : am_S} (hd : 0 ≤ d) : ∀ (n : Nat) (x2 : Int32) (x3 : Int32), Z l E msM σ YX12_count d 0 0 60 [(0, .ref 36), (2, .int x2), (3, .int x3)] [] 0 0 σ (f12_count_L60 σ N n x2 x3) (fun u r s => r = some (.int u) ∧ s = σ) := by
  intro n
  induction n with
  | zero => intros; exact z_none
  | succ n ih =>
    intro x2 x3
    unfold f12_count_L60
    refine z_iload_n (pc := 60) 2 dX12_count_60 rfl rfl ?_
    refine z_aload_n (pc := 61) 0 dX12_count_61 rfl rfl ?_
    refine z_getI (pc := 62) dX12_count_62 (am_ob.s kM36) fr_RX12_131_12 (by decide) ?_
    refine z_ic_ge (pc := 65) (tgt := 83) dX12_count_65 (by decide) (fun h4 => ?_) (fun h4 => ?_)
    · refine z_iload_n (pc := 83) 1 dX12_count_83 rfl rfl ?_
      exact z_rI dX12_count_84 rfl ⟨by decide, by decide⟩
    · refine z_iload_n (pc := 68) 1 dX12_count_68 rfl rfl ?_
      refine z_aload_n (pc := 69) 0 dX12_count_69 rfl rfl ?_
      refine z_getQ (pc := 70) (b := 42) dX12_count_70 kM36 fr_RX12_29_12 (by decide) rfl ?_
      refine z_iload_n (pc := 73) 2 dX12_count_73 rfl rfl ?_
      refine z_iald (pc := 74) dX12_count_74 (am_ar.s kM42) (fun h5 => ?_)
      refine z_iadd (pc := 75) dX12_count_75 ?_
      refine z_istore_n (pc := 76) (lv' := [(2, .int (x2 + (fF σ 42 x3.toNatClampNeg))), (0, .ref 36), (3, .int x3)]) dX12_count_76 rfl (by decide) rfl ?_
      refine z_iinc (pc := 77) (v := x3 + (1 : Int32)) (lv' := [(3, .int (x3 + (1 : Int32))), (2, .int (x2 + (fF σ 42 x3.toNatClampNeg))), (0, .ref 36)]) 2 dX12_count_77 rfl rfl (by decide) rfl ?_
      refine z_goto (pc := 80) (tgt := 60) dX12_count_80 (by decide) ?_
      refine z_lv (lv' := [(0, .ref 36), (2, .int (x2 + (fF σ 42 x3.toNatClampNeg))), (3, .int (x3 + (1 : Int32)))]) [2, 1, 0] rfl ?_
      exact ih (x2 + (fF σ 42 x3.toNatClampNeg)) (x3 + (1 : Int32))
def f12_count_L87 (σ : am_S) (N : Nat) : Nat → Int32 → Int32 → Option Int32
  | 0, _, _ => none
  | n + 1, x2, x3 => if fF σ 36 21 ≤ x3 then (some (x2)) else (if am_in x3 14 = true then (f12_count_L87 σ N n (x2 + (fF σ 49 x3.toNatClampNeg)) (x3 + (1 : Int32))) else none)
theorem z12_count_L87 {l : Launch} {E : am_E} {d : Nat} {N : Nat} {σ : am_S} (hd : 0 ≤ d) : ∀ (n : Nat) (x2 : Int32) (x3 : Int32), Z l E msM σ YX12_count d 0 0 87 [(0, .ref 36), (2, .int x2), (3, .int x3)] [] 0 0 σ (f12_count_L87 σ N n x2 x3) (fun u r s => r = some (.int u) ∧ s = σ) := by
  intro n
  induction n with
  | zero => intros; exact z_none
  | succ n ih =>
    intro x2 x3
    unfold f12_count_L87
    refine z_iload_n (pc := 87) 2 dX12_count_87 rfl rfl ?_
    refine z_aload_n (pc := 88) 0 dX12_count_88 rfl rfl ?_
    refine z_getI (pc := 89) dX12_count_89 (am_ob.s kM36) fr_RX12_138_12 (by decide) ?_
    refine z_ic_ge (pc := 92) (tgt := 110) dX12_count_92 (by decide) (fun h7 => ?_) (fun h7 => ?_)
    · refine z_iload_n (pc := 110) 1 dX12_count_110 rfl rfl ?_
      exact z_rI dX12_count_111 rfl ⟨by decide, by decide⟩
    · refine z_iload_n (pc := 95) 1 dX12_count_95 rfl rfl ?_
      refine z_aload_n (pc := 96) 0 dX12_count_96 rfl rfl ?_
      refine z_getQ (pc := 97) (b := 49) dX12_count_97 kM36 fr_RX12_50_12 (by decide) rfl ?_
      refine z_iload_n (pc := 100) 2 dX12_count_100 rfl rfl ?_
      refine z_iald (pc := 101) dX12_count_101 (am_ar.s kM49) (fun h8 => ?_)
      refine z_iadd (pc := 102) dX12_count_102 ?_
      refine z_istore_n (pc := 103) (lv' := [(2, .int (x2 + (fF σ 49 x3.toNatClampNeg))), (0, .ref 36), (3, .int x3)]) dX12_count_103 rfl (by decide) rfl ?_
      refine z_iinc (pc := 104) (v := x3 + (1 : Int32)) (lv' := [(3, .int (x3 + (1 : Int32))), (2, .int (x2 + (fF σ 49 x3.toNatClampNeg))), (0, .ref 36)]) 2 dX12_count_104 rfl rfl (by decide) rfl ?_
      refine z_goto (pc := 107) (tgt := 87) dX12_count_107 (by decide) ?_
      refine z_lv (lv' := [(0, .ref 36), (2, .int (x2 + (fF σ 49 x3.toNatClampNeg))), (3, .int (x3 + (1 : Int32)))]) [2, 1, 0] rfl ?_
      exact ih (x2 + (fF σ 49 x3.toNatClampNeg)) (x3 + (1 : Int32))
def f12_count_L114 (σ : am_S) (N : Nat) : Nat → Int32 → Int32 → Option Int32
  | 0, _, _ => none
  | n + 1, x2, x3 => if fF σ 36 21 ≤ x3 then (some (x2)) else (if am_in x3 14 = true then (f12_count_L114 σ N n (x2 + (fF σ 50 x3.toNatClampNeg)) (x3 + (1 : Int32))) else none)
theorem z12_count_L114 {l : Launch} {E : am_E} {d : Nat} {N : Nat} {σ : am_S} (hd : 0 ≤ d) : ∀ (n : Nat) (x2 : Int32) (x3 : Int32), Z l E msM σ YX12_count d 0 0 114 [(0, .ref 36), (2, .int x2), (3, .int x3)] [] 0 0 σ (f12_count_L114 σ N n x2 x3) (fun u r s => r = some (.int u) ∧ s = σ) := by
  intro n
  induction n with
  | zero => intros; exact z_none
  | succ n ih =>
    intro x2 x3
    unfold f12_count_L114
    refine z_iload_n (pc := 114) 2 dX12_count_114 rfl rfl ?_
    refine z_aload_n (pc := 115) 0 dX12_count_115 rfl rfl ?_
    refine z_getI (pc := 116) dX12_count_116 (am_ob.s kM36) fr_RX12_138_12 (by decide) ?_
    refine z_ic_ge (pc := 119) (tgt := 137) dX12_count_119 (by decide) (fun h10 => ?_) (fun h10 => ?_)
    · refine z_iload_n (pc := 137) 1 dX12_count_137 rfl rfl ?_
      exact z_rI dX12_count_138 rfl ⟨by decide, by decide⟩
    · refine z_iload_n (pc := 122) 1 dX12_count_122 rfl rfl ?_
      refine z_aload_n (pc := 123) 0 dX12_count_123 rfl rfl ?_
      refine z_getQ (pc := 124) (b := 50) dX12_count_124 kM36 fr_RX12_53_12 (by decide) rfl ?_
      refine z_iload_n (pc := 127) 2 dX12_count_127 rfl rfl ?_
      refine z_iald (pc := 128) dX12_count_128 (am_ar.s kM50) (fun h11 => ?_)
      refine z_iadd (pc := 129) dX12_count_129 ?_
      refine z_istore_n (pc := 130) (lv' := [(2, .int (x2 + (fF σ 50 x3.toNatClampNeg))), (0, .ref 36), (3, .int x3)]) dX12_count_130 rfl (by decide) rfl ?_
      refine z_iinc (pc := 131) (v := x3 + (1 : Int32)) (lv' := [(3, .int (x3 + (1 : Int32))), (2, .int (x2 + (fF σ 50 x3.toNatClampNeg))), (0, .ref 36)]) 2 dX12_count_131 rfl rfl (by decide) rfl ?_
      refine z_goto (pc := 134) (tgt := 114) dX12_count_134 (by decide) ?_
      refine z_lv (lv' := [(0, .ref 36), (2, .int (x2 + (fF σ 50 x3.toNatClampNeg))), (3, .int (x3 + (1 : Int32)))]) [2, 1, 0] rfl ?_
      exact ih (x2 + (fF σ 50 x3.toNatClampNeg)) (x3 + (1 : Int32))
def f12_count (N : Nat) (σ : am_S) (x1 : Int32) : Option Int32 := if x1 = (0 : Int32) then (some (fF σ 36 11)) else (if x1 = (1 : Int32) then (some (fF σ 36 21)) else (if x1 = (2 : Int32) then (f12_count_L60 σ N N (0 : Int32) (0 : Int32)) else (if x1 = (3 : Int32) then (f12_count_L87 σ N N (0 : Int32) (0 : Int32)) else (if x1 = (4 : Int32) then (f12_count_L114 σ N N (0 : Int32) (0 : Int32)) else (if x1 = (5 : Int32) then (some (fF σ 36 3)) else (if x1 = (6 : Int32) then (some (fF σ 36 6)) else (if x1 = (7 : Int32) then (some (fF σ 36 4)) else (some ((-2 : Int32))))))))))
theorem c12_count {l : Launch} {E : am_E} {N : Nat} {σ : am_S} {x1 : Int32} {v : Int32} (hf : f12_count N σ x1 = some v) : Ctr l E msM YX12_count (0) 0 0 [.ref 36, .int x1] σ (some (.int v)) σ := by
  refine ctr_of (G := fun u r s => r = some (.int u) ∧ s = σ) (by decide +kernel) (Nat.le_of_ble_eq_true rfl) hf ⟨rfl, rfl⟩ (fun d hd => ?_)
  refine z_eqlv (lv' := [(0, .ref 36), (1, .int x1)]) rfl ?_
  unfold f12_count
  refine z_iconst (pc := 0) (v := (0 : Int32)) dX12_count_0 (by decide) ?_
  refine z_istore_n (pc := 1) (lv' := [(2, .int (0 : Int32)), (0, .ref 36), (1, .int x1)]) dX12_count_1 rfl (by decide) rfl ?_
  refine z_iload_n (pc := 2) 2 dX12_count_2 rfl rfl ?_
  refine z_ite (fun h1 => ?_) (fun h1 => ?_)
  · refine z_tsEq (pc := 3) (0) (off := 45) (tgt := 48) dX12_count_3 h1 (by decide) (by decide) (by decide) (by decide) ?_
    refine z_aload_n (pc := 48) 1 dX12_count_48 rfl rfl ?_
    refine z_getI (pc := 49) dX12_count_49 (am_ob.s kM36) fr_RX12_131_12 (by decide) ?_
    exact z_rI dX12_count_52 rfl ⟨by decide, by decide⟩
  · refine z_ite (fun h2 => ?_) (fun h2 => ?_)
    · refine z_tsEq (pc := 3) (1) (off := 50) (tgt := 53) dX12_count_3 h2 (by decide) (by decide) (by decide) (by decide) ?_
      refine z_aload_n (pc := 53) 1 dX12_count_53 rfl rfl ?_
      refine z_getI (pc := 54) dX12_count_54 (am_ob.s kM36) fr_RX12_138_12 (by decide) ?_
      exact z_rI dX12_count_57 rfl ⟨by decide, by decide⟩
    · refine z_ite (fun h3 => ?_) (fun h3 => ?_)
      · refine z_tsEq (pc := 3) (2) (off := 55) (tgt := 58) dX12_count_3 h3 (by decide) (by decide) (by decide) (by decide) ?_
        refine z_iconst (pc := 58) (v := (0 : Int32)) dX12_count_58 (by decide) ?_
        refine z_istore_n (pc := 59) (lv' := [(3, .int (0 : Int32)), (2, .int (0 : Int32)), (0, .ref 36), (1, .int x1)]) dX12_count_59 rfl (by decide) rfl ?_
        refine z_lv (lv' := [(0, .ref 36), (2, .int (0 : Int32)), (3, .int (0 : Int32))]) [2, 1, 0] rfl ?_
        exact z12_count_L60 hd N (0 : Int32) (0 : Int32)
      · refine z_ite (fun h6 => ?_) (fun h6 => ?_)
        · refine z_tsEq (pc := 3) (3) (off := 82) (tgt := 85) dX12_count_3 h6 (by decide) (by decide) (by decide) (by decide) ?_
          refine z_iconst (pc := 85) (v := (0 : Int32)) dX12_count_85 (by decide) ?_
          refine z_istore_n (pc := 86) (lv' := [(3, .int (0 : Int32)), (2, .int (0 : Int32)), (0, .ref 36), (1, .int x1)]) dX12_count_86 rfl (by decide) rfl ?_
          refine z_lv (lv' := [(0, .ref 36), (2, .int (0 : Int32)), (3, .int (0 : Int32))]) [2, 1, 0] rfl ?_
          exact z12_count_L87 hd N (0 : Int32) (0 : Int32)
        · refine z_ite (fun h9 => ?_) (fun h9 => ?_)
          · refine z_tsEq (pc := 3) (4) (off := 109) (tgt := 112) dX12_count_3 h9 (by decide) (by decide) (by decide) (by decide) ?_
            refine z_iconst (pc := 112) (v := (0 : Int32)) dX12_count_112 (by decide) ?_
            refine z_istore_n (pc := 113) (lv' := [(3, .int (0 : Int32)), (2, .int (0 : Int32)), (0, .ref 36), (1, .int x1)]) dX12_count_113 rfl (by decide) rfl ?_
            refine z_lv (lv' := [(0, .ref 36), (2, .int (0 : Int32)), (3, .int (0 : Int32))]) [2, 1, 0] rfl ?_
            exact z12_count_L114 hd N (0 : Int32) (0 : Int32)
          · refine z_ite (fun h12 => ?_) (fun h12 => ?_)
            · refine z_tsEq (pc := 3) (5) (off := 136) (tgt := 139) dX12_count_3 h12 (by decide) (by decide) (by decide) (by decide) ?_
              refine z_aload_n (pc := 139) 1 dX12_count_139 rfl rfl ?_
              refine z_getI (pc := 140) dX12_count_140 (am_ob.s kM36) fr_RX12_126_12 (by decide) ?_
              exact z_rI dX12_count_143 rfl ⟨by decide, by decide⟩
            · refine z_ite (fun h13 => ?_) (fun h13 => ?_)
              · refine z_tsEq (pc := 3) (6) (off := 141) (tgt := 144) dX12_count_3 h13 (by decide) (by decide) (by decide) (by decide) ?_
                refine z_aload_n (pc := 144) 1 dX12_count_144 rfl rfl ?_
                refine z_getI (pc := 145) dX12_count_145 (am_ob.s kM36) fr_RX12_200_12 (by decide) ?_
                exact z_rI dX12_count_148 rfl ⟨by decide, by decide⟩
              · refine z_ite (fun h14 => ?_) (fun h14 => ?_)
                · refine z_tsEq (pc := 3) (7) (off := 146) (tgt := 149) dX12_count_3 h14 (by decide) (by decide) (by decide) (by decide) ?_
                  refine z_aload_n (pc := 149) 1 dX12_count_149 rfl rfl ?_
                  refine z_getI (pc := 150) dX12_count_150 (am_ob.s kM36) fr_RX12_332_12 (by decide) ?_
                  exact z_rI dX12_count_153 rfl ⟨by decide, by decide⟩
                · refine z_tsNe (pc := 3) (tgt := 154) [0, 1, 2, 3, 4, 5, 6, 7] 8 dX12_count_3 (by decide) (by decide) (List.forall_mem_cons.mpr ⟨h1, List.forall_mem_cons.mpr ⟨h2, List.forall_mem_cons.mpr ⟨h3, List.forall_mem_cons.mpr ⟨h6, List.forall_mem_cons.mpr ⟨h9, List.forall_mem_cons.mpr ⟨h12, List.forall_mem_cons.mpr ⟨h13, List.forall_mem_cons.mpr ⟨h14, List.forall_mem_nil _⟩⟩⟩⟩⟩⟩⟩⟩) (by decide) ?_
                  refine z_bipush (pc := 154) (v := (-2 : Int32)) dX12_count_154 (by decide) ?_
                  exact z_rI dX12_count_156 rfl ⟨by decide, by decide⟩
def f12_crossing (σ : am_S) (x1 : Int32) (x2 : Int32) : Option (Int32 × am_S) := (f12_in x1.toInt64 (1 : Int64) (60 : Int64)).bind fun v1 => (if v1 = true then ((f12_areLandings x2).bind fun v5 => (if v5 = true then (if fF σ 36 11 = (7 : Int32) then (some ((-4 : Int32), σ)) else (if am_in (fF σ 36 11) 7 = true then (if am_in (fF (sF σ 40 (fF σ 36 11).toNatClampNeg x1) 36 11) 7 = true then (if am_in (fF (sF (sF σ 40 (fF σ 36 11).toNatClampNeg x1) 41 (fF (sF σ 40 (fF σ 36 11).toNatClampNeg x1) 36 11).toNatClampNeg x2) 36 11) 7 = true then (if am_in (fF (sF (sF (sF σ 40 (fF σ 36 11).toNatClampNeg x1) 41 (fF (sF σ 40 (fF σ 36 11).toNatClampNeg x1) 36 11).toNatClampNeg x2) 42 (fF (sF (sF σ 40 (fF σ 36 11).toNatClampNeg x1) 41 (fF (sF σ 40 (fF σ 36 11).toNatClampNeg x1) 36 11).toNatClampNeg x2) 36 11).toNatClampNeg (1 : Int32)) 36 11) 7 = true then (some ((fF (sF (sF (sF (sF (sF σ 40 (fF σ 36 11).toNatClampNeg x1) 41 (fF (sF σ 40 (fF σ 36 11).toNatClampNeg x1) 36 11).toNatClampNeg x2) 42 (fF (sF (sF σ 40 (fF σ 36 11).toNatClampNeg x1) 41 (fF (sF σ 40 (fF σ 36 11).toNatClampNeg x1) 36 11).toNatClampNeg x2) 36 11).toNatClampNeg (1 : Int32)) 43 (fF (sF (sF (sF σ 40 (fF σ 36 11).toNatClampNeg x1) 41 (fF (sF σ 40 (fF σ 36 11).toNatClampNeg x1) 36 11).toNatClampNeg x2) 42 (fF (sF (sF σ 40 (fF σ 36 11).toNatClampNeg x1) 41 (fF (sF σ 40 (fF σ 36 11).toNatClampNeg x1) 36 11).toNatClampNeg x2) 36 11).toNatClampNeg (1 : Int32)) 36 11).toNatClampNeg (0 : Int32)) 36 11 ((fF (sF (sF (sF (sF σ 40 (fF σ 36 11).toNatClampNeg x1) 41 (fF (sF σ 40 (fF σ 36 11).toNatClampNeg x1) 36 11).toNatClampNeg x2) 42 (fF (sF (sF σ 40 (fF σ 36 11).toNatClampNeg x1) 41 (fF (sF σ 40 (fF σ 36 11).toNatClampNeg x1) 36 11).toNatClampNeg x2) 36 11).toNatClampNeg (1 : Int32)) 43 (fF (sF (sF (sF σ 40 (fF σ 36 11).toNatClampNeg x1) 41 (fF (sF σ 40 (fF σ 36 11).toNatClampNeg x1) 36 11).toNatClampNeg x2) 42 (fF (sF (sF σ 40 (fF σ 36 11).toNatClampNeg x1) 41 (fF (sF σ 40 (fF σ 36 11).toNatClampNeg x1) 36 11).toNatClampNeg x2) 36 11).toNatClampNeg (1 : Int32)) 36 11).toNatClampNeg (0 : Int32)) 36 11) + (1 : Int32))) 36 11) - (1 : Int32), sF (sF (sF (sF (sF σ 40 (fF σ 36 11).toNatClampNeg x1) 41 (fF (sF σ 40 (fF σ 36 11).toNatClampNeg x1) 36 11).toNatClampNeg x2) 42 (fF (sF (sF σ 40 (fF σ 36 11).toNatClampNeg x1) 41 (fF (sF σ 40 (fF σ 36 11).toNatClampNeg x1) 36 11).toNatClampNeg x2) 36 11).toNatClampNeg (1 : Int32)) 43 (fF (sF (sF (sF σ 40 (fF σ 36 11).toNatClampNeg x1) 41 (fF (sF σ 40 (fF σ 36 11).toNatClampNeg x1) 36 11).toNatClampNeg x2) 42 (fF (sF (sF σ 40 (fF σ 36 11).toNatClampNeg x1) 41 (fF (sF σ 40 (fF σ 36 11).toNatClampNeg x1) 36 11).toNatClampNeg x2) 36 11).toNatClampNeg (1 : Int32)) 36 11).toNatClampNeg (0 : Int32)) 36 11 ((fF (sF (sF (sF (sF σ 40 (fF σ 36 11).toNatClampNeg x1) 41 (fF (sF σ 40 (fF σ 36 11).toNatClampNeg x1) 36 11).toNatClampNeg x2) 42 (fF (sF (sF σ 40 (fF σ 36 11).toNatClampNeg x1) 41 (fF (sF σ 40 (fF σ 36 11).toNatClampNeg x1) 36 11).toNatClampNeg x2) 36 11).toNatClampNeg (1 : Int32)) 43 (fF (sF (sF (sF σ 40 (fF σ 36 11).toNatClampNeg x1) 41 (fF (sF σ 40 (fF σ 36 11).toNatClampNeg x1) 36 11).toNatClampNeg x2) 42 (fF (sF (sF σ 40 (fF σ 36 11).toNatClampNeg x1) 41 (fF (sF σ 40 (fF σ 36 11).toNatClampNeg x1) 36 11).toNatClampNeg x2) 36 11).toNatClampNeg (1 : Int32)) 36 11).toNatClampNeg (0 : Int32)) 36 11) + (1 : Int32)))) else none) else none) else none) else none)) else (some ((-2 : Int32), σ)))) else (some ((-2 : Int32), σ)))
theorem c12_crossing {l : Launch} {E : am_E} {σ : am_S} {x1 : Int32} {x2 : Int32} {v : Int32} {σ1 : am_S} (hf : f12_crossing σ x1 x2 = some (v, σ1)) : Ctr l E msM YX12_crossing (2) 0 0 [.ref 36, .int x1, .int x2] σ (some (.int v)) σ1 := by
  refine ctr_of (G := fun u r s => r = some (.int u.1) ∧ s = u.2) (by decide +kernel) (Nat.le_of_ble_eq_true rfl) hf ⟨rfl, rfl⟩ (fun d hd => ?_)
  refine z_eqlv (lv' := [(0, .ref 36), (1, .int x1), (2, .int x2)]) rfl ?_
  unfold f12_crossing
  refine z_iload_n (pc := 0) 1 dX12_crossing_0 rfl rfl ?_
  refine z_i2l (pc := 1) dX12_crossing_1 ?_
  refine z_lconst (pc := 2) (v := (1 : Int64)) dX12_crossing_2 (by decide) ?_
  refine z_ldc2 (pc := 3) (v := (60 : Int64)) dX12_crossing_3 kl_RX12_145 ?_
  refine z_callB (pc := 6) [.long x1.toInt64, .long (1 : Int64), .long (60 : Int64)] [] rfl (lk_S (Yc := YX12_in) (n := 3) dX12_crossing_6 rfl np_X12_in mh_RX12 (by decide) ml_RX12_134 st_X12_in in_RX12 cd_X12_in) (Nat.le_trans (by decide) hd) ⟨by decide, by decide⟩ (Nat.le_of_ble_eq_true rfl) (am_kp.rf _) (fun v1 h3 => c12_in h3) (fun v1 h3 => ?_)
  refine z_bz_eq (pc := 9) (tgt := 19) dX12_crossing_9 (by decide) (fun h4 => ?_) (fun h4 => ?_)
  · refine z_iload_n (pc := 12) 2 dX12_crossing_12 rfl rfl ?_
    refine z_callB (pc := 13) [.int x2] [] rfl (lk_S (Yc := YX12_areLandings) (n := 1) dX12_crossing_13 rfl np_X12_areLandings mh_RX12 (by decide) ml_RX12_147 st_X12_areLandings in_RX12 cd_X12_areLandings) (Nat.le_trans (by decide) hd) ⟨by decide, by decide⟩ (Nat.le_of_ble_eq_true rfl) (am_kp.rf _) (fun v5 h7 => c12_areLandings h7) (fun v5 h7 => ?_)
    refine z_bz_ne (pc := 16) (tgt := 22) dX12_crossing_16 (by decide) (fun h8 => ?_) (fun h8 => ?_)
    · refine z_aload_n (pc := 22) 0 dX12_crossing_22 rfl rfl ?_
      refine z_getI (pc := 23) dX12_crossing_23 (am_ob.s kM36) fr_RX12_131_12 (by decide) ?_
      refine z_bipush (pc := 26) (v := (7 : Int32)) dX12_crossing_26 (by decide) ?_
      refine z_ic_ne (pc := 28) (tgt := 34) dX12_crossing_28 (by decide) (fun h9 => ?_) (fun h9 => ?_)
      · refine z_bipush (pc := 31) (v := (-4 : Int32)) dX12_crossing_31 (by decide) ?_
        exact z_rIs dX12_crossing_33 rfl ⟨by decide, by decide⟩
      · refine z_aload_n (pc := 34) 0 dX12_crossing_34 rfl rfl ?_
        refine z_getQ (pc := 35) (b := 40) dX12_crossing_35 kM36 fr_RX12_23_12 (by decide) rfl ?_
        refine z_aload_n (pc := 38) 0 dX12_crossing_38 rfl rfl ?_
        refine z_getI (pc := 39) dX12_crossing_39 (am_ob.s kM36) fr_RX12_131_12 (by decide) ?_
        refine z_iload_n (pc := 42) 1 dX12_crossing_42 rfl rfl ?_
        refine z_iast (pc := 43) dX12_crossing_43 (am_ar.s kM40) (fun h10 => ?_)
        refine z_aload_n (pc := 44) 0 dX12_crossing_44 rfl rfl ?_
        refine z_getQ (pc := 45) (b := 41) dX12_crossing_45 kM36 fr_RX12_26_12 (by decide) rfl ?_
        refine z_aload_n (pc := 48) 0 dX12_crossing_48 rfl rfl ?_
        refine z_getI (pc := 49) dX12_crossing_49 (am_ob.s kM36) fr_RX12_131_12 (by decide) ?_
        refine z_iload_n (pc := 52) 2 dX12_crossing_52 rfl rfl ?_
        refine z_iast (pc := 53) dX12_crossing_53 (am_ar.s kM41) (fun h11 => ?_)
        refine z_aload_n (pc := 54) 0 dX12_crossing_54 rfl rfl ?_
        refine z_getQ (pc := 55) (b := 42) dX12_crossing_55 kM36 fr_RX12_29_12 (by decide) rfl ?_
        refine z_aload_n (pc := 58) 0 dX12_crossing_58 rfl rfl ?_
        refine z_getI (pc := 59) dX12_crossing_59 (am_ob.s kM36) fr_RX12_131_12 (by decide) ?_
        refine z_iconst (pc := 62) (v := (1 : Int32)) dX12_crossing_62 (by decide) ?_
        refine z_iast (pc := 63) dX12_crossing_63 (am_ar.s kM42) (fun h12 => ?_)
        refine z_aload_n (pc := 64) 0 dX12_crossing_64 rfl rfl ?_
        refine z_getQ (pc := 65) (b := 43) dX12_crossing_65 kM36 fr_RX12_32_12 (by decide) rfl ?_
        refine z_aload_n (pc := 68) 0 dX12_crossing_68 rfl rfl ?_
        refine z_getI (pc := 69) dX12_crossing_69 (am_ob.s kM36) fr_RX12_131_12 (by decide) ?_
        refine z_iconst (pc := 72) (v := (0 : Int32)) dX12_crossing_72 (by decide) ?_
        refine z_iast (pc := 73) dX12_crossing_73 (am_ar.s kM43) (fun h13 => ?_)
        refine z_aload_n (pc := 74) 0 dX12_crossing_74 rfl rfl ?_
        refine z_dup (pc := 75) dX12_crossing_75 rfl ?_
        refine z_getI (pc := 76) dX12_crossing_76 (am_ob.s kM36) fr_RX12_131_12 (by decide) ?_
        refine z_iconst (pc := 79) (v := (1 : Int32)) dX12_crossing_79 (by decide) ?_
        refine z_iadd (pc := 80) dX12_crossing_80 ?_
        refine z_putI (pc := 81) dX12_crossing_81 (am_ob.s kM36) fw_RX12_131_12 (by decide) ?_
        refine z_aload_n (pc := 84) 0 dX12_crossing_84 rfl rfl ?_
        refine z_getI (pc := 85) dX12_crossing_85 (am_ob.s kM36) fr_RX12_131_12 (by decide) ?_
        refine z_iconst (pc := 88) (v := (1 : Int32)) dX12_crossing_88 (by decide) ?_
        refine z_isub (pc := 89) dX12_crossing_89 ?_
        exact z_rIs dX12_crossing_90 rfl ⟨by decide, by decide⟩
    · refine z_bipush (pc := 19) (v := (-2 : Int32)) dX12_crossing_19 (by decide) ?_
      exact z_rIs dX12_crossing_21 rfl ⟨by decide, by decide⟩
  · refine z_bipush (pc := 19) (v := (-2 : Int32)) dX12_crossing_19 (by decide) ?_
    exact z_rIs dX12_crossing_21 rfl ⟨by decide, by decide⟩
def f12_dueOf (N : Nat) (σ : am_S) (x1 : Int32) (x2 : Int32) : Option (Int32 × am_S) := if am_in x1 14 = true then (if am_in x1 14 = true then ((f12_read N σ (fF σ 36 4) (0 : Int32) (fF σ 45 x1.toNatClampNeg) x2 (fF σ 50 x1.toNatClampNeg) (2 : Int32)).bind fun (v3, s4) => (some (v3, s4))) else none) else none
theorem c12_dueOf {l : Launch} {E : am_E} {N : Nat} {σ : am_S} {x1 : Int32} {x2 : Int32} {v : Int32} {σ1 : am_S} (hf : f12_dueOf N σ x1 x2 = some (v, σ1)) : Ctr l E msM YX12_dueOf (106) 0 0 [.ref 36, .int x1, .int x2] σ (some (.int v)) σ1 := by
  refine ctr_of (G := fun u r s => r = some (.int u.1) ∧ s = u.2) (by decide +kernel) (Nat.le_of_ble_eq_true rfl) hf ⟨rfl, rfl⟩ (fun d hd => ?_)
  refine z_eqlv (lv' := [(0, .ref 36), (1, .int x1), (2, .int x2)]) rfl ?_
  unfold f12_dueOf
  refine z_aload_n (pc := 0) 0 dX12_dueOf_0 rfl rfl ?_
  refine z_aload_n (pc := 1) 0 dX12_dueOf_1 rfl rfl ?_
  refine z_getI (pc := 2) dX12_dueOf_2 (am_ob.s kM36) fr_RX12_332_12 (by decide) ?_
  refine z_iconst (pc := 5) (v := (0 : Int32)) dX12_dueOf_5 (by decide) ?_
  refine z_aload_n (pc := 6) 0 dX12_dueOf_6 rfl rfl ?_
  refine z_getQ (pc := 7) (b := 45) dX12_dueOf_7 kM36 fr_RX12_38_12 (by decide) rfl ?_
  refine z_iload_n (pc := 10) 1 dX12_dueOf_10 rfl rfl ?_
  refine z_iald (pc := 11) dX12_dueOf_11 (am_ar.s kM45) (fun h1 => ?_)
  refine z_iload_n (pc := 12) 2 dX12_dueOf_12 rfl rfl ?_
  refine z_aload_n (pc := 13) 0 dX12_dueOf_13 rfl rfl ?_
  refine z_getQ (pc := 14) (b := 50) dX12_dueOf_14 kM36 fr_RX12_53_12 (by decide) rfl ?_
  refine z_iload_n (pc := 17) 1 dX12_dueOf_17 rfl rfl ?_
  refine z_iald (pc := 18) dX12_dueOf_18 (am_ar.s kM50) (fun h2 => ?_)
  refine z_iconst (pc := 19) (v := (2 : Int32)) dX12_dueOf_19 (by decide) ?_
  refine z_callIs (pc := 20) [.ref 36, .int (fF σ 36 4), .int (0 : Int32), .int (fF σ 45 x1.toNatClampNeg), .int x2, .int (fF σ 50 x1.toNatClampNeg), .int (2 : Int32)] [] rfl (lk_V (Yc := YX12_read) (n := 6) dX12_dueOf_20 rfl rfl (am_ob.s kM36) rfl rfl np_X12_read mh_RX12 (by decide) ml_RX12_335 im_X12_read se_RX12_X12_read_X12_read in_RX12 cd_X12_read) (Nat.le_trans (by decide) hd) ⟨by decide, by decide⟩ (Nat.le_of_ble_eq_true rfl) (am_kp.rf _) (fun v3 s4 h5 => c12_read h5) (fun v3 s4 h5 => ?_)
  exact z_rIs dX12_dueOf_23 rfl ⟨by decide, by decide⟩
def f12_feed_L33 (N : Nat) : Nat → Int32 → Int64 → Int32 → am_S → Option (Int32 × am_S)
  | 0, _, _, _, _ => none
  | n + 1, x1, l2, x4, σ => if x1 ≤ x4 then (some (fF σ 36 6, σ)) else (if am_in (fF σ 36 6) 160 = true then (f12_feed_L33 N n x1 l2 (x4 + (1 : Int32)) (sF (sF σ 39 (fF σ 36 6).toNatClampNeg (((l2 >>> (((8 : Int32) * x4).toInt64 &&& 63)) &&& (255 : Int64)).toInt32)) 36 6 ((fF (sF σ 39 (fF σ 36 6).toNatClampNeg (((l2 >>> (((8 : Int32) * x4).toInt64 &&& 63)) &&& (255 : Int64)).toInt32)) 36 6) + (1 : Int32)))) else none)
theorem z12_feed_L33 {l : Launch} {E : am_E} {d : Nat} {σ0 : am_S} {N : Nat} (hd : 1 ≤ d) : ∀ (n : Nat) (x1 : Int32) (l2 : Int64) (x4 : Int32) (σ : am_S), Z l E msM σ0 YX12_feed d 0 0 33 [(0, .ref 36), (1, .int x1), (2, .long l2), (4, .int x4)] [] 0 0 σ (f12_feed_L33 N n x1 l2 x4 σ) (fun u r s => r = some (.int u.1) ∧ s = u.2) := by
  intro n
  induction n with
  | zero => intros; exact z_none
  | succ n ih =>
    intro x1 l2 x4 σ
    unfold f12_feed_L33
    refine z_iload (pc := 33) 3 dX12_feed_33 rfl ?_
    refine z_iload_n (pc := 35) 1 dX12_feed_35 rfl rfl ?_
    refine z_ic_ge (pc := 36) (tgt := 76) dX12_feed_36 (by decide) (fun h6 => ?_) (fun h6 => ?_)
    · refine z_aload_n (pc := 76) 0 dX12_feed_76 rfl rfl ?_
      refine z_getI (pc := 77) dX12_feed_77 (am_ob.s kM36) fr_RX12_200_12 (by decide) ?_
      exact z_rIs dX12_feed_80 rfl ⟨by decide, by decide⟩
    · refine z_aload_n (pc := 39) 0 dX12_feed_39 rfl rfl ?_
      refine z_getQ (pc := 40) (b := 39) dX12_feed_40 kM36 fr_RX12_20_12 (by decide) rfl ?_
      refine z_aload_n (pc := 43) 0 dX12_feed_43 rfl rfl ?_
      refine z_getI (pc := 44) dX12_feed_44 (am_ob.s kM36) fr_RX12_200_12 (by decide) ?_
      refine z_lload_n (pc := 47) 2 dX12_feed_47 rfl rfl ?_
      refine z_bipush (pc := 48) (v := (8 : Int32)) dX12_feed_48 (by decide) ?_
      refine z_iload (pc := 50) 3 dX12_feed_50 rfl ?_
      refine z_imul (pc := 52) dX12_feed_52 ?_
      refine z_lshr (pc := 53) dX12_feed_53 ?_
      refine z_ldc2 (pc := 54) (v := (255 : Int64)) dX12_feed_54 kl_RX12_129 ?_
      refine z_land (pc := 57) dX12_feed_57 ?_
      refine z_l2i (pc := 58) dX12_feed_58 ?_
      refine z_iast (pc := 59) dX12_feed_59 (am_ar.s kM39) (fun h7 => ?_)
      refine z_aload_n (pc := 60) 0 dX12_feed_60 rfl rfl ?_
      refine z_dup (pc := 61) dX12_feed_61 rfl ?_
      refine z_getI (pc := 62) dX12_feed_62 (am_ob.s kM36) fr_RX12_200_12 (by decide) ?_
      refine z_iconst (pc := 65) (v := (1 : Int32)) dX12_feed_65 (by decide) ?_
      refine z_iadd (pc := 66) dX12_feed_66 ?_
      refine z_putI (pc := 67) dX12_feed_67 (am_ob.s kM36) fw_RX12_200_12 (by decide) ?_
      refine z_iinc (pc := 70) (v := x4 + (1 : Int32)) (lv' := [(4, .int (x4 + (1 : Int32))), (0, .ref 36), (1, .int x1), (2, .long l2)]) 3 dX12_feed_70 rfl rfl (by decide) rfl ?_
      refine z_goto (pc := 73) (tgt := 33) dX12_feed_73 (by decide) ?_
      refine z_lv (lv' := [(0, .ref 36), (1, .int x1), (2, .long l2), (4, .int (x4 + (1 : Int32)))]) [1, 2, 3, 0] rfl ?_
      exact ih x1 l2 (x4 + (1 : Int32)) (sF (sF σ 39 (fF σ 36 6).toNatClampNeg (((l2 >>> (((8 : Int32) * x4).toInt64 &&& 63)) &&& (255 : Int64)).toInt32)) 36 6 ((fF (sF σ 39 (fF σ 36 6).toNatClampNeg (((l2 >>> (((8 : Int32) * x4).toInt64 &&& 63)) &&& (255 : Int64)).toInt32)) 36 6) + (1 : Int32)))
def f12_feed (N : Nat) (σ : am_S) (x1 : Int32) (x2 : Int64) : Option (Int32 × am_S) := (f12_in x1.toInt64 (1 : Int64) (8 : Int64)).bind fun v1 => (if v1 = true then (if (fF σ 36 6) + x1 ≤ (160 : Int32) then (f12_feed_L33 N N x1 x2 (0 : Int32) σ) else (some ((-4 : Int32), σ))) else (some ((-2 : Int32), σ)))
theorem c12_feed {l : Launch} {E : am_E} {N : Nat} {σ : am_S} {x1 : Int32} {x2 : Int64} {v : Int32} {σ1 : am_S} (hf : f12_feed N σ x1 x2 = some (v, σ1)) : Ctr l E msM YX12_feed (1) 0 0 [.ref 36, .int x1, .long x2] σ (some (.int v)) σ1 := by
  refine ctr_of (G := fun u r s => r = some (.int u.1) ∧ s = u.2) (by decide +kernel) (Nat.le_of_ble_eq_true rfl) hf ⟨rfl, rfl⟩ (fun d hd => ?_)
  refine z_eqlv (lv' := [(0, .ref 36), (1, .int x1), (2, .long x2)]) rfl ?_
  unfold f12_feed
  refine z_iload_n (pc := 0) 1 dX12_feed_0 rfl rfl ?_
  refine z_i2l (pc := 1) dX12_feed_1 ?_
  refine z_lconst (pc := 2) (v := (1 : Int64)) dX12_feed_2 (by decide) ?_
  refine z_ldc2 (pc := 3) (v := (8 : Int64)) dX12_feed_3 kl_RX12_198 ?_
  refine z_callB (pc := 6) [.long x1.toInt64, .long (1 : Int64), .long (8 : Int64)] [] rfl (lk_S (Yc := YX12_in) (n := 3) dX12_feed_6 rfl np_X12_in mh_RX12 (by decide) ml_RX12_134 st_X12_in in_RX12 cd_X12_in) (Nat.le_trans (by decide) hd) ⟨by decide, by decide⟩ (Nat.le_of_ble_eq_true rfl) (am_kp.rf _) (fun v1 h3 => c12_in h3) (fun v1 h3 => ?_)
  refine z_bz_ne (pc := 9) (tgt := 15) dX12_feed_9 (by decide) (fun h4 => ?_) (fun h4 => ?_)
  · refine z_aload_n (pc := 15) 0 dX12_feed_15 rfl rfl ?_
    refine z_getI (pc := 16) dX12_feed_16 (am_ob.s kM36) fr_RX12_200_12 (by decide) ?_
    refine z_iload_n (pc := 19) 1 dX12_feed_19 rfl rfl ?_
    refine z_iadd (pc := 20) dX12_feed_20 ?_
    refine z_sipush (pc := 21) (v := (160 : Int32)) dX12_feed_21 (by decide) ?_
    refine z_ic_le (pc := 24) (tgt := 30) dX12_feed_24 (by decide) (fun h5 => ?_) (fun h5 => ?_)
    · refine z_iconst (pc := 30) (v := (0 : Int32)) dX12_feed_30 (by decide) ?_
      refine z_istore (pc := 31) (lv' := [(4, .int (0 : Int32)), (0, .ref 36), (1, .int x1), (2, .long x2)]) dX12_feed_31 (by decide) rfl ?_
      refine z_lv (lv' := [(0, .ref 36), (1, .int x1), (2, .long x2), (4, .int (0 : Int32))]) [1, 2, 3, 0] rfl ?_
      exact z12_feed_L33 hd N x1 x2 (0 : Int32) σ
    · refine z_bipush (pc := 27) (v := (-4 : Int32)) dX12_feed_27 (by decide) ?_
      exact z_rIs dX12_feed_29 rfl ⟨by decide, by decide⟩
  · refine z_bipush (pc := 12) (v := (-2 : Int32)) dX12_feed_12 (by decide) ?_
    exact z_rIs dX12_feed_14 rfl ⟨by decide, by decide⟩
def f12_isBoat (x0 : Int32) : Option Bool := if x0 < 0 then (some (false)) else (if (64 : Int32) ≤ x0 / (10 : Int32) then (some (false)) else (if (3 : Int32) ≤ x0 - x0 / (10 : Int32) * (10 : Int32) then (some (false)) else (some (true))))
theorem c12_isBoat {l : Launch} {E : am_E} {σ : am_S} {x0 : Int32} {v : Bool} (hf : f12_isBoat x0 = some v) : Ctr l E msM YX12_isBoat (0) 0 0 [.int x0] σ (some (.int (bI v))) σ := by
  refine ctr_of (G := fun u r s => r = some (.int (bI u)) ∧ s = σ) (by decide +kernel) (Nat.le_of_ble_eq_true rfl) hf ⟨rfl, rfl⟩ (fun d hd => ?_)
  refine z_eqlv (lv' := [(0, .int x0)]) rfl ?_
  unfold f12_isBoat
  refine z_iload_n (pc := 0) 0 dX12_isBoat_0 rfl rfl ?_
  refine z_if_lt (pc := 1) (tgt := 25) dX12_isBoat_1 (by decide) (fun h1 => ?_) (fun h1 => ?_)
  · refine z_iconst (pc := 25) (v := (0 : Int32)) dX12_isBoat_25 (by decide) ?_
    exact z_rB (b := false) rfl dX12_isBoat_26 rfl ⟨by decide, by decide⟩
  · refine z_iload_n (pc := 4) 0 dX12_isBoat_4 rfl rfl ?_
    refine z_bipush (pc := 5) (v := (10 : Int32)) dX12_isBoat_5 (by decide) ?_
    refine z_idiv (pc := 7) dX12_isBoat_7 (by decide) ?_
    refine z_bipush (pc := 8) (v := (64 : Int32)) dX12_isBoat_8 (by decide) ?_
    refine z_ic_ge (pc := 10) (tgt := 25) dX12_isBoat_10 (by decide) (fun h2 => ?_) (fun h2 => ?_)
    · refine z_iconst (pc := 25) (v := (0 : Int32)) dX12_isBoat_25 (by decide) ?_
      exact z_rB (b := false) rfl dX12_isBoat_26 rfl ⟨by decide, by decide⟩
    · refine z_iload_n (pc := 13) 0 dX12_isBoat_13 rfl rfl ?_
      refine z_bipush (pc := 14) (v := (10 : Int32)) dX12_isBoat_14 (by decide) ?_
      refine z_irem (pc := 16) dX12_isBoat_16 (by decide) ?_
      refine z_iconst (pc := 17) (v := (3 : Int32)) dX12_isBoat_17 (by decide) ?_
      refine z_ic_ge (pc := 18) (tgt := 25) dX12_isBoat_18 (by decide) (fun h3 => ?_) (fun h3 => ?_)
      · refine z_iconst (pc := 25) (v := (0 : Int32)) dX12_isBoat_25 (by decide) ?_
        exact z_rB (b := false) rfl dX12_isBoat_26 rfl ⟨by decide, by decide⟩
      · refine z_iconst (pc := 21) (v := (1 : Int32)) dX12_isBoat_21 (by decide) ?_
        refine z_goto (pc := 22) (tgt := 26) dX12_isBoat_22 (by decide) ?_
        exact z_rB (b := true) rfl dX12_isBoat_26 rfl ⟨by decide, by decide⟩
def f12_onward (x0 : Int32) (x1 : Int32) : Option Int32 := (f12_in ((x0 + x1).toInt64) (0 : Int64) (63 : Int64)).bind fun v1 => (if v1 = true then (some (x1)) else (some (-x1)))
theorem c12_onward {l : Launch} {E : am_E} {σ : am_S} {x0 : Int32} {x1 : Int32} {v : Int32} (hf : f12_onward x0 x1 = some v) : Ctr l E msM YX12_onward (1) 0 0 [.int x0, .int x1] σ (some (.int v)) σ := by
  refine ctr_of (G := fun u r s => r = some (.int u) ∧ s = σ) (by decide +kernel) (Nat.le_of_ble_eq_true rfl) hf ⟨rfl, rfl⟩ (fun d hd => ?_)
  refine z_eqlv (lv' := [(0, .int x0), (1, .int x1)]) rfl ?_
  unfold f12_onward
  refine z_iload_n (pc := 0) 0 dX12_onward_0 rfl rfl ?_
  refine z_iload_n (pc := 1) 1 dX12_onward_1 rfl rfl ?_
  refine z_iadd (pc := 2) dX12_onward_2 ?_
  refine z_i2l (pc := 3) dX12_onward_3 ?_
  refine z_lconst (pc := 4) (v := (0 : Int64)) dX12_onward_4 (by decide) ?_
  refine z_ldc2 (pc := 5) (v := (63 : Int64)) dX12_onward_5 kl_RX12_386 ?_
  refine z_callB (pc := 8) [.long ((x0 + x1).toInt64), .long (0 : Int64), .long (63 : Int64)] [] rfl (lk_S (Yc := YX12_in) (n := 3) dX12_onward_8 rfl np_X12_in mh_RX12 (by decide) ml_RX12_134 st_X12_in in_RX12 cd_X12_in) (Nat.le_trans (by decide) hd) ⟨by decide, by decide⟩ (Nat.le_of_ble_eq_true rfl) (am_kp.rf _) (fun v1 h3 => c12_in h3) (fun v1 h3 => ?_)
  refine z_bz_eq (pc := 11) (tgt := 18) dX12_onward_11 (by decide) (fun h4 => ?_) (fun h4 => ?_)
  · refine z_iload_n (pc := 14) 1 dX12_onward_14 rfl rfl ?_
    refine z_goto (pc := 15) (tgt := 20) dX12_onward_15 (by decide) ?_
    exact z_rI dX12_onward_20 rfl ⟨by decide, by decide⟩
  · refine z_iload_n (pc := 18) 1 dX12_onward_18 rfl rfl ?_
    refine z_ineg (pc := 19) dX12_onward_19 ?_
    exact z_rI dX12_onward_20 rfl ⟨by decide, by decide⟩
def f12_fog_J250 (N : Nat) (x4 : Int32) (x9 : Int32) (x10 : Int32) (x11 : Int32) : Option Int32 := if x4 = 0 then (some (x9)) else (if x4 = (1 : Int32) then (some (x10)) else (if x11 = 0 then (some ((0 : Int32))) else (some ((1 : Int32)))))
theorem z12_fog_J250 {l : Launch} {E : am_E} {d : Nat} {σ : am_S} {N : Nat} (hd : 2 ≤ d) (x4 : Int32) (x9 : Int32) (x10 : Int32) (x11 : Int32) : Z l E msM σ YX12_fog d 0 0 250 [(4, .int x4), (9, .int x9), (10, .int x10), (11, .int x11)] [] 0 0 σ (f12_fog_J250 N x4 x9 x10 x11) (fun u r s => r = some (.int u) ∧ s = σ) := by
  unfold f12_fog_J250
  refine z_iload (pc := 250) 0 dX12_fog_250 rfl ?_
  refine z_if_ne (pc := 252) (tgt := 260) dX12_fog_252 (by decide) (fun h22 => ?_) (fun h22 => ?_)
  · refine z_iload (pc := 255) 1 dX12_fog_255 rfl ?_
    refine z_goto (pc := 257) (tgt := 281) dX12_fog_257 (by decide) ?_
    exact z_rI dX12_fog_281 rfl ⟨by decide, by decide⟩
  · refine z_iload (pc := 260) 0 dX12_fog_260 rfl ?_
    refine z_iconst (pc := 262) (v := (1 : Int32)) dX12_fog_262 (by decide) ?_
    refine z_ic_ne (pc := 263) (tgt := 271) dX12_fog_263 (by decide) (fun h23 => ?_) (fun h23 => ?_)
    · refine z_iload (pc := 266) 2 dX12_fog_266 rfl ?_
      refine z_goto (pc := 268) (tgt := 281) dX12_fog_268 (by decide) ?_
      exact z_rI dX12_fog_281 rfl ⟨by decide, by decide⟩
    · refine z_iload (pc := 271) 3 dX12_fog_271 rfl ?_
      refine z_if_eq (pc := 273) (tgt := 280) dX12_fog_273 (by decide) (fun h24 => ?_) (fun h24 => ?_)
      · refine z_iconst (pc := 280) (v := (0 : Int32)) dX12_fog_280 (by decide) ?_
        exact z_rI dX12_fog_281 rfl ⟨by decide, by decide⟩
      · refine z_iconst (pc := 276) (v := (1 : Int32)) dX12_fog_276 (by decide) ?_
        refine z_goto (pc := 277) (tgt := 281) dX12_fog_277 (by decide) ?_
        exact z_rI dX12_fog_281 rfl ⟨by decide, by decide⟩
def f12_fog_J195 (k102 : Int32 → Int32 → Int32 → Int32 → Int32 → Int32 → Int32 → Int32 → Int32 → Int32 → Option Int32) (N : Nat) (x3 : Int32) (x4 : Int32) (x5 : Int32) (x6 : Int32) (x7 : Int32) (x8 : Int32) (x9 : Int32) (x10 : Int32) (x12 : Int32) (s0 : Int32) : Option Int32 := (f12_plain (x5 - x6)).bind fun v34 => (if x9 ≤ v34 then (if x3 / (10 : Int32) = 0 then none else (if x12 - x12 / (x3 / (10 : Int32)) * (x3 / (10 : Int32)) = 0 then (if x3 - x3 / (10 : Int32) * (10 : Int32) < v34 then (k102 x3 x4 x5 x6 x7 x8 x9 x10 s0 (x12 + (1 : Int32))) else (k102 x3 x4 x5 x6 x7 (0 : Int32) x9 x10 s0 (x12 + (1 : Int32)))) else (k102 x3 x4 x5 x6 x7 x8 x9 x10 s0 (x12 + (1 : Int32))))) else (if x3 / (10 : Int32) = 0 then none else (if x12 - x12 / (x3 / (10 : Int32)) * (x3 / (10 : Int32)) = 0 then (if x3 - x3 / (10 : Int32) * (10 : Int32) < v34 then (k102 x3 x4 x5 x6 x7 x8 v34 x12 s0 (x12 + (1 : Int32))) else (k102 x3 x4 x5 x6 x7 (0 : Int32) v34 x12 s0 (x12 + (1 : Int32)))) else (k102 x3 x4 x5 x6 x7 x8 v34 x12 s0 (x12 + (1 : Int32))))))
theorem z12_fog_J195 {l : Launch} {E : am_E} {d : Nat} {σ : am_S} {N : Nat} (hd : 2 ≤ d) {k102 : Int32 → Int32 → Int32 → Int32 → Int32 → Int32 → Int32 → Int32 → Int32 → Int32 → Option Int32} (hk102 : ∀ (x3 : Int32) (x4 : Int32) (x5 : Int32) (x6 : Int32) (x7 : Int32) (x8 : Int32) (x9 : Int32) (x10 : Int32) (x11 : Int32) (x12 : Int32), Z l E msM σ YX12_fog d 0 0 102 [(3, .int x3), (4, .int x4), (5, .int x5), (6, .int x6), (7, .int x7), (8, .int x8), (9, .int x9), (10, .int x10), (11, .int x11), (12, .int x12)] [] 0 0 σ (k102 x3 x4 x5 x6 x7 x8 x9 x10 x11 x12) (fun u r s => r = some (.int u) ∧ s = σ)) (x3 : Int32) (x4 : Int32) (x5 : Int32) (x6 : Int32) (x7 : Int32) (x8 : Int32) (x9 : Int32) (x10 : Int32) (x12 : Int32) (s0 : Int32) : Z l E msM σ YX12_fog d 0 0 195 [(3, .int x3), (4, .int x4), (5, .int x5), (6, .int x6), (7, .int x7), (8, .int x8), (9, .int x9), (10, .int x10), (12, .int x12)] [.int s0] 0 0 σ (f12_fog_J195 k102 N x3 x4 x5 x6 x7 x8 x9 x10 x12 s0) (fun u r s => r = some (.int u) ∧ s = σ) := by
  unfold f12_fog_J195
  refine z_istore (pc := 195) (lv' := [(11, .int s0), (3, .int x3), (4, .int x4), (5, .int x5), (6, .int x6), (7, .int x7), (8, .int x8), (9, .int x9), (10, .int x10), (12, .int x12)]) dX12_fog_195 (by decide) rfl ?_
  refine z_iload (pc := 197) 3 dX12_fog_197 rfl ?_
  refine z_iload (pc := 199) 4 dX12_fog_199 rfl ?_
  refine z_isub (pc := 201) dX12_fog_201 ?_
  refine z_callI (pc := 202) [.int (x5 - x6)] [] rfl (lk_S (Yc := YX12_plain) (n := 1) dX12_fog_202 rfl np_X12_plain mh_RX12 (by decide) ml_RX12_391 st_X12_plain in_RX12 cd_X12_plain) (Nat.le_trans (by decide) hd) ⟨by decide, by decide⟩ (Nat.le_of_ble_eq_true rfl) (am_kp.rf _) (fun v34 h36 => c12_plain h36) (fun v34 h36 => ?_)
  refine z_istore (pc := 205) (lv' := [(13, .int v34), (11, .int s0), (3, .int x3), (4, .int x4), (5, .int x5), (6, .int x6), (7, .int x7), (8, .int x8), (9, .int x9), (10, .int x10), (12, .int x12)]) dX12_fog_205 (by decide) rfl ?_
  refine z_iload (pc := 207) 0 dX12_fog_207 rfl ?_
  refine z_iload (pc := 209) 8 dX12_fog_209 rfl ?_
  refine z_ic_ge (pc := 211) (tgt := 222) dX12_fog_211 (by decide) (fun h37 => ?_) (fun h37 => ?_)
  · refine z_iload (pc := 222) 10 dX12_fog_222 rfl ?_
    refine z_iload_n (pc := 224) 2 dX12_fog_224 rfl rfl ?_
    refine z_bipush (pc := 225) (v := (10 : Int32)) dX12_fog_225 (by decide) ?_
    refine z_idiv (pc := 227) dX12_fog_227 (by decide) ?_
    refine z_ite (fun _ => z_none) (fun h38 => ?_)
    refine z_irem (pc := 228) dX12_fog_228 h38 ?_
    refine z_if_ne (pc := 229) (tgt := 244) dX12_fog_229 (by decide) (fun h39 => ?_) (fun h39 => ?_)
    · refine z_iload (pc := 232) 0 dX12_fog_232 rfl ?_
      refine z_iload_n (pc := 234) 2 dX12_fog_234 rfl rfl ?_
      refine z_bipush (pc := 235) (v := (10 : Int32)) dX12_fog_235 (by decide) ?_
      refine z_irem (pc := 237) dX12_fog_237 (by decide) ?_
      refine z_ic_gt (pc := 238) (tgt := 244) dX12_fog_238 (by decide) (fun h40 => ?_) (fun h40 => ?_)
      · refine z_iinc (pc := 244) (v := x12 + (1 : Int32)) (lv' := [(12, .int (x12 + (1 : Int32))), (13, .int v34), (11, .int s0), (3, .int x3), (4, .int x4), (5, .int x5), (6, .int x6), (7, .int x7), (8, .int x8), (9, .int x9), (10, .int x10)]) 10 dX12_fog_244 rfl rfl (by decide) rfl ?_
        refine z_goto (pc := 247) (tgt := 102) dX12_fog_247 (by decide) ?_
        refine z_lv (lv' := [(3, .int x3), (4, .int x4), (5, .int x5), (6, .int x6), (7, .int x7), (8, .int x8), (9, .int x9), (10, .int x10), (11, .int s0), (12, .int (x12 + (1 : Int32)))]) [3, 4, 5, 6, 7, 8, 9, 10, 2, 0] rfl ?_
        exact hk102 x3 x4 x5 x6 x7 x8 x9 x10 s0 (x12 + (1 : Int32))
      · refine z_iconst (pc := 241) (v := (0 : Int32)) dX12_fog_241 (by decide) ?_
        refine z_istore (pc := 242) (lv' := [(8, .int (0 : Int32)), (13, .int v34), (11, .int s0), (3, .int x3), (4, .int x4), (5, .int x5), (6, .int x6), (7, .int x7), (9, .int x9), (10, .int x10), (12, .int x12)]) dX12_fog_242 (by decide) rfl ?_
        refine z_iinc (pc := 244) (v := x12 + (1 : Int32)) (lv' := [(12, .int (x12 + (1 : Int32))), (8, .int (0 : Int32)), (13, .int v34), (11, .int s0), (3, .int x3), (4, .int x4), (5, .int x5), (6, .int x6), (7, .int x7), (9, .int x9), (10, .int x10)]) 10 dX12_fog_244 rfl rfl (by decide) rfl ?_
        refine z_goto (pc := 247) (tgt := 102) dX12_fog_247 (by decide) ?_
        refine z_lv (lv' := [(3, .int x3), (4, .int x4), (5, .int x5), (6, .int x6), (7, .int x7), (8, .int (0 : Int32)), (9, .int x9), (10, .int x10), (11, .int s0), (12, .int (x12 + (1 : Int32)))]) [4, 5, 6, 7, 8, 1, 9, 10, 3, 0] rfl ?_
        exact hk102 x3 x4 x5 x6 x7 (0 : Int32) x9 x10 s0 (x12 + (1 : Int32))
    · refine z_iinc (pc := 244) (v := x12 + (1 : Int32)) (lv' := [(12, .int (x12 + (1 : Int32))), (13, .int v34), (11, .int s0), (3, .int x3), (4, .int x4), (5, .int x5), (6, .int x6), (7, .int x7), (8, .int x8), (9, .int x9), (10, .int x10)]) 10 dX12_fog_244 rfl rfl (by decide) rfl ?_
      refine z_goto (pc := 247) (tgt := 102) dX12_fog_247 (by decide) ?_
      refine z_lv (lv' := [(3, .int x3), (4, .int x4), (5, .int x5), (6, .int x6), (7, .int x7), (8, .int x8), (9, .int x9), (10, .int x10), (11, .int s0), (12, .int (x12 + (1 : Int32)))]) [3, 4, 5, 6, 7, 8, 9, 10, 2, 0] rfl ?_
      exact hk102 x3 x4 x5 x6 x7 x8 x9 x10 s0 (x12 + (1 : Int32))
  · refine z_iload (pc := 214) 0 dX12_fog_214 rfl ?_
    refine z_istore (pc := 216) (lv' := [(9, .int v34), (13, .int v34), (11, .int s0), (3, .int x3), (4, .int x4), (5, .int x5), (6, .int x6), (7, .int x7), (8, .int x8), (10, .int x10), (12, .int x12)]) dX12_fog_216 (by decide) rfl ?_
    refine z_iload (pc := 218) 10 dX12_fog_218 rfl ?_
    refine z_istore (pc := 220) (lv' := [(10, .int x12), (9, .int v34), (13, .int v34), (11, .int s0), (3, .int x3), (4, .int x4), (5, .int x5), (6, .int x6), (7, .int x7), (8, .int x8), (12, .int x12)]) dX12_fog_220 (by decide) rfl ?_
    refine z_iload (pc := 222) 10 dX12_fog_222 rfl ?_
    refine z_iload_n (pc := 224) 4 dX12_fog_224 rfl rfl ?_
    refine z_bipush (pc := 225) (v := (10 : Int32)) dX12_fog_225 (by decide) ?_
    refine z_idiv (pc := 227) dX12_fog_227 (by decide) ?_
    refine z_ite (fun _ => z_none) (fun h41 => ?_)
    refine z_irem (pc := 228) dX12_fog_228 h41 ?_
    refine z_if_ne (pc := 229) (tgt := 244) dX12_fog_229 (by decide) (fun h42 => ?_) (fun h42 => ?_)
    · refine z_iload (pc := 232) 2 dX12_fog_232 rfl ?_
      refine z_iload_n (pc := 234) 4 dX12_fog_234 rfl rfl ?_
      refine z_bipush (pc := 235) (v := (10 : Int32)) dX12_fog_235 (by decide) ?_
      refine z_irem (pc := 237) dX12_fog_237 (by decide) ?_
      refine z_ic_gt (pc := 238) (tgt := 244) dX12_fog_238 (by decide) (fun h43 => ?_) (fun h43 => ?_)
      · refine z_iinc (pc := 244) (v := x12 + (1 : Int32)) (lv' := [(12, .int (x12 + (1 : Int32))), (10, .int x12), (9, .int v34), (13, .int v34), (11, .int s0), (3, .int x3), (4, .int x4), (5, .int x5), (6, .int x6), (7, .int x7), (8, .int x8)]) 10 dX12_fog_244 rfl rfl (by decide) rfl ?_
        refine z_goto (pc := 247) (tgt := 102) dX12_fog_247 (by decide) ?_
        refine z_lv (lv' := [(3, .int x3), (4, .int x4), (5, .int x5), (6, .int x6), (7, .int x7), (8, .int x8), (9, .int v34), (10, .int x12), (11, .int s0), (12, .int (x12 + (1 : Int32)))]) [5, 6, 7, 8, 9, 10, 2, 1, 4, 0] rfl ?_
        exact hk102 x3 x4 x5 x6 x7 x8 v34 x12 s0 (x12 + (1 : Int32))
      · refine z_iconst (pc := 241) (v := (0 : Int32)) dX12_fog_241 (by decide) ?_
        refine z_istore (pc := 242) (lv' := [(8, .int (0 : Int32)), (10, .int x12), (9, .int v34), (13, .int v34), (11, .int s0), (3, .int x3), (4, .int x4), (5, .int x5), (6, .int x6), (7, .int x7), (12, .int x12)]) dX12_fog_242 (by decide) rfl ?_
        refine z_iinc (pc := 244) (v := x12 + (1 : Int32)) (lv' := [(12, .int (x12 + (1 : Int32))), (8, .int (0 : Int32)), (10, .int x12), (9, .int v34), (13, .int v34), (11, .int s0), (3, .int x3), (4, .int x4), (5, .int x5), (6, .int x6), (7, .int x7)]) 10 dX12_fog_244 rfl rfl (by decide) rfl ?_
        refine z_goto (pc := 247) (tgt := 102) dX12_fog_247 (by decide) ?_
        refine z_lv (lv' := [(3, .int x3), (4, .int x4), (5, .int x5), (6, .int x6), (7, .int x7), (8, .int (0 : Int32)), (9, .int v34), (10, .int x12), (11, .int s0), (12, .int (x12 + (1 : Int32)))]) [6, 7, 8, 9, 10, 1, 3, 2, 5, 0] rfl ?_
        exact hk102 x3 x4 x5 x6 x7 (0 : Int32) v34 x12 s0 (x12 + (1 : Int32))
    · refine z_iinc (pc := 244) (v := x12 + (1 : Int32)) (lv' := [(12, .int (x12 + (1 : Int32))), (10, .int x12), (9, .int v34), (13, .int v34), (11, .int s0), (3, .int x3), (4, .int x4), (5, .int x5), (6, .int x6), (7, .int x7), (8, .int x8)]) 10 dX12_fog_244 rfl rfl (by decide) rfl ?_
      refine z_goto (pc := 247) (tgt := 102) dX12_fog_247 (by decide) ?_
      refine z_lv (lv' := [(3, .int x3), (4, .int x4), (5, .int x5), (6, .int x6), (7, .int x7), (8, .int x8), (9, .int v34), (10, .int x12), (11, .int s0), (12, .int (x12 + (1 : Int32)))]) [5, 6, 7, 8, 9, 10, 2, 1, 4, 0] rfl ?_
      exact hk102 x3 x4 x5 x6 x7 x8 v34 x12 s0 (x12 + (1 : Int32))
def f12_fog_L102 (N : Nat) : Nat → Int32 → Int32 → Int32 → Int32 → Int32 → Int32 → Int32 → Int32 → Int32 → Int32 → Option Int32
  | 0, _, _, _, _, _, _, _, _, _, _ => none
  | n + 1, x3, x4, x5, x6, x7, x8, x9, x10, x11, x12 => if (60 : Int32) < x12 then (f12_fog_J250 N x4 x9 x10 x11) else ((f12_onward x5 x7).bind fun v25 => ((f12_onward x6 x8).bind fun v28 => (if x11 = 0 then (if v25 = 0 then (if x5 + v25 = x6 + v28 then (f12_fog_J195 (f12_fog_L102 N n) N x3 x4 (x5 + v25) (x6 + v28) v25 v28 x9 x10 x12 (1 : Int32)) else (f12_fog_J195 (f12_fog_L102 N n) N x3 x4 (x5 + v25) (x6 + v28) v25 v28 x9 x10 x12 (0 : Int32))) else (if x5 + v25 = x6 then (if x6 + v28 = x5 then (f12_fog_J195 (f12_fog_L102 N n) N x3 x4 (x5 + v25) (x6 + v28) v25 v28 x9 x10 x12 (1 : Int32)) else (if x5 + v25 = x6 + v28 then (f12_fog_J195 (f12_fog_L102 N n) N x3 x4 (x5 + v25) (x6 + v28) v25 v28 x9 x10 x12 (1 : Int32)) else (f12_fog_J195 (f12_fog_L102 N n) N x3 x4 (x5 + v25) (x6 + v28) v25 v28 x9 x10 x12 (0 : Int32)))) else (if x5 + v25 = x6 + v28 then (f12_fog_J195 (f12_fog_L102 N n) N x3 x4 (x5 + v25) (x6 + v28) v25 v28 x9 x10 x12 (1 : Int32)) else (f12_fog_J195 (f12_fog_L102 N n) N x3 x4 (x5 + v25) (x6 + v28) v25 v28 x9 x10 x12 (0 : Int32))))) else (f12_fog_J195 (f12_fog_L102 N n) N x3 x4 (x5 + v25) (x6 + v28) v25 v28 x9 x10 x12 (1 : Int32)))))
theorem z12_fog_L102 {l : Launch} {E : am_E} {d : Nat} {σ : am_S} {N : Nat} (hd : 2 ≤ d) : ∀ (n : Nat) (x3 : Int32) (x4 : Int32) (x5 : Int32) (x6 : Int32) (x7 : Int32) (x8 : Int32) (x9 : Int32) (x10 : Int32) (x11 : Int32) (x12 : Int32), Z l E msM σ YX12_fog d 0 0 102 [(3, .int x3), (4, .int x4), (5, .int x5), (6, .int x6), (7, .int x7), (8, .int x8), (9, .int x9), (10, .int x10), (11, .int x11), (12, .int x12)] [] 0 0 σ (f12_fog_L102 N n x3 x4 x5 x6 x7 x8 x9 x10 x11 x12) (fun u r s => r = some (.int u) ∧ s = σ) := by
  intro n
  induction n with
  | zero => intros; exact z_none
  | succ n ih =>
    intro x3 x4 x5 x6 x7 x8 x9 x10 x11 x12
    unfold f12_fog_L102
    refine z_iload (pc := 102) 9 dX12_fog_102 rfl ?_
    refine z_bipush (pc := 104) (v := (60 : Int32)) dX12_fog_104 (by decide) ?_
    refine z_ic_gt (pc := 106) (tgt := 250) dX12_fog_106 (by decide) (fun h21 => ?_) (fun h21 => ?_)
    · refine z_lv (lv' := [(4, .int x4), (9, .int x9), (10, .int x10), (11, .int x11)]) [1, 6, 7, 8] rfl ?_
      exact z12_fog_J250 hd x4 x9 x10 x11
    · refine z_iload (pc := 109) 2 dX12_fog_109 rfl ?_
      refine z_iload (pc := 111) 4 dX12_fog_111 rfl ?_
      refine z_callI (pc := 113) [.int x5, .int x7] [] rfl (lk_S (Yc := YX12_onward) (n := 2) dX12_fog_113 rfl np_X12_onward mh_RX12 (by decide) ml_RX12_394 st_X12_onward in_RX12 cd_X12_onward) (Nat.le_trans (by decide) hd) ⟨by decide, by decide⟩ (Nat.le_of_ble_eq_true rfl) (am_kp.rf _) (fun v25 h27 => c12_onward h27) (fun v25 h27 => ?_)
      refine z_istore (pc := 116) (lv' := [(7, .int v25), (3, .int x3), (4, .int x4), (5, .int x5), (6, .int x6), (8, .int x8), (9, .int x9), (10, .int x10), (11, .int x11), (12, .int x12)]) dX12_fog_116 (by decide) rfl ?_
      refine z_iload (pc := 118) 4 dX12_fog_118 rfl ?_
      refine z_iload (pc := 120) 5 dX12_fog_120 rfl ?_
      refine z_callI (pc := 122) [.int x6, .int x8] [] rfl (lk_S (Yc := YX12_onward) (n := 2) dX12_fog_122 rfl np_X12_onward mh_RX12 (by decide) ml_RX12_394 st_X12_onward in_RX12 cd_X12_onward) (Nat.le_trans (by decide) hd) ⟨by decide, by decide⟩ (Nat.le_of_ble_eq_true rfl) (am_kp.rf _) (fun v28 h30 => c12_onward h30) (fun v28 h30 => ?_)
      refine z_istore (pc := 125) (lv' := [(8, .int v28), (7, .int v25), (3, .int x3), (4, .int x4), (5, .int x5), (6, .int x6), (9, .int x9), (10, .int x10), (11, .int x11), (12, .int x12)]) dX12_fog_125 (by decide) rfl ?_
      refine z_iload (pc := 127) 8 dX12_fog_127 rfl ?_
      refine z_if_ne (pc := 129) (tgt := 157) dX12_fog_129 (by decide) (fun h31 => ?_) (fun h31 => ?_)
      · refine z_iload (pc := 132) 1 dX12_fog_132 rfl ?_
        refine z_if_eq (pc := 134) (tgt := 161) dX12_fog_134 (by decide) (fun h32 => ?_) (fun h32 => ?_)
        · refine z_iconst (pc := 161) (v := (0 : Int32)) dX12_fog_161 (by decide) ?_
          refine z_istore (pc := 162) (lv' := [(11, .int (0 : Int32)), (8, .int v28), (7, .int v25), (3, .int x3), (4, .int x4), (5, .int x5), (6, .int x6), (9, .int x9), (10, .int x10), (12, .int x12)]) dX12_fog_162 (by decide) rfl ?_
          refine z_iload (pc := 164) 5 dX12_fog_164 rfl ?_
          refine z_iload (pc := 166) 2 dX12_fog_166 rfl ?_
          refine z_iadd (pc := 168) dX12_fog_168 ?_
          refine z_istore (pc := 169) (lv' := [(5, .int (x5 + v25)), (11, .int (0 : Int32)), (8, .int v28), (7, .int v25), (3, .int x3), (4, .int x4), (6, .int x6), (9, .int x9), (10, .int x10), (12, .int x12)]) dX12_fog_169 (by decide) rfl ?_
          refine z_iload (pc := 171) 6 dX12_fog_171 rfl ?_
          refine z_iload (pc := 173) 2 dX12_fog_173 rfl ?_
          refine z_iadd (pc := 175) dX12_fog_175 ?_
          refine z_istore (pc := 176) (lv' := [(6, .int (x6 + v28)), (5, .int (x5 + v25)), (11, .int (0 : Int32)), (8, .int v28), (7, .int v25), (3, .int x3), (4, .int x4), (9, .int x9), (10, .int x10), (12, .int x12)]) dX12_fog_176 (by decide) rfl ?_
          refine z_iload (pc := 178) 2 dX12_fog_178 rfl ?_
          refine z_if_ne_f (pc := 180) (tgt := 190) dX12_fog_180 (by decide) (by decide) ?_
          refine z_iload (pc := 183) 1 dX12_fog_183 rfl ?_
          refine z_iload (pc := 185) 0 dX12_fog_185 rfl ?_
          refine z_ic_ne (pc := 187) (tgt := 194) dX12_fog_187 (by decide) (fun h33 => ?_) (fun h33 => ?_)
          · refine z_iconst (pc := 190) (v := (1 : Int32)) dX12_fog_190 (by decide) ?_
            refine z_goto (pc := 191) (tgt := 195) dX12_fog_191 (by decide) ?_
            refine z_lv (lv' := [(3, .int x3), (4, .int x4), (5, .int (x5 + v25)), (6, .int (x6 + v28)), (7, .int v25), (8, .int v28), (9, .int x9), (10, .int x10), (12, .int x12)]) [5, 6, 1, 0, 4, 3, 7, 8, 9] rfl ?_
            exact z12_fog_J195 hd (fun x3 x4 x5 x6 x7 x8 x9 x10 x11 x12 => ih x3 x4 x5 x6 x7 x8 x9 x10 x11 x12) x3 x4 (x5 + v25) (x6 + v28) v25 v28 x9 x10 x12 (1 : Int32)
          · refine z_iconst (pc := 194) (v := (0 : Int32)) dX12_fog_194 (by decide) ?_
            refine z_lv (lv' := [(3, .int x3), (4, .int x4), (5, .int (x5 + v25)), (6, .int (x6 + v28)), (7, .int v25), (8, .int v28), (9, .int x9), (10, .int x10), (12, .int x12)]) [5, 6, 1, 0, 4, 3, 7, 8, 9] rfl ?_
            exact z12_fog_J195 hd (fun x3 x4 x5 x6 x7 x8 x9 x10 x11 x12 => ih x3 x4 x5 x6 x7 x8 x9 x10 x11 x12) x3 x4 (x5 + v25) (x6 + v28) v25 v28 x9 x10 x12 (0 : Int32)
        · refine z_iload (pc := 137) 4 dX12_fog_137 rfl ?_
          refine z_iload (pc := 139) 1 dX12_fog_139 rfl ?_
          refine z_iadd (pc := 141) dX12_fog_141 ?_
          refine z_iload (pc := 142) 5 dX12_fog_142 rfl ?_
          refine z_ic_ne (pc := 144) (tgt := 161) dX12_fog_144 (by decide) (fun h44 => ?_) (fun h44 => ?_)
          · refine z_iload (pc := 147) 5 dX12_fog_147 rfl ?_
            refine z_iload (pc := 149) 0 dX12_fog_149 rfl ?_
            refine z_iadd (pc := 151) dX12_fog_151 ?_
            refine z_iload (pc := 152) 4 dX12_fog_152 rfl ?_
            refine z_ic_ne (pc := 154) (tgt := 161) dX12_fog_154 (by decide) (fun h45 => ?_) (fun h45 => ?_)
            · refine z_iconst (pc := 157) (v := (1 : Int32)) dX12_fog_157 (by decide) ?_
              refine z_goto (pc := 158) (tgt := 162) dX12_fog_158 (by decide) ?_
              refine z_istore (pc := 162) (lv' := [(11, .int (1 : Int32)), (8, .int v28), (7, .int v25), (3, .int x3), (4, .int x4), (5, .int x5), (6, .int x6), (9, .int x9), (10, .int x10), (12, .int x12)]) dX12_fog_162 (by decide) rfl ?_
              refine z_iload (pc := 164) 5 dX12_fog_164 rfl ?_
              refine z_iload (pc := 166) 2 dX12_fog_166 rfl ?_
              refine z_iadd (pc := 168) dX12_fog_168 ?_
              refine z_istore (pc := 169) (lv' := [(5, .int (x5 + v25)), (11, .int (1 : Int32)), (8, .int v28), (7, .int v25), (3, .int x3), (4, .int x4), (6, .int x6), (9, .int x9), (10, .int x10), (12, .int x12)]) dX12_fog_169 (by decide) rfl ?_
              refine z_iload (pc := 171) 6 dX12_fog_171 rfl ?_
              refine z_iload (pc := 173) 2 dX12_fog_173 rfl ?_
              refine z_iadd (pc := 175) dX12_fog_175 ?_
              refine z_istore (pc := 176) (lv' := [(6, .int (x6 + v28)), (5, .int (x5 + v25)), (11, .int (1 : Int32)), (8, .int v28), (7, .int v25), (3, .int x3), (4, .int x4), (9, .int x9), (10, .int x10), (12, .int x12)]) dX12_fog_176 (by decide) rfl ?_
              refine z_iload (pc := 178) 2 dX12_fog_178 rfl ?_
              refine z_if_ne_t (pc := 180) (tgt := 190) dX12_fog_180 (by decide) (by decide) ?_
              refine z_iconst (pc := 190) (v := (1 : Int32)) dX12_fog_190 (by decide) ?_
              refine z_goto (pc := 191) (tgt := 195) dX12_fog_191 (by decide) ?_
              refine z_lv (lv' := [(3, .int x3), (4, .int x4), (5, .int (x5 + v25)), (6, .int (x6 + v28)), (7, .int v25), (8, .int v28), (9, .int x9), (10, .int x10), (12, .int x12)]) [5, 6, 1, 0, 4, 3, 7, 8, 9] rfl ?_
              exact z12_fog_J195 hd (fun x3 x4 x5 x6 x7 x8 x9 x10 x11 x12 => ih x3 x4 x5 x6 x7 x8 x9 x10 x11 x12) x3 x4 (x5 + v25) (x6 + v28) v25 v28 x9 x10 x12 (1 : Int32)
            · refine z_iconst (pc := 161) (v := (0 : Int32)) dX12_fog_161 (by decide) ?_
              refine z_istore (pc := 162) (lv' := [(11, .int (0 : Int32)), (8, .int v28), (7, .int v25), (3, .int x3), (4, .int x4), (5, .int x5), (6, .int x6), (9, .int x9), (10, .int x10), (12, .int x12)]) dX12_fog_162 (by decide) rfl ?_
              refine z_iload (pc := 164) 5 dX12_fog_164 rfl ?_
              refine z_iload (pc := 166) 2 dX12_fog_166 rfl ?_
              refine z_iadd (pc := 168) dX12_fog_168 ?_
              refine z_istore (pc := 169) (lv' := [(5, .int (x5 + v25)), (11, .int (0 : Int32)), (8, .int v28), (7, .int v25), (3, .int x3), (4, .int x4), (6, .int x6), (9, .int x9), (10, .int x10), (12, .int x12)]) dX12_fog_169 (by decide) rfl ?_
              refine z_iload (pc := 171) 6 dX12_fog_171 rfl ?_
              refine z_iload (pc := 173) 2 dX12_fog_173 rfl ?_
              refine z_iadd (pc := 175) dX12_fog_175 ?_
              refine z_istore (pc := 176) (lv' := [(6, .int (x6 + v28)), (5, .int (x5 + v25)), (11, .int (0 : Int32)), (8, .int v28), (7, .int v25), (3, .int x3), (4, .int x4), (9, .int x9), (10, .int x10), (12, .int x12)]) dX12_fog_176 (by decide) rfl ?_
              refine z_iload (pc := 178) 2 dX12_fog_178 rfl ?_
              refine z_if_ne_f (pc := 180) (tgt := 190) dX12_fog_180 (by decide) (by decide) ?_
              refine z_iload (pc := 183) 1 dX12_fog_183 rfl ?_
              refine z_iload (pc := 185) 0 dX12_fog_185 rfl ?_
              refine z_ic_ne (pc := 187) (tgt := 194) dX12_fog_187 (by decide) (fun h46 => ?_) (fun h46 => ?_)
              · refine z_iconst (pc := 190) (v := (1 : Int32)) dX12_fog_190 (by decide) ?_
                refine z_goto (pc := 191) (tgt := 195) dX12_fog_191 (by decide) ?_
                refine z_lv (lv' := [(3, .int x3), (4, .int x4), (5, .int (x5 + v25)), (6, .int (x6 + v28)), (7, .int v25), (8, .int v28), (9, .int x9), (10, .int x10), (12, .int x12)]) [5, 6, 1, 0, 4, 3, 7, 8, 9] rfl ?_
                exact z12_fog_J195 hd (fun x3 x4 x5 x6 x7 x8 x9 x10 x11 x12 => ih x3 x4 x5 x6 x7 x8 x9 x10 x11 x12) x3 x4 (x5 + v25) (x6 + v28) v25 v28 x9 x10 x12 (1 : Int32)
              · refine z_iconst (pc := 194) (v := (0 : Int32)) dX12_fog_194 (by decide) ?_
                refine z_lv (lv' := [(3, .int x3), (4, .int x4), (5, .int (x5 + v25)), (6, .int (x6 + v28)), (7, .int v25), (8, .int v28), (9, .int x9), (10, .int x10), (12, .int x12)]) [5, 6, 1, 0, 4, 3, 7, 8, 9] rfl ?_
                exact z12_fog_J195 hd (fun x3 x4 x5 x6 x7 x8 x9 x10 x11 x12 => ih x3 x4 x5 x6 x7 x8 x9 x10 x11 x12) x3 x4 (x5 + v25) (x6 + v28) v25 v28 x9 x10 x12 (0 : Int32)
          · refine z_iconst (pc := 161) (v := (0 : Int32)) dX12_fog_161 (by decide) ?_
            refine z_istore (pc := 162) (lv' := [(11, .int (0 : Int32)), (8, .int v28), (7, .int v25), (3, .int x3), (4, .int x4), (5, .int x5), (6, .int x6), (9, .int x9), (10, .int x10), (12, .int x12)]) dX12_fog_162 (by decide) rfl ?_
            refine z_iload (pc := 164) 5 dX12_fog_164 rfl ?_
            refine z_iload (pc := 166) 2 dX12_fog_166 rfl ?_
            refine z_iadd (pc := 168) dX12_fog_168 ?_
            refine z_istore (pc := 169) (lv' := [(5, .int (x5 + v25)), (11, .int (0 : Int32)), (8, .int v28), (7, .int v25), (3, .int x3), (4, .int x4), (6, .int x6), (9, .int x9), (10, .int x10), (12, .int x12)]) dX12_fog_169 (by decide) rfl ?_
            refine z_iload (pc := 171) 6 dX12_fog_171 rfl ?_
            refine z_iload (pc := 173) 2 dX12_fog_173 rfl ?_
            refine z_iadd (pc := 175) dX12_fog_175 ?_
            refine z_istore (pc := 176) (lv' := [(6, .int (x6 + v28)), (5, .int (x5 + v25)), (11, .int (0 : Int32)), (8, .int v28), (7, .int v25), (3, .int x3), (4, .int x4), (9, .int x9), (10, .int x10), (12, .int x12)]) dX12_fog_176 (by decide) rfl ?_
            refine z_iload (pc := 178) 2 dX12_fog_178 rfl ?_
            refine z_if_ne_f (pc := 180) (tgt := 190) dX12_fog_180 (by decide) (by decide) ?_
            refine z_iload (pc := 183) 1 dX12_fog_183 rfl ?_
            refine z_iload (pc := 185) 0 dX12_fog_185 rfl ?_
            refine z_ic_ne (pc := 187) (tgt := 194) dX12_fog_187 (by decide) (fun h47 => ?_) (fun h47 => ?_)
            · refine z_iconst (pc := 190) (v := (1 : Int32)) dX12_fog_190 (by decide) ?_
              refine z_goto (pc := 191) (tgt := 195) dX12_fog_191 (by decide) ?_
              refine z_lv (lv' := [(3, .int x3), (4, .int x4), (5, .int (x5 + v25)), (6, .int (x6 + v28)), (7, .int v25), (8, .int v28), (9, .int x9), (10, .int x10), (12, .int x12)]) [5, 6, 1, 0, 4, 3, 7, 8, 9] rfl ?_
              exact z12_fog_J195 hd (fun x3 x4 x5 x6 x7 x8 x9 x10 x11 x12 => ih x3 x4 x5 x6 x7 x8 x9 x10 x11 x12) x3 x4 (x5 + v25) (x6 + v28) v25 v28 x9 x10 x12 (1 : Int32)
            · refine z_iconst (pc := 194) (v := (0 : Int32)) dX12_fog_194 (by decide) ?_
              refine z_lv (lv' := [(3, .int x3), (4, .int x4), (5, .int (x5 + v25)), (6, .int (x6 + v28)), (7, .int v25), (8, .int v28), (9, .int x9), (10, .int x10), (12, .int x12)]) [5, 6, 1, 0, 4, 3, 7, 8, 9] rfl ?_
              exact z12_fog_J195 hd (fun x3 x4 x5 x6 x7 x8 x9 x10 x11 x12 => ih x3 x4 x5 x6 x7 x8 x9 x10 x11 x12) x3 x4 (x5 + v25) (x6 + v28) v25 v28 x9 x10 x12 (0 : Int32)
      · refine z_iconst (pc := 157) (v := (1 : Int32)) dX12_fog_157 (by decide) ?_
        refine z_goto (pc := 158) (tgt := 162) dX12_fog_158 (by decide) ?_
        refine z_istore (pc := 162) (lv' := [(11, .int (1 : Int32)), (8, .int v28), (7, .int v25), (3, .int x3), (4, .int x4), (5, .int x5), (6, .int x6), (9, .int x9), (10, .int x10), (12, .int x12)]) dX12_fog_162 (by decide) rfl ?_
        refine z_iload (pc := 164) 5 dX12_fog_164 rfl ?_
        refine z_iload (pc := 166) 2 dX12_fog_166 rfl ?_
        refine z_iadd (pc := 168) dX12_fog_168 ?_
        refine z_istore (pc := 169) (lv' := [(5, .int (x5 + v25)), (11, .int (1 : Int32)), (8, .int v28), (7, .int v25), (3, .int x3), (4, .int x4), (6, .int x6), (9, .int x9), (10, .int x10), (12, .int x12)]) dX12_fog_169 (by decide) rfl ?_
        refine z_iload (pc := 171) 6 dX12_fog_171 rfl ?_
        refine z_iload (pc := 173) 2 dX12_fog_173 rfl ?_
        refine z_iadd (pc := 175) dX12_fog_175 ?_
        refine z_istore (pc := 176) (lv' := [(6, .int (x6 + v28)), (5, .int (x5 + v25)), (11, .int (1 : Int32)), (8, .int v28), (7, .int v25), (3, .int x3), (4, .int x4), (9, .int x9), (10, .int x10), (12, .int x12)]) dX12_fog_176 (by decide) rfl ?_
        refine z_iload (pc := 178) 2 dX12_fog_178 rfl ?_
        refine z_if_ne_t (pc := 180) (tgt := 190) dX12_fog_180 (by decide) (by decide) ?_
        refine z_iconst (pc := 190) (v := (1 : Int32)) dX12_fog_190 (by decide) ?_
        refine z_goto (pc := 191) (tgt := 195) dX12_fog_191 (by decide) ?_
        refine z_lv (lv' := [(3, .int x3), (4, .int x4), (5, .int (x5 + v25)), (6, .int (x6 + v28)), (7, .int v25), (8, .int v28), (9, .int x9), (10, .int x10), (12, .int x12)]) [5, 6, 1, 0, 4, 3, 7, 8, 9] rfl ?_
        exact z12_fog_J195 hd (fun x3 x4 x5 x6 x7 x8 x9 x10 x11 x12 => ih x3 x4 x5 x6 x7 x8 x9 x10 x11 x12) x3 x4 (x5 + v25) (x6 + v28) v25 v28 x9 x10 x12 (1 : Int32)
def f12_fog (N : Nat) (x1 : Int32) (x2 : Int32) (x3 : Int32) (x4 : Int32) : Option Int32 := (f12_isBoat x1).bind fun v1 => (if v1 = true then ((f12_isBoat x2).bind fun v5 => (if v5 = true then ((f12_in x3.toInt64 (10 : Int64) (99 : Int64)).bind fun v9 => (if v9 = true then ((f12_in x4.toInt64 (0 : Int64) (2 : Int64)).bind fun v13 => (if v13 = true then ((f12_plain ((x1 / (10 : Int32)) - (x2 / (10 : Int32)))).bind fun v17 => (if x1 / (10 : Int32) = x2 / (10 : Int32) then (f12_fog_L102 N N x3 x4 (x1 / (10 : Int32)) (x2 / (10 : Int32)) ((x1 - x1 / (10 : Int32) * (10 : Int32)) - (1 : Int32)) ((x2 - x2 / (10 : Int32) * (10 : Int32)) - (1 : Int32)) v17 (0 : Int32) (1 : Int32) (1 : Int32)) else (f12_fog_L102 N N x3 x4 (x1 / (10 : Int32)) (x2 / (10 : Int32)) ((x1 - x1 / (10 : Int32) * (10 : Int32)) - (1 : Int32)) ((x2 - x2 / (10 : Int32) * (10 : Int32)) - (1 : Int32)) v17 (0 : Int32) (0 : Int32) (1 : Int32)))) else (some ((-2 : Int32))))) else (some ((-2 : Int32))))) else (some ((-2 : Int32))))) else (some ((-2 : Int32))))
theorem c12_fog {l : Launch} {E : am_E} {N : Nat} {σ : am_S} {x1 : Int32} {x2 : Int32} {x3 : Int32} {x4 : Int32} {v : Int32} (hf : f12_fog N x1 x2 x3 x4 = some v) : Ctr l E msM YX12_fog (2) 0 0 [.ref 36, .int x1, .int x2, .int x3, .int x4] σ (some (.int v)) σ := by
  refine ctr_of (G := fun u r s => r = some (.int u) ∧ s = σ) (by decide +kernel) (Nat.le_of_ble_eq_true rfl) hf ⟨rfl, rfl⟩ (fun d hd => ?_)
  refine z_eqlv (lv' := [(0, .ref 36), (1, .int x1), (2, .int x2), (3, .int x3), (4, .int x4)]) rfl ?_
  unfold f12_fog
  refine z_iload_n (pc := 0) 1 dX12_fog_0 rfl rfl ?_
  refine z_callB (pc := 1) [.int x1] [] rfl (lk_S (Yc := YX12_isBoat) (n := 1) dX12_fog_1 rfl np_X12_isBoat mh_RX12 (by decide) ml_RX12_388 st_X12_isBoat in_RX12 cd_X12_isBoat) (Nat.le_trans (by decide) hd) ⟨by decide, by decide⟩ (Nat.le_of_ble_eq_true rfl) (am_kp.rf _) (fun v1 h3 => c12_isBoat h3) (fun v1 h3 => ?_)
  refine z_bz_eq (pc := 4) (tgt := 41) dX12_fog_4 (by decide) (fun h4 => ?_) (fun h4 => ?_)
  · refine z_iload_n (pc := 7) 2 dX12_fog_7 rfl rfl ?_
    refine z_callB (pc := 8) [.int x2] [] rfl (lk_S (Yc := YX12_isBoat) (n := 1) dX12_fog_8 rfl np_X12_isBoat mh_RX12 (by decide) ml_RX12_388 st_X12_isBoat in_RX12 cd_X12_isBoat) (Nat.le_trans (by decide) hd) ⟨by decide, by decide⟩ (Nat.le_of_ble_eq_true rfl) (am_kp.rf _) (fun v5 h7 => c12_isBoat h7) (fun v5 h7 => ?_)
    refine z_bz_eq (pc := 11) (tgt := 41) dX12_fog_11 (by decide) (fun h8 => ?_) (fun h8 => ?_)
    · refine z_iload_n (pc := 14) 3 dX12_fog_14 rfl rfl ?_
      refine z_i2l (pc := 15) dX12_fog_15 ?_
      refine z_ldc2 (pc := 16) (v := (10 : Int64)) dX12_fog_16 kl_RX12_239 ?_
      refine z_ldc2 (pc := 19) (v := (99 : Int64)) dX12_fog_19 kl_RX12_143 ?_
      refine z_callB (pc := 22) [.long x3.toInt64, .long (10 : Int64), .long (99 : Int64)] [] rfl (lk_S (Yc := YX12_in) (n := 3) dX12_fog_22 rfl np_X12_in mh_RX12 (by decide) ml_RX12_134 st_X12_in in_RX12 cd_X12_in) (Nat.le_trans (by decide) hd) ⟨by decide, by decide⟩ (Nat.le_of_ble_eq_true rfl) (am_kp.rf _) (fun v9 h11 => c12_in h11) (fun v9 h11 => ?_)
      refine z_bz_eq (pc := 25) (tgt := 41) dX12_fog_25 (by decide) (fun h12 => ?_) (fun h12 => ?_)
      · refine z_iload (pc := 28) 4 dX12_fog_28 rfl ?_
        refine z_i2l (pc := 30) dX12_fog_30 ?_
        refine z_lconst (pc := 31) (v := (0 : Int64)) dX12_fog_31 (by decide) ?_
        refine z_ldc2 (pc := 32) (v := (2 : Int64)) dX12_fog_32 kl_RX12_381 ?_
        refine z_callB (pc := 35) [.long x4.toInt64, .long (0 : Int64), .long (2 : Int64)] [] rfl (lk_S (Yc := YX12_in) (n := 3) dX12_fog_35 rfl np_X12_in mh_RX12 (by decide) ml_RX12_134 st_X12_in in_RX12 cd_X12_in) (Nat.le_trans (by decide) hd) ⟨by decide, by decide⟩ (Nat.le_of_ble_eq_true rfl) (am_kp.rf _) (fun v13 h15 => c12_in h15) (fun v13 h15 => ?_)
        refine z_bz_ne (pc := 38) (tgt := 44) dX12_fog_38 (by decide) (fun h16 => ?_) (fun h16 => ?_)
        · refine z_iload_n (pc := 44) 1 dX12_fog_44 rfl rfl ?_
          refine z_bipush (pc := 45) (v := (10 : Int32)) dX12_fog_45 (by decide) ?_
          refine z_idiv (pc := 47) dX12_fog_47 (by decide) ?_
          refine z_istore (pc := 48) (lv' := [(5, .int (x1 / (10 : Int32))), (0, .ref 36), (1, .int x1), (2, .int x2), (3, .int x3), (4, .int x4)]) dX12_fog_48 (by decide) rfl ?_
          refine z_iload_n (pc := 50) 3 dX12_fog_50 rfl rfl ?_
          refine z_bipush (pc := 51) (v := (10 : Int32)) dX12_fog_51 (by decide) ?_
          refine z_idiv (pc := 53) dX12_fog_53 (by decide) ?_
          refine z_istore (pc := 54) (lv' := [(6, .int (x2 / (10 : Int32))), (5, .int (x1 / (10 : Int32))), (0, .ref 36), (1, .int x1), (2, .int x2), (3, .int x3), (4, .int x4)]) dX12_fog_54 (by decide) rfl ?_
          refine z_iload_n (pc := 56) 3 dX12_fog_56 rfl rfl ?_
          refine z_bipush (pc := 57) (v := (10 : Int32)) dX12_fog_57 (by decide) ?_
          refine z_irem (pc := 59) dX12_fog_59 (by decide) ?_
          refine z_iconst (pc := 60) (v := (1 : Int32)) dX12_fog_60 (by decide) ?_
          refine z_isub (pc := 61) dX12_fog_61 ?_
          refine z_istore (pc := 62) (lv' := [(7, .int ((x1 - x1 / (10 : Int32) * (10 : Int32)) - (1 : Int32))), (6, .int (x2 / (10 : Int32))), (5, .int (x1 / (10 : Int32))), (0, .ref 36), (1, .int x1), (2, .int x2), (3, .int x3), (4, .int x4)]) dX12_fog_62 (by decide) rfl ?_
          refine z_iload_n (pc := 64) 5 dX12_fog_64 rfl rfl ?_
          refine z_bipush (pc := 65) (v := (10 : Int32)) dX12_fog_65 (by decide) ?_
          refine z_irem (pc := 67) dX12_fog_67 (by decide) ?_
          refine z_iconst (pc := 68) (v := (1 : Int32)) dX12_fog_68 (by decide) ?_
          refine z_isub (pc := 69) dX12_fog_69 ?_
          refine z_istore (pc := 70) (lv' := [(8, .int ((x2 - x2 / (10 : Int32) * (10 : Int32)) - (1 : Int32))), (7, .int ((x1 - x1 / (10 : Int32) * (10 : Int32)) - (1 : Int32))), (6, .int (x2 / (10 : Int32))), (5, .int (x1 / (10 : Int32))), (0, .ref 36), (1, .int x1), (2, .int x2), (3, .int x3), (4, .int x4)]) dX12_fog_70 (by decide) rfl ?_
          refine z_iload (pc := 72) 3 dX12_fog_72 rfl ?_
          refine z_iload (pc := 74) 2 dX12_fog_74 rfl ?_
          refine z_isub (pc := 76) dX12_fog_76 ?_
          refine z_callI (pc := 77) [.int ((x1 / (10 : Int32)) - (x2 / (10 : Int32)))] [] rfl (lk_S (Yc := YX12_plain) (n := 1) dX12_fog_77 rfl np_X12_plain mh_RX12 (by decide) ml_RX12_391 st_X12_plain in_RX12 cd_X12_plain) (Nat.le_trans (by decide) hd) ⟨by decide, by decide⟩ (Nat.le_of_ble_eq_true rfl) (am_kp.rf _) (fun v17 h19 => c12_plain h19) (fun v17 h19 => ?_)
          refine z_istore (pc := 80) (lv' := [(9, .int v17), (8, .int ((x2 - x2 / (10 : Int32) * (10 : Int32)) - (1 : Int32))), (7, .int ((x1 - x1 / (10 : Int32) * (10 : Int32)) - (1 : Int32))), (6, .int (x2 / (10 : Int32))), (5, .int (x1 / (10 : Int32))), (0, .ref 36), (1, .int x1), (2, .int x2), (3, .int x3), (4, .int x4)]) dX12_fog_80 (by decide) rfl ?_
          refine z_iconst (pc := 82) (v := (0 : Int32)) dX12_fog_82 (by decide) ?_
          refine z_istore (pc := 83) (lv' := [(10, .int (0 : Int32)), (9, .int v17), (8, .int ((x2 - x2 / (10 : Int32) * (10 : Int32)) - (1 : Int32))), (7, .int ((x1 - x1 / (10 : Int32) * (10 : Int32)) - (1 : Int32))), (6, .int (x2 / (10 : Int32))), (5, .int (x1 / (10 : Int32))), (0, .ref 36), (1, .int x1), (2, .int x2), (3, .int x3), (4, .int x4)]) dX12_fog_83 (by decide) rfl ?_
          refine z_iload (pc := 85) 5 dX12_fog_85 rfl ?_
          refine z_iload (pc := 87) 4 dX12_fog_87 rfl ?_
          refine z_ic_ne (pc := 89) (tgt := 96) dX12_fog_89 (by decide) (fun h20 => ?_) (fun h20 => ?_)
          · refine z_iconst (pc := 92) (v := (1 : Int32)) dX12_fog_92 (by decide) ?_
            refine z_goto (pc := 93) (tgt := 97) dX12_fog_93 (by decide) ?_
            refine z_istore (pc := 97) (lv' := [(11, .int (1 : Int32)), (10, .int (0 : Int32)), (9, .int v17), (8, .int ((x2 - x2 / (10 : Int32) * (10 : Int32)) - (1 : Int32))), (7, .int ((x1 - x1 / (10 : Int32) * (10 : Int32)) - (1 : Int32))), (6, .int (x2 / (10 : Int32))), (5, .int (x1 / (10 : Int32))), (0, .ref 36), (1, .int x1), (2, .int x2), (3, .int x3), (4, .int x4)]) dX12_fog_97 (by decide) rfl ?_
            refine z_iconst (pc := 99) (v := (1 : Int32)) dX12_fog_99 (by decide) ?_
            refine z_istore (pc := 100) (lv' := [(12, .int (1 : Int32)), (11, .int (1 : Int32)), (10, .int (0 : Int32)), (9, .int v17), (8, .int ((x2 - x2 / (10 : Int32) * (10 : Int32)) - (1 : Int32))), (7, .int ((x1 - x1 / (10 : Int32) * (10 : Int32)) - (1 : Int32))), (6, .int (x2 / (10 : Int32))), (5, .int (x1 / (10 : Int32))), (0, .ref 36), (1, .int x1), (2, .int x2), (3, .int x3), (4, .int x4)]) dX12_fog_100 (by decide) rfl ?_
            refine z_lv (lv' := [(3, .int x3), (4, .int x4), (5, .int (x1 / (10 : Int32))), (6, .int (x2 / (10 : Int32))), (7, .int ((x1 - x1 / (10 : Int32) * (10 : Int32)) - (1 : Int32))), (8, .int ((x2 - x2 / (10 : Int32) * (10 : Int32)) - (1 : Int32))), (9, .int v17), (10, .int (0 : Int32)), (11, .int (1 : Int32)), (12, .int (1 : Int32))]) [11, 12, 7, 6, 5, 4, 3, 2, 1, 0] rfl ?_
            exact z12_fog_L102 hd N x3 x4 (x1 / (10 : Int32)) (x2 / (10 : Int32)) ((x1 - x1 / (10 : Int32) * (10 : Int32)) - (1 : Int32)) ((x2 - x2 / (10 : Int32) * (10 : Int32)) - (1 : Int32)) v17 (0 : Int32) (1 : Int32) (1 : Int32)
          · refine z_iconst (pc := 96) (v := (0 : Int32)) dX12_fog_96 (by decide) ?_
            refine z_istore (pc := 97) (lv' := [(11, .int (0 : Int32)), (10, .int (0 : Int32)), (9, .int v17), (8, .int ((x2 - x2 / (10 : Int32) * (10 : Int32)) - (1 : Int32))), (7, .int ((x1 - x1 / (10 : Int32) * (10 : Int32)) - (1 : Int32))), (6, .int (x2 / (10 : Int32))), (5, .int (x1 / (10 : Int32))), (0, .ref 36), (1, .int x1), (2, .int x2), (3, .int x3), (4, .int x4)]) dX12_fog_97 (by decide) rfl ?_
            refine z_iconst (pc := 99) (v := (1 : Int32)) dX12_fog_99 (by decide) ?_
            refine z_istore (pc := 100) (lv' := [(12, .int (1 : Int32)), (11, .int (0 : Int32)), (10, .int (0 : Int32)), (9, .int v17), (8, .int ((x2 - x2 / (10 : Int32) * (10 : Int32)) - (1 : Int32))), (7, .int ((x1 - x1 / (10 : Int32) * (10 : Int32)) - (1 : Int32))), (6, .int (x2 / (10 : Int32))), (5, .int (x1 / (10 : Int32))), (0, .ref 36), (1, .int x1), (2, .int x2), (3, .int x3), (4, .int x4)]) dX12_fog_100 (by decide) rfl ?_
            refine z_lv (lv' := [(3, .int x3), (4, .int x4), (5, .int (x1 / (10 : Int32))), (6, .int (x2 / (10 : Int32))), (7, .int ((x1 - x1 / (10 : Int32) * (10 : Int32)) - (1 : Int32))), (8, .int ((x2 - x2 / (10 : Int32) * (10 : Int32)) - (1 : Int32))), (9, .int v17), (10, .int (0 : Int32)), (11, .int (0 : Int32)), (12, .int (1 : Int32))]) [11, 12, 7, 6, 5, 4, 3, 2, 1, 0] rfl ?_
            exact z12_fog_L102 hd N x3 x4 (x1 / (10 : Int32)) (x2 / (10 : Int32)) ((x1 - x1 / (10 : Int32) * (10 : Int32)) - (1 : Int32)) ((x2 - x2 / (10 : Int32) * (10 : Int32)) - (1 : Int32)) v17 (0 : Int32) (0 : Int32) (1 : Int32)
        · refine z_bipush (pc := 41) (v := (-2 : Int32)) dX12_fog_41 (by decide) ?_
          exact z_rI dX12_fog_43 rfl ⟨by decide, by decide⟩
      · refine z_bipush (pc := 41) (v := (-2 : Int32)) dX12_fog_41 (by decide) ?_
        exact z_rI dX12_fog_43 rfl ⟨by decide, by decide⟩
    · refine z_bipush (pc := 41) (v := (-2 : Int32)) dX12_fog_41 (by decide) ?_
      exact z_rI dX12_fog_43 rfl ⟨by decide, by decide⟩
  · refine z_bipush (pc := 41) (v := (-2 : Int32)) dX12_fog_41 (by decide) ?_
    exact z_rI dX12_fog_43 rfl ⟨by decide, by decide⟩
def f12_walks_J216 (k128 : Int32 → am_S → Option am_S) (N : Nat) (x1 : Int32) (σ : am_S) : Option am_S := k128 (x1 + (1 : Int32)) σ
theorem z12_walks_J216 {l : Launch} {E : am_E} {d : Nat} {σ0 : am_S} {N : Nat} (hd : 0 ≤ d) {k128 : Int32 → am_S → Option am_S} (hk128 : ∀ (x1 : Int32) (σ : am_S), Z l E msM σ0 YX12_walks d 0 0 128 [(0, .ref 36), (1, .int x1)] [] 0 0 σ (k128 x1 σ) (fun u r s => r = none ∧ s = u)) (x1 : Int32) (σ : am_S) : Z l E msM σ0 YX12_walks d 0 0 216 [(0, .ref 36), (1, .int x1)] [] 0 0 σ (f12_walks_J216 k128 N x1 σ) (fun u r s => r = none ∧ s = u) := by
  unfold f12_walks_J216
  refine z_iinc (pc := 216) (v := x1 + (1 : Int32)) (lv' := [(1, .int (x1 + (1 : Int32))), (0, .ref 36)]) 1 dX12_walks_216 rfl rfl (by decide) rfl ?_
  refine z_goto (pc := 219) (tgt := 128) dX12_walks_219 (by decide) ?_
  refine z_lv (lv' := [(0, .ref 36), (1, .int (x1 + (1 : Int32)))]) [1, 0] rfl ?_
  exact hk128 (x1 + (1 : Int32)) σ
def f12_walks_J210 (k128 : Int32 → am_S → Option am_S) (k136 : Int32 → Int32 → am_S → Option am_S) (N : Nat) (x1 : Int32) (x2 : Int32) (σ : am_S) : Option am_S := k136 x1 (x2 + (1 : Int32)) σ
theorem z12_walks_J210 {l : Launch} {E : am_E} {d : Nat} {σ0 : am_S} {N : Nat} (hd : 0 ≤ d) {k128 : Int32 → am_S → Option am_S} {k136 : Int32 → Int32 → am_S → Option am_S} (hk128 : ∀ (x1 : Int32) (σ : am_S), Z l E msM σ0 YX12_walks d 0 0 128 [(0, .ref 36), (1, .int x1)] [] 0 0 σ (k128 x1 σ) (fun u r s => r = none ∧ s = u)) (hk136 : ∀ (x1 : Int32) (x2 : Int32) (σ : am_S), Z l E msM σ0 YX12_walks d 0 0 136 [(0, .ref 36), (1, .int x1), (2, .int x2)] [] 0 0 σ (k136 x1 x2 σ) (fun u r s => r = none ∧ s = u)) (x1 : Int32) (x2 : Int32) (σ : am_S) : Z l E msM σ0 YX12_walks d 0 0 210 [(0, .ref 36), (1, .int x1), (2, .int x2)] [] 0 0 σ (f12_walks_J210 k128 k136 N x1 x2 σ) (fun u r s => r = none ∧ s = u) := by
  unfold f12_walks_J210
  refine z_iinc (pc := 210) (v := x2 + (1 : Int32)) (lv' := [(2, .int (x2 + (1 : Int32))), (0, .ref 36), (1, .int x1)]) 2 dX12_walks_210 rfl rfl (by decide) rfl ?_
  refine z_goto (pc := 213) (tgt := 136) dX12_walks_213 (by decide) ?_
  refine z_lv (lv' := [(0, .ref 36), (1, .int x1), (2, .int (x2 + (1 : Int32)))]) [1, 2, 0] rfl ?_
  exact hk136 x1 (x2 + (1 : Int32)) σ
def f12_walks_L144 (k128 : Int32 → am_S → Option am_S) (k136 : Int32 → Int32 → am_S → Option am_S) (N : Nat) : Nat → Int32 → Int32 → Int32 → am_S → Option am_S
  | 0, _, _, _, _ => none
  | n + 1, x1, x2, x3, σ => if (10 : Int32) ≤ x3 then (f12_walks_J210 k128 k136 N x1 x2 σ) else (if am_in (((10 : Int32) * x2) + x1) 100 = true then (if am_in (((10 : Int32) * x1) + x3) 100 = true then (if am_in (((10 : Int32) * x2) + x3) 100 = true then (if fF σ 57 (((10 : Int32) * x2) + x3).toNatClampNeg ≤ (fF σ 57 (((10 : Int32) * x2) + x1).toNatClampNeg) + (fF σ 57 (((10 : Int32) * x1) + x3).toNatClampNeg) then (f12_walks_L144 k128 k136 N n x1 x2 (x3 + (1 : Int32)) σ) else (if am_in (((10 : Int32) * x2) + x3) 100 = true then (f12_walks_L144 k128 k136 N n x1 x2 (x3 + (1 : Int32)) (sF σ 57 (((10 : Int32) * x2) + x3).toNatClampNeg ((fF σ 57 (((10 : Int32) * x2) + x1).toNatClampNeg) + (fF σ 57 (((10 : Int32) * x1) + x3).toNatClampNeg)))) else none)) else none) else none) else none)
theorem z12_walks_L144 {l : Launch} {E : am_E} {d : Nat} {σ0 : am_S} {N : Nat} (hd : 0 ≤ d) {k128 : Int32 → am_S → Option am_S} {k136 : Int32 → Int32 → am_S → Option am_S} (hk128 : ∀ (x1 : Int32) (σ : am_S), Z l E msM σ0 YX12_walks d 0 0 128 [(0, .ref 36), (1, .int x1)] [] 0 0 σ (k128 x1 σ) (fun u r s => r = none ∧ s = u)) (hk136 : ∀ (x1 : Int32) (x2 : Int32) (σ : am_S), Z l E msM σ0 YX12_walks d 0 0 136 [(0, .ref 36), (1, .int x1), (2, .int x2)] [] 0 0 σ (k136 x1 x2 σ) (fun u r s => r = none ∧ s = u)) : ∀ (n : Nat) (x1 : Int32) (x2 : Int32) (x3 : Int32) (σ : am_S), Z l E msM σ0 YX12_walks d 0 0 144 [(0, .ref 36), (1, .int x1), (2, .int x2), (3, .int x3)] [] 0 0 σ (f12_walks_L144 k128 k136 N n x1 x2 x3 σ) (fun u r s => r = none ∧ s = u) := by
  intro n
  induction n with
  | zero => intros; exact z_none
  | succ n ih =>
    intro x1 x2 x3 σ
    unfold f12_walks_L144
    refine z_iload_n (pc := 144) 3 dX12_walks_144 rfl rfl ?_
    refine z_bipush (pc := 145) (v := (10 : Int32)) dX12_walks_145 (by decide) ?_
    refine z_ic_ge (pc := 147) (tgt := 210) dX12_walks_147 (by decide) (fun h5 => ?_) (fun h5 => ?_)
    · refine z_lv (lv' := [(0, .ref 36), (1, .int x1), (2, .int x2)]) [0, 1, 2] rfl ?_
      exact z12_walks_J210 hd hk128 hk136 x1 x2 σ
    · refine z_aload_n (pc := 150) 0 dX12_walks_150 rfl rfl ?_
      refine z_getQ (pc := 151) (b := 57) dX12_walks_151 kM36 fr_RX12_74_12 (by decide) rfl ?_
      refine z_bipush (pc := 154) (v := (10 : Int32)) dX12_walks_154 (by decide) ?_
      refine z_iload_n (pc := 156) 2 dX12_walks_156 rfl rfl ?_
      refine z_imul (pc := 157) dX12_walks_157 ?_
      refine z_iload_n (pc := 158) 1 dX12_walks_158 rfl rfl ?_
      refine z_iadd (pc := 159) dX12_walks_159 ?_
      refine z_iald (pc := 160) dX12_walks_160 (am_ar.s kM57) (fun h6 => ?_)
      refine z_aload_n (pc := 161) 0 dX12_walks_161 rfl rfl ?_
      refine z_getQ (pc := 162) (b := 57) dX12_walks_162 kM36 fr_RX12_74_12 (by decide) rfl ?_
      refine z_bipush (pc := 165) (v := (10 : Int32)) dX12_walks_165 (by decide) ?_
      refine z_iload_n (pc := 167) 1 dX12_walks_167 rfl rfl ?_
      refine z_imul (pc := 168) dX12_walks_168 ?_
      refine z_iload_n (pc := 169) 3 dX12_walks_169 rfl rfl ?_
      refine z_iadd (pc := 170) dX12_walks_170 ?_
      refine z_iald (pc := 171) dX12_walks_171 (am_ar.s kM57) (fun h7 => ?_)
      refine z_iadd (pc := 172) dX12_walks_172 ?_
      refine z_istore (pc := 173) (lv' := [(4, .int ((fF σ 57 (((10 : Int32) * x2) + x1).toNatClampNeg) + (fF σ 57 (((10 : Int32) * x1) + x3).toNatClampNeg))), (0, .ref 36), (1, .int x1), (2, .int x2), (3, .int x3)]) dX12_walks_173 (by decide) rfl ?_
      refine z_iload (pc := 175) 0 dX12_walks_175 rfl ?_
      refine z_aload_n (pc := 177) 1 dX12_walks_177 rfl rfl ?_
      refine z_getQ (pc := 178) (b := 57) dX12_walks_178 kM36 fr_RX12_74_12 (by decide) rfl ?_
      refine z_bipush (pc := 181) (v := (10 : Int32)) dX12_walks_181 (by decide) ?_
      refine z_iload_n (pc := 183) 3 dX12_walks_183 rfl rfl ?_
      refine z_imul (pc := 184) dX12_walks_184 ?_
      refine z_iload_n (pc := 185) 4 dX12_walks_185 rfl rfl ?_
      refine z_iadd (pc := 186) dX12_walks_186 ?_
      refine z_iald (pc := 187) dX12_walks_187 (am_ar.s kM57) (fun h8 => ?_)
      refine z_ic_ge (pc := 188) (tgt := 204) dX12_walks_188 (by decide) (fun h9 => ?_) (fun h9 => ?_)
      · refine z_iinc (pc := 204) (v := x3 + (1 : Int32)) (lv' := [(3, .int (x3 + (1 : Int32))), (4, .int ((fF σ 57 (((10 : Int32) * x2) + x1).toNatClampNeg) + (fF σ 57 (((10 : Int32) * x1) + x3).toNatClampNeg))), (0, .ref 36), (1, .int x1), (2, .int x2)]) 4 dX12_walks_204 rfl rfl (by decide) rfl ?_
        refine z_goto (pc := 207) (tgt := 144) dX12_walks_207 (by decide) ?_
        refine z_lv (lv' := [(0, .ref 36), (1, .int x1), (2, .int x2), (3, .int (x3 + (1 : Int32)))]) [2, 3, 4, 0] rfl ?_
        exact ih x1 x2 (x3 + (1 : Int32)) σ
      · refine z_aload_n (pc := 191) 1 dX12_walks_191 rfl rfl ?_
        refine z_getQ (pc := 192) (b := 57) dX12_walks_192 kM36 fr_RX12_74_12 (by decide) rfl ?_
        refine z_bipush (pc := 195) (v := (10 : Int32)) dX12_walks_195 (by decide) ?_
        refine z_iload_n (pc := 197) 3 dX12_walks_197 rfl rfl ?_
        refine z_imul (pc := 198) dX12_walks_198 ?_
        refine z_iload_n (pc := 199) 4 dX12_walks_199 rfl rfl ?_
        refine z_iadd (pc := 200) dX12_walks_200 ?_
        refine z_iload (pc := 201) 0 dX12_walks_201 rfl ?_
        refine z_iast (pc := 203) dX12_walks_203 (am_ar.s kM57) (fun h10 => ?_)
        refine z_iinc (pc := 204) (v := x3 + (1 : Int32)) (lv' := [(3, .int (x3 + (1 : Int32))), (4, .int ((fF σ 57 (((10 : Int32) * x2) + x1).toNatClampNeg) + (fF σ 57 (((10 : Int32) * x1) + x3).toNatClampNeg))), (0, .ref 36), (1, .int x1), (2, .int x2)]) 4 dX12_walks_204 rfl rfl (by decide) rfl ?_
        refine z_goto (pc := 207) (tgt := 144) dX12_walks_207 (by decide) ?_
        refine z_lv (lv' := [(0, .ref 36), (1, .int x1), (2, .int x2), (3, .int (x3 + (1 : Int32)))]) [2, 3, 4, 0] rfl ?_
        exact ih x1 x2 (x3 + (1 : Int32)) (sF σ 57 (((10 : Int32) * x2) + x3).toNatClampNeg ((fF σ 57 (((10 : Int32) * x2) + x1).toNatClampNeg) + (fF σ 57 (((10 : Int32) * x1) + x3).toNatClampNeg)))
def f12_walks_L136 (k128 : Int32 → am_S → Option am_S) (N : Nat) : Nat → Int32 → Int32 → am_S → Option am_S
  | 0, _, _, _ => none
  | n + 1, x1, x2, σ => if (10 : Int32) ≤ x2 then (f12_walks_J216 k128 N x1 σ) else (f12_walks_L144 k128 (f12_walks_L136 k128 N n) N N x1 x2 (0 : Int32) σ)
theorem z12_walks_L136 {l : Launch} {E : am_E} {d : Nat} {σ0 : am_S} {N : Nat} (hd : 0 ≤ d) {k128 : Int32 → am_S → Option am_S} (hk128 : ∀ (x1 : Int32) (σ : am_S), Z l E msM σ0 YX12_walks d 0 0 128 [(0, .ref 36), (1, .int x1)] [] 0 0 σ (k128 x1 σ) (fun u r s => r = none ∧ s = u)) : ∀ (n : Nat) (x1 : Int32) (x2 : Int32) (σ : am_S), Z l E msM σ0 YX12_walks d 0 0 136 [(0, .ref 36), (1, .int x1), (2, .int x2)] [] 0 0 σ (f12_walks_L136 k128 N n x1 x2 σ) (fun u r s => r = none ∧ s = u) := by
  intro n
  induction n with
  | zero => intros; exact z_none
  | succ n ih =>
    intro x1 x2 σ
    unfold f12_walks_L136
    refine z_iload_n (pc := 136) 2 dX12_walks_136 rfl rfl ?_
    refine z_bipush (pc := 137) (v := (10 : Int32)) dX12_walks_137 (by decide) ?_
    refine z_ic_ge (pc := 139) (tgt := 216) dX12_walks_139 (by decide) (fun h4 => ?_) (fun h4 => ?_)
    · refine z_lv (lv' := [(0, .ref 36), (1, .int x1)]) [0, 1] rfl ?_
      exact z12_walks_J216 hd hk128 x1 σ
    · refine z_iconst (pc := 142) (v := (0 : Int32)) dX12_walks_142 (by decide) ?_
      refine z_istore_n (pc := 143) (lv' := [(3, .int (0 : Int32)), (0, .ref 36), (1, .int x1), (2, .int x2)]) dX12_walks_143 rfl (by decide) rfl ?_
      refine z_lv (lv' := [(0, .ref 36), (1, .int x1), (2, .int x2), (3, .int (0 : Int32))]) [1, 2, 3, 0] rfl ?_
      exact z12_walks_L144 hd hk128 (fun x1 x2 σ => ih x1 x2 σ) N x1 x2 (0 : Int32) σ
def f12_walks_L128 (N : Nat) : Nat → Int32 → am_S → Option am_S
  | 0, _, _ => none
  | n + 1, x1, σ => if (10 : Int32) ≤ x1 then (some (σ)) else (f12_walks_L136 (f12_walks_L128 N n) N N x1 (0 : Int32) σ)
theorem z12_walks_L128 {l : Launch} {E : am_E} {d : Nat} {σ0 : am_S} {N : Nat} (hd : 0 ≤ d) : ∀ (n : Nat) (x1 : Int32) (σ : am_S), Z l E msM σ0 YX12_walks d 0 0 128 [(0, .ref 36), (1, .int x1)] [] 0 0 σ (f12_walks_L128 N n x1 σ) (fun u r s => r = none ∧ s = u) := by
  intro n
  induction n with
  | zero => intros; exact z_none
  | succ n ih =>
    intro x1 σ
    unfold f12_walks_L128
    refine z_iload_n (pc := 128) 1 dX12_walks_128 rfl rfl ?_
    refine z_bipush (pc := 129) (v := (10 : Int32)) dX12_walks_129 (by decide) ?_
    refine z_ic_ge (pc := 131) (tgt := 222) dX12_walks_131 (by decide) (fun h3 => ?_) (fun h3 => ?_)
    · exact z_rVs dX12_walks_222 rfl ⟨by decide, by decide⟩
    · refine z_iconst (pc := 134) (v := (0 : Int32)) dX12_walks_134 (by decide) ?_
      refine z_istore_n (pc := 135) (lv' := [(2, .int (0 : Int32)), (0, .ref 36), (1, .int x1)]) dX12_walks_135 rfl (by decide) rfl ?_
      refine z_lv (lv' := [(0, .ref 36), (1, .int x1), (2, .int (0 : Int32))]) [1, 2, 0] rfl ?_
      exact z12_walks_L136 hd (fun x1 σ => ih x1 σ) N x1 (0 : Int32) σ
def f12_walks_J126 (N : Nat) (σ : am_S) : Option am_S := f12_walks_L128 N N (0 : Int32) σ
theorem z12_walks_J126 {l : Launch} {E : am_E} {d : Nat} {σ0 : am_S} {N : Nat} (hd : 0 ≤ d) (σ : am_S) : Z l E msM σ0 YX12_walks d 0 0 126 [(0, .ref 36)] [] 0 0 σ (f12_walks_J126 N σ) (fun u r s => r = none ∧ s = u) := by
  unfold f12_walks_J126
  refine z_iconst (pc := 126) (v := (0 : Int32)) dX12_walks_126 (by decide) ?_
  refine z_istore_n (pc := 127) (lv' := [(1, .int (0 : Int32)), (0, .ref 36)]) dX12_walks_127 rfl (by decide) rfl ?_
  refine z_lv (lv' := [(0, .ref 36), (1, .int (0 : Int32))]) [1, 0] rfl ?_
  exact z12_walks_L128 hd N (0 : Int32) σ
def f12_walks_L58 (N : Nat) : Nat → Int32 → am_S → Option am_S
  | 0, _, _ => none
  | n + 1, x1, σ => if fF σ 36 11 ≤ x1 then (f12_walks_J126 N σ) else (if am_in x1 7 = true then (if am_in x1 7 = true then (if fF σ 42 x1.toNatClampNeg = (1 : Int32) then (if am_in (fF σ 41 x1.toNatClampNeg) 100 = true then (if fF σ 57 (fF σ 41 x1.toNatClampNeg).toNatClampNeg ≤ (5 : Int32) then (f12_walks_L58 N n (x1 + (1 : Int32)) σ) else (if am_in (fF σ 41 x1.toNatClampNeg) 100 = true then (if am_in (((10 : Int32) * ((fF σ 41 x1.toNatClampNeg) - (fF σ 41 x1.toNatClampNeg) / (10 : Int32) * (10 : Int32))) + ((fF σ 41 x1.toNatClampNeg) / (10 : Int32))) 100 = true then (f12_walks_L58 N n (x1 + (1 : Int32)) (sF (sF σ 57 (fF σ 41 x1.toNatClampNeg).toNatClampNeg (5 : Int32)) 57 (((10 : Int32) * ((fF σ 41 x1.toNatClampNeg) - (fF σ 41 x1.toNatClampNeg) / (10 : Int32) * (10 : Int32))) + ((fF σ 41 x1.toNatClampNeg) / (10 : Int32))).toNatClampNeg (5 : Int32))) else none) else none)) else none) else (f12_walks_L58 N n (x1 + (1 : Int32)) σ)) else none) else none)
theorem z12_walks_L58 {l : Launch} {E : am_E} {d : Nat} {σ0 : am_S} {N : Nat} (hd : 0 ≤ d) : ∀ (n : Nat) (x1 : Int32) (σ : am_S), Z l E msM σ0 YX12_walks d 0 0 58 [(0, .ref 36), (1, .int x1)] [] 0 0 σ (f12_walks_L58 N n x1 σ) (fun u r s => r = none ∧ s = u) := by
  intro n
  induction n with
  | zero => intros; exact z_none
  | succ n ih =>
    intro x1 σ
    unfold f12_walks_L58
    refine z_iload_n (pc := 58) 1 dX12_walks_58 rfl rfl ?_
    refine z_aload_n (pc := 59) 0 dX12_walks_59 rfl rfl ?_
    refine z_getI (pc := 60) dX12_walks_60 (am_ob.s kM36) fr_RX12_131_12 (by decide) ?_
    refine z_ic_ge (pc := 63) (tgt := 126) dX12_walks_63 (by decide) (fun h2 => ?_) (fun h2 => ?_)
    · refine z_lv (lv' := [(0, .ref 36)]) [0] rfl ?_
      exact z12_walks_J126 hd σ
    · refine z_aload_n (pc := 66) 0 dX12_walks_66 rfl rfl ?_
      refine z_getQ (pc := 67) (b := 41) dX12_walks_67 kM36 fr_RX12_26_12 (by decide) rfl ?_
      refine z_iload_n (pc := 70) 1 dX12_walks_70 rfl rfl ?_
      refine z_iald (pc := 71) dX12_walks_71 (am_ar.s kM41) (fun h11 => ?_)
      refine z_istore_n (pc := 72) (lv' := [(2, .int (fF σ 41 x1.toNatClampNeg)), (0, .ref 36), (1, .int x1)]) dX12_walks_72 rfl (by decide) rfl ?_
      refine z_bipush (pc := 73) (v := (10 : Int32)) dX12_walks_73 (by decide) ?_
      refine z_iload_n (pc := 75) 0 dX12_walks_75 rfl rfl ?_
      refine z_bipush (pc := 76) (v := (10 : Int32)) dX12_walks_76 (by decide) ?_
      refine z_irem (pc := 78) dX12_walks_78 (by decide) ?_
      refine z_imul (pc := 79) dX12_walks_79 ?_
      refine z_iload_n (pc := 80) 0 dX12_walks_80 rfl rfl ?_
      refine z_bipush (pc := 81) (v := (10 : Int32)) dX12_walks_81 (by decide) ?_
      refine z_idiv (pc := 83) dX12_walks_83 (by decide) ?_
      refine z_iadd (pc := 84) dX12_walks_84 ?_
      refine z_istore_n (pc := 85) (lv' := [(3, .int (((10 : Int32) * ((fF σ 41 x1.toNatClampNeg) - (fF σ 41 x1.toNatClampNeg) / (10 : Int32) * (10 : Int32))) + ((fF σ 41 x1.toNatClampNeg) / (10 : Int32)))), (2, .int (fF σ 41 x1.toNatClampNeg)), (0, .ref 36), (1, .int x1)]) dX12_walks_85 rfl (by decide) rfl ?_
      refine z_aload_n (pc := 86) 2 dX12_walks_86 rfl rfl ?_
      refine z_getQ (pc := 87) (b := 42) dX12_walks_87 kM36 fr_RX12_29_12 (by decide) rfl ?_
      refine z_iload_n (pc := 90) 3 dX12_walks_90 rfl rfl ?_
      refine z_iald (pc := 91) dX12_walks_91 (am_ar.s kM42) (fun h12 => ?_)
      refine z_iconst (pc := 92) (v := (1 : Int32)) dX12_walks_92 (by decide) ?_
      refine z_ic_ne (pc := 93) (tgt := 120) dX12_walks_93 (by decide) (fun h13 => ?_) (fun h13 => ?_)
      · refine z_aload_n (pc := 96) 2 dX12_walks_96 rfl rfl ?_
        refine z_getQ (pc := 97) (b := 57) dX12_walks_97 kM36 fr_RX12_74_12 (by decide) rfl ?_
        refine z_iload_n (pc := 100) 1 dX12_walks_100 rfl rfl ?_
        refine z_iald (pc := 101) dX12_walks_101 (am_ar.s kM57) (fun h14 => ?_)
        refine z_iconst (pc := 102) (v := (5 : Int32)) dX12_walks_102 (by decide) ?_
        refine z_ic_le (pc := 103) (tgt := 120) dX12_walks_103 (by decide) (fun h15 => ?_) (fun h15 => ?_)
        · refine z_iinc (pc := 120) (v := x1 + (1 : Int32)) (lv' := [(1, .int (x1 + (1 : Int32))), (3, .int (((10 : Int32) * ((fF σ 41 x1.toNatClampNeg) - (fF σ 41 x1.toNatClampNeg) / (10 : Int32) * (10 : Int32))) + ((fF σ 41 x1.toNatClampNeg) / (10 : Int32)))), (2, .int (fF σ 41 x1.toNatClampNeg)), (0, .ref 36)]) 3 dX12_walks_120 rfl rfl (by decide) rfl ?_
          refine z_goto (pc := 123) (tgt := 58) dX12_walks_123 (by decide) ?_
          refine z_lv (lv' := [(0, .ref 36), (1, .int (x1 + (1 : Int32)))]) [3, 0] rfl ?_
          exact ih (x1 + (1 : Int32)) σ
        · refine z_aload_n (pc := 106) 2 dX12_walks_106 rfl rfl ?_
          refine z_getQ (pc := 107) (b := 57) dX12_walks_107 kM36 fr_RX12_74_12 (by decide) rfl ?_
          refine z_iload_n (pc := 110) 1 dX12_walks_110 rfl rfl ?_
          refine z_iconst (pc := 111) (v := (5 : Int32)) dX12_walks_111 (by decide) ?_
          refine z_iast (pc := 112) dX12_walks_112 (am_ar.s kM57) (fun h16 => ?_)
          refine z_aload_n (pc := 113) 2 dX12_walks_113 rfl rfl ?_
          refine z_getQ (pc := 114) (b := 57) dX12_walks_114 kM36 fr_RX12_74_12 (by decide) rfl ?_
          refine z_iload_n (pc := 117) 0 dX12_walks_117 rfl rfl ?_
          refine z_iconst (pc := 118) (v := (5 : Int32)) dX12_walks_118 (by decide) ?_
          refine z_iast (pc := 119) dX12_walks_119 (am_ar.s kM57) (fun h17 => ?_)
          refine z_iinc (pc := 120) (v := x1 + (1 : Int32)) (lv' := [(1, .int (x1 + (1 : Int32))), (3, .int (((10 : Int32) * ((fF σ 41 x1.toNatClampNeg) - (fF σ 41 x1.toNatClampNeg) / (10 : Int32) * (10 : Int32))) + ((fF σ 41 x1.toNatClampNeg) / (10 : Int32)))), (2, .int (fF σ 41 x1.toNatClampNeg)), (0, .ref 36)]) 3 dX12_walks_120 rfl rfl (by decide) rfl ?_
          refine z_goto (pc := 123) (tgt := 58) dX12_walks_123 (by decide) ?_
          refine z_lv (lv' := [(0, .ref 36), (1, .int (x1 + (1 : Int32)))]) [3, 0] rfl ?_
          exact ih (x1 + (1 : Int32)) (sF (sF σ 57 (fF σ 41 x1.toNatClampNeg).toNatClampNeg (5 : Int32)) 57 (((10 : Int32) * ((fF σ 41 x1.toNatClampNeg) - (fF σ 41 x1.toNatClampNeg) / (10 : Int32) * (10 : Int32))) + ((fF σ 41 x1.toNatClampNeg) / (10 : Int32))).toNatClampNeg (5 : Int32))
      · refine z_iinc (pc := 120) (v := x1 + (1 : Int32)) (lv' := [(1, .int (x1 + (1 : Int32))), (3, .int (((10 : Int32) * ((fF σ 41 x1.toNatClampNeg) - (fF σ 41 x1.toNatClampNeg) / (10 : Int32) * (10 : Int32))) + ((fF σ 41 x1.toNatClampNeg) / (10 : Int32)))), (2, .int (fF σ 41 x1.toNatClampNeg)), (0, .ref 36)]) 3 dX12_walks_120 rfl rfl (by decide) rfl ?_
        refine z_goto (pc := 123) (tgt := 58) dX12_walks_123 (by decide) ?_
        refine z_lv (lv' := [(0, .ref 36), (1, .int (x1 + (1 : Int32)))]) [3, 0] rfl ?_
        exact ih (x1 + (1 : Int32)) σ
def f12_walks_J56 (N : Nat) (σ : am_S) : Option am_S := f12_walks_L58 N N (0 : Int32) σ
theorem z12_walks_J56 {l : Launch} {E : am_E} {d : Nat} {σ0 : am_S} {N : Nat} (hd : 0 ≤ d) (σ : am_S) : Z l E msM σ0 YX12_walks d 0 0 56 [(0, .ref 36)] [] 0 0 σ (f12_walks_J56 N σ) (fun u r s => r = none ∧ s = u) := by
  unfold f12_walks_J56
  refine z_iconst (pc := 56) (v := (0 : Int32)) dX12_walks_56 (by decide) ?_
  refine z_istore_n (pc := 57) (lv' := [(1, .int (0 : Int32)), (0, .ref 36)]) dX12_walks_57 rfl (by decide) rfl ?_
  refine z_lv (lv' := [(0, .ref 36), (1, .int (0 : Int32))]) [1, 0] rfl ?_
  exact z12_walks_L58 hd N (0 : Int32) σ
def f12_walks_L2 (N : Nat) : Nat → Int32 → am_S → Option am_S
  | 0, _, _ => none
  | n + 1, x1, σ => if (100 : Int32) ≤ x1 then (f12_walks_J56 N σ) else (if x1 / (10 : Int32) = x1 - x1 / (10 : Int32) * (10 : Int32) then (if am_in x1 100 = true then (f12_walks_L2 N n (x1 + (1 : Int32)) (sF σ 57 x1.toNatClampNeg (0 : Int32))) else none) else (if am_in x1 100 = true then (if fF σ 56 x1.toNatClampNeg ≤ 0 then (if am_in x1 100 = true then (f12_walks_L2 N n (x1 + (1 : Int32)) (sF σ 57 x1.toNatClampNeg (1000 : Int32))) else none) else (if am_in x1 100 = true then (if am_in x1 100 = true then (f12_walks_L2 N n (x1 + (1 : Int32)) (sF σ 57 x1.toNatClampNeg (fF σ 56 x1.toNatClampNeg))) else none) else none)) else none))
theorem z12_walks_L2 {l : Launch} {E : am_E} {d : Nat} {σ0 : am_S} {N : Nat} (hd : 0 ≤ d) : ∀ (n : Nat) (x1 : Int32) (σ : am_S), Z l E msM σ0 YX12_walks d 0 0 2 [(0, .ref 36), (1, .int x1)] [] 0 0 σ (f12_walks_L2 N n x1 σ) (fun u r s => r = none ∧ s = u) := by
  intro n
  induction n with
  | zero => intros; exact z_none
  | succ n ih =>
    intro x1 σ
    unfold f12_walks_L2
    refine z_iload_n (pc := 2) 1 dX12_walks_2 rfl rfl ?_
    refine z_bipush (pc := 3) (v := (100 : Int32)) dX12_walks_3 (by decide) ?_
    refine z_ic_ge (pc := 5) (tgt := 56) dX12_walks_5 (by decide) (fun h1 => ?_) (fun h1 => ?_)
    · refine z_lv (lv' := [(0, .ref 36)]) [0] rfl ?_
      exact z12_walks_J56 hd σ
    · refine z_aload_n (pc := 8) 0 dX12_walks_8 rfl rfl ?_
      refine z_getQ (pc := 9) (b := 57) dX12_walks_9 kM36 fr_RX12_74_12 (by decide) rfl ?_
      refine z_iload_n (pc := 12) 1 dX12_walks_12 rfl rfl ?_
      refine z_iload_n (pc := 13) 1 dX12_walks_13 rfl rfl ?_
      refine z_bipush (pc := 14) (v := (10 : Int32)) dX12_walks_14 (by decide) ?_
      refine z_idiv (pc := 16) dX12_walks_16 (by decide) ?_
      refine z_iload_n (pc := 17) 1 dX12_walks_17 rfl rfl ?_
      refine z_bipush (pc := 18) (v := (10 : Int32)) dX12_walks_18 (by decide) ?_
      refine z_irem (pc := 20) dX12_walks_20 (by decide) ?_
      refine z_ic_ne (pc := 21) (tgt := 28) dX12_walks_21 (by decide) (fun h18 => ?_) (fun h18 => ?_)
      · refine z_iconst (pc := 24) (v := (0 : Int32)) dX12_walks_24 (by decide) ?_
        refine z_goto (pc := 25) (tgt := 49) dX12_walks_25 (by decide) ?_
        refine z_iast (pc := 49) dX12_walks_49 (am_ar.s kM57) (fun h19 => ?_)
        refine z_iinc (pc := 50) (v := x1 + (1 : Int32)) (lv' := [(1, .int (x1 + (1 : Int32))), (0, .ref 36)]) 1 dX12_walks_50 rfl rfl (by decide) rfl ?_
        refine z_goto (pc := 53) (tgt := 2) dX12_walks_53 (by decide) ?_
        refine z_lv (lv' := [(0, .ref 36), (1, .int (x1 + (1 : Int32)))]) [1, 0] rfl ?_
        exact ih (x1 + (1 : Int32)) (sF σ 57 x1.toNatClampNeg (0 : Int32))
      · refine z_aload_n (pc := 28) 0 dX12_walks_28 rfl rfl ?_
        refine z_getQ (pc := 29) (b := 56) dX12_walks_29 kM36 fr_RX12_71_12 (by decide) rfl ?_
        refine z_iload_n (pc := 32) 1 dX12_walks_32 rfl rfl ?_
        refine z_iald (pc := 33) dX12_walks_33 (am_ar.s kM56) (fun h20 => ?_)
        refine z_if_le (pc := 34) (tgt := 46) dX12_walks_34 (by decide) (fun h21 => ?_) (fun h21 => ?_)
        · refine z_sipush (pc := 46) (v := (1000 : Int32)) dX12_walks_46 (by decide) ?_
          refine z_iast (pc := 49) dX12_walks_49 (am_ar.s kM57) (fun h22 => ?_)
          refine z_iinc (pc := 50) (v := x1 + (1 : Int32)) (lv' := [(1, .int (x1 + (1 : Int32))), (0, .ref 36)]) 1 dX12_walks_50 rfl rfl (by decide) rfl ?_
          refine z_goto (pc := 53) (tgt := 2) dX12_walks_53 (by decide) ?_
          refine z_lv (lv' := [(0, .ref 36), (1, .int (x1 + (1 : Int32)))]) [1, 0] rfl ?_
          exact ih (x1 + (1 : Int32)) (sF σ 57 x1.toNatClampNeg (1000 : Int32))
        · refine z_aload_n (pc := 37) 0 dX12_walks_37 rfl rfl ?_
          refine z_getQ (pc := 38) (b := 56) dX12_walks_38 kM36 fr_RX12_71_12 (by decide) rfl ?_
          refine z_iload_n (pc := 41) 1 dX12_walks_41 rfl rfl ?_
          refine z_iald (pc := 42) dX12_walks_42 (am_ar.s kM56) (fun h23 => ?_)
          refine z_goto (pc := 43) (tgt := 49) dX12_walks_43 (by decide) ?_
          refine z_iast (pc := 49) dX12_walks_49 (am_ar.s kM57) (fun h24 => ?_)
          refine z_iinc (pc := 50) (v := x1 + (1 : Int32)) (lv' := [(1, .int (x1 + (1 : Int32))), (0, .ref 36)]) 1 dX12_walks_50 rfl rfl (by decide) rfl ?_
          refine z_goto (pc := 53) (tgt := 2) dX12_walks_53 (by decide) ?_
          refine z_lv (lv' := [(0, .ref 36), (1, .int (x1 + (1 : Int32)))]) [1, 0] rfl ?_
          exact ih (x1 + (1 : Int32)) (sF σ 57 x1.toNatClampNeg (fF σ 56 x1.toNatClampNeg))
def f12_walks (N : Nat) (σ : am_S) : Option am_S := f12_walks_L2 N N (0 : Int32) σ
theorem c12_walks {l : Launch} {E : am_E} {N : Nat} {σ : am_S} {σ1 : am_S} (hf : f12_walks N σ = some σ1) : Ctr l E msM YX12_walks (0) 0 0 [.ref 36] σ none σ1 := by
  refine ctr_of (G := fun u r s => r = none ∧ s = u) (by decide +kernel) (Nat.le_of_ble_eq_true rfl) hf ⟨rfl, rfl⟩ (fun d hd => ?_)
  refine z_eqlv (lv' := [(0, .ref 36)]) rfl ?_
  unfold f12_walks
  refine z_iconst (pc := 0) (v := (0 : Int32)) dX12_walks_0 (by decide) ?_
  refine z_istore_n (pc := 1) (lv' := [(1, .int (0 : Int32)), (0, .ref 36)]) dX12_walks_1 rfl (by decide) rfl ?_
  refine z_lv (lv' := [(0, .ref 36), (1, .int (0 : Int32))]) [1, 0] rfl ?_
  exact z12_walks_L2 hd N (0 : Int32) σ
def f12_foot (N : Nat) (σ : am_S) (x1 : Int32) : Option (Int32 × am_S) := (f12_in x1.toInt64 (0 : Int64) (99 : Int64)).bind fun v1 => (if v1 = true then ((f12_walks N σ).bind fun s6 => (if am_in x1 100 = true then (if (1000 : Int32) ≤ fF s6 57 x1.toNatClampNeg then (some ((-1 : Int32), s6)) else (if am_in x1 100 = true then (some (fF s6 57 x1.toNatClampNeg, s6)) else none)) else none)) else (some ((-2 : Int32), σ)))
theorem c12_foot {l : Launch} {E : am_E} {N : Nat} {σ : am_S} {x1 : Int32} {v : Int32} {σ1 : am_S} (hf : f12_foot N σ x1 = some (v, σ1)) : Ctr l E msM YX12_foot (1) 0 0 [.ref 36, .int x1] σ (some (.int v)) σ1 := by
  refine ctr_of (G := fun u r s => r = some (.int u.1) ∧ s = u.2) (by decide +kernel) (Nat.le_of_ble_eq_true rfl) hf ⟨rfl, rfl⟩ (fun d hd => ?_)
  refine z_eqlv (lv' := [(0, .ref 36), (1, .int x1)]) rfl ?_
  unfold f12_foot
  refine z_iload_n (pc := 0) 1 dX12_foot_0 rfl rfl ?_
  refine z_i2l (pc := 1) dX12_foot_1 ?_
  refine z_lconst (pc := 2) (v := (0 : Int64)) dX12_foot_2 (by decide) ?_
  refine z_ldc2 (pc := 3) (v := (99 : Int64)) dX12_foot_3 kl_RX12_143 ?_
  refine z_callB (pc := 6) [.long x1.toInt64, .long (0 : Int64), .long (99 : Int64)] [] rfl (lk_S (Yc := YX12_in) (n := 3) dX12_foot_6 rfl np_X12_in mh_RX12 (by decide) ml_RX12_134 st_X12_in in_RX12 cd_X12_in) (Nat.le_trans (by decide) hd) ⟨by decide, by decide⟩ (Nat.le_of_ble_eq_true rfl) (am_kp.rf _) (fun v1 h3 => c12_in h3) (fun v1 h3 => ?_)
  refine z_bz_ne (pc := 9) (tgt := 15) dX12_foot_9 (by decide) (fun h4 => ?_) (fun h4 => ?_)
  · refine z_aload_n (pc := 15) 0 dX12_foot_15 rfl rfl ?_
    refine z_callVs (pc := 16) [.ref 36] [] rfl (lk_V (Yc := YX12_walks) (n := 0) dX12_foot_16 rfl rfl (am_ob.s kM36) rfl rfl np_X12_walks mh_RX12 (by decide) ml_RX12_383 im_X12_walks se_RX12_X12_walks_X12_walks in_RX12 cd_X12_walks) (Nat.le_trans (by decide) hd) ⟨by decide, by decide⟩ (Nat.le_of_ble_eq_true rfl) (am_kp.rf _) (fun s6 h7 => c12_walks h7) (fun s6 h7 => ?_)
    refine z_aload_n (pc := 19) 0 dX12_foot_19 rfl rfl ?_
    refine z_getQ (pc := 20) (b := 57) dX12_foot_20 kM36 fr_RX12_74_12 (by decide) rfl ?_
    refine z_iload_n (pc := 23) 1 dX12_foot_23 rfl rfl ?_
    refine z_iald (pc := 24) dX12_foot_24 (am_ar.s kM57) (fun h8 => ?_)
    refine z_sipush (pc := 25) (v := (1000 : Int32)) dX12_foot_25 (by decide) ?_
    refine z_ic_ge (pc := 28) (tgt := 40) dX12_foot_28 (by decide) (fun h9 => ?_) (fun h9 => ?_)
    · refine z_iconst (pc := 40) (v := (-1 : Int32)) dX12_foot_40 (by decide) ?_
      exact z_rIs dX12_foot_41 rfl ⟨by decide, by decide⟩
    · refine z_aload_n (pc := 31) 0 dX12_foot_31 rfl rfl ?_
      refine z_getQ (pc := 32) (b := 57) dX12_foot_32 kM36 fr_RX12_74_12 (by decide) rfl ?_
      refine z_iload_n (pc := 35) 1 dX12_foot_35 rfl rfl ?_
      refine z_iald (pc := 36) dX12_foot_36 (am_ar.s kM57) (fun h10 => ?_)
      refine z_goto (pc := 37) (tgt := 41) dX12_foot_37 (by decide) ?_
      exact z_rIs dX12_foot_41 rfl ⟨by decide, by decide⟩
  · refine z_bipush (pc := 12) (v := (-2 : Int32)) dX12_foot_12 (by decide) ?_
    exact z_rIs dX12_foot_14 rfl ⟨by decide, by decide⟩
def f12_force (σ : am_S) (x1 : Int32) : Option (Int32 × am_S) := (f12_in x1.toInt64 (0 : Int64) (((fF σ 36 3) - (1 : Int32)).toInt64)).bind fun v1 => (if v1 = true then (some (fF σ 36 4, sF σ 36 4 x1)) else (some ((-2 : Int32), σ)))
theorem c12_force {l : Launch} {E : am_E} {σ : am_S} {x1 : Int32} {v : Int32} {σ1 : am_S} (hf : f12_force σ x1 = some (v, σ1)) : Ctr l E msM YX12_force (1) 0 0 [.ref 36, .int x1] σ (some (.int v)) σ1 := by
  refine ctr_of (G := fun u r s => r = some (.int u.1) ∧ s = u.2) (by decide +kernel) (Nat.le_of_ble_eq_true rfl) hf ⟨rfl, rfl⟩ (fun d hd => ?_)
  refine z_eqlv (lv' := [(0, .ref 36), (1, .int x1)]) rfl ?_
  unfold f12_force
  refine z_iload_n (pc := 0) 1 dX12_force_0 rfl rfl ?_
  refine z_i2l (pc := 1) dX12_force_1 ?_
  refine z_lconst (pc := 2) (v := (0 : Int64)) dX12_force_2 (by decide) ?_
  refine z_aload_n (pc := 3) 0 dX12_force_3 rfl rfl ?_
  refine z_getI (pc := 4) dX12_force_4 (am_ob.s kM36) fr_RX12_126_12 (by decide) ?_
  refine z_iconst (pc := 7) (v := (1 : Int32)) dX12_force_7 (by decide) ?_
  refine z_isub (pc := 8) dX12_force_8 ?_
  refine z_i2l (pc := 9) dX12_force_9 ?_
  refine z_callB (pc := 10) [.long x1.toInt64, .long (0 : Int64), .long (((fF σ 36 3) - (1 : Int32)).toInt64)] [] rfl (lk_S (Yc := YX12_in) (n := 3) dX12_force_10 rfl np_X12_in mh_RX12 (by decide) ml_RX12_134 st_X12_in in_RX12 cd_X12_in) (Nat.le_trans (by decide) hd) ⟨by decide, by decide⟩ (Nat.le_of_ble_eq_true rfl) (am_kp.rf _) (fun v1 h3 => c12_in h3) (fun v1 h3 => ?_)
  refine z_bz_ne (pc := 13) (tgt := 19) dX12_force_13 (by decide) (fun h4 => ?_) (fun h4 => ?_)
  · refine z_aload_n (pc := 19) 0 dX12_force_19 rfl rfl ?_
    refine z_getI (pc := 20) dX12_force_20 (am_ob.s kM36) fr_RX12_332_12 (by decide) ?_
    refine z_istore_n (pc := 23) (lv' := [(2, .int (fF σ 36 4)), (0, .ref 36), (1, .int x1)]) dX12_force_23 rfl (by decide) rfl ?_
    refine z_aload_n (pc := 24) 1 dX12_force_24 rfl rfl ?_
    refine z_iload_n (pc := 25) 2 dX12_force_25 rfl rfl ?_
    refine z_putI (pc := 26) dX12_force_26 (am_ob.s kM36) fw_RX12_332_12 (by decide) ?_
    refine z_iload_n (pc := 29) 0 dX12_force_29 rfl rfl ?_
    exact z_rIs dX12_force_30 rfl ⟨by decide, by decide⟩
  · refine z_bipush (pc := 16) (v := (-2 : Int32)) dX12_force_16 (by decide) ?_
    exact z_rIs dX12_force_18 rfl ⟨by decide, by decide⟩
def f12_may (σ : am_S) (x1 : Int32) (x2 : Int32) : Option Bool := if am_in x1 14 = true then (if fF σ 49 x1.toNatClampNeg = (1 : Int32) then (some (false)) else ((f12_in x2.toInt64 (6 : Int64) (21 : Int64)).bind fun v3 => (if am_in x1 14 = true then (if fF σ 44 x1.toNatClampNeg = (1 : Int32) then (if v3 = true then (if am_in x1 14 = true then (if fF σ 45 x1.toNatClampNeg ≤ (15 : Int32) then (some (false)) else (some (true))) else none) else (some (false))) else (if fF σ 44 x1.toNatClampNeg = (2 : Int32) then (if v3 = true then (if x2 - x2 / (2 : Int32) * (2 : Int32) = 0 then (some (true)) else (if am_in x1 14 = true then (if fF σ 46 x1.toNatClampNeg ≤ (4 : Int32) then (some (false)) else (some (true))) else none)) else (some (false))) else (if fF σ 44 x1.toNatClampNeg = (3 : Int32) then (if v3 = true then (if am_in x1 14 = true then (if (15 : Int32) < fF σ 45 x1.toNatClampNeg then (some (true)) else (if am_in x1 14 = true then (if x2 = fF σ 46 x1.toNatClampNeg then (some (true)) else (some (false))) else none)) else none) else (if am_in x1 14 = true then (if x2 = fF σ 46 x1.toNatClampNeg then (some (true)) else (some (false))) else none)) else (if fF σ 44 x1.toNatClampNeg = (4 : Int32) then (if x2 < (6 : Int32) then (some (false)) else (some (true))) else (if fF σ 44 x1.toNatClampNeg = (5 : Int32) then ((f12_in x2.toInt64 (6 : Int64) (13 : Int64)).bind fun v27 => (if v27 = true then (if x2 - x2 / (2 : Int32) * (2 : Int32) = 0 then (some (true)) else (if am_in x1 14 = true then (if fF σ 46 x1.toNatClampNeg ≤ (4 : Int32) then (some (false)) else (some (true))) else none)) else (some (false)))) else (some (v3))))))) else none))) else none
theorem c12_may {l : Launch} {E : am_E} {σ : am_S} {x1 : Int32} {x2 : Int32} {v : Bool} (hf : f12_may σ x1 x2 = some v) : Ctr l E msM YX12_may (1) 0 0 [.ref 36, .int x1, .int x2] σ (some (.int (bI v))) σ := by
  refine ctr_of (G := fun u r s => r = some (.int (bI u)) ∧ s = σ) (by decide +kernel) (Nat.le_of_ble_eq_true rfl) hf ⟨rfl, rfl⟩ (fun d hd => ?_)
  refine z_eqlv (lv' := [(0, .ref 36), (1, .int x1), (2, .int x2)]) rfl ?_
  unfold f12_may
  refine z_aload_n (pc := 0) 0 dX12_may_0 rfl rfl ?_
  refine z_getQ (pc := 1) (b := 49) dX12_may_1 kM36 fr_RX12_50_12 (by decide) rfl ?_
  refine z_iload_n (pc := 4) 1 dX12_may_4 rfl rfl ?_
  refine z_iald (pc := 5) dX12_may_5 (am_ar.s kM49) (fun h1 => ?_)
  refine z_iconst (pc := 6) (v := (1 : Int32)) dX12_may_6 (by decide) ?_
  refine z_ic_ne (pc := 7) (tgt := 12) dX12_may_7 (by decide) (fun h2 => ?_) (fun h2 => ?_)
  · refine z_iconst (pc := 10) (v := (0 : Int32)) dX12_may_10 (by decide) ?_
    exact z_rB (b := false) rfl dX12_may_11 rfl ⟨by decide, by decide⟩
  · refine z_iload_n (pc := 12) 2 dX12_may_12 rfl rfl ?_
    refine z_i2l (pc := 13) dX12_may_13 ?_
    refine z_ldc2 (pc := 14) (v := (6 : Int64)) dX12_may_14 kl_RX12_173 ?_
    refine z_ldc2 (pc := 17) (v := (21 : Int64)) dX12_may_17 kl_RX12_175 ?_
    refine z_callB (pc := 20) [.long x2.toInt64, .long (6 : Int64), .long (21 : Int64)] [] rfl (lk_S (Yc := YX12_in) (n := 3) dX12_may_20 rfl np_X12_in mh_RX12 (by decide) ml_RX12_134 st_X12_in in_RX12 cd_X12_in) (Nat.le_trans (by decide) hd) ⟨by decide, by decide⟩ (Nat.le_of_ble_eq_true rfl) (am_kp.rf _) (fun v3 h5 => c12_in h5) (fun v3 h5 => ?_)
    refine z_istore_n (pc := 23) (lv' := [(3, .int (bI v3)), (0, .ref 36), (1, .int x1), (2, .int x2)]) dX12_may_23 rfl (by decide) rfl ?_
    refine z_aload_n (pc := 24) 1 dX12_may_24 rfl rfl ?_
    refine z_getQ (pc := 25) (b := 44) dX12_may_25 kM36 fr_RX12_35_12 (by decide) rfl ?_
    refine z_iload_n (pc := 28) 2 dX12_may_28 rfl rfl ?_
    refine z_iald (pc := 29) dX12_may_29 (am_ar.s kM44) (fun h6 => ?_)
    refine z_ite (fun h7 => ?_) (fun h7 => ?_)
    · refine z_tsEq (pc := 30) (1) (off := 34) (tgt := 64) dX12_may_30 h7 (by decide) (by decide) (by decide) (by decide) ?_
      refine z_iload_n (pc := 64) 0 dX12_may_64 rfl rfl ?_
      refine z_bz_eq (pc := 65) (tgt := 83) dX12_may_65 (by decide) (fun h8 => ?_) (fun h8 => ?_)
      · refine z_aload_n (pc := 68) 1 dX12_may_68 rfl rfl ?_
        refine z_getQ (pc := 69) (b := 45) dX12_may_69 kM36 fr_RX12_38_12 (by decide) rfl ?_
        refine z_iload_n (pc := 72) 2 dX12_may_72 rfl rfl ?_
        refine z_iald (pc := 73) dX12_may_73 (am_ar.s kM45) (fun h9 => ?_)
        refine z_bipush (pc := 74) (v := (15 : Int32)) dX12_may_74 (by decide) ?_
        refine z_ic_le (pc := 76) (tgt := 83) dX12_may_76 (by decide) (fun h10 => ?_) (fun h10 => ?_)
        · refine z_iconst (pc := 83) (v := (0 : Int32)) dX12_may_83 (by decide) ?_
          exact z_rB (b := false) rfl dX12_may_84 rfl ⟨by decide, by decide⟩
        · refine z_iconst (pc := 79) (v := (1 : Int32)) dX12_may_79 (by decide) ?_
          refine z_goto (pc := 80) (tgt := 84) dX12_may_80 (by decide) ?_
          exact z_rB (b := true) rfl dX12_may_84 rfl ⟨by decide, by decide⟩
      · refine z_iconst (pc := 83) (v := (0 : Int32)) dX12_may_83 (by decide) ?_
        exact z_rB (b := false) rfl dX12_may_84 rfl ⟨by decide, by decide⟩
    · refine z_ite (fun h11 => ?_) (fun h11 => ?_)
      · refine z_tsEq (pc := 30) (2) (off := 55) (tgt := 85) dX12_may_30 h11 (by decide) (by decide) (by decide) (by decide) ?_
        refine z_iload_n (pc := 85) 0 dX12_may_85 rfl rfl ?_
        refine z_bz_eq (pc := 86) (tgt := 109) dX12_may_86 (by decide) (fun h12 => ?_) (fun h12 => ?_)
        · refine z_iload_n (pc := 89) 3 dX12_may_89 rfl rfl ?_
          refine z_iconst (pc := 90) (v := (2 : Int32)) dX12_may_90 (by decide) ?_
          refine z_irem (pc := 91) dX12_may_91 (by decide) ?_
          refine z_if_eq (pc := 92) (tgt := 105) dX12_may_92 (by decide) (fun h13 => ?_) (fun h13 => ?_)
          · refine z_iconst (pc := 105) (v := (1 : Int32)) dX12_may_105 (by decide) ?_
            refine z_goto (pc := 106) (tgt := 110) dX12_may_106 (by decide) ?_
            exact z_rB (b := true) rfl dX12_may_110 rfl ⟨by decide, by decide⟩
          · refine z_aload_n (pc := 95) 1 dX12_may_95 rfl rfl ?_
            refine z_getQ (pc := 96) (b := 46) dX12_may_96 kM36 fr_RX12_41_12 (by decide) rfl ?_
            refine z_iload_n (pc := 99) 2 dX12_may_99 rfl rfl ?_
            refine z_iald (pc := 100) dX12_may_100 (am_ar.s kM46) (fun h14 => ?_)
            refine z_iconst (pc := 101) (v := (4 : Int32)) dX12_may_101 (by decide) ?_
            refine z_ic_le (pc := 102) (tgt := 109) dX12_may_102 (by decide) (fun h15 => ?_) (fun h15 => ?_)
            · refine z_iconst (pc := 109) (v := (0 : Int32)) dX12_may_109 (by decide) ?_
              exact z_rB (b := false) rfl dX12_may_110 rfl ⟨by decide, by decide⟩
            · refine z_iconst (pc := 105) (v := (1 : Int32)) dX12_may_105 (by decide) ?_
              refine z_goto (pc := 106) (tgt := 110) dX12_may_106 (by decide) ?_
              exact z_rB (b := true) rfl dX12_may_110 rfl ⟨by decide, by decide⟩
        · refine z_iconst (pc := 109) (v := (0 : Int32)) dX12_may_109 (by decide) ?_
          exact z_rB (b := false) rfl dX12_may_110 rfl ⟨by decide, by decide⟩
      · refine z_ite (fun h16 => ?_) (fun h16 => ?_)
        · refine z_tsEq (pc := 30) (3) (off := 81) (tgt := 111) dX12_may_30 h16 (by decide) (by decide) (by decide) (by decide) ?_
          refine z_iload_n (pc := 111) 0 dX12_may_111 rfl rfl ?_
          refine z_bz_eq (pc := 112) (tgt := 126) dX12_may_112 (by decide) (fun h17 => ?_) (fun h17 => ?_)
          · refine z_aload_n (pc := 115) 1 dX12_may_115 rfl rfl ?_
            refine z_getQ (pc := 116) (b := 45) dX12_may_116 kM36 fr_RX12_38_12 (by decide) rfl ?_
            refine z_iload_n (pc := 119) 2 dX12_may_119 rfl rfl ?_
            refine z_iald (pc := 120) dX12_may_120 (am_ar.s kM45) (fun h18 => ?_)
            refine z_bipush (pc := 121) (v := (15 : Int32)) dX12_may_121 (by decide) ?_
            refine z_ic_gt (pc := 123) (tgt := 136) dX12_may_123 (by decide) (fun h19 => ?_) (fun h19 => ?_)
            · refine z_iconst (pc := 136) (v := (1 : Int32)) dX12_may_136 (by decide) ?_
              refine z_goto (pc := 137) (tgt := 141) dX12_may_137 (by decide) ?_
              exact z_rB (b := true) rfl dX12_may_141 rfl ⟨by decide, by decide⟩
            · refine z_iload_n (pc := 126) 3 dX12_may_126 rfl rfl ?_
              refine z_aload_n (pc := 127) 1 dX12_may_127 rfl rfl ?_
              refine z_getQ (pc := 128) (b := 46) dX12_may_128 kM36 fr_RX12_41_12 (by decide) rfl ?_
              refine z_iload_n (pc := 131) 2 dX12_may_131 rfl rfl ?_
              refine z_iald (pc := 132) dX12_may_132 (am_ar.s kM46) (fun h20 => ?_)
              refine z_ic_ne (pc := 133) (tgt := 140) dX12_may_133 (by decide) (fun h21 => ?_) (fun h21 => ?_)
              · refine z_iconst (pc := 136) (v := (1 : Int32)) dX12_may_136 (by decide) ?_
                refine z_goto (pc := 137) (tgt := 141) dX12_may_137 (by decide) ?_
                exact z_rB (b := true) rfl dX12_may_141 rfl ⟨by decide, by decide⟩
              · refine z_iconst (pc := 140) (v := (0 : Int32)) dX12_may_140 (by decide) ?_
                exact z_rB (b := false) rfl dX12_may_141 rfl ⟨by decide, by decide⟩
          · refine z_iload_n (pc := 126) 3 dX12_may_126 rfl rfl ?_
            refine z_aload_n (pc := 127) 1 dX12_may_127 rfl rfl ?_
            refine z_getQ (pc := 128) (b := 46) dX12_may_128 kM36 fr_RX12_41_12 (by decide) rfl ?_
            refine z_iload_n (pc := 131) 2 dX12_may_131 rfl rfl ?_
            refine z_iald (pc := 132) dX12_may_132 (am_ar.s kM46) (fun h22 => ?_)
            refine z_ic_ne (pc := 133) (tgt := 140) dX12_may_133 (by decide) (fun h23 => ?_) (fun h23 => ?_)
            · refine z_iconst (pc := 136) (v := (1 : Int32)) dX12_may_136 (by decide) ?_
              refine z_goto (pc := 137) (tgt := 141) dX12_may_137 (by decide) ?_
              exact z_rB (b := true) rfl dX12_may_141 rfl ⟨by decide, by decide⟩
            · refine z_iconst (pc := 140) (v := (0 : Int32)) dX12_may_140 (by decide) ?_
              exact z_rB (b := false) rfl dX12_may_141 rfl ⟨by decide, by decide⟩
        · refine z_ite (fun h24 => ?_) (fun h24 => ?_)
          · refine z_tsEq (pc := 30) (4) (off := 112) (tgt := 142) dX12_may_30 h24 (by decide) (by decide) (by decide) (by decide) ?_
            refine z_iload_n (pc := 142) 3 dX12_may_142 rfl rfl ?_
            refine z_bipush (pc := 143) (v := (6 : Int32)) dX12_may_143 (by decide) ?_
            refine z_ic_lt (pc := 145) (tgt := 152) dX12_may_145 (by decide) (fun h25 => ?_) (fun h25 => ?_)
            · refine z_iconst (pc := 152) (v := (0 : Int32)) dX12_may_152 (by decide) ?_
              exact z_rB (b := false) rfl dX12_may_153 rfl ⟨by decide, by decide⟩
            · refine z_iconst (pc := 148) (v := (1 : Int32)) dX12_may_148 (by decide) ?_
              refine z_goto (pc := 149) (tgt := 153) dX12_may_149 (by decide) ?_
              exact z_rB (b := true) rfl dX12_may_153 rfl ⟨by decide, by decide⟩
          · refine z_ite (fun h26 => ?_) (fun h26 => ?_)
            · refine z_tsEq (pc := 30) (5) (off := 124) (tgt := 154) dX12_may_30 h26 (by decide) (by decide) (by decide) (by decide) ?_
              refine z_iload_n (pc := 154) 3 dX12_may_154 rfl rfl ?_
              refine z_i2l (pc := 155) dX12_may_155 ?_
              refine z_ldc2 (pc := 156) (v := (6 : Int64)) dX12_may_156 kl_RX12_173 ?_
              refine z_ldc2 (pc := 159) (v := (13 : Int64)) dX12_may_159 kl_RX12_177 ?_
              refine z_callB (pc := 162) [.long x2.toInt64, .long (6 : Int64), .long (13 : Int64)] [] rfl (lk_S (Yc := YX12_in) (n := 3) dX12_may_162 rfl np_X12_in mh_RX12 (by decide) ml_RX12_134 st_X12_in in_RX12 cd_X12_in) (Nat.le_trans (by decide) hd) ⟨by decide, by decide⟩ (Nat.le_of_ble_eq_true rfl) (am_kp.rf _) (fun v27 h29 => c12_in h29) (fun v27 h29 => ?_)
              refine z_bz_eq (pc := 165) (tgt := 188) dX12_may_165 (by decide) (fun h30 => ?_) (fun h30 => ?_)
              · refine z_iload_n (pc := 168) 3 dX12_may_168 rfl rfl ?_
                refine z_iconst (pc := 169) (v := (2 : Int32)) dX12_may_169 (by decide) ?_
                refine z_irem (pc := 170) dX12_may_170 (by decide) ?_
                refine z_if_eq (pc := 171) (tgt := 184) dX12_may_171 (by decide) (fun h31 => ?_) (fun h31 => ?_)
                · refine z_iconst (pc := 184) (v := (1 : Int32)) dX12_may_184 (by decide) ?_
                  refine z_goto (pc := 185) (tgt := 189) dX12_may_185 (by decide) ?_
                  exact z_rB (b := true) rfl dX12_may_189 rfl ⟨by decide, by decide⟩
                · refine z_aload_n (pc := 174) 1 dX12_may_174 rfl rfl ?_
                  refine z_getQ (pc := 175) (b := 46) dX12_may_175 kM36 fr_RX12_41_12 (by decide) rfl ?_
                  refine z_iload_n (pc := 178) 2 dX12_may_178 rfl rfl ?_
                  refine z_iald (pc := 179) dX12_may_179 (am_ar.s kM46) (fun h32 => ?_)
                  refine z_iconst (pc := 180) (v := (4 : Int32)) dX12_may_180 (by decide) ?_
                  refine z_ic_le (pc := 181) (tgt := 188) dX12_may_181 (by decide) (fun h33 => ?_) (fun h33 => ?_)
                  · refine z_iconst (pc := 188) (v := (0 : Int32)) dX12_may_188 (by decide) ?_
                    exact z_rB (b := false) rfl dX12_may_189 rfl ⟨by decide, by decide⟩
                  · refine z_iconst (pc := 184) (v := (1 : Int32)) dX12_may_184 (by decide) ?_
                    refine z_goto (pc := 185) (tgt := 189) dX12_may_185 (by decide) ?_
                    exact z_rB (b := true) rfl dX12_may_189 rfl ⟨by decide, by decide⟩
              · refine z_iconst (pc := 188) (v := (0 : Int32)) dX12_may_188 (by decide) ?_
                exact z_rB (b := false) rfl dX12_may_189 rfl ⟨by decide, by decide⟩
            · refine z_tsNe (pc := 30) (tgt := 190) [1, 2, 3, 4, 5] 5 dX12_may_30 (by decide) (by decide) (List.forall_mem_cons.mpr ⟨h7, List.forall_mem_cons.mpr ⟨h11, List.forall_mem_cons.mpr ⟨h16, List.forall_mem_cons.mpr ⟨h24, List.forall_mem_cons.mpr ⟨h26, List.forall_mem_nil _⟩⟩⟩⟩⟩) (by decide) ?_
              refine z_iload_n (pc := 190) 0 dX12_may_190 rfl rfl ?_
              exact z_rB (b := v3) rfl dX12_may_191 rfl ⟨by decide, by decide⟩
def f12_foremost_L6 (N : Nat) : Nat → Int32 → Int32 → Int32 → Int32 → Int32 → am_S → Option (Int32 × am_S)
  | 0, _, _, _, _, _, _ => none
  | n + 1, x1, x2, x3, x4, x5, σ => if fF σ 36 21 ≤ x5 then (some (x4, σ)) else (if x5 = x3 then (f12_foremost_L6 N n x1 x2 x3 x4 (x5 + (1 : Int32)) σ) else ((f12_may σ x5 x2).bind fun v3 => (if v3 = true then (if am_in x5 14 = true then (if fF σ 47 x5.toNatClampNeg = x1 then (if x4 = (-1 : Int32) then (f12_foremost_L6 N n x1 x2 x3 x5 (x5 + (1 : Int32)) σ) else ((f12_dueOf N σ x5 x2).bind fun (v10, s11) => ((f12_dueOf N s11 x4 x2).bind fun (v13, s14) => (if v10 ≤ v13 then (f12_foremost_L6 N n x1 x2 x3 x4 (x5 + (1 : Int32)) s14) else (f12_foremost_L6 N n x1 x2 x3 x5 (x5 + (1 : Int32)) s14))))) else (if am_in x5 14 = true then (if fF σ 44 x5.toNatClampNeg = (4 : Int32) then (if x4 = (-1 : Int32) then (f12_foremost_L6 N n x1 x2 x3 x5 (x5 + (1 : Int32)) σ) else ((f12_dueOf N σ x5 x2).bind fun (v20, s21) => ((f12_dueOf N s21 x4 x2).bind fun (v23, s24) => (if v20 ≤ v23 then (f12_foremost_L6 N n x1 x2 x3 x4 (x5 + (1 : Int32)) s24) else (f12_foremost_L6 N n x1 x2 x3 x5 (x5 + (1 : Int32)) s24))))) else (f12_foremost_L6 N n x1 x2 x3 x4 (x5 + (1 : Int32)) σ)) else none)) else none) else (f12_foremost_L6 N n x1 x2 x3 x4 (x5 + (1 : Int32)) σ))))
theorem z12_foremost_L6 {l : Launch} {E : am_E} {d : Nat} {σ0 : am_S} {N : Nat} (hd : 107 ≤ d) : ∀ (n : Nat) (x1 : Int32) (x2 : Int32) (x3 : Int32) (x4 : Int32) (x5 : Int32) (σ : am_S), Z l E msM σ0 YX12_foremost d 0 0 6 [(0, .ref 36), (1, .int x1), (2, .int x2), (3, .int x3), (4, .int x4), (5, .int x5)] [] 0 0 σ (f12_foremost_L6 N n x1 x2 x3 x4 x5 σ) (fun u r s => r = some (.int u.1) ∧ s = u.2) := by
  intro n
  induction n with
  | zero => intros; exact z_none
  | succ n ih =>
    intro x1 x2 x3 x4 x5 σ
    unfold f12_foremost_L6
    refine z_iload (pc := 6) 5 dX12_foremost_6 rfl ?_
    refine z_aload_n (pc := 8) 0 dX12_foremost_8 rfl rfl ?_
    refine z_getI (pc := 9) dX12_foremost_9 (am_ob.s kM36) fr_RX12_138_12 (by decide) ?_
    refine z_ic_ge (pc := 12) (tgt := 94) dX12_foremost_12 (by decide) (fun h1 => ?_) (fun h1 => ?_)
    · refine z_iload (pc := 94) 4 dX12_foremost_94 rfl ?_
      exact z_rIs dX12_foremost_96 rfl ⟨by decide, by decide⟩
    · refine z_iload (pc := 15) 5 dX12_foremost_15 rfl ?_
      refine z_iload_n (pc := 17) 3 dX12_foremost_17 rfl rfl ?_
      refine z_ic_eq (pc := 18) (tgt := 88) dX12_foremost_18 (by decide) (fun h2 => ?_) (fun h2 => ?_)
      · refine z_iinc (pc := 88) (v := x5 + (1 : Int32)) (lv' := [(5, .int (x5 + (1 : Int32))), (0, .ref 36), (1, .int x1), (2, .int x2), (3, .int x3), (4, .int x4)]) 5 dX12_foremost_88 rfl rfl (by decide) rfl ?_
        refine z_goto (pc := 91) (tgt := 6) dX12_foremost_91 (by decide) ?_
        refine z_lv (lv' := [(0, .ref 36), (1, .int x1), (2, .int x2), (3, .int x3), (4, .int x4), (5, .int (x5 + (1 : Int32)))]) [1, 2, 3, 4, 5, 0] rfl ?_
        exact ih x1 x2 x3 x4 (x5 + (1 : Int32)) σ
      · refine z_aload_n (pc := 21) 0 dX12_foremost_21 rfl rfl ?_
        refine z_iload (pc := 22) 5 dX12_foremost_22 rfl ?_
        refine z_iload_n (pc := 24) 2 dX12_foremost_24 rfl rfl ?_
        refine z_callB (pc := 25) [.ref 36, .int x5, .int x2] [] rfl (lk_V (Yc := YX12_may) (n := 2) dX12_foremost_25 rfl rfl (am_ob.s kM36) rfl rfl np_X12_may mh_RX12 (by decide) ml_RX12_187 im_X12_may se_RX12_X12_may_X12_may in_RX12 cd_X12_may) (Nat.le_trans (by decide) hd) ⟨by decide, by decide⟩ (Nat.le_of_ble_eq_true rfl) (am_kp.rf _) (fun v3 h5 => c12_may h5) (fun v3 h5 => ?_)
        refine z_bz_eq (pc := 28) (tgt := 88) dX12_foremost_28 (by decide) (fun h6 => ?_) (fun h6 => ?_)
        · refine z_aload_n (pc := 31) 0 dX12_foremost_31 rfl rfl ?_
          refine z_getQ (pc := 32) (b := 47) dX12_foremost_32 kM36 fr_RX12_44_12 (by decide) rfl ?_
          refine z_iload (pc := 35) 5 dX12_foremost_35 rfl ?_
          refine z_iald (pc := 37) dX12_foremost_37 (am_ar.s kM47) (fun h7 => ?_)
          refine z_iload_n (pc := 38) 1 dX12_foremost_38 rfl rfl ?_
          refine z_ic_eq (pc := 39) (tgt := 56) dX12_foremost_39 (by decide) (fun h8 => ?_) (fun h8 => ?_)
          · refine z_iload (pc := 56) 4 dX12_foremost_56 rfl ?_
            refine z_iconst (pc := 58) (v := (-1 : Int32)) dX12_foremost_58 (by decide) ?_
            refine z_ic_eq (pc := 59) (tgt := 79) dX12_foremost_59 (by decide) (fun h9 => ?_) (fun h9 => ?_)
            · refine z_iload (pc := 79) 5 dX12_foremost_79 rfl ?_
              refine z_goto (pc := 81) (tgt := 86) dX12_foremost_81 (by decide) ?_
              refine z_istore (pc := 86) (lv' := [(4, .int x5), (0, .ref 36), (1, .int x1), (2, .int x2), (3, .int x3), (5, .int x5)]) dX12_foremost_86 (by decide) rfl ?_
              refine z_iinc (pc := 88) (v := x5 + (1 : Int32)) (lv' := [(5, .int (x5 + (1 : Int32))), (4, .int x5), (0, .ref 36), (1, .int x1), (2, .int x2), (3, .int x3)]) 5 dX12_foremost_88 rfl rfl (by decide) rfl ?_
              refine z_goto (pc := 91) (tgt := 6) dX12_foremost_91 (by decide) ?_
              refine z_lv (lv' := [(0, .ref 36), (1, .int x1), (2, .int x2), (3, .int x3), (4, .int x5), (5, .int (x5 + (1 : Int32)))]) [2, 3, 4, 5, 1, 0] rfl ?_
              exact ih x1 x2 x3 x5 (x5 + (1 : Int32)) σ
            · refine z_aload_n (pc := 62) 0 dX12_foremost_62 rfl rfl ?_
              refine z_iload (pc := 63) 5 dX12_foremost_63 rfl ?_
              refine z_iload_n (pc := 65) 2 dX12_foremost_65 rfl rfl ?_
              refine z_callIs (pc := 66) [.ref 36, .int x5, .int x2] [] rfl (lk_V (Yc := YX12_dueOf) (n := 2) dX12_foremost_66 rfl rfl (am_ob.s kM36) rfl rfl np_X12_dueOf mh_RX12 (by decide) ml_RX12_194 im_X12_dueOf se_RX12_X12_dueOf_X12_dueOf in_RX12 cd_X12_dueOf) (Nat.le_trans (by decide) hd) ⟨by decide, by decide⟩ (Nat.le_of_ble_eq_true rfl) (am_kp.rf _) (fun v10 s11 h12 => c12_dueOf h12) (fun v10 s11 h12 => ?_)
              refine z_aload_n (pc := 69) 0 dX12_foremost_69 rfl rfl ?_
              refine z_iload (pc := 70) 4 dX12_foremost_70 rfl ?_
              refine z_iload_n (pc := 72) 2 dX12_foremost_72 rfl rfl ?_
              refine z_callIs (pc := 73) [.ref 36, .int x4, .int x2] [.int v10] rfl (lk_V (Yc := YX12_dueOf) (n := 2) dX12_foremost_73 rfl rfl (am_ob.s kM36) rfl rfl np_X12_dueOf mh_RX12 (by decide) ml_RX12_194 im_X12_dueOf se_RX12_X12_dueOf_X12_dueOf in_RX12 cd_X12_dueOf) (Nat.le_trans (by decide) hd) ⟨by decide, by decide⟩ (Nat.le_of_ble_eq_true rfl) (am_kp.rf _) (fun v13 s14 h15 => c12_dueOf h15) (fun v13 s14 h15 => ?_)
              refine z_ic_le (pc := 76) (tgt := 84) dX12_foremost_76 (by decide) (fun h16 => ?_) (fun h16 => ?_)
              · refine z_iload (pc := 84) 4 dX12_foremost_84 rfl ?_
                refine z_istore (pc := 86) (lv' := [(4, .int x4), (0, .ref 36), (1, .int x1), (2, .int x2), (3, .int x3), (5, .int x5)]) dX12_foremost_86 (by decide) rfl ?_
                refine z_iinc (pc := 88) (v := x5 + (1 : Int32)) (lv' := [(5, .int (x5 + (1 : Int32))), (4, .int x4), (0, .ref 36), (1, .int x1), (2, .int x2), (3, .int x3)]) 5 dX12_foremost_88 rfl rfl (by decide) rfl ?_
                refine z_goto (pc := 91) (tgt := 6) dX12_foremost_91 (by decide) ?_
                refine z_lv (lv' := [(0, .ref 36), (1, .int x1), (2, .int x2), (3, .int x3), (4, .int x4), (5, .int (x5 + (1 : Int32)))]) [2, 3, 4, 5, 1, 0] rfl ?_
                exact ih x1 x2 x3 x4 (x5 + (1 : Int32)) s14
              · refine z_iload (pc := 79) 5 dX12_foremost_79 rfl ?_
                refine z_goto (pc := 81) (tgt := 86) dX12_foremost_81 (by decide) ?_
                refine z_istore (pc := 86) (lv' := [(4, .int x5), (0, .ref 36), (1, .int x1), (2, .int x2), (3, .int x3), (5, .int x5)]) dX12_foremost_86 (by decide) rfl ?_
                refine z_iinc (pc := 88) (v := x5 + (1 : Int32)) (lv' := [(5, .int (x5 + (1 : Int32))), (4, .int x5), (0, .ref 36), (1, .int x1), (2, .int x2), (3, .int x3)]) 5 dX12_foremost_88 rfl rfl (by decide) rfl ?_
                refine z_goto (pc := 91) (tgt := 6) dX12_foremost_91 (by decide) ?_
                refine z_lv (lv' := [(0, .ref 36), (1, .int x1), (2, .int x2), (3, .int x3), (4, .int x5), (5, .int (x5 + (1 : Int32)))]) [2, 3, 4, 5, 1, 0] rfl ?_
                exact ih x1 x2 x3 x5 (x5 + (1 : Int32)) s14
          · refine z_aload_n (pc := 42) 0 dX12_foremost_42 rfl rfl ?_
            refine z_getQ (pc := 43) (b := 44) dX12_foremost_43 kM36 fr_RX12_35_12 (by decide) rfl ?_
            refine z_iload (pc := 46) 5 dX12_foremost_46 rfl ?_
            refine z_iald (pc := 48) dX12_foremost_48 (am_ar.s kM44) (fun h17 => ?_)
            refine z_iconst (pc := 49) (v := (4 : Int32)) dX12_foremost_49 (by decide) ?_
            refine z_ic_eq (pc := 50) (tgt := 56) dX12_foremost_50 (by decide) (fun h18 => ?_) (fun h18 => ?_)
            · refine z_iload (pc := 56) 4 dX12_foremost_56 rfl ?_
              refine z_iconst (pc := 58) (v := (-1 : Int32)) dX12_foremost_58 (by decide) ?_
              refine z_ic_eq (pc := 59) (tgt := 79) dX12_foremost_59 (by decide) (fun h19 => ?_) (fun h19 => ?_)
              · refine z_iload (pc := 79) 5 dX12_foremost_79 rfl ?_
                refine z_goto (pc := 81) (tgt := 86) dX12_foremost_81 (by decide) ?_
                refine z_istore (pc := 86) (lv' := [(4, .int x5), (0, .ref 36), (1, .int x1), (2, .int x2), (3, .int x3), (5, .int x5)]) dX12_foremost_86 (by decide) rfl ?_
                refine z_iinc (pc := 88) (v := x5 + (1 : Int32)) (lv' := [(5, .int (x5 + (1 : Int32))), (4, .int x5), (0, .ref 36), (1, .int x1), (2, .int x2), (3, .int x3)]) 5 dX12_foremost_88 rfl rfl (by decide) rfl ?_
                refine z_goto (pc := 91) (tgt := 6) dX12_foremost_91 (by decide) ?_
                refine z_lv (lv' := [(0, .ref 36), (1, .int x1), (2, .int x2), (3, .int x3), (4, .int x5), (5, .int (x5 + (1 : Int32)))]) [2, 3, 4, 5, 1, 0] rfl ?_
                exact ih x1 x2 x3 x5 (x5 + (1 : Int32)) σ
              · refine z_aload_n (pc := 62) 0 dX12_foremost_62 rfl rfl ?_
                refine z_iload (pc := 63) 5 dX12_foremost_63 rfl ?_
                refine z_iload_n (pc := 65) 2 dX12_foremost_65 rfl rfl ?_
                refine z_callIs (pc := 66) [.ref 36, .int x5, .int x2] [] rfl (lk_V (Yc := YX12_dueOf) (n := 2) dX12_foremost_66 rfl rfl (am_ob.s kM36) rfl rfl np_X12_dueOf mh_RX12 (by decide) ml_RX12_194 im_X12_dueOf se_RX12_X12_dueOf_X12_dueOf in_RX12 cd_X12_dueOf) (Nat.le_trans (by decide) hd) ⟨by decide, by decide⟩ (Nat.le_of_ble_eq_true rfl) (am_kp.rf _) (fun v20 s21 h22 => c12_dueOf h22) (fun v20 s21 h22 => ?_)
                refine z_aload_n (pc := 69) 0 dX12_foremost_69 rfl rfl ?_
                refine z_iload (pc := 70) 4 dX12_foremost_70 rfl ?_
                refine z_iload_n (pc := 72) 2 dX12_foremost_72 rfl rfl ?_
                refine z_callIs (pc := 73) [.ref 36, .int x4, .int x2] [.int v20] rfl (lk_V (Yc := YX12_dueOf) (n := 2) dX12_foremost_73 rfl rfl (am_ob.s kM36) rfl rfl np_X12_dueOf mh_RX12 (by decide) ml_RX12_194 im_X12_dueOf se_RX12_X12_dueOf_X12_dueOf in_RX12 cd_X12_dueOf) (Nat.le_trans (by decide) hd) ⟨by decide, by decide⟩ (Nat.le_of_ble_eq_true rfl) (am_kp.rf _) (fun v23 s24 h25 => c12_dueOf h25) (fun v23 s24 h25 => ?_)
                refine z_ic_le (pc := 76) (tgt := 84) dX12_foremost_76 (by decide) (fun h26 => ?_) (fun h26 => ?_)
                · refine z_iload (pc := 84) 4 dX12_foremost_84 rfl ?_
                  refine z_istore (pc := 86) (lv' := [(4, .int x4), (0, .ref 36), (1, .int x1), (2, .int x2), (3, .int x3), (5, .int x5)]) dX12_foremost_86 (by decide) rfl ?_
                  refine z_iinc (pc := 88) (v := x5 + (1 : Int32)) (lv' := [(5, .int (x5 + (1 : Int32))), (4, .int x4), (0, .ref 36), (1, .int x1), (2, .int x2), (3, .int x3)]) 5 dX12_foremost_88 rfl rfl (by decide) rfl ?_
                  refine z_goto (pc := 91) (tgt := 6) dX12_foremost_91 (by decide) ?_
                  refine z_lv (lv' := [(0, .ref 36), (1, .int x1), (2, .int x2), (3, .int x3), (4, .int x4), (5, .int (x5 + (1 : Int32)))]) [2, 3, 4, 5, 1, 0] rfl ?_
                  exact ih x1 x2 x3 x4 (x5 + (1 : Int32)) s24
                · refine z_iload (pc := 79) 5 dX12_foremost_79 rfl ?_
                  refine z_goto (pc := 81) (tgt := 86) dX12_foremost_81 (by decide) ?_
                  refine z_istore (pc := 86) (lv' := [(4, .int x5), (0, .ref 36), (1, .int x1), (2, .int x2), (3, .int x3), (5, .int x5)]) dX12_foremost_86 (by decide) rfl ?_
                  refine z_iinc (pc := 88) (v := x5 + (1 : Int32)) (lv' := [(5, .int (x5 + (1 : Int32))), (4, .int x5), (0, .ref 36), (1, .int x1), (2, .int x2), (3, .int x3)]) 5 dX12_foremost_88 rfl rfl (by decide) rfl ?_
                  refine z_goto (pc := 91) (tgt := 6) dX12_foremost_91 (by decide) ?_
                  refine z_lv (lv' := [(0, .ref 36), (1, .int x1), (2, .int x2), (3, .int x3), (4, .int x5), (5, .int (x5 + (1 : Int32)))]) [2, 3, 4, 5, 1, 0] rfl ?_
                  exact ih x1 x2 x3 x5 (x5 + (1 : Int32)) s24
            · refine z_goto (pc := 53) (tgt := 88) dX12_foremost_53 (by decide) ?_
              refine z_iinc (pc := 88) (v := x5 + (1 : Int32)) (lv' := [(5, .int (x5 + (1 : Int32))), (0, .ref 36), (1, .int x1), (2, .int x2), (3, .int x3), (4, .int x4)]) 5 dX12_foremost_88 rfl rfl (by decide) rfl ?_
              refine z_goto (pc := 91) (tgt := 6) dX12_foremost_91 (by decide) ?_
              refine z_lv (lv' := [(0, .ref 36), (1, .int x1), (2, .int x2), (3, .int x3), (4, .int x4), (5, .int (x5 + (1 : Int32)))]) [1, 2, 3, 4, 5, 0] rfl ?_
              exact ih x1 x2 x3 x4 (x5 + (1 : Int32)) σ
        · refine z_iinc (pc := 88) (v := x5 + (1 : Int32)) (lv' := [(5, .int (x5 + (1 : Int32))), (0, .ref 36), (1, .int x1), (2, .int x2), (3, .int x3), (4, .int x4)]) 5 dX12_foremost_88 rfl rfl (by decide) rfl ?_
          refine z_goto (pc := 91) (tgt := 6) dX12_foremost_91 (by decide) ?_
          refine z_lv (lv' := [(0, .ref 36), (1, .int x1), (2, .int x2), (3, .int x3), (4, .int x4), (5, .int (x5 + (1 : Int32)))]) [1, 2, 3, 4, 5, 0] rfl ?_
          exact ih x1 x2 x3 x4 (x5 + (1 : Int32)) σ
def f12_foremost (N : Nat) (σ : am_S) (x1 : Int32) (x2 : Int32) (x3 : Int32) : Option (Int32 × am_S) := f12_foremost_L6 N N x1 x2 x3 (-1 : Int32) (0 : Int32) σ
theorem c12_foremost {l : Launch} {E : am_E} {N : Nat} {σ : am_S} {x1 : Int32} {x2 : Int32} {x3 : Int32} {v : Int32} {σ1 : am_S} (hf : f12_foremost N σ x1 x2 x3 = some (v, σ1)) : Ctr l E msM YX12_foremost (107) 0 0 [.ref 36, .int x1, .int x2, .int x3] σ (some (.int v)) σ1 := by
  refine ctr_of (G := fun u r s => r = some (.int u.1) ∧ s = u.2) (by decide +kernel) (Nat.le_of_ble_eq_true rfl) hf ⟨rfl, rfl⟩ (fun d hd => ?_)
  refine z_eqlv (lv' := [(0, .ref 36), (1, .int x1), (2, .int x2), (3, .int x3)]) rfl ?_
  unfold f12_foremost
  refine z_iconst (pc := 0) (v := (-1 : Int32)) dX12_foremost_0 (by decide) ?_
  refine z_istore (pc := 1) (lv' := [(4, .int (-1 : Int32)), (0, .ref 36), (1, .int x1), (2, .int x2), (3, .int x3)]) dX12_foremost_1 (by decide) rfl ?_
  refine z_iconst (pc := 3) (v := (0 : Int32)) dX12_foremost_3 (by decide) ?_
  refine z_istore (pc := 4) (lv' := [(5, .int (0 : Int32)), (4, .int (-1 : Int32)), (0, .ref 36), (1, .int x1), (2, .int x2), (3, .int x3)]) dX12_foremost_4 (by decide) rfl ?_
  refine z_lv (lv' := [(0, .ref 36), (1, .int x1), (2, .int x2), (3, .int x3), (4, .int (-1 : Int32)), (5, .int (0 : Int32))]) [2, 3, 4, 5, 1, 0] rfl ?_
  exact z12_foremost_L6 hd N x1 x2 x3 (-1 : Int32) (0 : Int32) σ
def f12_isAhead (σ : am_S) (x1 : Int32) (x2 : Int32) : Option Bool := if x2 = (-1 : Int32) then (some (true)) else (if am_in x1 14 = true then (if am_in x2 14 = true then (if fF σ 50 x2.toNatClampNeg < fF σ 50 x1.toNatClampNeg then (some (true)) else (if am_in x1 14 = true then (if am_in x2 14 = true then (if fF σ 50 x1.toNatClampNeg = fF σ 50 x2.toNatClampNeg then (if am_in x1 14 = true then (if am_in x2 14 = true then (if fF σ 45 x1.toNatClampNeg ≤ fF σ 45 x2.toNatClampNeg then (some (false)) else (some (true))) else none) else none) else (some (false))) else none) else none)) else none) else none)
theorem c12_isAhead {l : Launch} {E : am_E} {σ : am_S} {x1 : Int32} {x2 : Int32} {v : Bool} (hf : f12_isAhead σ x1 x2 = some v) : Ctr l E msM YX12_isAhead (0) 0 0 [.ref 36, .int x1, .int x2] σ (some (.int (bI v))) σ := by
  refine ctr_of (G := fun u r s => r = some (.int (bI u)) ∧ s = σ) (by decide +kernel) (Nat.le_of_ble_eq_true rfl) hf ⟨rfl, rfl⟩ (fun d hd => ?_)
  refine z_eqlv (lv' := [(0, .ref 36), (1, .int x1), (2, .int x2)]) rfl ?_
  unfold f12_isAhead
  refine z_iload_n (pc := 0) 2 dX12_isAhead_0 rfl rfl ?_
  refine z_iconst (pc := 1) (v := (-1 : Int32)) dX12_isAhead_1 (by decide) ?_
  refine z_ic_eq (pc := 2) (tgt := 50) dX12_isAhead_2 (by decide) (fun h1 => ?_) (fun h1 => ?_)
  · refine z_iconst (pc := 50) (v := (1 : Int32)) dX12_isAhead_50 (by decide) ?_
    refine z_goto (pc := 51) (tgt := 55) dX12_isAhead_51 (by decide) ?_
    exact z_rB (b := true) rfl dX12_isAhead_55 rfl ⟨by decide, by decide⟩
  · refine z_aload_n (pc := 5) 0 dX12_isAhead_5 rfl rfl ?_
    refine z_getQ (pc := 6) (b := 50) dX12_isAhead_6 kM36 fr_RX12_53_12 (by decide) rfl ?_
    refine z_iload_n (pc := 9) 1 dX12_isAhead_9 rfl rfl ?_
    refine z_iald (pc := 10) dX12_isAhead_10 (am_ar.s kM50) (fun h2 => ?_)
    refine z_aload_n (pc := 11) 0 dX12_isAhead_11 rfl rfl ?_
    refine z_getQ (pc := 12) (b := 50) dX12_isAhead_12 kM36 fr_RX12_53_12 (by decide) rfl ?_
    refine z_iload_n (pc := 15) 2 dX12_isAhead_15 rfl rfl ?_
    refine z_iald (pc := 16) dX12_isAhead_16 (am_ar.s kM50) (fun h3 => ?_)
    refine z_ic_gt (pc := 17) (tgt := 50) dX12_isAhead_17 (by decide) (fun h4 => ?_) (fun h4 => ?_)
    · refine z_iconst (pc := 50) (v := (1 : Int32)) dX12_isAhead_50 (by decide) ?_
      refine z_goto (pc := 51) (tgt := 55) dX12_isAhead_51 (by decide) ?_
      exact z_rB (b := true) rfl dX12_isAhead_55 rfl ⟨by decide, by decide⟩
    · refine z_aload_n (pc := 20) 0 dX12_isAhead_20 rfl rfl ?_
      refine z_getQ (pc := 21) (b := 50) dX12_isAhead_21 kM36 fr_RX12_53_12 (by decide) rfl ?_
      refine z_iload_n (pc := 24) 1 dX12_isAhead_24 rfl rfl ?_
      refine z_iald (pc := 25) dX12_isAhead_25 (am_ar.s kM50) (fun h5 => ?_)
      refine z_aload_n (pc := 26) 0 dX12_isAhead_26 rfl rfl ?_
      refine z_getQ (pc := 27) (b := 50) dX12_isAhead_27 kM36 fr_RX12_53_12 (by decide) rfl ?_
      refine z_iload_n (pc := 30) 2 dX12_isAhead_30 rfl rfl ?_
      refine z_iald (pc := 31) dX12_isAhead_31 (am_ar.s kM50) (fun h6 => ?_)
      refine z_ic_ne (pc := 32) (tgt := 54) dX12_isAhead_32 (by decide) (fun h7 => ?_) (fun h7 => ?_)
      · refine z_aload_n (pc := 35) 0 dX12_isAhead_35 rfl rfl ?_
        refine z_getQ (pc := 36) (b := 45) dX12_isAhead_36 kM36 fr_RX12_38_12 (by decide) rfl ?_
        refine z_iload_n (pc := 39) 1 dX12_isAhead_39 rfl rfl ?_
        refine z_iald (pc := 40) dX12_isAhead_40 (am_ar.s kM45) (fun h8 => ?_)
        refine z_aload_n (pc := 41) 0 dX12_isAhead_41 rfl rfl ?_
        refine z_getQ (pc := 42) (b := 45) dX12_isAhead_42 kM36 fr_RX12_38_12 (by decide) rfl ?_
        refine z_iload_n (pc := 45) 2 dX12_isAhead_45 rfl rfl ?_
        refine z_iald (pc := 46) dX12_isAhead_46 (am_ar.s kM45) (fun h9 => ?_)
        refine z_ic_le (pc := 47) (tgt := 54) dX12_isAhead_47 (by decide) (fun h10 => ?_) (fun h10 => ?_)
        · refine z_iconst (pc := 54) (v := (0 : Int32)) dX12_isAhead_54 (by decide) ?_
          exact z_rB (b := false) rfl dX12_isAhead_55 rfl ⟨by decide, by decide⟩
        · refine z_iconst (pc := 50) (v := (1 : Int32)) dX12_isAhead_50 (by decide) ?_
          refine z_goto (pc := 51) (tgt := 55) dX12_isAhead_51 (by decide) ?_
          exact z_rB (b := true) rfl dX12_isAhead_55 rfl ⟨by decide, by decide⟩
      · refine z_iconst (pc := 54) (v := (0 : Int32)) dX12_isAhead_54 (by decide) ?_
        exact z_rB (b := false) rfl dX12_isAhead_55 rfl ⟨by decide, by decide⟩
def f12_heir_J115 (k28 : Int32 → Int32 → Int32 → Int32 → Option Int32) (σ : am_S) (N : Nat) (x1 : Int32) (x2 : Int32) (x3 : Int32) (x4 : Int32) (x5 : Int32) (x6 : Int32) : Option Int32 := if x2 = (2 : Int32) then (if x3 = (-1 : Int32) then (if am_in x4 14 = true then (if fF σ 49 x4.toNatClampNeg = 0 then (if x6 = 0 then (if x5 = (-1 : Int32) then (if x2 = (3 : Int32) then (if x4 = x1 then (k28 x1 x2 x3 (x4 + (1 : Int32))) else (if am_in x4 14 = true then (if am_in x1 14 = true then (if fF σ 47 x4.toNatClampNeg = fF σ 47 x1.toNatClampNeg then ((f12_isAhead σ x4 x3).bind fun v25 => (if v25 = true then (k28 x1 x2 x4 (x4 + (1 : Int32))) else (k28 x1 x2 x3 (x4 + (1 : Int32))))) else (k28 x1 x2 x3 (x4 + (1 : Int32)))) else none) else none)) else (k28 x1 x2 x3 (x4 + (1 : Int32)))) else (if am_in x5 14 = true then (if fF σ 48 x5.toNatClampNeg = x1 then (if x2 = (3 : Int32) then (if x4 = x1 then (k28 x1 x2 x4 (x4 + (1 : Int32))) else (if am_in x4 14 = true then (if am_in x1 14 = true then (if fF σ 47 x4.toNatClampNeg = fF σ 47 x1.toNatClampNeg then ((f12_isAhead σ x4 x4).bind fun v36 => (if v36 = true then (k28 x1 x2 x4 (x4 + (1 : Int32))) else (k28 x1 x2 x4 (x4 + (1 : Int32))))) else (k28 x1 x2 x4 (x4 + (1 : Int32)))) else none) else none)) else (k28 x1 x2 x4 (x4 + (1 : Int32)))) else (if x2 = (3 : Int32) then (if x4 = x1 then (k28 x1 x2 x3 (x4 + (1 : Int32))) else (if am_in x4 14 = true then (if am_in x1 14 = true then (if fF σ 47 x4.toNatClampNeg = fF σ 47 x1.toNatClampNeg then ((f12_isAhead σ x4 x3).bind fun v45 => (if v45 = true then (k28 x1 x2 x4 (x4 + (1 : Int32))) else (k28 x1 x2 x3 (x4 + (1 : Int32))))) else (k28 x1 x2 x3 (x4 + (1 : Int32)))) else none) else none)) else (k28 x1 x2 x3 (x4 + (1 : Int32))))) else none)) else (if x2 = (3 : Int32) then (if x4 = x1 then (k28 x1 x2 x4 (x4 + (1 : Int32))) else (if am_in x4 14 = true then (if am_in x1 14 = true then (if fF σ 47 x4.toNatClampNeg = fF σ 47 x1.toNatClampNeg then ((f12_isAhead σ x4 x4).bind fun v54 => (if v54 = true then (k28 x1 x2 x4 (x4 + (1 : Int32))) else (k28 x1 x2 x4 (x4 + (1 : Int32))))) else (k28 x1 x2 x4 (x4 + (1 : Int32)))) else none) else none)) else (k28 x1 x2 x4 (x4 + (1 : Int32))))) else (if x2 = (3 : Int32) then (if x4 = x1 then (k28 x1 x2 x3 (x4 + (1 : Int32))) else (if am_in x4 14 = true then (if am_in x1 14 = true then (if fF σ 47 x4.toNatClampNeg = fF σ 47 x1.toNatClampNeg then ((f12_isAhead σ x4 x3).bind fun v63 => (if v63 = true then (k28 x1 x2 x4 (x4 + (1 : Int32))) else (k28 x1 x2 x3 (x4 + (1 : Int32))))) else (k28 x1 x2 x3 (x4 + (1 : Int32)))) else none) else none)) else (k28 x1 x2 x3 (x4 + (1 : Int32))))) else none) else (if x2 = (3 : Int32) then (if x4 = x1 then (k28 x1 x2 x3 (x4 + (1 : Int32))) else (if am_in x4 14 = true then (if am_in x1 14 = true then (if fF σ 47 x4.toNatClampNeg = fF σ 47 x1.toNatClampNeg then ((f12_isAhead σ x4 x3).bind fun v72 => (if v72 = true then (k28 x1 x2 x4 (x4 + (1 : Int32))) else (k28 x1 x2 x3 (x4 + (1 : Int32))))) else (k28 x1 x2 x3 (x4 + (1 : Int32)))) else none) else none)) else (k28 x1 x2 x3 (x4 + (1 : Int32))))) else (if x2 = (3 : Int32) then (if x4 = x1 then (k28 x1 x2 x3 (x4 + (1 : Int32))) else (if am_in x4 14 = true then (if am_in x1 14 = true then (if fF σ 47 x4.toNatClampNeg = fF σ 47 x1.toNatClampNeg then ((f12_isAhead σ x4 x3).bind fun v81 => (if v81 = true then (k28 x1 x2 x4 (x4 + (1 : Int32))) else (k28 x1 x2 x3 (x4 + (1 : Int32))))) else (k28 x1 x2 x3 (x4 + (1 : Int32)))) else none) else none)) else (k28 x1 x2 x3 (x4 + (1 : Int32))))
theorem z12_heir_J115 {l : Launch} {E : am_E} {d : Nat} {N : Nat} {σ : am_S} (hd : 2 ≤ d) {k28 : Int32 → Int32 → Int32 → Int32 → Option Int32} (hk28 : ∀ (x1 : Int32) (x2 : Int32) (x3 : Int32) (x4 : Int32), Z l E msM σ YX12_heir d 0 0 28 [(0, .ref 36), (1, .int x1), (2, .int x2), (3, .int x3), (4, .int x4)] [] 0 0 σ (k28 x1 x2 x3 x4) (fun u r s => r = some (.int u) ∧ s = σ)) (x1 : Int32) (x2 : Int32) (x3 : Int32) (x4 : Int32) (x5 : Int32) (x6 : Int32) : Z l E msM σ YX12_heir d 0 0 115 [(0, .ref 36), (1, .int x1), (2, .int x2), (3, .int x3), (4, .int x4), (5, .int x5), (6, .int x6)] [] 0 0 σ (f12_heir_J115 k28 σ N x1 x2 x3 x4 x5 x6) (fun u r s => r = some (.int u) ∧ s = σ) := by
  unfold f12_heir_J115
  refine z_iload_n (pc := 115) 2 dX12_heir_115 rfl rfl ?_
  refine z_iconst (pc := 116) (v := (2 : Int32)) dX12_heir_116 (by decide) ?_
  refine z_ic_ne (pc := 117) (tgt := 160) dX12_heir_117 (by decide) (fun h14 => ?_) (fun h14 => ?_)
  · refine z_iload_n (pc := 120) 3 dX12_heir_120 rfl rfl ?_
    refine z_iconst (pc := 121) (v := (-1 : Int32)) dX12_heir_121 (by decide) ?_
    refine z_ic_ne (pc := 122) (tgt := 160) dX12_heir_122 (by decide) (fun h15 => ?_) (fun h15 => ?_)
    · refine z_aload_n (pc := 125) 0 dX12_heir_125 rfl rfl ?_
      refine z_getQ (pc := 126) (b := 49) dX12_heir_126 kM36 fr_RX12_50_12 (by decide) rfl ?_
      refine z_iload (pc := 129) 4 dX12_heir_129 rfl ?_
      refine z_iald (pc := 131) dX12_heir_131 (am_ar.s kM49) (fun h16 => ?_)
      refine z_if_ne (pc := 132) (tgt := 160) dX12_heir_132 (by decide) (fun h17 => ?_) (fun h17 => ?_)
      · refine z_iload (pc := 135) 6 dX12_heir_135 rfl ?_
        refine z_if_ne (pc := 137) (tgt := 157) dX12_heir_137 (by decide) (fun h18 => ?_) (fun h18 => ?_)
        · refine z_iload (pc := 140) 5 dX12_heir_140 rfl ?_
          refine z_iconst (pc := 142) (v := (-1 : Int32)) dX12_heir_142 (by decide) ?_
          refine z_ic_eq (pc := 143) (tgt := 160) dX12_heir_143 (by decide) (fun h19 => ?_) (fun h19 => ?_)
          · refine z_iload_n (pc := 160) 2 dX12_heir_160 rfl rfl ?_
            refine z_iconst (pc := 161) (v := (3 : Int32)) dX12_heir_161 (by decide) ?_
            refine z_ic_ne (pc := 162) (tgt := 200) dX12_heir_162 (by decide) (fun h20 => ?_) (fun h20 => ?_)
            · refine z_iload (pc := 165) 4 dX12_heir_165 rfl ?_
              refine z_iload_n (pc := 167) 1 dX12_heir_167 rfl rfl ?_
              refine z_ic_eq (pc := 168) (tgt := 200) dX12_heir_168 (by decide) (fun h21 => ?_) (fun h21 => ?_)
              · refine z_iinc (pc := 200) (v := x4 + (1 : Int32)) (lv' := [(4, .int (x4 + (1 : Int32))), (0, .ref 36), (1, .int x1), (2, .int x2), (3, .int x3), (5, .int x5), (6, .int x6)]) 4 dX12_heir_200 rfl rfl (by decide) rfl ?_
                refine z_goto (pc := 203) (tgt := 28) dX12_heir_203 (by decide) ?_
                refine z_lv (lv' := [(0, .ref 36), (1, .int x1), (2, .int x2), (3, .int x3), (4, .int (x4 + (1 : Int32)))]) [1, 2, 3, 4, 0] rfl ?_
                exact hk28 x1 x2 x3 (x4 + (1 : Int32))
              · refine z_aload_n (pc := 171) 0 dX12_heir_171 rfl rfl ?_
                refine z_getQ (pc := 172) (b := 47) dX12_heir_172 kM36 fr_RX12_44_12 (by decide) rfl ?_
                refine z_iload (pc := 175) 4 dX12_heir_175 rfl ?_
                refine z_iald (pc := 177) dX12_heir_177 (am_ar.s kM47) (fun h22 => ?_)
                refine z_aload_n (pc := 178) 0 dX12_heir_178 rfl rfl ?_
                refine z_getQ (pc := 179) (b := 47) dX12_heir_179 kM36 fr_RX12_44_12 (by decide) rfl ?_
                refine z_iload_n (pc := 182) 1 dX12_heir_182 rfl rfl ?_
                refine z_iald (pc := 183) dX12_heir_183 (am_ar.s kM47) (fun h23 => ?_)
                refine z_ic_ne (pc := 184) (tgt := 200) dX12_heir_184 (by decide) (fun h24 => ?_) (fun h24 => ?_)
                · refine z_aload_n (pc := 187) 0 dX12_heir_187 rfl rfl ?_
                  refine z_iload (pc := 188) 4 dX12_heir_188 rfl ?_
                  refine z_iload_n (pc := 190) 3 dX12_heir_190 rfl rfl ?_
                  refine z_callB (pc := 191) [.ref 36, .int x4, .int x3] [] rfl (lk_V (Yc := YX12_isAhead) (n := 2) dX12_heir_191 rfl rfl (am_ob.s kM36) rfl rfl np_X12_isAhead mh_RX12 (by decide) ml_RX12_376 im_X12_isAhead se_RX12_X12_isAhead_X12_isAhead in_RX12 cd_X12_isAhead) (Nat.le_trans (by decide) hd) ⟨by decide, by decide⟩ (Nat.le_of_ble_eq_true rfl) (am_kp.rf _) (fun v25 h27 => c12_isAhead h27) (fun v25 h27 => ?_)
                  refine z_bz_eq (pc := 194) (tgt := 200) dX12_heir_194 (by decide) (fun h28 => ?_) (fun h28 => ?_)
                  · refine z_iload (pc := 197) 4 dX12_heir_197 rfl ?_
                    refine z_istore_n (pc := 199) (lv' := [(3, .int x4), (0, .ref 36), (1, .int x1), (2, .int x2), (4, .int x4), (5, .int x5), (6, .int x6)]) dX12_heir_199 rfl (by decide) rfl ?_
                    refine z_iinc (pc := 200) (v := x4 + (1 : Int32)) (lv' := [(4, .int (x4 + (1 : Int32))), (3, .int x4), (0, .ref 36), (1, .int x1), (2, .int x2), (5, .int x5), (6, .int x6)]) 4 dX12_heir_200 rfl rfl (by decide) rfl ?_
                    refine z_goto (pc := 203) (tgt := 28) dX12_heir_203 (by decide) ?_
                    refine z_lv (lv' := [(0, .ref 36), (1, .int x1), (2, .int x2), (3, .int x4), (4, .int (x4 + (1 : Int32)))]) [2, 3, 4, 1, 0] rfl ?_
                    exact hk28 x1 x2 x4 (x4 + (1 : Int32))
                  · refine z_iinc (pc := 200) (v := x4 + (1 : Int32)) (lv' := [(4, .int (x4 + (1 : Int32))), (0, .ref 36), (1, .int x1), (2, .int x2), (3, .int x3), (5, .int x5), (6, .int x6)]) 4 dX12_heir_200 rfl rfl (by decide) rfl ?_
                    refine z_goto (pc := 203) (tgt := 28) dX12_heir_203 (by decide) ?_
                    refine z_lv (lv' := [(0, .ref 36), (1, .int x1), (2, .int x2), (3, .int x3), (4, .int (x4 + (1 : Int32)))]) [1, 2, 3, 4, 0] rfl ?_
                    exact hk28 x1 x2 x3 (x4 + (1 : Int32))
                · refine z_iinc (pc := 200) (v := x4 + (1 : Int32)) (lv' := [(4, .int (x4 + (1 : Int32))), (0, .ref 36), (1, .int x1), (2, .int x2), (3, .int x3), (5, .int x5), (6, .int x6)]) 4 dX12_heir_200 rfl rfl (by decide) rfl ?_
                  refine z_goto (pc := 203) (tgt := 28) dX12_heir_203 (by decide) ?_
                  refine z_lv (lv' := [(0, .ref 36), (1, .int x1), (2, .int x2), (3, .int x3), (4, .int (x4 + (1 : Int32)))]) [1, 2, 3, 4, 0] rfl ?_
                  exact hk28 x1 x2 x3 (x4 + (1 : Int32))
            · refine z_iinc (pc := 200) (v := x4 + (1 : Int32)) (lv' := [(4, .int (x4 + (1 : Int32))), (0, .ref 36), (1, .int x1), (2, .int x2), (3, .int x3), (5, .int x5), (6, .int x6)]) 4 dX12_heir_200 rfl rfl (by decide) rfl ?_
              refine z_goto (pc := 203) (tgt := 28) dX12_heir_203 (by decide) ?_
              refine z_lv (lv' := [(0, .ref 36), (1, .int x1), (2, .int x2), (3, .int x3), (4, .int (x4 + (1 : Int32)))]) [1, 2, 3, 4, 0] rfl ?_
              exact hk28 x1 x2 x3 (x4 + (1 : Int32))
          · refine z_aload_n (pc := 146) 0 dX12_heir_146 rfl rfl ?_
            refine z_getQ (pc := 147) (b := 48) dX12_heir_147 kM36 fr_RX12_47_12 (by decide) rfl ?_
            refine z_iload (pc := 150) 5 dX12_heir_150 rfl ?_
            refine z_iald (pc := 152) dX12_heir_152 (am_ar.s kM48) (fun h29 => ?_)
            refine z_iload_n (pc := 153) 1 dX12_heir_153 rfl rfl ?_
            refine z_ic_ne (pc := 154) (tgt := 160) dX12_heir_154 (by decide) (fun h30 => ?_) (fun h30 => ?_)
            · refine z_iload (pc := 157) 4 dX12_heir_157 rfl ?_
              refine z_istore_n (pc := 159) (lv' := [(3, .int x4), (0, .ref 36), (1, .int x1), (2, .int x2), (4, .int x4), (5, .int x5), (6, .int x6)]) dX12_heir_159 rfl (by decide) rfl ?_
              refine z_iload_n (pc := 160) 3 dX12_heir_160 rfl rfl ?_
              refine z_iconst (pc := 161) (v := (3 : Int32)) dX12_heir_161 (by decide) ?_
              refine z_ic_ne (pc := 162) (tgt := 200) dX12_heir_162 (by decide) (fun h31 => ?_) (fun h31 => ?_)
              · refine z_iload (pc := 165) 4 dX12_heir_165 rfl ?_
                refine z_iload_n (pc := 167) 2 dX12_heir_167 rfl rfl ?_
                refine z_ic_eq (pc := 168) (tgt := 200) dX12_heir_168 (by decide) (fun h32 => ?_) (fun h32 => ?_)
                · refine z_iinc (pc := 200) (v := x4 + (1 : Int32)) (lv' := [(4, .int (x4 + (1 : Int32))), (3, .int x4), (0, .ref 36), (1, .int x1), (2, .int x2), (5, .int x5), (6, .int x6)]) 4 dX12_heir_200 rfl rfl (by decide) rfl ?_
                  refine z_goto (pc := 203) (tgt := 28) dX12_heir_203 (by decide) ?_
                  refine z_lv (lv' := [(0, .ref 36), (1, .int x1), (2, .int x2), (3, .int x4), (4, .int (x4 + (1 : Int32)))]) [2, 3, 4, 1, 0] rfl ?_
                  exact hk28 x1 x2 x4 (x4 + (1 : Int32))
                · refine z_aload_n (pc := 171) 1 dX12_heir_171 rfl rfl ?_
                  refine z_getQ (pc := 172) (b := 47) dX12_heir_172 kM36 fr_RX12_44_12 (by decide) rfl ?_
                  refine z_iload (pc := 175) 4 dX12_heir_175 rfl ?_
                  refine z_iald (pc := 177) dX12_heir_177 (am_ar.s kM47) (fun h33 => ?_)
                  refine z_aload_n (pc := 178) 1 dX12_heir_178 rfl rfl ?_
                  refine z_getQ (pc := 179) (b := 47) dX12_heir_179 kM36 fr_RX12_44_12 (by decide) rfl ?_
                  refine z_iload_n (pc := 182) 2 dX12_heir_182 rfl rfl ?_
                  refine z_iald (pc := 183) dX12_heir_183 (am_ar.s kM47) (fun h34 => ?_)
                  refine z_ic_ne (pc := 184) (tgt := 200) dX12_heir_184 (by decide) (fun h35 => ?_) (fun h35 => ?_)
                  · refine z_aload_n (pc := 187) 1 dX12_heir_187 rfl rfl ?_
                    refine z_iload (pc := 188) 4 dX12_heir_188 rfl ?_
                    refine z_iload_n (pc := 190) 0 dX12_heir_190 rfl rfl ?_
                    refine z_callB (pc := 191) [.ref 36, .int x4, .int x4] [] rfl (lk_V (Yc := YX12_isAhead) (n := 2) dX12_heir_191 rfl rfl (am_ob.s kM36) rfl rfl np_X12_isAhead mh_RX12 (by decide) ml_RX12_376 im_X12_isAhead se_RX12_X12_isAhead_X12_isAhead in_RX12 cd_X12_isAhead) (Nat.le_trans (by decide) hd) ⟨by decide, by decide⟩ (Nat.le_of_ble_eq_true rfl) (am_kp.rf _) (fun v36 h38 => c12_isAhead h38) (fun v36 h38 => ?_)
                    refine z_bz_eq (pc := 194) (tgt := 200) dX12_heir_194 (by decide) (fun h39 => ?_) (fun h39 => ?_)
                    · refine z_iload (pc := 197) 4 dX12_heir_197 rfl ?_
                      refine z_istore_n (pc := 199) (lv' := [(3, .int x4), (0, .ref 36), (1, .int x1), (2, .int x2), (4, .int x4), (5, .int x5), (6, .int x6)]) dX12_heir_199 rfl (by decide) rfl ?_
                      refine z_iinc (pc := 200) (v := x4 + (1 : Int32)) (lv' := [(4, .int (x4 + (1 : Int32))), (3, .int x4), (0, .ref 36), (1, .int x1), (2, .int x2), (5, .int x5), (6, .int x6)]) 4 dX12_heir_200 rfl rfl (by decide) rfl ?_
                      refine z_goto (pc := 203) (tgt := 28) dX12_heir_203 (by decide) ?_
                      refine z_lv (lv' := [(0, .ref 36), (1, .int x1), (2, .int x2), (3, .int x4), (4, .int (x4 + (1 : Int32)))]) [2, 3, 4, 1, 0] rfl ?_
                      exact hk28 x1 x2 x4 (x4 + (1 : Int32))
                    · refine z_iinc (pc := 200) (v := x4 + (1 : Int32)) (lv' := [(4, .int (x4 + (1 : Int32))), (3, .int x4), (0, .ref 36), (1, .int x1), (2, .int x2), (5, .int x5), (6, .int x6)]) 4 dX12_heir_200 rfl rfl (by decide) rfl ?_
                      refine z_goto (pc := 203) (tgt := 28) dX12_heir_203 (by decide) ?_
                      refine z_lv (lv' := [(0, .ref 36), (1, .int x1), (2, .int x2), (3, .int x4), (4, .int (x4 + (1 : Int32)))]) [2, 3, 4, 1, 0] rfl ?_
                      exact hk28 x1 x2 x4 (x4 + (1 : Int32))
                  · refine z_iinc (pc := 200) (v := x4 + (1 : Int32)) (lv' := [(4, .int (x4 + (1 : Int32))), (3, .int x4), (0, .ref 36), (1, .int x1), (2, .int x2), (5, .int x5), (6, .int x6)]) 4 dX12_heir_200 rfl rfl (by decide) rfl ?_
                    refine z_goto (pc := 203) (tgt := 28) dX12_heir_203 (by decide) ?_
                    refine z_lv (lv' := [(0, .ref 36), (1, .int x1), (2, .int x2), (3, .int x4), (4, .int (x4 + (1 : Int32)))]) [2, 3, 4, 1, 0] rfl ?_
                    exact hk28 x1 x2 x4 (x4 + (1 : Int32))
              · refine z_iinc (pc := 200) (v := x4 + (1 : Int32)) (lv' := [(4, .int (x4 + (1 : Int32))), (3, .int x4), (0, .ref 36), (1, .int x1), (2, .int x2), (5, .int x5), (6, .int x6)]) 4 dX12_heir_200 rfl rfl (by decide) rfl ?_
                refine z_goto (pc := 203) (tgt := 28) dX12_heir_203 (by decide) ?_
                refine z_lv (lv' := [(0, .ref 36), (1, .int x1), (2, .int x2), (3, .int x4), (4, .int (x4 + (1 : Int32)))]) [2, 3, 4, 1, 0] rfl ?_
                exact hk28 x1 x2 x4 (x4 + (1 : Int32))
            · refine z_iload_n (pc := 160) 2 dX12_heir_160 rfl rfl ?_
              refine z_iconst (pc := 161) (v := (3 : Int32)) dX12_heir_161 (by decide) ?_
              refine z_ic_ne (pc := 162) (tgt := 200) dX12_heir_162 (by decide) (fun h40 => ?_) (fun h40 => ?_)
              · refine z_iload (pc := 165) 4 dX12_heir_165 rfl ?_
                refine z_iload_n (pc := 167) 1 dX12_heir_167 rfl rfl ?_
                refine z_ic_eq (pc := 168) (tgt := 200) dX12_heir_168 (by decide) (fun h41 => ?_) (fun h41 => ?_)
                · refine z_iinc (pc := 200) (v := x4 + (1 : Int32)) (lv' := [(4, .int (x4 + (1 : Int32))), (0, .ref 36), (1, .int x1), (2, .int x2), (3, .int x3), (5, .int x5), (6, .int x6)]) 4 dX12_heir_200 rfl rfl (by decide) rfl ?_
                  refine z_goto (pc := 203) (tgt := 28) dX12_heir_203 (by decide) ?_
                  refine z_lv (lv' := [(0, .ref 36), (1, .int x1), (2, .int x2), (3, .int x3), (4, .int (x4 + (1 : Int32)))]) [1, 2, 3, 4, 0] rfl ?_
                  exact hk28 x1 x2 x3 (x4 + (1 : Int32))
                · refine z_aload_n (pc := 171) 0 dX12_heir_171 rfl rfl ?_
                  refine z_getQ (pc := 172) (b := 47) dX12_heir_172 kM36 fr_RX12_44_12 (by decide) rfl ?_
                  refine z_iload (pc := 175) 4 dX12_heir_175 rfl ?_
                  refine z_iald (pc := 177) dX12_heir_177 (am_ar.s kM47) (fun h42 => ?_)
                  refine z_aload_n (pc := 178) 0 dX12_heir_178 rfl rfl ?_
                  refine z_getQ (pc := 179) (b := 47) dX12_heir_179 kM36 fr_RX12_44_12 (by decide) rfl ?_
                  refine z_iload_n (pc := 182) 1 dX12_heir_182 rfl rfl ?_
                  refine z_iald (pc := 183) dX12_heir_183 (am_ar.s kM47) (fun h43 => ?_)
                  refine z_ic_ne (pc := 184) (tgt := 200) dX12_heir_184 (by decide) (fun h44 => ?_) (fun h44 => ?_)
                  · refine z_aload_n (pc := 187) 0 dX12_heir_187 rfl rfl ?_
                    refine z_iload (pc := 188) 4 dX12_heir_188 rfl ?_
                    refine z_iload_n (pc := 190) 3 dX12_heir_190 rfl rfl ?_
                    refine z_callB (pc := 191) [.ref 36, .int x4, .int x3] [] rfl (lk_V (Yc := YX12_isAhead) (n := 2) dX12_heir_191 rfl rfl (am_ob.s kM36) rfl rfl np_X12_isAhead mh_RX12 (by decide) ml_RX12_376 im_X12_isAhead se_RX12_X12_isAhead_X12_isAhead in_RX12 cd_X12_isAhead) (Nat.le_trans (by decide) hd) ⟨by decide, by decide⟩ (Nat.le_of_ble_eq_true rfl) (am_kp.rf _) (fun v45 h47 => c12_isAhead h47) (fun v45 h47 => ?_)
                    refine z_bz_eq (pc := 194) (tgt := 200) dX12_heir_194 (by decide) (fun h48 => ?_) (fun h48 => ?_)
                    · refine z_iload (pc := 197) 4 dX12_heir_197 rfl ?_
                      refine z_istore_n (pc := 199) (lv' := [(3, .int x4), (0, .ref 36), (1, .int x1), (2, .int x2), (4, .int x4), (5, .int x5), (6, .int x6)]) dX12_heir_199 rfl (by decide) rfl ?_
                      refine z_iinc (pc := 200) (v := x4 + (1 : Int32)) (lv' := [(4, .int (x4 + (1 : Int32))), (3, .int x4), (0, .ref 36), (1, .int x1), (2, .int x2), (5, .int x5), (6, .int x6)]) 4 dX12_heir_200 rfl rfl (by decide) rfl ?_
                      refine z_goto (pc := 203) (tgt := 28) dX12_heir_203 (by decide) ?_
                      refine z_lv (lv' := [(0, .ref 36), (1, .int x1), (2, .int x2), (3, .int x4), (4, .int (x4 + (1 : Int32)))]) [2, 3, 4, 1, 0] rfl ?_
                      exact hk28 x1 x2 x4 (x4 + (1 : Int32))
                    · refine z_iinc (pc := 200) (v := x4 + (1 : Int32)) (lv' := [(4, .int (x4 + (1 : Int32))), (0, .ref 36), (1, .int x1), (2, .int x2), (3, .int x3), (5, .int x5), (6, .int x6)]) 4 dX12_heir_200 rfl rfl (by decide) rfl ?_
                      refine z_goto (pc := 203) (tgt := 28) dX12_heir_203 (by decide) ?_
                      refine z_lv (lv' := [(0, .ref 36), (1, .int x1), (2, .int x2), (3, .int x3), (4, .int (x4 + (1 : Int32)))]) [1, 2, 3, 4, 0] rfl ?_
                      exact hk28 x1 x2 x3 (x4 + (1 : Int32))
                  · refine z_iinc (pc := 200) (v := x4 + (1 : Int32)) (lv' := [(4, .int (x4 + (1 : Int32))), (0, .ref 36), (1, .int x1), (2, .int x2), (3, .int x3), (5, .int x5), (6, .int x6)]) 4 dX12_heir_200 rfl rfl (by decide) rfl ?_
                    refine z_goto (pc := 203) (tgt := 28) dX12_heir_203 (by decide) ?_
                    refine z_lv (lv' := [(0, .ref 36), (1, .int x1), (2, .int x2), (3, .int x3), (4, .int (x4 + (1 : Int32)))]) [1, 2, 3, 4, 0] rfl ?_
                    exact hk28 x1 x2 x3 (x4 + (1 : Int32))
              · refine z_iinc (pc := 200) (v := x4 + (1 : Int32)) (lv' := [(4, .int (x4 + (1 : Int32))), (0, .ref 36), (1, .int x1), (2, .int x2), (3, .int x3), (5, .int x5), (6, .int x6)]) 4 dX12_heir_200 rfl rfl (by decide) rfl ?_
                refine z_goto (pc := 203) (tgt := 28) dX12_heir_203 (by decide) ?_
                refine z_lv (lv' := [(0, .ref 36), (1, .int x1), (2, .int x2), (3, .int x3), (4, .int (x4 + (1 : Int32)))]) [1, 2, 3, 4, 0] rfl ?_
                exact hk28 x1 x2 x3 (x4 + (1 : Int32))
        · refine z_iload (pc := 157) 4 dX12_heir_157 rfl ?_
          refine z_istore_n (pc := 159) (lv' := [(3, .int x4), (0, .ref 36), (1, .int x1), (2, .int x2), (4, .int x4), (5, .int x5), (6, .int x6)]) dX12_heir_159 rfl (by decide) rfl ?_
          refine z_iload_n (pc := 160) 3 dX12_heir_160 rfl rfl ?_
          refine z_iconst (pc := 161) (v := (3 : Int32)) dX12_heir_161 (by decide) ?_
          refine z_ic_ne (pc := 162) (tgt := 200) dX12_heir_162 (by decide) (fun h49 => ?_) (fun h49 => ?_)
          · refine z_iload (pc := 165) 4 dX12_heir_165 rfl ?_
            refine z_iload_n (pc := 167) 2 dX12_heir_167 rfl rfl ?_
            refine z_ic_eq (pc := 168) (tgt := 200) dX12_heir_168 (by decide) (fun h50 => ?_) (fun h50 => ?_)
            · refine z_iinc (pc := 200) (v := x4 + (1 : Int32)) (lv' := [(4, .int (x4 + (1 : Int32))), (3, .int x4), (0, .ref 36), (1, .int x1), (2, .int x2), (5, .int x5), (6, .int x6)]) 4 dX12_heir_200 rfl rfl (by decide) rfl ?_
              refine z_goto (pc := 203) (tgt := 28) dX12_heir_203 (by decide) ?_
              refine z_lv (lv' := [(0, .ref 36), (1, .int x1), (2, .int x2), (3, .int x4), (4, .int (x4 + (1 : Int32)))]) [2, 3, 4, 1, 0] rfl ?_
              exact hk28 x1 x2 x4 (x4 + (1 : Int32))
            · refine z_aload_n (pc := 171) 1 dX12_heir_171 rfl rfl ?_
              refine z_getQ (pc := 172) (b := 47) dX12_heir_172 kM36 fr_RX12_44_12 (by decide) rfl ?_
              refine z_iload (pc := 175) 4 dX12_heir_175 rfl ?_
              refine z_iald (pc := 177) dX12_heir_177 (am_ar.s kM47) (fun h51 => ?_)
              refine z_aload_n (pc := 178) 1 dX12_heir_178 rfl rfl ?_
              refine z_getQ (pc := 179) (b := 47) dX12_heir_179 kM36 fr_RX12_44_12 (by decide) rfl ?_
              refine z_iload_n (pc := 182) 2 dX12_heir_182 rfl rfl ?_
              refine z_iald (pc := 183) dX12_heir_183 (am_ar.s kM47) (fun h52 => ?_)
              refine z_ic_ne (pc := 184) (tgt := 200) dX12_heir_184 (by decide) (fun h53 => ?_) (fun h53 => ?_)
              · refine z_aload_n (pc := 187) 1 dX12_heir_187 rfl rfl ?_
                refine z_iload (pc := 188) 4 dX12_heir_188 rfl ?_
                refine z_iload_n (pc := 190) 0 dX12_heir_190 rfl rfl ?_
                refine z_callB (pc := 191) [.ref 36, .int x4, .int x4] [] rfl (lk_V (Yc := YX12_isAhead) (n := 2) dX12_heir_191 rfl rfl (am_ob.s kM36) rfl rfl np_X12_isAhead mh_RX12 (by decide) ml_RX12_376 im_X12_isAhead se_RX12_X12_isAhead_X12_isAhead in_RX12 cd_X12_isAhead) (Nat.le_trans (by decide) hd) ⟨by decide, by decide⟩ (Nat.le_of_ble_eq_true rfl) (am_kp.rf _) (fun v54 h56 => c12_isAhead h56) (fun v54 h56 => ?_)
                refine z_bz_eq (pc := 194) (tgt := 200) dX12_heir_194 (by decide) (fun h57 => ?_) (fun h57 => ?_)
                · refine z_iload (pc := 197) 4 dX12_heir_197 rfl ?_
                  refine z_istore_n (pc := 199) (lv' := [(3, .int x4), (0, .ref 36), (1, .int x1), (2, .int x2), (4, .int x4), (5, .int x5), (6, .int x6)]) dX12_heir_199 rfl (by decide) rfl ?_
                  refine z_iinc (pc := 200) (v := x4 + (1 : Int32)) (lv' := [(4, .int (x4 + (1 : Int32))), (3, .int x4), (0, .ref 36), (1, .int x1), (2, .int x2), (5, .int x5), (6, .int x6)]) 4 dX12_heir_200 rfl rfl (by decide) rfl ?_
                  refine z_goto (pc := 203) (tgt := 28) dX12_heir_203 (by decide) ?_
                  refine z_lv (lv' := [(0, .ref 36), (1, .int x1), (2, .int x2), (3, .int x4), (4, .int (x4 + (1 : Int32)))]) [2, 3, 4, 1, 0] rfl ?_
                  exact hk28 x1 x2 x4 (x4 + (1 : Int32))
                · refine z_iinc (pc := 200) (v := x4 + (1 : Int32)) (lv' := [(4, .int (x4 + (1 : Int32))), (3, .int x4), (0, .ref 36), (1, .int x1), (2, .int x2), (5, .int x5), (6, .int x6)]) 4 dX12_heir_200 rfl rfl (by decide) rfl ?_
                  refine z_goto (pc := 203) (tgt := 28) dX12_heir_203 (by decide) ?_
                  refine z_lv (lv' := [(0, .ref 36), (1, .int x1), (2, .int x2), (3, .int x4), (4, .int (x4 + (1 : Int32)))]) [2, 3, 4, 1, 0] rfl ?_
                  exact hk28 x1 x2 x4 (x4 + (1 : Int32))
              · refine z_iinc (pc := 200) (v := x4 + (1 : Int32)) (lv' := [(4, .int (x4 + (1 : Int32))), (3, .int x4), (0, .ref 36), (1, .int x1), (2, .int x2), (5, .int x5), (6, .int x6)]) 4 dX12_heir_200 rfl rfl (by decide) rfl ?_
                refine z_goto (pc := 203) (tgt := 28) dX12_heir_203 (by decide) ?_
                refine z_lv (lv' := [(0, .ref 36), (1, .int x1), (2, .int x2), (3, .int x4), (4, .int (x4 + (1 : Int32)))]) [2, 3, 4, 1, 0] rfl ?_
                exact hk28 x1 x2 x4 (x4 + (1 : Int32))
          · refine z_iinc (pc := 200) (v := x4 + (1 : Int32)) (lv' := [(4, .int (x4 + (1 : Int32))), (3, .int x4), (0, .ref 36), (1, .int x1), (2, .int x2), (5, .int x5), (6, .int x6)]) 4 dX12_heir_200 rfl rfl (by decide) rfl ?_
            refine z_goto (pc := 203) (tgt := 28) dX12_heir_203 (by decide) ?_
            refine z_lv (lv' := [(0, .ref 36), (1, .int x1), (2, .int x2), (3, .int x4), (4, .int (x4 + (1 : Int32)))]) [2, 3, 4, 1, 0] rfl ?_
            exact hk28 x1 x2 x4 (x4 + (1 : Int32))
      · refine z_iload_n (pc := 160) 2 dX12_heir_160 rfl rfl ?_
        refine z_iconst (pc := 161) (v := (3 : Int32)) dX12_heir_161 (by decide) ?_
        refine z_ic_ne (pc := 162) (tgt := 200) dX12_heir_162 (by decide) (fun h58 => ?_) (fun h58 => ?_)
        · refine z_iload (pc := 165) 4 dX12_heir_165 rfl ?_
          refine z_iload_n (pc := 167) 1 dX12_heir_167 rfl rfl ?_
          refine z_ic_eq (pc := 168) (tgt := 200) dX12_heir_168 (by decide) (fun h59 => ?_) (fun h59 => ?_)
          · refine z_iinc (pc := 200) (v := x4 + (1 : Int32)) (lv' := [(4, .int (x4 + (1 : Int32))), (0, .ref 36), (1, .int x1), (2, .int x2), (3, .int x3), (5, .int x5), (6, .int x6)]) 4 dX12_heir_200 rfl rfl (by decide) rfl ?_
            refine z_goto (pc := 203) (tgt := 28) dX12_heir_203 (by decide) ?_
            refine z_lv (lv' := [(0, .ref 36), (1, .int x1), (2, .int x2), (3, .int x3), (4, .int (x4 + (1 : Int32)))]) [1, 2, 3, 4, 0] rfl ?_
            exact hk28 x1 x2 x3 (x4 + (1 : Int32))
          · refine z_aload_n (pc := 171) 0 dX12_heir_171 rfl rfl ?_
            refine z_getQ (pc := 172) (b := 47) dX12_heir_172 kM36 fr_RX12_44_12 (by decide) rfl ?_
            refine z_iload (pc := 175) 4 dX12_heir_175 rfl ?_
            refine z_iald (pc := 177) dX12_heir_177 (am_ar.s kM47) (fun h60 => ?_)
            refine z_aload_n (pc := 178) 0 dX12_heir_178 rfl rfl ?_
            refine z_getQ (pc := 179) (b := 47) dX12_heir_179 kM36 fr_RX12_44_12 (by decide) rfl ?_
            refine z_iload_n (pc := 182) 1 dX12_heir_182 rfl rfl ?_
            refine z_iald (pc := 183) dX12_heir_183 (am_ar.s kM47) (fun h61 => ?_)
            refine z_ic_ne (pc := 184) (tgt := 200) dX12_heir_184 (by decide) (fun h62 => ?_) (fun h62 => ?_)
            · refine z_aload_n (pc := 187) 0 dX12_heir_187 rfl rfl ?_
              refine z_iload (pc := 188) 4 dX12_heir_188 rfl ?_
              refine z_iload_n (pc := 190) 3 dX12_heir_190 rfl rfl ?_
              refine z_callB (pc := 191) [.ref 36, .int x4, .int x3] [] rfl (lk_V (Yc := YX12_isAhead) (n := 2) dX12_heir_191 rfl rfl (am_ob.s kM36) rfl rfl np_X12_isAhead mh_RX12 (by decide) ml_RX12_376 im_X12_isAhead se_RX12_X12_isAhead_X12_isAhead in_RX12 cd_X12_isAhead) (Nat.le_trans (by decide) hd) ⟨by decide, by decide⟩ (Nat.le_of_ble_eq_true rfl) (am_kp.rf _) (fun v63 h65 => c12_isAhead h65) (fun v63 h65 => ?_)
              refine z_bz_eq (pc := 194) (tgt := 200) dX12_heir_194 (by decide) (fun h66 => ?_) (fun h66 => ?_)
              · refine z_iload (pc := 197) 4 dX12_heir_197 rfl ?_
                refine z_istore_n (pc := 199) (lv' := [(3, .int x4), (0, .ref 36), (1, .int x1), (2, .int x2), (4, .int x4), (5, .int x5), (6, .int x6)]) dX12_heir_199 rfl (by decide) rfl ?_
                refine z_iinc (pc := 200) (v := x4 + (1 : Int32)) (lv' := [(4, .int (x4 + (1 : Int32))), (3, .int x4), (0, .ref 36), (1, .int x1), (2, .int x2), (5, .int x5), (6, .int x6)]) 4 dX12_heir_200 rfl rfl (by decide) rfl ?_
                refine z_goto (pc := 203) (tgt := 28) dX12_heir_203 (by decide) ?_
                refine z_lv (lv' := [(0, .ref 36), (1, .int x1), (2, .int x2), (3, .int x4), (4, .int (x4 + (1 : Int32)))]) [2, 3, 4, 1, 0] rfl ?_
                exact hk28 x1 x2 x4 (x4 + (1 : Int32))
              · refine z_iinc (pc := 200) (v := x4 + (1 : Int32)) (lv' := [(4, .int (x4 + (1 : Int32))), (0, .ref 36), (1, .int x1), (2, .int x2), (3, .int x3), (5, .int x5), (6, .int x6)]) 4 dX12_heir_200 rfl rfl (by decide) rfl ?_
                refine z_goto (pc := 203) (tgt := 28) dX12_heir_203 (by decide) ?_
                refine z_lv (lv' := [(0, .ref 36), (1, .int x1), (2, .int x2), (3, .int x3), (4, .int (x4 + (1 : Int32)))]) [1, 2, 3, 4, 0] rfl ?_
                exact hk28 x1 x2 x3 (x4 + (1 : Int32))
            · refine z_iinc (pc := 200) (v := x4 + (1 : Int32)) (lv' := [(4, .int (x4 + (1 : Int32))), (0, .ref 36), (1, .int x1), (2, .int x2), (3, .int x3), (5, .int x5), (6, .int x6)]) 4 dX12_heir_200 rfl rfl (by decide) rfl ?_
              refine z_goto (pc := 203) (tgt := 28) dX12_heir_203 (by decide) ?_
              refine z_lv (lv' := [(0, .ref 36), (1, .int x1), (2, .int x2), (3, .int x3), (4, .int (x4 + (1 : Int32)))]) [1, 2, 3, 4, 0] rfl ?_
              exact hk28 x1 x2 x3 (x4 + (1 : Int32))
        · refine z_iinc (pc := 200) (v := x4 + (1 : Int32)) (lv' := [(4, .int (x4 + (1 : Int32))), (0, .ref 36), (1, .int x1), (2, .int x2), (3, .int x3), (5, .int x5), (6, .int x6)]) 4 dX12_heir_200 rfl rfl (by decide) rfl ?_
          refine z_goto (pc := 203) (tgt := 28) dX12_heir_203 (by decide) ?_
          refine z_lv (lv' := [(0, .ref 36), (1, .int x1), (2, .int x2), (3, .int x3), (4, .int (x4 + (1 : Int32)))]) [1, 2, 3, 4, 0] rfl ?_
          exact hk28 x1 x2 x3 (x4 + (1 : Int32))
    · refine z_iload_n (pc := 160) 2 dX12_heir_160 rfl rfl ?_
      refine z_iconst (pc := 161) (v := (3 : Int32)) dX12_heir_161 (by decide) ?_
      refine z_ic_ne (pc := 162) (tgt := 200) dX12_heir_162 (by decide) (fun h67 => ?_) (fun h67 => ?_)
      · refine z_iload (pc := 165) 4 dX12_heir_165 rfl ?_
        refine z_iload_n (pc := 167) 1 dX12_heir_167 rfl rfl ?_
        refine z_ic_eq (pc := 168) (tgt := 200) dX12_heir_168 (by decide) (fun h68 => ?_) (fun h68 => ?_)
        · refine z_iinc (pc := 200) (v := x4 + (1 : Int32)) (lv' := [(4, .int (x4 + (1 : Int32))), (0, .ref 36), (1, .int x1), (2, .int x2), (3, .int x3), (5, .int x5), (6, .int x6)]) 4 dX12_heir_200 rfl rfl (by decide) rfl ?_
          refine z_goto (pc := 203) (tgt := 28) dX12_heir_203 (by decide) ?_
          refine z_lv (lv' := [(0, .ref 36), (1, .int x1), (2, .int x2), (3, .int x3), (4, .int (x4 + (1 : Int32)))]) [1, 2, 3, 4, 0] rfl ?_
          exact hk28 x1 x2 x3 (x4 + (1 : Int32))
        · refine z_aload_n (pc := 171) 0 dX12_heir_171 rfl rfl ?_
          refine z_getQ (pc := 172) (b := 47) dX12_heir_172 kM36 fr_RX12_44_12 (by decide) rfl ?_
          refine z_iload (pc := 175) 4 dX12_heir_175 rfl ?_
          refine z_iald (pc := 177) dX12_heir_177 (am_ar.s kM47) (fun h69 => ?_)
          refine z_aload_n (pc := 178) 0 dX12_heir_178 rfl rfl ?_
          refine z_getQ (pc := 179) (b := 47) dX12_heir_179 kM36 fr_RX12_44_12 (by decide) rfl ?_
          refine z_iload_n (pc := 182) 1 dX12_heir_182 rfl rfl ?_
          refine z_iald (pc := 183) dX12_heir_183 (am_ar.s kM47) (fun h70 => ?_)
          refine z_ic_ne (pc := 184) (tgt := 200) dX12_heir_184 (by decide) (fun h71 => ?_) (fun h71 => ?_)
          · refine z_aload_n (pc := 187) 0 dX12_heir_187 rfl rfl ?_
            refine z_iload (pc := 188) 4 dX12_heir_188 rfl ?_
            refine z_iload_n (pc := 190) 3 dX12_heir_190 rfl rfl ?_
            refine z_callB (pc := 191) [.ref 36, .int x4, .int x3] [] rfl (lk_V (Yc := YX12_isAhead) (n := 2) dX12_heir_191 rfl rfl (am_ob.s kM36) rfl rfl np_X12_isAhead mh_RX12 (by decide) ml_RX12_376 im_X12_isAhead se_RX12_X12_isAhead_X12_isAhead in_RX12 cd_X12_isAhead) (Nat.le_trans (by decide) hd) ⟨by decide, by decide⟩ (Nat.le_of_ble_eq_true rfl) (am_kp.rf _) (fun v72 h74 => c12_isAhead h74) (fun v72 h74 => ?_)
            refine z_bz_eq (pc := 194) (tgt := 200) dX12_heir_194 (by decide) (fun h75 => ?_) (fun h75 => ?_)
            · refine z_iload (pc := 197) 4 dX12_heir_197 rfl ?_
              refine z_istore_n (pc := 199) (lv' := [(3, .int x4), (0, .ref 36), (1, .int x1), (2, .int x2), (4, .int x4), (5, .int x5), (6, .int x6)]) dX12_heir_199 rfl (by decide) rfl ?_
              refine z_iinc (pc := 200) (v := x4 + (1 : Int32)) (lv' := [(4, .int (x4 + (1 : Int32))), (3, .int x4), (0, .ref 36), (1, .int x1), (2, .int x2), (5, .int x5), (6, .int x6)]) 4 dX12_heir_200 rfl rfl (by decide) rfl ?_
              refine z_goto (pc := 203) (tgt := 28) dX12_heir_203 (by decide) ?_
              refine z_lv (lv' := [(0, .ref 36), (1, .int x1), (2, .int x2), (3, .int x4), (4, .int (x4 + (1 : Int32)))]) [2, 3, 4, 1, 0] rfl ?_
              exact hk28 x1 x2 x4 (x4 + (1 : Int32))
            · refine z_iinc (pc := 200) (v := x4 + (1 : Int32)) (lv' := [(4, .int (x4 + (1 : Int32))), (0, .ref 36), (1, .int x1), (2, .int x2), (3, .int x3), (5, .int x5), (6, .int x6)]) 4 dX12_heir_200 rfl rfl (by decide) rfl ?_
              refine z_goto (pc := 203) (tgt := 28) dX12_heir_203 (by decide) ?_
              refine z_lv (lv' := [(0, .ref 36), (1, .int x1), (2, .int x2), (3, .int x3), (4, .int (x4 + (1 : Int32)))]) [1, 2, 3, 4, 0] rfl ?_
              exact hk28 x1 x2 x3 (x4 + (1 : Int32))
          · refine z_iinc (pc := 200) (v := x4 + (1 : Int32)) (lv' := [(4, .int (x4 + (1 : Int32))), (0, .ref 36), (1, .int x1), (2, .int x2), (3, .int x3), (5, .int x5), (6, .int x6)]) 4 dX12_heir_200 rfl rfl (by decide) rfl ?_
            refine z_goto (pc := 203) (tgt := 28) dX12_heir_203 (by decide) ?_
            refine z_lv (lv' := [(0, .ref 36), (1, .int x1), (2, .int x2), (3, .int x3), (4, .int (x4 + (1 : Int32)))]) [1, 2, 3, 4, 0] rfl ?_
            exact hk28 x1 x2 x3 (x4 + (1 : Int32))
      · refine z_iinc (pc := 200) (v := x4 + (1 : Int32)) (lv' := [(4, .int (x4 + (1 : Int32))), (0, .ref 36), (1, .int x1), (2, .int x2), (3, .int x3), (5, .int x5), (6, .int x6)]) 4 dX12_heir_200 rfl rfl (by decide) rfl ?_
        refine z_goto (pc := 203) (tgt := 28) dX12_heir_203 (by decide) ?_
        refine z_lv (lv' := [(0, .ref 36), (1, .int x1), (2, .int x2), (3, .int x3), (4, .int (x4 + (1 : Int32)))]) [1, 2, 3, 4, 0] rfl ?_
        exact hk28 x1 x2 x3 (x4 + (1 : Int32))
  · refine z_iload_n (pc := 160) 2 dX12_heir_160 rfl rfl ?_
    refine z_iconst (pc := 161) (v := (3 : Int32)) dX12_heir_161 (by decide) ?_
    refine z_ic_ne (pc := 162) (tgt := 200) dX12_heir_162 (by decide) (fun h76 => ?_) (fun h76 => ?_)
    · refine z_iload (pc := 165) 4 dX12_heir_165 rfl ?_
      refine z_iload_n (pc := 167) 1 dX12_heir_167 rfl rfl ?_
      refine z_ic_eq (pc := 168) (tgt := 200) dX12_heir_168 (by decide) (fun h77 => ?_) (fun h77 => ?_)
      · refine z_iinc (pc := 200) (v := x4 + (1 : Int32)) (lv' := [(4, .int (x4 + (1 : Int32))), (0, .ref 36), (1, .int x1), (2, .int x2), (3, .int x3), (5, .int x5), (6, .int x6)]) 4 dX12_heir_200 rfl rfl (by decide) rfl ?_
        refine z_goto (pc := 203) (tgt := 28) dX12_heir_203 (by decide) ?_
        refine z_lv (lv' := [(0, .ref 36), (1, .int x1), (2, .int x2), (3, .int x3), (4, .int (x4 + (1 : Int32)))]) [1, 2, 3, 4, 0] rfl ?_
        exact hk28 x1 x2 x3 (x4 + (1 : Int32))
      · refine z_aload_n (pc := 171) 0 dX12_heir_171 rfl rfl ?_
        refine z_getQ (pc := 172) (b := 47) dX12_heir_172 kM36 fr_RX12_44_12 (by decide) rfl ?_
        refine z_iload (pc := 175) 4 dX12_heir_175 rfl ?_
        refine z_iald (pc := 177) dX12_heir_177 (am_ar.s kM47) (fun h78 => ?_)
        refine z_aload_n (pc := 178) 0 dX12_heir_178 rfl rfl ?_
        refine z_getQ (pc := 179) (b := 47) dX12_heir_179 kM36 fr_RX12_44_12 (by decide) rfl ?_
        refine z_iload_n (pc := 182) 1 dX12_heir_182 rfl rfl ?_
        refine z_iald (pc := 183) dX12_heir_183 (am_ar.s kM47) (fun h79 => ?_)
        refine z_ic_ne (pc := 184) (tgt := 200) dX12_heir_184 (by decide) (fun h80 => ?_) (fun h80 => ?_)
        · refine z_aload_n (pc := 187) 0 dX12_heir_187 rfl rfl ?_
          refine z_iload (pc := 188) 4 dX12_heir_188 rfl ?_
          refine z_iload_n (pc := 190) 3 dX12_heir_190 rfl rfl ?_
          refine z_callB (pc := 191) [.ref 36, .int x4, .int x3] [] rfl (lk_V (Yc := YX12_isAhead) (n := 2) dX12_heir_191 rfl rfl (am_ob.s kM36) rfl rfl np_X12_isAhead mh_RX12 (by decide) ml_RX12_376 im_X12_isAhead se_RX12_X12_isAhead_X12_isAhead in_RX12 cd_X12_isAhead) (Nat.le_trans (by decide) hd) ⟨by decide, by decide⟩ (Nat.le_of_ble_eq_true rfl) (am_kp.rf _) (fun v81 h83 => c12_isAhead h83) (fun v81 h83 => ?_)
          refine z_bz_eq (pc := 194) (tgt := 200) dX12_heir_194 (by decide) (fun h84 => ?_) (fun h84 => ?_)
          · refine z_iload (pc := 197) 4 dX12_heir_197 rfl ?_
            refine z_istore_n (pc := 199) (lv' := [(3, .int x4), (0, .ref 36), (1, .int x1), (2, .int x2), (4, .int x4), (5, .int x5), (6, .int x6)]) dX12_heir_199 rfl (by decide) rfl ?_
            refine z_iinc (pc := 200) (v := x4 + (1 : Int32)) (lv' := [(4, .int (x4 + (1 : Int32))), (3, .int x4), (0, .ref 36), (1, .int x1), (2, .int x2), (5, .int x5), (6, .int x6)]) 4 dX12_heir_200 rfl rfl (by decide) rfl ?_
            refine z_goto (pc := 203) (tgt := 28) dX12_heir_203 (by decide) ?_
            refine z_lv (lv' := [(0, .ref 36), (1, .int x1), (2, .int x2), (3, .int x4), (4, .int (x4 + (1 : Int32)))]) [2, 3, 4, 1, 0] rfl ?_
            exact hk28 x1 x2 x4 (x4 + (1 : Int32))
          · refine z_iinc (pc := 200) (v := x4 + (1 : Int32)) (lv' := [(4, .int (x4 + (1 : Int32))), (0, .ref 36), (1, .int x1), (2, .int x2), (3, .int x3), (5, .int x5), (6, .int x6)]) 4 dX12_heir_200 rfl rfl (by decide) rfl ?_
            refine z_goto (pc := 203) (tgt := 28) dX12_heir_203 (by decide) ?_
            refine z_lv (lv' := [(0, .ref 36), (1, .int x1), (2, .int x2), (3, .int x3), (4, .int (x4 + (1 : Int32)))]) [1, 2, 3, 4, 0] rfl ?_
            exact hk28 x1 x2 x3 (x4 + (1 : Int32))
        · refine z_iinc (pc := 200) (v := x4 + (1 : Int32)) (lv' := [(4, .int (x4 + (1 : Int32))), (0, .ref 36), (1, .int x1), (2, .int x2), (3, .int x3), (5, .int x5), (6, .int x6)]) 4 dX12_heir_200 rfl rfl (by decide) rfl ?_
          refine z_goto (pc := 203) (tgt := 28) dX12_heir_203 (by decide) ?_
          refine z_lv (lv' := [(0, .ref 36), (1, .int x1), (2, .int x2), (3, .int x3), (4, .int (x4 + (1 : Int32)))]) [1, 2, 3, 4, 0] rfl ?_
          exact hk28 x1 x2 x3 (x4 + (1 : Int32))
    · refine z_iinc (pc := 200) (v := x4 + (1 : Int32)) (lv' := [(4, .int (x4 + (1 : Int32))), (0, .ref 36), (1, .int x1), (2, .int x2), (3, .int x3), (5, .int x5), (6, .int x6)]) 4 dX12_heir_200 rfl rfl (by decide) rfl ?_
      refine z_goto (pc := 203) (tgt := 28) dX12_heir_203 (by decide) ?_
      refine z_lv (lv' := [(0, .ref 36), (1, .int x1), (2, .int x2), (3, .int x3), (4, .int (x4 + (1 : Int32)))]) [1, 2, 3, 4, 0] rfl ?_
      exact hk28 x1 x2 x3 (x4 + (1 : Int32))
def f12_heir_J57 (k28 : Int32 → Int32 → Int32 → Int32 → Option Int32) (σ : am_S) (N : Nat) (x1 : Int32) (x2 : Int32) (x3 : Int32) (x4 : Int32) (x5 : Int32) (s0 : Int32) : Option Int32 := if x2 = (1 : Int32) then (if s0 = 0 then (f12_heir_J115 k28 σ N x1 x2 x3 x4 x5 s0) else (if am_in x4 14 = true then (if fF σ 44 x4.toNatClampNeg = (1 : Int32) then (if x3 = (-1 : Int32) then (f12_heir_J115 k28 σ N x1 x2 x4 x4 x5 s0) else (if am_in x4 14 = true then (if am_in x3 14 = true then (if fF σ 45 x4.toNatClampNeg ≤ fF σ 45 x3.toNatClampNeg then (f12_heir_J115 k28 σ N x1 x2 x3 x4 x5 s0) else (f12_heir_J115 k28 σ N x1 x2 x4 x4 x5 s0)) else none) else none)) else (if am_in x4 14 = true then (if fF σ 44 x4.toNatClampNeg = (3 : Int32) then (if x3 = (-1 : Int32) then (f12_heir_J115 k28 σ N x1 x2 x4 x4 x5 s0) else (if am_in x4 14 = true then (if am_in x3 14 = true then (if fF σ 45 x4.toNatClampNeg ≤ fF σ 45 x3.toNatClampNeg then (f12_heir_J115 k28 σ N x1 x2 x3 x4 x5 s0) else (f12_heir_J115 k28 σ N x1 x2 x4 x4 x5 s0)) else none) else none)) else (f12_heir_J115 k28 σ N x1 x2 x3 x4 x5 s0)) else none)) else none)) else (f12_heir_J115 k28 σ N x1 x2 x3 x4 x5 s0)
theorem z12_heir_J57 {l : Launch} {E : am_E} {d : Nat} {N : Nat} {σ : am_S} (hd : 2 ≤ d) {k28 : Int32 → Int32 → Int32 → Int32 → Option Int32} (hk28 : ∀ (x1 : Int32) (x2 : Int32) (x3 : Int32) (x4 : Int32), Z l E msM σ YX12_heir d 0 0 28 [(0, .ref 36), (1, .int x1), (2, .int x2), (3, .int x3), (4, .int x4)] [] 0 0 σ (k28 x1 x2 x3 x4) (fun u r s => r = some (.int u) ∧ s = σ)) (x1 : Int32) (x2 : Int32) (x3 : Int32) (x4 : Int32) (x5 : Int32) (s0 : Int32) : Z l E msM σ YX12_heir d 0 0 57 [(0, .ref 36), (1, .int x1), (2, .int x2), (3, .int x3), (4, .int x4), (5, .int x5)] [.int s0] 0 0 σ (f12_heir_J57 k28 σ N x1 x2 x3 x4 x5 s0) (fun u r s => r = some (.int u) ∧ s = σ) := by
  unfold f12_heir_J57
  refine z_istore (pc := 57) (lv' := [(6, .int s0), (0, .ref 36), (1, .int x1), (2, .int x2), (3, .int x3), (4, .int x4), (5, .int x5)]) dX12_heir_57 (by decide) rfl ?_
  refine z_iload_n (pc := 59) 3 dX12_heir_59 rfl rfl ?_
  refine z_iconst (pc := 60) (v := (1 : Int32)) dX12_heir_60 (by decide) ?_
  refine z_ic_ne (pc := 61) (tgt := 115) dX12_heir_61 (by decide) (fun h12 => ?_) (fun h12 => ?_)
  · refine z_iload (pc := 64) 0 dX12_heir_64 rfl ?_
    refine z_if_eq (pc := 66) (tgt := 115) dX12_heir_66 (by decide) (fun h13 => ?_) (fun h13 => ?_)
    · refine z_lv (lv' := [(0, .ref 36), (1, .int x1), (2, .int x2), (3, .int x3), (4, .int x4), (5, .int x5), (6, .int s0)]) [1, 2, 3, 4, 5, 6, 0] rfl ?_
      exact z12_heir_J115 hd hk28 x1 x2 x3 x4 x5 s0
    · refine z_aload_n (pc := 69) 1 dX12_heir_69 rfl rfl ?_
      refine z_getQ (pc := 70) (b := 44) dX12_heir_70 kM36 fr_RX12_35_12 (by decide) rfl ?_
      refine z_iload (pc := 73) 5 dX12_heir_73 rfl ?_
      refine z_iald (pc := 75) dX12_heir_75 (am_ar.s kM44) (fun h85 => ?_)
      refine z_iconst (pc := 76) (v := (1 : Int32)) dX12_heir_76 (by decide) ?_
      refine z_ic_eq (pc := 77) (tgt := 91) dX12_heir_77 (by decide) (fun h86 => ?_) (fun h86 => ?_)
      · refine z_iload_n (pc := 91) 4 dX12_heir_91 rfl rfl ?_
        refine z_iconst (pc := 92) (v := (-1 : Int32)) dX12_heir_92 (by decide) ?_
        refine z_ic_eq (pc := 93) (tgt := 112) dX12_heir_93 (by decide) (fun h87 => ?_) (fun h87 => ?_)
        · refine z_iload (pc := 112) 5 dX12_heir_112 rfl ?_
          refine z_istore_n (pc := 114) (lv' := [(3, .int x4), (6, .int s0), (0, .ref 36), (1, .int x1), (2, .int x2), (4, .int x4), (5, .int x5)]) dX12_heir_114 rfl (by decide) rfl ?_
          refine z_lv (lv' := [(0, .ref 36), (1, .int x1), (2, .int x2), (3, .int x4), (4, .int x4), (5, .int x5), (6, .int s0)]) [2, 3, 4, 0, 5, 6, 1] rfl ?_
          exact z12_heir_J115 hd hk28 x1 x2 x4 x4 x5 s0
        · refine z_aload_n (pc := 96) 1 dX12_heir_96 rfl rfl ?_
          refine z_getQ (pc := 97) (b := 45) dX12_heir_97 kM36 fr_RX12_38_12 (by decide) rfl ?_
          refine z_iload (pc := 100) 5 dX12_heir_100 rfl ?_
          refine z_iald (pc := 102) dX12_heir_102 (am_ar.s kM45) (fun h88 => ?_)
          refine z_aload_n (pc := 103) 1 dX12_heir_103 rfl rfl ?_
          refine z_getQ (pc := 104) (b := 45) dX12_heir_104 kM36 fr_RX12_38_12 (by decide) rfl ?_
          refine z_iload_n (pc := 107) 4 dX12_heir_107 rfl rfl ?_
          refine z_iald (pc := 108) dX12_heir_108 (am_ar.s kM45) (fun h89 => ?_)
          refine z_ic_le (pc := 109) (tgt := 115) dX12_heir_109 (by decide) (fun h90 => ?_) (fun h90 => ?_)
          · refine z_lv (lv' := [(0, .ref 36), (1, .int x1), (2, .int x2), (3, .int x3), (4, .int x4), (5, .int x5), (6, .int s0)]) [1, 2, 3, 4, 5, 6, 0] rfl ?_
            exact z12_heir_J115 hd hk28 x1 x2 x3 x4 x5 s0
          · refine z_iload (pc := 112) 5 dX12_heir_112 rfl ?_
            refine z_istore_n (pc := 114) (lv' := [(3, .int x4), (6, .int s0), (0, .ref 36), (1, .int x1), (2, .int x2), (4, .int x4), (5, .int x5)]) dX12_heir_114 rfl (by decide) rfl ?_
            refine z_lv (lv' := [(0, .ref 36), (1, .int x1), (2, .int x2), (3, .int x4), (4, .int x4), (5, .int x5), (6, .int s0)]) [2, 3, 4, 0, 5, 6, 1] rfl ?_
            exact z12_heir_J115 hd hk28 x1 x2 x4 x4 x5 s0
      · refine z_aload_n (pc := 80) 1 dX12_heir_80 rfl rfl ?_
        refine z_getQ (pc := 81) (b := 44) dX12_heir_81 kM36 fr_RX12_35_12 (by decide) rfl ?_
        refine z_iload (pc := 84) 5 dX12_heir_84 rfl ?_
        refine z_iald (pc := 86) dX12_heir_86 (am_ar.s kM44) (fun h91 => ?_)
        refine z_iconst (pc := 87) (v := (3 : Int32)) dX12_heir_87 (by decide) ?_
        refine z_ic_ne (pc := 88) (tgt := 115) dX12_heir_88 (by decide) (fun h92 => ?_) (fun h92 => ?_)
        · refine z_iload_n (pc := 91) 4 dX12_heir_91 rfl rfl ?_
          refine z_iconst (pc := 92) (v := (-1 : Int32)) dX12_heir_92 (by decide) ?_
          refine z_ic_eq (pc := 93) (tgt := 112) dX12_heir_93 (by decide) (fun h93 => ?_) (fun h93 => ?_)
          · refine z_iload (pc := 112) 5 dX12_heir_112 rfl ?_
            refine z_istore_n (pc := 114) (lv' := [(3, .int x4), (6, .int s0), (0, .ref 36), (1, .int x1), (2, .int x2), (4, .int x4), (5, .int x5)]) dX12_heir_114 rfl (by decide) rfl ?_
            refine z_lv (lv' := [(0, .ref 36), (1, .int x1), (2, .int x2), (3, .int x4), (4, .int x4), (5, .int x5), (6, .int s0)]) [2, 3, 4, 0, 5, 6, 1] rfl ?_
            exact z12_heir_J115 hd hk28 x1 x2 x4 x4 x5 s0
          · refine z_aload_n (pc := 96) 1 dX12_heir_96 rfl rfl ?_
            refine z_getQ (pc := 97) (b := 45) dX12_heir_97 kM36 fr_RX12_38_12 (by decide) rfl ?_
            refine z_iload (pc := 100) 5 dX12_heir_100 rfl ?_
            refine z_iald (pc := 102) dX12_heir_102 (am_ar.s kM45) (fun h94 => ?_)
            refine z_aload_n (pc := 103) 1 dX12_heir_103 rfl rfl ?_
            refine z_getQ (pc := 104) (b := 45) dX12_heir_104 kM36 fr_RX12_38_12 (by decide) rfl ?_
            refine z_iload_n (pc := 107) 4 dX12_heir_107 rfl rfl ?_
            refine z_iald (pc := 108) dX12_heir_108 (am_ar.s kM45) (fun h95 => ?_)
            refine z_ic_le (pc := 109) (tgt := 115) dX12_heir_109 (by decide) (fun h96 => ?_) (fun h96 => ?_)
            · refine z_lv (lv' := [(0, .ref 36), (1, .int x1), (2, .int x2), (3, .int x3), (4, .int x4), (5, .int x5), (6, .int s0)]) [1, 2, 3, 4, 5, 6, 0] rfl ?_
              exact z12_heir_J115 hd hk28 x1 x2 x3 x4 x5 s0
            · refine z_iload (pc := 112) 5 dX12_heir_112 rfl ?_
              refine z_istore_n (pc := 114) (lv' := [(3, .int x4), (6, .int s0), (0, .ref 36), (1, .int x1), (2, .int x2), (4, .int x4), (5, .int x5)]) dX12_heir_114 rfl (by decide) rfl ?_
              refine z_lv (lv' := [(0, .ref 36), (1, .int x1), (2, .int x2), (3, .int x4), (4, .int x4), (5, .int x5), (6, .int s0)]) [2, 3, 4, 0, 5, 6, 1] rfl ?_
              exact z12_heir_J115 hd hk28 x1 x2 x4 x4 x5 s0
        · refine z_lv (lv' := [(0, .ref 36), (1, .int x1), (2, .int x2), (3, .int x3), (4, .int x4), (5, .int x5), (6, .int s0)]) [1, 2, 3, 4, 5, 6, 0] rfl ?_
          exact z12_heir_J115 hd hk28 x1 x2 x3 x4 x5 s0
  · refine z_lv (lv' := [(0, .ref 36), (1, .int x1), (2, .int x2), (3, .int x3), (4, .int x4), (5, .int x5), (6, .int s0)]) [1, 2, 3, 4, 5, 6, 0] rfl ?_
    exact z12_heir_J115 hd hk28 x1 x2 x3 x4 x5 s0
def f12_heir_L28 (σ : am_S) (N : Nat) : Nat → Int32 → Int32 → Int32 → Int32 → Option Int32
  | 0, _, _, _, _ => none
  | n + 1, x1, x2, x3, x4 => if fF σ 36 21 ≤ x4 then (some (x3)) else (if am_in x4 14 = true then (if fF σ 48 x4.toNatClampNeg = x1 then (f12_heir_J57 (f12_heir_L28 σ N n) σ N x1 x2 x3 x4 (fF σ 48 x4.toNatClampNeg) (1 : Int32)) else (f12_heir_J57 (f12_heir_L28 σ N n) σ N x1 x2 x3 x4 (fF σ 48 x4.toNatClampNeg) (0 : Int32))) else none)
theorem z12_heir_L28 {l : Launch} {E : am_E} {d : Nat} {N : Nat} {σ : am_S} (hd : 2 ≤ d) : ∀ (n : Nat) (x1 : Int32) (x2 : Int32) (x3 : Int32) (x4 : Int32), Z l E msM σ YX12_heir d 0 0 28 [(0, .ref 36), (1, .int x1), (2, .int x2), (3, .int x3), (4, .int x4)] [] 0 0 σ (f12_heir_L28 σ N n x1 x2 x3 x4) (fun u r s => r = some (.int u) ∧ s = σ) := by
  intro n
  induction n with
  | zero => intros; exact z_none
  | succ n ih =>
    intro x1 x2 x3 x4
    unfold f12_heir_L28
    refine z_iload (pc := 28) 4 dX12_heir_28 rfl ?_
    refine z_aload_n (pc := 30) 0 dX12_heir_30 rfl rfl ?_
    refine z_getI (pc := 31) dX12_heir_31 (am_ob.s kM36) fr_RX12_138_12 (by decide) ?_
    refine z_ic_ge (pc := 34) (tgt := 206) dX12_heir_34 (by decide) (fun h9 => ?_) (fun h9 => ?_)
    · refine z_iload_n (pc := 206) 3 dX12_heir_206 rfl rfl ?_
      exact z_rI dX12_heir_207 rfl ⟨by decide, by decide⟩
    · refine z_aload_n (pc := 37) 0 dX12_heir_37 rfl rfl ?_
      refine z_getQ (pc := 38) (b := 48) dX12_heir_38 kM36 fr_RX12_47_12 (by decide) rfl ?_
      refine z_iload (pc := 41) 4 dX12_heir_41 rfl ?_
      refine z_iald (pc := 43) dX12_heir_43 (am_ar.s kM48) (fun h10 => ?_)
      refine z_istore (pc := 44) (lv' := [(5, .int (fF σ 48 x4.toNatClampNeg)), (0, .ref 36), (1, .int x1), (2, .int x2), (3, .int x3), (4, .int x4)]) dX12_heir_44 (by decide) rfl ?_
      refine z_iload (pc := 46) 0 dX12_heir_46 rfl ?_
      refine z_iload_n (pc := 48) 2 dX12_heir_48 rfl rfl ?_
      refine z_ic_ne (pc := 49) (tgt := 56) dX12_heir_49 (by decide) (fun h11 => ?_) (fun h11 => ?_)
      · refine z_iconst (pc := 52) (v := (1 : Int32)) dX12_heir_52 (by decide) ?_
        refine z_goto (pc := 53) (tgt := 57) dX12_heir_53 (by decide) ?_
        refine z_lv (lv' := [(0, .ref 36), (1, .int x1), (2, .int x2), (3, .int x3), (4, .int x4), (5, .int (fF σ 48 x4.toNatClampNeg))]) [1, 2, 3, 4, 5, 0] rfl ?_
        exact z12_heir_J57 hd (fun x1 x2 x3 x4 => ih x1 x2 x3 x4) x1 x2 x3 x4 (fF σ 48 x4.toNatClampNeg) (1 : Int32)
      · refine z_iconst (pc := 56) (v := (0 : Int32)) dX12_heir_56 (by decide) ?_
        refine z_lv (lv' := [(0, .ref 36), (1, .int x1), (2, .int x2), (3, .int x3), (4, .int x4), (5, .int (fF σ 48 x4.toNatClampNeg))]) [1, 2, 3, 4, 5, 0] rfl ?_
        exact z12_heir_J57 hd (fun x1 x2 x3 x4 => ih x1 x2 x3 x4) x1 x2 x3 x4 (fF σ 48 x4.toNatClampNeg) (0 : Int32)
def f12_heir (N : Nat) (σ : am_S) (x1 : Int32) (x2 : Int32) : Option Int32 := (f12_isRower σ x1).bind fun v1 => (if v1 = true then ((f12_in x2.toInt64 (1 : Int64) (3 : Int64)).bind fun v5 => (if v5 = true then (f12_heir_L28 σ N N x1 x2 (-1 : Int32) (0 : Int32)) else (some ((-2 : Int32))))) else (some ((-2 : Int32))))
theorem c12_heir {l : Launch} {E : am_E} {N : Nat} {σ : am_S} {x1 : Int32} {x2 : Int32} {v : Int32} (hf : f12_heir N σ x1 x2 = some v) : Ctr l E msM YX12_heir (2) 0 0 [.ref 36, .int x1, .int x2] σ (some (.int v)) σ := by
  refine ctr_of (G := fun u r s => r = some (.int u) ∧ s = σ) (by decide +kernel) (Nat.le_of_ble_eq_true rfl) hf ⟨rfl, rfl⟩ (fun d hd => ?_)
  refine z_eqlv (lv' := [(0, .ref 36), (1, .int x1), (2, .int x2)]) rfl ?_
  unfold f12_heir
  refine z_aload_n (pc := 0) 0 dX12_heir_0 rfl rfl ?_
  refine z_iload_n (pc := 1) 1 dX12_heir_1 rfl rfl ?_
  refine z_callB (pc := 2) [.ref 36, .int x1] [] rfl (lk_V (Yc := YX12_isRower) (n := 1) dX12_heir_2 rfl rfl (am_ob.s kM36) rfl rfl np_X12_isRower mh_RX12 (by decide) ml_RX12_170 im_X12_isRower se_RX12_X12_isRower_X12_isRower in_RX12 cd_X12_isRower) (Nat.le_trans (by decide) hd) ⟨by decide, by decide⟩ (Nat.le_of_ble_eq_true rfl) (am_kp.rf _) (fun v1 h3 => c12_isRower h3) (fun v1 h3 => ?_)
  refine z_bz_eq (pc := 5) (tgt := 20) dX12_heir_5 (by decide) (fun h4 => ?_) (fun h4 => ?_)
  · refine z_iload_n (pc := 8) 2 dX12_heir_8 rfl rfl ?_
    refine z_i2l (pc := 9) dX12_heir_9 ?_
    refine z_lconst (pc := 10) (v := (1 : Int64)) dX12_heir_10 (by decide) ?_
    refine z_ldc2 (pc := 11) (v := (3 : Int64)) dX12_heir_11 kl_RX12_374 ?_
    refine z_callB (pc := 14) [.long x2.toInt64, .long (1 : Int64), .long (3 : Int64)] [] rfl (lk_S (Yc := YX12_in) (n := 3) dX12_heir_14 rfl np_X12_in mh_RX12 (by decide) ml_RX12_134 st_X12_in in_RX12 cd_X12_in) (Nat.le_trans (by decide) hd) ⟨by decide, by decide⟩ (Nat.le_of_ble_eq_true rfl) (am_kp.rf _) (fun v5 h7 => c12_in h7) (fun v5 h7 => ?_)
    refine z_bz_ne (pc := 17) (tgt := 23) dX12_heir_17 (by decide) (fun h8 => ?_) (fun h8 => ?_)
    · refine z_iconst (pc := 23) (v := (-1 : Int32)) dX12_heir_23 (by decide) ?_
      refine z_istore_n (pc := 24) (lv' := [(3, .int (-1 : Int32)), (0, .ref 36), (1, .int x1), (2, .int x2)]) dX12_heir_24 rfl (by decide) rfl ?_
      refine z_iconst (pc := 25) (v := (0 : Int32)) dX12_heir_25 (by decide) ?_
      refine z_istore (pc := 26) (lv' := [(4, .int (0 : Int32)), (3, .int (-1 : Int32)), (0, .ref 36), (1, .int x1), (2, .int x2)]) dX12_heir_26 (by decide) rfl ?_
      refine z_lv (lv' := [(0, .ref 36), (1, .int x1), (2, .int x2), (3, .int (-1 : Int32)), (4, .int (0 : Int32))]) [2, 3, 4, 1, 0] rfl ?_
      exact z12_heir_L28 hd N x1 x2 (-1 : Int32) (0 : Int32)
    · refine z_bipush (pc := 20) (v := (-2 : Int32)) dX12_heir_20 (by decide) ?_
      exact z_rI dX12_heir_22 rfl ⟨by decide, by decide⟩
  · refine z_bipush (pc := 20) (v := (-2 : Int32)) dX12_heir_20 (by decide) ?_
    exact z_rI dX12_heir_22 rfl ⟨by decide, by decide⟩
def f12_ill (σ : am_S) (x1 : Int32) (x2 : Int32) : Option (Int32 × am_S) := (f12_isRower σ x1).bind fun v1 => (if v1 = true then ((f12_in x2.toInt64 (0 : Int64) (1 : Int64)).bind fun v5 => (if v5 = true then (if am_in x1 14 = true then (if am_in x1 14 = true then (some (fF σ 49 x1.toNatClampNeg, sF σ 49 x1.toNatClampNeg x2)) else none) else none) else (some ((-2 : Int32), σ)))) else (some ((-2 : Int32), σ)))
theorem c12_ill {l : Launch} {E : am_E} {σ : am_S} {x1 : Int32} {x2 : Int32} {v : Int32} {σ1 : am_S} (hf : f12_ill σ x1 x2 = some (v, σ1)) : Ctr l E msM YX12_ill (2) 0 0 [.ref 36, .int x1, .int x2] σ (some (.int v)) σ1 := by
  refine ctr_of (G := fun u r s => r = some (.int u.1) ∧ s = u.2) (by decide +kernel) (Nat.le_of_ble_eq_true rfl) hf ⟨rfl, rfl⟩ (fun d hd => ?_)
  refine z_eqlv (lv' := [(0, .ref 36), (1, .int x1), (2, .int x2)]) rfl ?_
  unfold f12_ill
  refine z_aload_n (pc := 0) 0 dX12_ill_0 rfl rfl ?_
  refine z_iload_n (pc := 1) 1 dX12_ill_1 rfl rfl ?_
  refine z_callB (pc := 2) [.ref 36, .int x1] [] rfl (lk_V (Yc := YX12_isRower) (n := 1) dX12_ill_2 rfl rfl (am_ob.s kM36) rfl rfl np_X12_isRower mh_RX12 (by decide) ml_RX12_170 im_X12_isRower se_RX12_X12_isRower_X12_isRower in_RX12 cd_X12_isRower) (Nat.le_trans (by decide) hd) ⟨by decide, by decide⟩ (Nat.le_of_ble_eq_true rfl) (am_kp.rf _) (fun v1 h3 => c12_isRower h3) (fun v1 h3 => ?_)
  refine z_bz_eq (pc := 5) (tgt := 18) dX12_ill_5 (by decide) (fun h4 => ?_) (fun h4 => ?_)
  · refine z_iload_n (pc := 8) 2 dX12_ill_8 rfl rfl ?_
    refine z_i2l (pc := 9) dX12_ill_9 ?_
    refine z_lconst (pc := 10) (v := (0 : Int64)) dX12_ill_10 (by decide) ?_
    refine z_lconst (pc := 11) (v := (1 : Int64)) dX12_ill_11 (by decide) ?_
    refine z_callB (pc := 12) [.long x2.toInt64, .long (0 : Int64), .long (1 : Int64)] [] rfl (lk_S (Yc := YX12_in) (n := 3) dX12_ill_12 rfl np_X12_in mh_RX12 (by decide) ml_RX12_134 st_X12_in in_RX12 cd_X12_in) (Nat.le_trans (by decide) hd) ⟨by decide, by decide⟩ (Nat.le_of_ble_eq_true rfl) (am_kp.rf _) (fun v5 h7 => c12_in h7) (fun v5 h7 => ?_)
    refine z_bz_ne (pc := 15) (tgt := 21) dX12_ill_15 (by decide) (fun h8 => ?_) (fun h8 => ?_)
    · refine z_aload_n (pc := 21) 0 dX12_ill_21 rfl rfl ?_
      refine z_getQ (pc := 22) (b := 49) dX12_ill_22 kM36 fr_RX12_50_12 (by decide) rfl ?_
      refine z_iload_n (pc := 25) 1 dX12_ill_25 rfl rfl ?_
      refine z_iald (pc := 26) dX12_ill_26 (am_ar.s kM49) (fun h9 => ?_)
      refine z_istore_n (pc := 27) (lv' := [(3, .int (fF σ 49 x1.toNatClampNeg)), (0, .ref 36), (1, .int x1), (2, .int x2)]) dX12_ill_27 rfl (by decide) rfl ?_
      refine z_aload_n (pc := 28) 1 dX12_ill_28 rfl rfl ?_
      refine z_getQ (pc := 29) (b := 49) dX12_ill_29 kM36 fr_RX12_50_12 (by decide) rfl ?_
      refine z_iload_n (pc := 32) 2 dX12_ill_32 rfl rfl ?_
      refine z_iload_n (pc := 33) 3 dX12_ill_33 rfl rfl ?_
      refine z_iast (pc := 34) dX12_ill_34 (am_ar.s kM49) (fun h10 => ?_)
      refine z_iload_n (pc := 35) 0 dX12_ill_35 rfl rfl ?_
      exact z_rIs dX12_ill_36 rfl ⟨by decide, by decide⟩
    · refine z_bipush (pc := 18) (v := (-2 : Int32)) dX12_ill_18 (by decide) ?_
      exact z_rIs dX12_ill_20 rfl ⟨by decide, by decide⟩
  · refine z_bipush (pc := 18) (v := (-2 : Int32)) dX12_ill_18 (by decide) ?_
    exact z_rIs dX12_ill_20 rfl ⟨by decide, by decide⟩
def f12_image_L127 (N : Nat) : Nat → Int32 → am_S → Option (Int32 × am_S)
  | 0, _, _ => none
  | n + 1, x1, σ => if (100 : Int32) ≤ x1 then (some (fF σ 36 21, σ)) else (if am_in x1 100 = true then (if am_in x1 100 = true then (f12_image_L127 N n (x1 + (1 : Int32)) (sF σ 63 x1.toNatClampNeg (fF σ 56 x1.toNatClampNeg))) else none) else none)
theorem z12_image_L127 {l : Launch} {E : am_E} {d : Nat} {σ0 : am_S} {N : Nat} (hd : 0 ≤ d) : ∀ (n : Nat) (x1 : Int32) (σ : am_S), Z l E msM σ0 YX12_image d 0 0 127 [(0, .ref 36), (1, .int x1)] [] 0 0 σ (f12_image_L127 N n x1 σ) (fun u r s => r = some (.int u.1) ∧ s = u.2) := by
  intro n
  induction n with
  | zero => intros; exact z_none
  | succ n ih =>
    intro x1 σ
    unfold f12_image_L127
    refine z_iload_n (pc := 127) 1 dX12_image_127 rfl rfl ?_
    refine z_bipush (pc := 128) (v := (100 : Int32)) dX12_image_128 (by decide) ?_
    refine z_ic_ge (pc := 130) (tgt := 151) dX12_image_130 (by decide) (fun h3 => ?_) (fun h3 => ?_)
    · refine z_aload_n (pc := 151) 0 dX12_image_151 rfl rfl ?_
      refine z_getI (pc := 152) dX12_image_152 (am_ob.s kM36) fr_RX12_138_12 (by decide) ?_
      exact z_rIs dX12_image_155 rfl ⟨by decide, by decide⟩
    · refine z_aload_n (pc := 133) 0 dX12_image_133 rfl rfl ?_
      refine z_getQ (pc := 134) (b := 63) dX12_image_134 kM36 fr_RX12_92_12 (by decide) rfl ?_
      refine z_iload_n (pc := 137) 1 dX12_image_137 rfl rfl ?_
      refine z_aload_n (pc := 138) 0 dX12_image_138 rfl rfl ?_
      refine z_getQ (pc := 139) (b := 56) dX12_image_139 kM36 fr_RX12_71_12 (by decide) rfl ?_
      refine z_iload_n (pc := 142) 1 dX12_image_142 rfl rfl ?_
      refine z_iald (pc := 143) dX12_image_143 (am_ar.s kM56) (fun h4 => ?_)
      refine z_iast (pc := 144) dX12_image_144 (am_ar.s kM63) (fun h5 => ?_)
      refine z_iinc (pc := 145) (v := x1 + (1 : Int32)) (lv' := [(1, .int (x1 + (1 : Int32))), (0, .ref 36)]) 1 dX12_image_145 rfl rfl (by decide) rfl ?_
      refine z_goto (pc := 148) (tgt := 127) dX12_image_148 (by decide) ?_
      refine z_lv (lv' := [(0, .ref 36), (1, .int (x1 + (1 : Int32)))]) [1, 0] rfl ?_
      exact ih (x1 + (1 : Int32)) (sF σ 63 x1.toNatClampNeg (fF σ 56 x1.toNatClampNeg))
def f12_image_J125 (N : Nat) (σ : am_S) : Option (Int32 × am_S) := f12_image_L127 N N (0 : Int32) σ
theorem z12_image_J125 {l : Launch} {E : am_E} {d : Nat} {σ0 : am_S} {N : Nat} (hd : 0 ≤ d) (σ : am_S) : Z l E msM σ0 YX12_image d 0 0 125 [(0, .ref 36)] [] 0 0 σ (f12_image_J125 N σ) (fun u r s => r = some (.int u.1) ∧ s = u.2) := by
  unfold f12_image_J125
  refine z_iconst (pc := 125) (v := (0 : Int32)) dX12_image_125 (by decide) ?_
  refine z_istore_n (pc := 126) (lv' := [(1, .int (0 : Int32)), (0, .ref 36)]) dX12_image_126 rfl (by decide) rfl ?_
  refine z_lv (lv' := [(0, .ref 36), (1, .int (0 : Int32))]) [1, 0] rfl ?_
  exact z12_image_L127 hd N (0 : Int32) σ
def f12_image_L87 (N : Nat) : Nat → Int32 → am_S → Option (Int32 × am_S)
  | 0, _, _ => none
  | n + 1, x1, σ => if fF σ 36 21 ≤ x1 then (f12_image_J125 N σ) else (if am_in x1 14 = true then (if am_in x1 14 = true then (if am_in x1 14 = true then (if am_in x1 14 = true then (f12_image_L87 N n (x1 + (1 : Int32)) (sF (sF σ 61 x1.toNatClampNeg (fF σ 49 x1.toNatClampNeg)) 62 x1.toNatClampNeg (fF (sF σ 61 x1.toNatClampNeg (fF σ 49 x1.toNatClampNeg)) 50 x1.toNatClampNeg))) else none) else none) else none) else none)
theorem z12_image_L87 {l : Launch} {E : am_E} {d : Nat} {σ0 : am_S} {N : Nat} (hd : 0 ≤ d) : ∀ (n : Nat) (x1 : Int32) (σ : am_S), Z l E msM σ0 YX12_image d 0 0 87 [(0, .ref 36), (1, .int x1)] [] 0 0 σ (f12_image_L87 N n x1 σ) (fun u r s => r = some (.int u.1) ∧ s = u.2) := by
  intro n
  induction n with
  | zero => intros; exact z_none
  | succ n ih =>
    intro x1 σ
    unfold f12_image_L87
    refine z_iload_n (pc := 87) 1 dX12_image_87 rfl rfl ?_
    refine z_aload_n (pc := 88) 0 dX12_image_88 rfl rfl ?_
    refine z_getI (pc := 89) dX12_image_89 (am_ob.s kM36) fr_RX12_138_12 (by decide) ?_
    refine z_ic_ge (pc := 92) (tgt := 125) dX12_image_92 (by decide) (fun h2 => ?_) (fun h2 => ?_)
    · refine z_lv (lv' := [(0, .ref 36)]) [0] rfl ?_
      exact z12_image_J125 hd σ
    · refine z_aload_n (pc := 95) 0 dX12_image_95 rfl rfl ?_
      refine z_getQ (pc := 96) (b := 61) dX12_image_96 kM36 fr_RX12_86_12 (by decide) rfl ?_
      refine z_iload_n (pc := 99) 1 dX12_image_99 rfl rfl ?_
      refine z_aload_n (pc := 100) 0 dX12_image_100 rfl rfl ?_
      refine z_getQ (pc := 101) (b := 49) dX12_image_101 kM36 fr_RX12_50_12 (by decide) rfl ?_
      refine z_iload_n (pc := 104) 1 dX12_image_104 rfl rfl ?_
      refine z_iald (pc := 105) dX12_image_105 (am_ar.s kM49) (fun h6 => ?_)
      refine z_iast (pc := 106) dX12_image_106 (am_ar.s kM61) (fun h7 => ?_)
      refine z_aload_n (pc := 107) 0 dX12_image_107 rfl rfl ?_
      refine z_getQ (pc := 108) (b := 62) dX12_image_108 kM36 fr_RX12_89_12 (by decide) rfl ?_
      refine z_iload_n (pc := 111) 1 dX12_image_111 rfl rfl ?_
      refine z_aload_n (pc := 112) 0 dX12_image_112 rfl rfl ?_
      refine z_getQ (pc := 113) (b := 50) dX12_image_113 kM36 fr_RX12_53_12 (by decide) rfl ?_
      refine z_iload_n (pc := 116) 1 dX12_image_116 rfl rfl ?_
      refine z_iald (pc := 117) dX12_image_117 (am_ar.s kM50) (fun h8 => ?_)
      refine z_iast (pc := 118) dX12_image_118 (am_ar.s kM62) (fun h9 => ?_)
      refine z_iinc (pc := 119) (v := x1 + (1 : Int32)) (lv' := [(1, .int (x1 + (1 : Int32))), (0, .ref 36)]) 1 dX12_image_119 rfl rfl (by decide) rfl ?_
      refine z_goto (pc := 122) (tgt := 87) dX12_image_122 (by decide) ?_
      refine z_lv (lv' := [(0, .ref 36), (1, .int (x1 + (1 : Int32)))]) [1, 0] rfl ?_
      exact ih (x1 + (1 : Int32)) (sF (sF σ 61 x1.toNatClampNeg (fF σ 49 x1.toNatClampNeg)) 62 x1.toNatClampNeg (fF (sF σ 61 x1.toNatClampNeg (fF σ 49 x1.toNatClampNeg)) 50 x1.toNatClampNeg))
def f12_image_J85 (N : Nat) (σ : am_S) : Option (Int32 × am_S) := f12_image_L87 N N (0 : Int32) σ
theorem z12_image_J85 {l : Launch} {E : am_E} {d : Nat} {σ0 : am_S} {N : Nat} (hd : 0 ≤ d) (σ : am_S) : Z l E msM σ0 YX12_image d 0 0 85 [(0, .ref 36)] [] 0 0 σ (f12_image_J85 N σ) (fun u r s => r = some (.int u.1) ∧ s = u.2) := by
  unfold f12_image_J85
  refine z_iconst (pc := 85) (v := (0 : Int32)) dX12_image_85 (by decide) ?_
  refine z_istore_n (pc := 86) (lv' := [(1, .int (0 : Int32)), (0, .ref 36)]) dX12_image_86 rfl (by decide) rfl ?_
  refine z_lv (lv' := [(0, .ref 36), (1, .int (0 : Int32))]) [1, 0] rfl ?_
  exact z12_image_L87 hd N (0 : Int32) σ
def f12_image_L47 (N : Nat) : Nat → Int32 → am_S → Option (Int32 × am_S)
  | 0, _, _ => none
  | n + 1, x1, σ => if fF σ 36 11 ≤ x1 then (f12_image_J85 N σ) else (if am_in x1 7 = true then (if am_in x1 7 = true then (if am_in x1 7 = true then (if am_in x1 7 = true then (f12_image_L47 N n (x1 + (1 : Int32)) (sF (sF σ 59 x1.toNatClampNeg (fF σ 42 x1.toNatClampNeg)) 60 x1.toNatClampNeg (fF (sF σ 59 x1.toNatClampNeg (fF σ 42 x1.toNatClampNeg)) 43 x1.toNatClampNeg))) else none) else none) else none) else none)
theorem z12_image_L47 {l : Launch} {E : am_E} {d : Nat} {σ0 : am_S} {N : Nat} (hd : 0 ≤ d) : ∀ (n : Nat) (x1 : Int32) (σ : am_S), Z l E msM σ0 YX12_image d 0 0 47 [(0, .ref 36), (1, .int x1)] [] 0 0 σ (f12_image_L47 N n x1 σ) (fun u r s => r = some (.int u.1) ∧ s = u.2) := by
  intro n
  induction n with
  | zero => intros; exact z_none
  | succ n ih =>
    intro x1 σ
    unfold f12_image_L47
    refine z_iload_n (pc := 47) 1 dX12_image_47 rfl rfl ?_
    refine z_aload_n (pc := 48) 0 dX12_image_48 rfl rfl ?_
    refine z_getI (pc := 49) dX12_image_49 (am_ob.s kM36) fr_RX12_131_12 (by decide) ?_
    refine z_ic_ge (pc := 52) (tgt := 85) dX12_image_52 (by decide) (fun h1 => ?_) (fun h1 => ?_)
    · refine z_lv (lv' := [(0, .ref 36)]) [0] rfl ?_
      exact z12_image_J85 hd σ
    · refine z_aload_n (pc := 55) 0 dX12_image_55 rfl rfl ?_
      refine z_getQ (pc := 56) (b := 59) dX12_image_56 kM36 fr_RX12_80_12 (by decide) rfl ?_
      refine z_iload_n (pc := 59) 1 dX12_image_59 rfl rfl ?_
      refine z_aload_n (pc := 60) 0 dX12_image_60 rfl rfl ?_
      refine z_getQ (pc := 61) (b := 42) dX12_image_61 kM36 fr_RX12_29_12 (by decide) rfl ?_
      refine z_iload_n (pc := 64) 1 dX12_image_64 rfl rfl ?_
      refine z_iald (pc := 65) dX12_image_65 (am_ar.s kM42) (fun h10 => ?_)
      refine z_iast (pc := 66) dX12_image_66 (am_ar.s kM59) (fun h11 => ?_)
      refine z_aload_n (pc := 67) 0 dX12_image_67 rfl rfl ?_
      refine z_getQ (pc := 68) (b := 60) dX12_image_68 kM36 fr_RX12_83_12 (by decide) rfl ?_
      refine z_iload_n (pc := 71) 1 dX12_image_71 rfl rfl ?_
      refine z_aload_n (pc := 72) 0 dX12_image_72 rfl rfl ?_
      refine z_getQ (pc := 73) (b := 43) dX12_image_73 kM36 fr_RX12_32_12 (by decide) rfl ?_
      refine z_iload_n (pc := 76) 1 dX12_image_76 rfl rfl ?_
      refine z_iald (pc := 77) dX12_image_77 (am_ar.s kM43) (fun h12 => ?_)
      refine z_iast (pc := 78) dX12_image_78 (am_ar.s kM60) (fun h13 => ?_)
      refine z_iinc (pc := 79) (v := x1 + (1 : Int32)) (lv' := [(1, .int (x1 + (1 : Int32))), (0, .ref 36)]) 1 dX12_image_79 rfl rfl (by decide) rfl ?_
      refine z_goto (pc := 82) (tgt := 47) dX12_image_82 (by decide) ?_
      refine z_lv (lv' := [(0, .ref 36), (1, .int (x1 + (1 : Int32)))]) [1, 0] rfl ?_
      exact ih (x1 + (1 : Int32)) (sF (sF σ 59 x1.toNatClampNeg (fF σ 42 x1.toNatClampNeg)) 60 x1.toNatClampNeg (fF (sF σ 59 x1.toNatClampNeg (fF σ 42 x1.toNatClampNeg)) 43 x1.toNatClampNeg))
def f12_image (N : Nat) (σ : am_S) : Option (Int32 × am_S) := f12_image_L47 N N (0 : Int32) (sF (sF (sF (sF (sF (sF σ 36 48 (1 : Int32)) 36 49 (fF (sF σ 36 48 (1 : Int32)) 36 11)) 36 50 (fF (sF (sF σ 36 48 (1 : Int32)) 36 49 (fF (sF σ 36 48 (1 : Int32)) 36 11)) 36 21)) 36 51 (fF (sF (sF (sF σ 36 48 (1 : Int32)) 36 49 (fF (sF σ 36 48 (1 : Int32)) 36 11)) 36 50 (fF (sF (sF σ 36 48 (1 : Int32)) 36 49 (fF (sF σ 36 48 (1 : Int32)) 36 11)) 36 21)) 36 12)) 36 52 (fF (sF (sF (sF (sF σ 36 48 (1 : Int32)) 36 49 (fF (sF σ 36 48 (1 : Int32)) 36 11)) 36 50 (fF (sF (sF σ 36 48 (1 : Int32)) 36 49 (fF (sF σ 36 48 (1 : Int32)) 36 11)) 36 21)) 36 51 (fF (sF (sF (sF σ 36 48 (1 : Int32)) 36 49 (fF (sF σ 36 48 (1 : Int32)) 36 11)) 36 50 (fF (sF (sF σ 36 48 (1 : Int32)) 36 49 (fF (sF σ 36 48 (1 : Int32)) 36 11)) 36 21)) 36 12)) 36 13)) 36 53 (fF (sF (sF (sF (sF (sF σ 36 48 (1 : Int32)) 36 49 (fF (sF σ 36 48 (1 : Int32)) 36 11)) 36 50 (fF (sF (sF σ 36 48 (1 : Int32)) 36 49 (fF (sF σ 36 48 (1 : Int32)) 36 11)) 36 21)) 36 51 (fF (sF (sF (sF σ 36 48 (1 : Int32)) 36 49 (fF (sF σ 36 48 (1 : Int32)) 36 11)) 36 50 (fF (sF (sF σ 36 48 (1 : Int32)) 36 49 (fF (sF σ 36 48 (1 : Int32)) 36 11)) 36 21)) 36 12)) 36 52 (fF (sF (sF (sF (sF σ 36 48 (1 : Int32)) 36 49 (fF (sF σ 36 48 (1 : Int32)) 36 11)) 36 50 (fF (sF (sF σ 36 48 (1 : Int32)) 36 49 (fF (sF σ 36 48 (1 : Int32)) 36 11)) 36 21)) 36 51 (fF (sF (sF (sF σ 36 48 (1 : Int32)) 36 49 (fF (sF σ 36 48 (1 : Int32)) 36 11)) 36 50 (fF (sF (sF σ 36 48 (1 : Int32)) 36 49 (fF (sF σ 36 48 (1 : Int32)) 36 11)) 36 21)) 36 12)) 36 13)) 36 4))
theorem c12_image {l : Launch} {E : am_E} {N : Nat} {σ : am_S} {v : Int32} {σ1 : am_S} (hf : f12_image N σ = some (v, σ1)) : Ctr l E msM YX12_image (0) 0 0 [.ref 36] σ (some (.int v)) σ1 := by
  refine ctr_of (G := fun u r s => r = some (.int u.1) ∧ s = u.2) (by decide +kernel) (Nat.le_of_ble_eq_true rfl) hf ⟨rfl, rfl⟩ (fun d hd => ?_)
  refine z_eqlv (lv' := [(0, .ref 36)]) rfl ?_
  unfold f12_image
  refine z_aload_n (pc := 0) 0 dX12_image_0 rfl rfl ?_
  refine z_iconst (pc := 1) (v := (1 : Int32)) dX12_image_1 (by decide) ?_
  refine z_putZ (pc := 2) dX12_image_2 (am_ob.s kM36) fw_RX12_404_12 (by decide) ⟨by decide +kernel, by decide +kernel⟩ ?_
  refine z_aload_n (pc := 5) 0 dX12_image_5 rfl rfl ?_
  refine z_aload_n (pc := 6) 0 dX12_image_6 rfl rfl ?_
  refine z_getI (pc := 7) dX12_image_7 (am_ob.s kM36) fr_RX12_131_12 (by decide) ?_
  refine z_putI (pc := 10) dX12_image_10 (am_ob.s kM36) fw_RX12_407_12 (by decide) ?_
  refine z_aload_n (pc := 13) 0 dX12_image_13 rfl rfl ?_
  refine z_aload_n (pc := 14) 0 dX12_image_14 rfl rfl ?_
  refine z_getI (pc := 15) dX12_image_15 (am_ob.s kM36) fr_RX12_138_12 (by decide) ?_
  refine z_putI (pc := 18) dX12_image_18 (am_ob.s kM36) fw_RX12_410_12 (by decide) ?_
  refine z_aload_n (pc := 21) 0 dX12_image_21 rfl rfl ?_
  refine z_aload_n (pc := 22) 0 dX12_image_22 rfl rfl ?_
  refine z_getI (pc := 23) dX12_image_23 (am_ob.s kM36) fr_RX12_153_12 (by decide) ?_
  refine z_putI (pc := 26) dX12_image_26 (am_ob.s kM36) fw_RX12_413_12 (by decide) ?_
  refine z_aload_n (pc := 29) 0 dX12_image_29 rfl rfl ?_
  refine z_aload_n (pc := 30) 0 dX12_image_30 rfl rfl ?_
  refine z_getI (pc := 31) dX12_image_31 (am_ob.s kM36) fr_RX12_156_12 (by decide) ?_
  refine z_putI (pc := 34) dX12_image_34 (am_ob.s kM36) fw_RX12_416_12 (by decide) ?_
  refine z_aload_n (pc := 37) 0 dX12_image_37 rfl rfl ?_
  refine z_aload_n (pc := 38) 0 dX12_image_38 rfl rfl ?_
  refine z_getI (pc := 39) dX12_image_39 (am_ob.s kM36) fr_RX12_332_12 (by decide) ?_
  refine z_putI (pc := 42) dX12_image_42 (am_ob.s kM36) fw_RX12_419_12 (by decide) ?_
  refine z_iconst (pc := 45) (v := (0 : Int32)) dX12_image_45 (by decide) ?_
  refine z_istore_n (pc := 46) (lv' := [(1, .int (0 : Int32)), (0, .ref 36)]) dX12_image_46 rfl (by decide) rfl ?_
  refine z_lv (lv' := [(0, .ref 36), (1, .int (0 : Int32))]) [1, 0] rfl ?_
  exact z12_image_L47 hd N (0 : Int32) (sF (sF (sF (sF (sF (sF σ 36 48 (1 : Int32)) 36 49 (fF (sF σ 36 48 (1 : Int32)) 36 11)) 36 50 (fF (sF (sF σ 36 48 (1 : Int32)) 36 49 (fF (sF σ 36 48 (1 : Int32)) 36 11)) 36 21)) 36 51 (fF (sF (sF (sF σ 36 48 (1 : Int32)) 36 49 (fF (sF σ 36 48 (1 : Int32)) 36 11)) 36 50 (fF (sF (sF σ 36 48 (1 : Int32)) 36 49 (fF (sF σ 36 48 (1 : Int32)) 36 11)) 36 21)) 36 12)) 36 52 (fF (sF (sF (sF (sF σ 36 48 (1 : Int32)) 36 49 (fF (sF σ 36 48 (1 : Int32)) 36 11)) 36 50 (fF (sF (sF σ 36 48 (1 : Int32)) 36 49 (fF (sF σ 36 48 (1 : Int32)) 36 11)) 36 21)) 36 51 (fF (sF (sF (sF σ 36 48 (1 : Int32)) 36 49 (fF (sF σ 36 48 (1 : Int32)) 36 11)) 36 50 (fF (sF (sF σ 36 48 (1 : Int32)) 36 49 (fF (sF σ 36 48 (1 : Int32)) 36 11)) 36 21)) 36 12)) 36 13)) 36 53 (fF (sF (sF (sF (sF (sF σ 36 48 (1 : Int32)) 36 49 (fF (sF σ 36 48 (1 : Int32)) 36 11)) 36 50 (fF (sF (sF σ 36 48 (1 : Int32)) 36 49 (fF (sF σ 36 48 (1 : Int32)) 36 11)) 36 21)) 36 51 (fF (sF (sF (sF σ 36 48 (1 : Int32)) 36 49 (fF (sF σ 36 48 (1 : Int32)) 36 11)) 36 50 (fF (sF (sF σ 36 48 (1 : Int32)) 36 49 (fF (sF σ 36 48 (1 : Int32)) 36 11)) 36 21)) 36 12)) 36 52 (fF (sF (sF (sF (sF σ 36 48 (1 : Int32)) 36 49 (fF (sF σ 36 48 (1 : Int32)) 36 11)) 36 50 (fF (sF (sF σ 36 48 (1 : Int32)) 36 49 (fF (sF σ 36 48 (1 : Int32)) 36 11)) 36 21)) 36 51 (fF (sF (sF (sF σ 36 48 (1 : Int32)) 36 49 (fF (sF σ 36 48 (1 : Int32)) 36 11)) 36 50 (fF (sF (sF σ 36 48 (1 : Int32)) 36 49 (fF (sF σ 36 48 (1 : Int32)) 36 11)) 36 21)) 36 12)) 36 13)) 36 4))
def f12_turnOf (N : Nat) (σ : am_S) (x1 : Int32) (x2 : Int32) : Option (Int32 × am_S) := (f12_foremost N σ x1 x2 (-1 : Int32)).bind fun (v1, s2) => (if v1 = (-1 : Int32) then (some ((-1 : Int32), s2)) else ((f12_foremost N s2 x1 x2 v1).bind fun (v5, s6) => (if v5 = (-1 : Int32) then (some ((-1 : Int32), s6)) else (if v5 ≤ v1 then (some (((20 : Int32) * v5) + v1, s6)) else (some (((20 : Int32) * v1) + v5, s6))))))
theorem c12_turnOf {l : Launch} {E : am_E} {N : Nat} {σ : am_S} {x1 : Int32} {x2 : Int32} {v : Int32} {σ1 : am_S} (hf : f12_turnOf N σ x1 x2 = some (v, σ1)) : Ctr l E msM YX12_turnOf (108) 0 0 [.ref 36, .int x1, .int x2] σ (some (.int v)) σ1 := by
  refine ctr_of (G := fun u r s => r = some (.int u.1) ∧ s = u.2) (by decide +kernel) (Nat.le_of_ble_eq_true rfl) hf ⟨rfl, rfl⟩ (fun d hd => ?_)
  refine z_eqlv (lv' := [(0, .ref 36), (1, .int x1), (2, .int x2)]) rfl ?_
  unfold f12_turnOf
  refine z_aload_n (pc := 0) 0 dX12_turnOf_0 rfl rfl ?_
  refine z_iload_n (pc := 1) 1 dX12_turnOf_1 rfl rfl ?_
  refine z_iload_n (pc := 2) 2 dX12_turnOf_2 rfl rfl ?_
  refine z_iconst (pc := 3) (v := (-1 : Int32)) dX12_turnOf_3 (by decide) ?_
  refine z_callIs (pc := 4) [.ref 36, .int x1, .int x2, .int (-1 : Int32)] [] rfl (lk_V (Yc := YX12_foremost) (n := 3) dX12_turnOf_4 rfl rfl (am_ob.s kM36) rfl rfl np_X12_foremost mh_RX12 (by decide) ml_RX12_363 im_X12_foremost se_RX12_X12_foremost_X12_foremost in_RX12 cd_X12_foremost) (Nat.le_trans (by decide) hd) ⟨by decide, by decide⟩ (Nat.le_of_ble_eq_true rfl) (am_kp.rf _) (fun v1 s2 h3 => c12_foremost h3) (fun v1 s2 h3 => ?_)
  refine z_istore_n (pc := 7) (lv' := [(3, .int v1), (0, .ref 36), (1, .int x1), (2, .int x2)]) dX12_turnOf_7 rfl (by decide) rfl ?_
  refine z_iload_n (pc := 8) 0 dX12_turnOf_8 rfl rfl ?_
  refine z_iconst (pc := 9) (v := (-1 : Int32)) dX12_turnOf_9 (by decide) ?_
  refine z_ic_ne (pc := 10) (tgt := 17) dX12_turnOf_10 (by decide) (fun h4 => ?_) (fun h4 => ?_)
  · refine z_iconst (pc := 13) (v := (-1 : Int32)) dX12_turnOf_13 (by decide) ?_
    refine z_goto (pc := 14) (tgt := 24) dX12_turnOf_14 (by decide) ?_
    refine z_istore (pc := 24) (lv' := [(4, .int (-1 : Int32)), (3, .int v1), (0, .ref 36), (1, .int x1), (2, .int x2)]) dX12_turnOf_24 (by decide) rfl ?_
    refine z_iload (pc := 26) 0 dX12_turnOf_26 rfl ?_
    refine z_iconst (pc := 28) (v := (-1 : Int32)) dX12_turnOf_28 (by decide) ?_
    refine z_ic_ne_f (pc := 29) (tgt := 36) dX12_turnOf_29 (by decide) (by decide) ?_
    refine z_iconst (pc := 32) (v := (-1 : Int32)) dX12_turnOf_32 (by decide) ?_
    refine z_goto (pc := 33) (tgt := 59) dX12_turnOf_33 (by decide) ?_
    exact z_rIs dX12_turnOf_59 rfl ⟨by decide, by decide⟩
  · refine z_aload_n (pc := 17) 1 dX12_turnOf_17 rfl rfl ?_
    refine z_iload_n (pc := 18) 2 dX12_turnOf_18 rfl rfl ?_
    refine z_iload_n (pc := 19) 3 dX12_turnOf_19 rfl rfl ?_
    refine z_iload_n (pc := 20) 0 dX12_turnOf_20 rfl rfl ?_
    refine z_callIs (pc := 21) [.ref 36, .int x1, .int x2, .int v1] [] rfl (lk_V (Yc := YX12_foremost) (n := 3) dX12_turnOf_21 rfl rfl (am_ob.s kM36) rfl rfl np_X12_foremost mh_RX12 (by decide) ml_RX12_363 im_X12_foremost se_RX12_X12_foremost_X12_foremost in_RX12 cd_X12_foremost) (Nat.le_trans (by decide) hd) ⟨by decide, by decide⟩ (Nat.le_of_ble_eq_true rfl) (am_kp.rf _) (fun v5 s6 h7 => c12_foremost h7) (fun v5 s6 h7 => ?_)
    refine z_istore (pc := 24) (lv' := [(4, .int v5), (3, .int v1), (0, .ref 36), (1, .int x1), (2, .int x2)]) dX12_turnOf_24 (by decide) rfl ?_
    refine z_iload (pc := 26) 0 dX12_turnOf_26 rfl ?_
    refine z_iconst (pc := 28) (v := (-1 : Int32)) dX12_turnOf_28 (by decide) ?_
    refine z_ic_ne (pc := 29) (tgt := 36) dX12_turnOf_29 (by decide) (fun h8 => ?_) (fun h8 => ?_)
    · refine z_iconst (pc := 32) (v := (-1 : Int32)) dX12_turnOf_32 (by decide) ?_
      refine z_goto (pc := 33) (tgt := 59) dX12_turnOf_33 (by decide) ?_
      exact z_rIs dX12_turnOf_59 rfl ⟨by decide, by decide⟩
    · refine z_iload_n (pc := 36) 1 dX12_turnOf_36 rfl rfl ?_
      refine z_iload (pc := 37) 0 dX12_turnOf_37 rfl ?_
      refine z_ic_ge (pc := 39) (tgt := 52) dX12_turnOf_39 (by decide) (fun h9 => ?_) (fun h9 => ?_)
      · refine z_bipush (pc := 52) (v := (20 : Int32)) dX12_turnOf_52 (by decide) ?_
        refine z_iload (pc := 54) 0 dX12_turnOf_54 rfl ?_
        refine z_imul (pc := 56) dX12_turnOf_56 ?_
        refine z_iload_n (pc := 57) 1 dX12_turnOf_57 rfl rfl ?_
        refine z_iadd (pc := 58) dX12_turnOf_58 ?_
        exact z_rIs dX12_turnOf_59 rfl ⟨by decide, by decide⟩
      · refine z_bipush (pc := 42) (v := (20 : Int32)) dX12_turnOf_42 (by decide) ?_
        refine z_iload_n (pc := 44) 1 dX12_turnOf_44 rfl rfl ?_
        refine z_imul (pc := 45) dX12_turnOf_45 ?_
        refine z_iload (pc := 46) 0 dX12_turnOf_46 rfl ?_
        refine z_iadd (pc := 48) dX12_turnOf_48 ?_
        refine z_goto (pc := 49) (tgt := 59) dX12_turnOf_49 (by decide) ?_
        exact z_rIs dX12_turnOf_59 rfl ⟨by decide, by decide⟩
def f12_rowed (N : Nat) (σ : am_S) (x1 : Int32) (x2 : Int32) : Option (Int32 × am_S) := (f12_isCrossing σ x1).bind fun v1 => (if v1 = true then ((f12_isHour x2).bind fun v5 => (if v5 = true then ((f12_turnOf N σ x1 x2).bind fun (v9, s10) => (if v9 = (-1 : Int32) then (some (v9, s10)) else (if am_in (v9 / (20 : Int32)) 14 = true then (if am_in (v9 / (20 : Int32)) 14 = true then (if am_in (v9 - v9 / (20 : Int32) * (20 : Int32)) 14 = true then (if am_in (v9 - v9 / (20 : Int32) * (20 : Int32)) 14 = true then (some (v9, sF (sF s10 50 (v9 / (20 : Int32)).toNatClampNeg ((fF s10 50 (v9 / (20 : Int32)).toNatClampNeg) + (1 : Int32))) 50 (v9 - v9 / (20 : Int32) * (20 : Int32)).toNatClampNeg ((fF (sF s10 50 (v9 / (20 : Int32)).toNatClampNeg ((fF s10 50 (v9 / (20 : Int32)).toNatClampNeg) + (1 : Int32))) 50 (v9 - v9 / (20 : Int32) * (20 : Int32)).toNatClampNeg) + (1 : Int32)))) else none) else none) else none) else none))) else (some ((-2 : Int32), σ)))) else (some ((-2 : Int32), σ)))
theorem c12_rowed {l : Launch} {E : am_E} {N : Nat} {σ : am_S} {x1 : Int32} {x2 : Int32} {v : Int32} {σ1 : am_S} (hf : f12_rowed N σ x1 x2 = some (v, σ1)) : Ctr l E msM YX12_rowed (109) 0 0 [.ref 36, .int x1, .int x2] σ (some (.int v)) σ1 := by
  refine ctr_of (G := fun u r s => r = some (.int u.1) ∧ s = u.2) (by decide +kernel) (Nat.le_of_ble_eq_true rfl) hf ⟨rfl, rfl⟩ (fun d hd => ?_)
  refine z_eqlv (lv' := [(0, .ref 36), (1, .int x1), (2, .int x2)]) rfl ?_
  unfold f12_rowed
  refine z_aload_n (pc := 0) 0 dX12_rowed_0 rfl rfl ?_
  refine z_iload_n (pc := 1) 1 dX12_rowed_1 rfl rfl ?_
  refine z_callB (pc := 2) [.ref 36, .int x1] [] rfl (lk_V (Yc := YX12_isCrossing) (n := 1) dX12_rowed_2 rfl rfl (am_ob.s kM36) rfl rfl np_X12_isCrossing mh_RX12 (by decide) ml_RX12_159 im_X12_isCrossing se_RX12_X12_isCrossing_X12_isCrossing in_RX12 cd_X12_isCrossing) (Nat.le_trans (by decide) hd) ⟨by decide, by decide⟩ (Nat.le_of_ble_eq_true rfl) (am_kp.rf _) (fun v1 h3 => c12_isCrossing h3) (fun v1 h3 => ?_)
  refine z_bz_eq (pc := 5) (tgt := 15) dX12_rowed_5 (by decide) (fun h4 => ?_) (fun h4 => ?_)
  · refine z_iload_n (pc := 8) 2 dX12_rowed_8 rfl rfl ?_
    refine z_callB (pc := 9) [.int x2] [] rfl (lk_S (Yc := YX12_isHour) (n := 1) dX12_rowed_9 rfl np_X12_isHour mh_RX12 (by decide) ml_RX12_179 st_X12_isHour in_RX12 cd_X12_isHour) (Nat.le_trans (by decide) hd) ⟨by decide, by decide⟩ (Nat.le_of_ble_eq_true rfl) (am_kp.rf _) (fun v5 h7 => c12_isHour h7) (fun v5 h7 => ?_)
    refine z_bz_ne (pc := 12) (tgt := 18) dX12_rowed_12 (by decide) (fun h8 => ?_) (fun h8 => ?_)
    · refine z_aload_n (pc := 18) 0 dX12_rowed_18 rfl rfl ?_
      refine z_iload_n (pc := 19) 1 dX12_rowed_19 rfl rfl ?_
      refine z_iload_n (pc := 20) 2 dX12_rowed_20 rfl rfl ?_
      refine z_callIs (pc := 21) [.ref 36, .int x1, .int x2] [] rfl (lk_V (Yc := YX12_turnOf) (n := 2) dX12_rowed_21 rfl rfl (am_ob.s kM36) rfl rfl np_X12_turnOf mh_RX12 (by decide) ml_RX12_366 im_X12_turnOf se_RX12_X12_turnOf_X12_turnOf in_RX12 cd_X12_turnOf) (Nat.le_trans (by decide) hd) ⟨by decide, by decide⟩ (Nat.le_of_ble_eq_true rfl) (am_kp.rf _) (fun v9 s10 h11 => c12_turnOf h11) (fun v9 s10 h11 => ?_)
      refine z_istore_n (pc := 24) (lv' := [(3, .int v9), (0, .ref 36), (1, .int x1), (2, .int x2)]) dX12_rowed_24 rfl (by decide) rfl ?_
      refine z_iload_n (pc := 25) 0 dX12_rowed_25 rfl rfl ?_
      refine z_iconst (pc := 26) (v := (-1 : Int32)) dX12_rowed_26 (by decide) ?_
      refine z_ic_eq (pc := 27) (tgt := 56) dX12_rowed_27 (by decide) (fun h12 => ?_) (fun h12 => ?_)
      · refine z_iload_n (pc := 56) 0 dX12_rowed_56 rfl rfl ?_
        exact z_rIs dX12_rowed_57 rfl ⟨by decide, by decide⟩
      · refine z_aload_n (pc := 30) 1 dX12_rowed_30 rfl rfl ?_
        refine z_getQ (pc := 31) (b := 50) dX12_rowed_31 kM36 fr_RX12_53_12 (by decide) rfl ?_
        refine z_iload_n (pc := 34) 0 dX12_rowed_34 rfl rfl ?_
        refine z_bipush (pc := 35) (v := (20 : Int32)) dX12_rowed_35 (by decide) ?_
        refine z_idiv (pc := 37) dX12_rowed_37 (by decide) ?_
        refine z_dup2 (pc := 38) dX12_rowed_38 rfl rfl ?_
        refine z_iald (pc := 39) dX12_rowed_39 (am_ar.s kM50) (fun h13 => ?_)
        refine z_iconst (pc := 40) (v := (1 : Int32)) dX12_rowed_40 (by decide) ?_
        refine z_iadd (pc := 41) dX12_rowed_41 ?_
        refine z_iast (pc := 42) dX12_rowed_42 (am_ar.s kM50) (fun h14 => ?_)
        refine z_aload_n (pc := 43) 1 dX12_rowed_43 rfl rfl ?_
        refine z_getQ (pc := 44) (b := 50) dX12_rowed_44 kM36 fr_RX12_53_12 (by decide) rfl ?_
        refine z_iload_n (pc := 47) 0 dX12_rowed_47 rfl rfl ?_
        refine z_bipush (pc := 48) (v := (20 : Int32)) dX12_rowed_48 (by decide) ?_
        refine z_irem (pc := 50) dX12_rowed_50 (by decide) ?_
        refine z_dup2 (pc := 51) dX12_rowed_51 rfl rfl ?_
        refine z_iald (pc := 52) dX12_rowed_52 (am_ar.s kM50) (fun h15 => ?_)
        refine z_iconst (pc := 53) (v := (1 : Int32)) dX12_rowed_53 (by decide) ?_
        refine z_iadd (pc := 54) dX12_rowed_54 ?_
        refine z_iast (pc := 55) dX12_rowed_55 (am_ar.s kM50) (fun h16 => ?_)
        refine z_iload_n (pc := 56) 0 dX12_rowed_56 rfl rfl ?_
        exact z_rIs dX12_rowed_57 rfl ⟨by decide, by decide⟩
    · refine z_bipush (pc := 15) (v := (-2 : Int32)) dX12_rowed_15 (by decide) ?_
      exact z_rIs dX12_rowed_17 rfl ⟨by decide, by decide⟩
  · refine z_bipush (pc := 15) (v := (-2 : Int32)) dX12_rowed_15 (by decide) ?_
    exact z_rIs dX12_rowed_17 rfl ⟨by decide, by decide⟩
def f12_judge_L143 (N : Nat) : Nat → Int32 → Int32 → am_S → Option (Int32 × am_S)
  | 0, _, _, _ => none
  | n + 1, x3, x4, σ => if fF σ 36 21 ≤ x4 then (some (x3, σ)) else (if am_in x4 14 = true then (if am_in x4 14 = true then (f12_judge_L143 N n x3 (x4 + (1 : Int32)) (sF σ 50 x4.toNatClampNeg (fF σ 55 x4.toNatClampNeg))) else none) else none)
theorem z12_judge_L143 {l : Launch} {E : am_E} {d : Nat} {σ0 : am_S} {N : Nat} (hd : 110 ≤ d) : ∀ (n : Nat) (x3 : Int32) (x4 : Int32) (σ : am_S), Z l E msM σ0 YX12_judge d 0 0 143 [(0, .ref 36), (3, .int x3), (4, .int x4)] [] 0 0 σ (f12_judge_L143 N n x3 x4 σ) (fun u r s => r = some (.int u.1) ∧ s = u.2) := by
  intro n
  induction n with
  | zero => intros; exact z_none
  | succ n ih =>
    intro x3 x4 σ
    unfold f12_judge_L143
    refine z_iload (pc := 143) 2 dX12_judge_143 rfl ?_
    refine z_aload_n (pc := 145) 0 dX12_judge_145 rfl rfl ?_
    refine z_getI (pc := 146) dX12_judge_146 (am_ob.s kM36) fr_RX12_138_12 (by decide) ?_
    refine z_ic_ge (pc := 149) (tgt := 172) dX12_judge_149 (by decide) (fun h19 => ?_) (fun h19 => ?_)
    · refine z_iload_n (pc := 172) 1 dX12_judge_172 rfl rfl ?_
      exact z_rIs dX12_judge_173 rfl ⟨by decide, by decide⟩
    · refine z_aload_n (pc := 152) 0 dX12_judge_152 rfl rfl ?_
      refine z_getQ (pc := 153) (b := 50) dX12_judge_153 kM36 fr_RX12_53_12 (by decide) rfl ?_
      refine z_iload (pc := 156) 2 dX12_judge_156 rfl ?_
      refine z_aload_n (pc := 158) 0 dX12_judge_158 rfl rfl ?_
      refine z_getQ (pc := 159) (b := 55) dX12_judge_159 kM36 fr_RX12_68_12 (by decide) rfl ?_
      refine z_iload (pc := 162) 2 dX12_judge_162 rfl ?_
      refine z_iald (pc := 164) dX12_judge_164 (am_ar.s kM55) (fun h20 => ?_)
      refine z_iast (pc := 165) dX12_judge_165 (am_ar.s kM50) (fun h21 => ?_)
      refine z_iinc (pc := 166) (v := x4 + (1 : Int32)) (lv' := [(4, .int (x4 + (1 : Int32))), (0, .ref 36), (3, .int x3)]) 2 dX12_judge_166 rfl rfl (by decide) rfl ?_
      refine z_goto (pc := 169) (tgt := 143) dX12_judge_169 (by decide) ?_
      refine z_lv (lv' := [(0, .ref 36), (3, .int x3), (4, .int (x4 + (1 : Int32)))]) [1, 2, 0] rfl ?_
      exact ih x3 (x4 + (1 : Int32)) (sF σ 50 x4.toNatClampNeg (fF σ 55 x4.toNatClampNeg))
def f12_judge_J140 (N : Nat) (x3 : Int32) (σ : am_S) : Option (Int32 × am_S) := f12_judge_L143 N N x3 (0 : Int32) σ
theorem z12_judge_J140 {l : Launch} {E : am_E} {d : Nat} {σ0 : am_S} {N : Nat} (hd : 110 ≤ d) (x3 : Int32) (σ : am_S) : Z l E msM σ0 YX12_judge d 0 0 140 [(0, .ref 36), (3, .int x3)] [] 0 0 σ (f12_judge_J140 N x3 σ) (fun u r s => r = some (.int u.1) ∧ s = u.2) := by
  unfold f12_judge_J140
  refine z_iconst (pc := 140) (v := (0 : Int32)) dX12_judge_140 (by decide) ?_
  refine z_istore (pc := 141) (lv' := [(4, .int (0 : Int32)), (0, .ref 36), (3, .int x3)]) dX12_judge_141 (by decide) rfl ?_
  refine z_lv (lv' := [(0, .ref 36), (3, .int x3), (4, .int (0 : Int32))]) [1, 2, 0] rfl ?_
  exact z12_judge_L143 hd N x3 (0 : Int32) σ
def f12_judge_L83 (N : Nat) : Nat → Int32 → Int32 → Int32 → Int32 → am_S → Option (Int32 × am_S)
  | 0, _, _, _, _, _ => none
  | n + 1, x1, x2, x3, x4, σ => if am_in x2 4 = true then (if fF σ 66 x2.toNatClampNeg ≤ x4 then (f12_judge_J140 N x3 σ) else (if x3 = (-1 : Int32) then ((f12_rowed N σ x1 ((6 : Int32) + x4)).bind fun (v23, s24) => (if am_in (((40 : Int32) * x2) + x4) 160 = true then (if v23 = fF s24 67 (((40 : Int32) * x2) + x4).toNatClampNeg then (f12_judge_L83 N n x1 x2 (-1 : Int32) (x4 + (1 : Int32)) s24) else (f12_judge_L83 N n x1 x2 ((6 : Int32) + x4) (x4 + (1 : Int32)) s24)) else none)) else (f12_judge_J140 N x3 σ))) else none
theorem z12_judge_L83 {l : Launch} {E : am_E} {d : Nat} {σ0 : am_S} {N : Nat} (hd : 110 ≤ d) : ∀ (n : Nat) (x1 : Int32) (x2 : Int32) (x3 : Int32) (x4 : Int32) (σ : am_S), Z l E msM σ0 YX12_judge d 0 0 83 [(0, .ref 36), (1, .int x1), (2, .int x2), (3, .int x3), (4, .int x4)] [] 0 0 σ (f12_judge_L83 N n x1 x2 x3 x4 σ) (fun u r s => r = some (.int u.1) ∧ s = u.2) := by
  intro n
  induction n with
  | zero => intros; exact z_none
  | succ n ih =>
    intro x1 x2 x3 x4 σ
    unfold f12_judge_L83
    refine z_iload (pc := 83) 4 dX12_judge_83 rfl ?_
    refine z_aload_n (pc := 85) 0 dX12_judge_85 rfl rfl ?_
    refine z_getQ (pc := 86) (b := 66) dX12_judge_86 kM36 fr_RX12_102_12 (by decide) rfl ?_
    refine z_iload_n (pc := 89) 2 dX12_judge_89 rfl rfl ?_
    refine z_iald (pc := 90) dX12_judge_90 (am_ar.s kM66) (fun h17 => ?_)
    refine z_ic_ge (pc := 91) (tgt := 140) dX12_judge_91 (by decide) (fun h18 => ?_) (fun h18 => ?_)
    · refine z_lv (lv' := [(0, .ref 36), (3, .int x3)]) [0, 3] rfl ?_
      exact z12_judge_J140 hd x3 σ
    · refine z_iload_n (pc := 94) 3 dX12_judge_94 rfl rfl ?_
      refine z_iconst (pc := 95) (v := (-1 : Int32)) dX12_judge_95 (by decide) ?_
      refine z_ic_ne (pc := 96) (tgt := 140) dX12_judge_96 (by decide) (fun h22 => ?_) (fun h22 => ?_)
      · refine z_aload_n (pc := 99) 0 dX12_judge_99 rfl rfl ?_
        refine z_iload_n (pc := 100) 1 dX12_judge_100 rfl rfl ?_
        refine z_bipush (pc := 101) (v := (6 : Int32)) dX12_judge_101 (by decide) ?_
        refine z_iload (pc := 103) 4 dX12_judge_103 rfl ?_
        refine z_iadd (pc := 105) dX12_judge_105 ?_
        refine z_callIs (pc := 106) [.ref 36, .int x1, .int ((6 : Int32) + x4)] [] rfl (lk_V (Yc := YX12_rowed) (n := 2) dX12_judge_106 rfl rfl (am_ob.s kM36) rfl rfl np_X12_rowed mh_RX12 (by decide) ml_RX12_371 im_X12_rowed se_RX12_X12_rowed_X12_rowed in_RX12 cd_X12_rowed) (Nat.le_trans (by decide) hd) ⟨by decide, by decide⟩ (Nat.le_of_ble_eq_true rfl) (am_kp.rf _) (fun v23 s24 h25 => c12_rowed h25) (fun v23 s24 h25 => ?_)
        refine z_aload_n (pc := 109) 0 dX12_judge_109 rfl rfl ?_
        refine z_getQ (pc := 110) (b := 67) dX12_judge_110 kM36 fr_RX12_105_12 (by decide) rfl ?_
        refine z_bipush (pc := 113) (v := (40 : Int32)) dX12_judge_113 (by decide) ?_
        refine z_iload_n (pc := 115) 2 dX12_judge_115 rfl rfl ?_
        refine z_imul (pc := 116) dX12_judge_116 ?_
        refine z_iload (pc := 117) 4 dX12_judge_117 rfl ?_
        refine z_iadd (pc := 119) dX12_judge_119 ?_
        refine z_iald (pc := 120) dX12_judge_120 (am_ar.s kM67) (fun h26 => ?_)
        refine z_ic_ne (pc := 121) (tgt := 128) dX12_judge_121 (by decide) (fun h27 => ?_) (fun h27 => ?_)
        · refine z_iconst (pc := 124) (v := (-1 : Int32)) dX12_judge_124 (by decide) ?_
          refine z_goto (pc := 125) (tgt := 133) dX12_judge_125 (by decide) ?_
          refine z_istore_n (pc := 133) (lv' := [(3, .int (-1 : Int32)), (0, .ref 36), (1, .int x1), (2, .int x2), (4, .int x4)]) dX12_judge_133 rfl (by decide) rfl ?_
          refine z_iinc (pc := 134) (v := x4 + (1 : Int32)) (lv' := [(4, .int (x4 + (1 : Int32))), (3, .int (-1 : Int32)), (0, .ref 36), (1, .int x1), (2, .int x2)]) 4 dX12_judge_134 rfl rfl (by decide) rfl ?_
          refine z_goto (pc := 137) (tgt := 83) dX12_judge_137 (by decide) ?_
          refine z_lv (lv' := [(0, .ref 36), (1, .int x1), (2, .int x2), (3, .int (-1 : Int32)), (4, .int (x4 + (1 : Int32)))]) [2, 3, 4, 1, 0] rfl ?_
          exact ih x1 x2 (-1 : Int32) (x4 + (1 : Int32)) s24
        · refine z_bipush (pc := 128) (v := (6 : Int32)) dX12_judge_128 (by decide) ?_
          refine z_iload (pc := 130) 4 dX12_judge_130 rfl ?_
          refine z_iadd (pc := 132) dX12_judge_132 ?_
          refine z_istore_n (pc := 133) (lv' := [(3, .int ((6 : Int32) + x4)), (0, .ref 36), (1, .int x1), (2, .int x2), (4, .int x4)]) dX12_judge_133 rfl (by decide) rfl ?_
          refine z_iinc (pc := 134) (v := x4 + (1 : Int32)) (lv' := [(4, .int (x4 + (1 : Int32))), (3, .int ((6 : Int32) + x4)), (0, .ref 36), (1, .int x1), (2, .int x2)]) 4 dX12_judge_134 rfl rfl (by decide) rfl ?_
          refine z_goto (pc := 137) (tgt := 83) dX12_judge_137 (by decide) ?_
          refine z_lv (lv' := [(0, .ref 36), (1, .int x1), (2, .int x2), (3, .int ((6 : Int32) + x4)), (4, .int (x4 + (1 : Int32)))]) [2, 3, 4, 1, 0] rfl ?_
          exact ih x1 x2 ((6 : Int32) + x4) (x4 + (1 : Int32)) s24
      · refine z_lv (lv' := [(0, .ref 36), (3, .int x3)]) [0, 3] rfl ?_
        exact z12_judge_J140 hd x3 σ
def f12_judge_J78 (N : Nat) (x1 : Int32) (x2 : Int32) (σ : am_S) : Option (Int32 × am_S) := f12_judge_L83 N N x1 x2 (-1 : Int32) (0 : Int32) σ
theorem z12_judge_J78 {l : Launch} {E : am_E} {d : Nat} {σ0 : am_S} {N : Nat} (hd : 110 ≤ d) (x1 : Int32) (x2 : Int32) (σ : am_S) : Z l E msM σ0 YX12_judge d 0 0 78 [(0, .ref 36), (1, .int x1), (2, .int x2)] [] 0 0 σ (f12_judge_J78 N x1 x2 σ) (fun u r s => r = some (.int u.1) ∧ s = u.2) := by
  unfold f12_judge_J78
  refine z_iconst (pc := 78) (v := (-1 : Int32)) dX12_judge_78 (by decide) ?_
  refine z_istore_n (pc := 79) (lv' := [(3, .int (-1 : Int32)), (0, .ref 36), (1, .int x1), (2, .int x2)]) dX12_judge_79 rfl (by decide) rfl ?_
  refine z_iconst (pc := 80) (v := (0 : Int32)) dX12_judge_80 (by decide) ?_
  refine z_istore (pc := 81) (lv' := [(4, .int (0 : Int32)), (3, .int (-1 : Int32)), (0, .ref 36), (1, .int x1), (2, .int x2)]) dX12_judge_81 (by decide) rfl ?_
  refine z_lv (lv' := [(0, .ref 36), (1, .int x1), (2, .int x2), (3, .int (-1 : Int32)), (4, .int (0 : Int32))]) [2, 3, 4, 1, 0] rfl ?_
  exact z12_judge_L83 hd N x1 x2 (-1 : Int32) (0 : Int32) σ
def f12_judge_L52 (N : Nat) : Nat → Int32 → Int32 → Int32 → am_S → Option (Int32 × am_S)
  | 0, _, _, _, _ => none
  | n + 1, x1, x2, x3, σ => if fF σ 36 21 ≤ x3 then (f12_judge_J78 N x1 x2 σ) else (if am_in x3 14 = true then (if am_in x3 14 = true then (f12_judge_L52 N n x1 x2 (x3 + (1 : Int32)) (sF σ 55 x3.toNatClampNeg (fF σ 50 x3.toNatClampNeg))) else none) else none)
theorem z12_judge_L52 {l : Launch} {E : am_E} {d : Nat} {σ0 : am_S} {N : Nat} (hd : 110 ≤ d) : ∀ (n : Nat) (x1 : Int32) (x2 : Int32) (x3 : Int32) (σ : am_S), Z l E msM σ0 YX12_judge d 0 0 52 [(0, .ref 36), (1, .int x1), (2, .int x2), (3, .int x3)] [] 0 0 σ (f12_judge_L52 N n x1 x2 x3 σ) (fun u r s => r = some (.int u.1) ∧ s = u.2) := by
  intro n
  induction n with
  | zero => intros; exact z_none
  | succ n ih =>
    intro x1 x2 x3 σ
    unfold f12_judge_L52
    refine z_iload_n (pc := 52) 3 dX12_judge_52 rfl rfl ?_
    refine z_aload_n (pc := 53) 0 dX12_judge_53 rfl rfl ?_
    refine z_getI (pc := 54) dX12_judge_54 (am_ob.s kM36) fr_RX12_138_12 (by decide) ?_
    refine z_ic_ge (pc := 57) (tgt := 78) dX12_judge_57 (by decide) (fun h16 => ?_) (fun h16 => ?_)
    · refine z_lv (lv' := [(0, .ref 36), (1, .int x1), (2, .int x2)]) [0, 1, 2] rfl ?_
      exact z12_judge_J78 hd x1 x2 σ
    · refine z_aload_n (pc := 60) 0 dX12_judge_60 rfl rfl ?_
      refine z_getQ (pc := 61) (b := 55) dX12_judge_61 kM36 fr_RX12_68_12 (by decide) rfl ?_
      refine z_iload_n (pc := 64) 3 dX12_judge_64 rfl rfl ?_
      refine z_aload_n (pc := 65) 0 dX12_judge_65 rfl rfl ?_
      refine z_getQ (pc := 66) (b := 50) dX12_judge_66 kM36 fr_RX12_53_12 (by decide) rfl ?_
      refine z_iload_n (pc := 69) 3 dX12_judge_69 rfl rfl ?_
      refine z_iald (pc := 70) dX12_judge_70 (am_ar.s kM50) (fun h28 => ?_)
      refine z_iast (pc := 71) dX12_judge_71 (am_ar.s kM55) (fun h29 => ?_)
      refine z_iinc (pc := 72) (v := x3 + (1 : Int32)) (lv' := [(3, .int (x3 + (1 : Int32))), (0, .ref 36), (1, .int x1), (2, .int x2)]) 3 dX12_judge_72 rfl rfl (by decide) rfl ?_
      refine z_goto (pc := 75) (tgt := 52) dX12_judge_75 (by decide) ?_
      refine z_lv (lv' := [(0, .ref 36), (1, .int x1), (2, .int x2), (3, .int (x3 + (1 : Int32)))]) [1, 2, 3, 0] rfl ?_
      exact ih x1 x2 (x3 + (1 : Int32)) (sF σ 55 x3.toNatClampNeg (fF σ 50 x3.toNatClampNeg))
def f12_judge (N : Nat) (σ : am_S) (x1 : Int32) (x2 : Int32) : Option (Int32 × am_S) := (f12_isCrossing σ x1).bind fun v1 => (if v1 = true then ((f12_isSheet x2).bind fun v5 => (if v5 = true then (if am_in x2 4 = true then (if fF σ 64 x2.toNatClampNeg = 0 then (some ((-11 : Int32), σ)) else (if am_in x2 4 = true then ((f12_in ((fF σ 66 x2.toNatClampNeg).toInt64) (1 : Int64) (16 : Int64)).bind fun v12 => (if v12 = true then (f12_judge_L52 N N x1 x2 (0 : Int32) σ) else (some ((-2 : Int32), σ)))) else none)) else none) else (some ((-2 : Int32), σ)))) else (some ((-2 : Int32), σ)))
theorem c12_judge {l : Launch} {E : am_E} {N : Nat} {σ : am_S} {x1 : Int32} {x2 : Int32} {v : Int32} {σ1 : am_S} (hf : f12_judge N σ x1 x2 = some (v, σ1)) : Ctr l E msM YX12_judge (110) 0 0 [.ref 36, .int x1, .int x2] σ (some (.int v)) σ1 := by
  refine ctr_of (G := fun u r s => r = some (.int u.1) ∧ s = u.2) (by decide +kernel) (Nat.le_of_ble_eq_true rfl) hf ⟨rfl, rfl⟩ (fun d hd => ?_)
  refine z_eqlv (lv' := [(0, .ref 36), (1, .int x1), (2, .int x2)]) rfl ?_
  unfold f12_judge
  refine z_aload_n (pc := 0) 0 dX12_judge_0 rfl rfl ?_
  refine z_iload_n (pc := 1) 1 dX12_judge_1 rfl rfl ?_
  refine z_callB (pc := 2) [.ref 36, .int x1] [] rfl (lk_V (Yc := YX12_isCrossing) (n := 1) dX12_judge_2 rfl rfl (am_ob.s kM36) rfl rfl np_X12_isCrossing mh_RX12 (by decide) ml_RX12_159 im_X12_isCrossing se_RX12_X12_isCrossing_X12_isCrossing in_RX12 cd_X12_isCrossing) (Nat.le_trans (by decide) hd) ⟨by decide, by decide⟩ (Nat.le_of_ble_eq_true rfl) (am_kp.rf _) (fun v1 h3 => c12_isCrossing h3) (fun v1 h3 => ?_)
  refine z_bz_eq (pc := 5) (tgt := 15) dX12_judge_5 (by decide) (fun h4 => ?_) (fun h4 => ?_)
  · refine z_iload_n (pc := 8) 2 dX12_judge_8 rfl rfl ?_
    refine z_callB (pc := 9) [.int x2] [] rfl (lk_S (Yc := YX12_isSheet) (n := 1) dX12_judge_9 rfl np_X12_isSheet mh_RX12 (by decide) ml_RX12_346 st_X12_isSheet in_RX12 cd_X12_isSheet) (Nat.le_trans (by decide) hd) ⟨by decide, by decide⟩ (Nat.le_of_ble_eq_true rfl) (am_kp.rf _) (fun v5 h7 => c12_isSheet h7) (fun v5 h7 => ?_)
    refine z_bz_ne (pc := 12) (tgt := 18) dX12_judge_12 (by decide) (fun h8 => ?_) (fun h8 => ?_)
    · refine z_aload_n (pc := 18) 0 dX12_judge_18 rfl rfl ?_
      refine z_getQ (pc := 19) (b := 64) dX12_judge_19 kM36 fr_RX12_95_12 (by decide) rfl ?_
      refine z_iload_n (pc := 22) 2 dX12_judge_22 rfl rfl ?_
      refine z_zald (pc := 23) dX12_judge_23 (am_ar.s kM64) (fun h9 => ?_)
      refine z_if_ne (pc := 24) (tgt := 30) dX12_judge_24 (by decide) (fun h10 => ?_) (fun h10 => ?_)
      · refine z_bipush (pc := 27) (v := (-11 : Int32)) dX12_judge_27 (by decide) ?_
        exact z_rIs dX12_judge_29 rfl ⟨by decide, by decide⟩
      · refine z_aload_n (pc := 30) 0 dX12_judge_30 rfl rfl ?_
        refine z_getQ (pc := 31) (b := 66) dX12_judge_31 kM36 fr_RX12_102_12 (by decide) rfl ?_
        refine z_iload_n (pc := 34) 2 dX12_judge_34 rfl rfl ?_
        refine z_iald (pc := 35) dX12_judge_35 (am_ar.s kM66) (fun h11 => ?_)
        refine z_i2l (pc := 36) dX12_judge_36 ?_
        refine z_lconst (pc := 37) (v := (1 : Int64)) dX12_judge_37 (by decide) ?_
        refine z_ldc2 (pc := 38) (v := (16 : Int64)) dX12_judge_38 kl_RX12_369 ?_
        refine z_callB (pc := 41) [.long ((fF σ 66 x2.toNatClampNeg).toInt64), .long (1 : Int64), .long (16 : Int64)] [] rfl (lk_S (Yc := YX12_in) (n := 3) dX12_judge_41 rfl np_X12_in mh_RX12 (by decide) ml_RX12_134 st_X12_in in_RX12 cd_X12_in) (Nat.le_trans (by decide) hd) ⟨by decide, by decide⟩ (Nat.le_of_ble_eq_true rfl) (am_kp.rf _) (fun v12 h14 => c12_in h14) (fun v12 h14 => ?_)
        refine z_bz_ne (pc := 44) (tgt := 50) dX12_judge_44 (by decide) (fun h15 => ?_) (fun h15 => ?_)
        · refine z_iconst (pc := 50) (v := (0 : Int32)) dX12_judge_50 (by decide) ?_
          refine z_istore_n (pc := 51) (lv' := [(3, .int (0 : Int32)), (0, .ref 36), (1, .int x1), (2, .int x2)]) dX12_judge_51 rfl (by decide) rfl ?_
          refine z_lv (lv' := [(0, .ref 36), (1, .int x1), (2, .int x2), (3, .int (0 : Int32))]) [1, 2, 3, 0] rfl ?_
          exact z12_judge_L52 hd N x1 x2 (0 : Int32) σ
        · refine z_bipush (pc := 47) (v := (-2 : Int32)) dX12_judge_47 (by decide) ?_
          exact z_rIs dX12_judge_49 rfl ⟨by decide, by decide⟩
    · refine z_bipush (pc := 15) (v := (-2 : Int32)) dX12_judge_15 (by decide) ?_
      exact z_rIs dX12_judge_17 rfl ⟨by decide, by decide⟩
  · refine z_bipush (pc := 15) (v := (-2 : Int32)) dX12_judge_15 (by decide) ?_
    exact z_rIs dX12_judge_17 rfl ⟨by decide, by decide⟩
def f12_load_J25 (N : Nat) (x1 : Int32) (x2 : Int32) (x3 : Int32) (σ : am_S) : Option (Int32 × am_S) := (f12_isHour x3).bind fun v6 => (if v6 = true then (if x2 = (-1 : Int32) then ((f12_read N σ (fF σ 36 4) x1 (0 : Int32) x3 (0 : Int32) (0 : Int32)).bind fun (v11, s12) => ((f12_within v11 (1 : Int32) (14 : Int32)).bind fun v14 => (some (v14, s12)))) else (if am_in (x2 / (20 : Int32)) 14 = true then (if am_in (x2 - x2 / (20 : Int32) * (20 : Int32)) 14 = true then (if fF σ 45 (x2 / (20 : Int32)).toNatClampNeg ≤ fF σ 45 (x2 - x2 / (20 : Int32) * (20 : Int32)).toNatClampNeg then (if am_in (x2 - x2 / (20 : Int32) * (20 : Int32)) 14 = true then ((f12_read N σ (fF σ 36 4) x1 (fF σ 45 (x2 - x2 / (20 : Int32) * (20 : Int32)).toNatClampNeg) x3 (0 : Int32) (0 : Int32)).bind fun (v21, s22) => ((f12_within v21 (1 : Int32) (14 : Int32)).bind fun v24 => (some (v24, s22)))) else none) else (if am_in (x2 / (20 : Int32)) 14 = true then ((f12_read N σ (fF σ 36 4) x1 (fF σ 45 (x2 / (20 : Int32)).toNatClampNeg) x3 (0 : Int32) (0 : Int32)).bind fun (v28, s29) => ((f12_within v28 (1 : Int32) (14 : Int32)).bind fun v31 => (some (v31, s29)))) else none)) else none) else none)) else (some ((-2 : Int32), σ)))
theorem z12_load_J25 {l : Launch} {E : am_E} {d : Nat} {σ0 : am_S} {N : Nat} (hd : 106 ≤ d) (x1 : Int32) (x2 : Int32) (x3 : Int32) (σ : am_S) : Z l E msM σ0 YX12_load d 0 0 25 [(0, .ref 36), (1, .int x1), (2, .int x2), (3, .int x3)] [] 0 0 σ (f12_load_J25 N x1 x2 x3 σ) (fun u r s => r = some (.int u.1) ∧ s = u.2) := by
  unfold f12_load_J25
  refine z_iload_n (pc := 25) 3 dX12_load_25 rfl rfl ?_
  refine z_callB (pc := 26) [.int x3] [] rfl (lk_S (Yc := YX12_isHour) (n := 1) dX12_load_26 rfl np_X12_isHour mh_RX12 (by decide) ml_RX12_179 st_X12_isHour in_RX12 cd_X12_isHour) (Nat.le_trans (by decide) hd) ⟨by decide, by decide⟩ (Nat.le_of_ble_eq_true rfl) (am_kp.rf _) (fun v6 h8 => c12_isHour h8) (fun v6 h8 => ?_)
  refine z_bz_ne (pc := 29) (tgt := 35) dX12_load_29 (by decide) (fun h9 => ?_) (fun h9 => ?_)
  · refine z_iconst (pc := 35) (v := (0 : Int32)) dX12_load_35 (by decide) ?_
    refine z_istore (pc := 36) (lv' := [(4, .int (0 : Int32)), (0, .ref 36), (1, .int x1), (2, .int x2), (3, .int x3)]) dX12_load_36 (by decide) rfl ?_
    refine z_iload_n (pc := 38) 3 dX12_load_38 rfl rfl ?_
    refine z_iconst (pc := 39) (v := (-1 : Int32)) dX12_load_39 (by decide) ?_
    refine z_ic_eq (pc := 40) (tgt := 87) dX12_load_40 (by decide) (fun h10 => ?_) (fun h10 => ?_)
    · refine z_aload_n (pc := 87) 1 dX12_load_87 rfl rfl ?_
      refine z_aload_n (pc := 88) 1 dX12_load_88 rfl rfl ?_
      refine z_getI (pc := 89) dX12_load_89 (am_ob.s kM36) fr_RX12_332_12 (by decide) ?_
      refine z_iload_n (pc := 92) 2 dX12_load_92 rfl rfl ?_
      refine z_iload (pc := 93) 0 dX12_load_93 rfl ?_
      refine z_iload_n (pc := 95) 4 dX12_load_95 rfl rfl ?_
      refine z_iconst (pc := 96) (v := (0 : Int32)) dX12_load_96 (by decide) ?_
      refine z_iconst (pc := 97) (v := (0 : Int32)) dX12_load_97 (by decide) ?_
      refine z_callIs (pc := 98) [.ref 36, .int (fF σ 36 4), .int x1, .int (0 : Int32), .int x3, .int (0 : Int32), .int (0 : Int32)] [] rfl (lk_V (Yc := YX12_read) (n := 6) dX12_load_98 rfl rfl (am_ob.s kM36) rfl rfl np_X12_read mh_RX12 (by decide) ml_RX12_335 im_X12_read se_RX12_X12_read_X12_read in_RX12 cd_X12_read) (Nat.le_trans (by decide) hd) ⟨by decide, by decide⟩ (Nat.le_of_ble_eq_true rfl) (am_kp.rf _) (fun v11 s12 h13 => c12_read h13) (fun v11 s12 h13 => ?_)
      refine z_iconst (pc := 101) (v := (1 : Int32)) dX12_load_101 (by decide) ?_
      refine z_bipush (pc := 102) (v := (14 : Int32)) dX12_load_102 (by decide) ?_
      refine z_callI (pc := 104) [.int v11, .int (1 : Int32), .int (14 : Int32)] [] rfl (lk_S (Yc := YX12_within) (n := 3) dX12_load_104 rfl np_X12_within mh_RX12 (by decide) ml_RX12_342 st_X12_within in_RX12 cd_X12_within) (Nat.le_trans (by decide) hd) ⟨by decide, by decide⟩ (Nat.le_of_ble_eq_true rfl) (am_kp.rf _) (fun v14 h16 => c12_within h16) (fun v14 h16 => ?_)
      exact z_rIs dX12_load_107 rfl ⟨by decide, by decide⟩
    · refine z_aload_n (pc := 43) 1 dX12_load_43 rfl rfl ?_
      refine z_getQ (pc := 44) (b := 45) dX12_load_44 kM36 fr_RX12_38_12 (by decide) rfl ?_
      refine z_iload_n (pc := 47) 3 dX12_load_47 rfl rfl ?_
      refine z_bipush (pc := 48) (v := (20 : Int32)) dX12_load_48 (by decide) ?_
      refine z_idiv (pc := 50) dX12_load_50 (by decide) ?_
      refine z_iald (pc := 51) dX12_load_51 (am_ar.s kM45) (fun h17 => ?_)
      refine z_aload_n (pc := 52) 1 dX12_load_52 rfl rfl ?_
      refine z_getQ (pc := 53) (b := 45) dX12_load_53 kM36 fr_RX12_38_12 (by decide) rfl ?_
      refine z_iload_n (pc := 56) 3 dX12_load_56 rfl rfl ?_
      refine z_bipush (pc := 57) (v := (20 : Int32)) dX12_load_57 (by decide) ?_
      refine z_irem (pc := 59) dX12_load_59 (by decide) ?_
      refine z_iald (pc := 60) dX12_load_60 (am_ar.s kM45) (fun h18 => ?_)
      refine z_ic_le (pc := 61) (tgt := 76) dX12_load_61 (by decide) (fun h19 => ?_) (fun h19 => ?_)
      · refine z_aload_n (pc := 76) 1 dX12_load_76 rfl rfl ?_
        refine z_getQ (pc := 77) (b := 45) dX12_load_77 kM36 fr_RX12_38_12 (by decide) rfl ?_
        refine z_iload_n (pc := 80) 3 dX12_load_80 rfl rfl ?_
        refine z_bipush (pc := 81) (v := (20 : Int32)) dX12_load_81 (by decide) ?_
        refine z_irem (pc := 83) dX12_load_83 (by decide) ?_
        refine z_iald (pc := 84) dX12_load_84 (am_ar.s kM45) (fun h20 => ?_)
        refine z_istore (pc := 85) (lv' := [(4, .int (fF σ 45 (x2 - x2 / (20 : Int32) * (20 : Int32)).toNatClampNeg)), (0, .ref 36), (1, .int x1), (2, .int x2), (3, .int x3)]) dX12_load_85 (by decide) rfl ?_
        refine z_aload_n (pc := 87) 1 dX12_load_87 rfl rfl ?_
        refine z_aload_n (pc := 88) 1 dX12_load_88 rfl rfl ?_
        refine z_getI (pc := 89) dX12_load_89 (am_ob.s kM36) fr_RX12_332_12 (by decide) ?_
        refine z_iload_n (pc := 92) 2 dX12_load_92 rfl rfl ?_
        refine z_iload (pc := 93) 0 dX12_load_93 rfl ?_
        refine z_iload_n (pc := 95) 4 dX12_load_95 rfl rfl ?_
        refine z_iconst (pc := 96) (v := (0 : Int32)) dX12_load_96 (by decide) ?_
        refine z_iconst (pc := 97) (v := (0 : Int32)) dX12_load_97 (by decide) ?_
        refine z_callIs (pc := 98) [.ref 36, .int (fF σ 36 4), .int x1, .int (fF σ 45 (x2 - x2 / (20 : Int32) * (20 : Int32)).toNatClampNeg), .int x3, .int (0 : Int32), .int (0 : Int32)] [] rfl (lk_V (Yc := YX12_read) (n := 6) dX12_load_98 rfl rfl (am_ob.s kM36) rfl rfl np_X12_read mh_RX12 (by decide) ml_RX12_335 im_X12_read se_RX12_X12_read_X12_read in_RX12 cd_X12_read) (Nat.le_trans (by decide) hd) ⟨by decide, by decide⟩ (Nat.le_of_ble_eq_true rfl) (am_kp.rf _) (fun v21 s22 h23 => c12_read h23) (fun v21 s22 h23 => ?_)
        refine z_iconst (pc := 101) (v := (1 : Int32)) dX12_load_101 (by decide) ?_
        refine z_bipush (pc := 102) (v := (14 : Int32)) dX12_load_102 (by decide) ?_
        refine z_callI (pc := 104) [.int v21, .int (1 : Int32), .int (14 : Int32)] [] rfl (lk_S (Yc := YX12_within) (n := 3) dX12_load_104 rfl np_X12_within mh_RX12 (by decide) ml_RX12_342 st_X12_within in_RX12 cd_X12_within) (Nat.le_trans (by decide) hd) ⟨by decide, by decide⟩ (Nat.le_of_ble_eq_true rfl) (am_kp.rf _) (fun v24 h26 => c12_within h26) (fun v24 h26 => ?_)
        exact z_rIs dX12_load_107 rfl ⟨by decide, by decide⟩
      · refine z_aload_n (pc := 64) 1 dX12_load_64 rfl rfl ?_
        refine z_getQ (pc := 65) (b := 45) dX12_load_65 kM36 fr_RX12_38_12 (by decide) rfl ?_
        refine z_iload_n (pc := 68) 3 dX12_load_68 rfl rfl ?_
        refine z_bipush (pc := 69) (v := (20 : Int32)) dX12_load_69 (by decide) ?_
        refine z_idiv (pc := 71) dX12_load_71 (by decide) ?_
        refine z_iald (pc := 72) dX12_load_72 (am_ar.s kM45) (fun h27 => ?_)
        refine z_goto (pc := 73) (tgt := 85) dX12_load_73 (by decide) ?_
        refine z_istore (pc := 85) (lv' := [(4, .int (fF σ 45 (x2 / (20 : Int32)).toNatClampNeg)), (0, .ref 36), (1, .int x1), (2, .int x2), (3, .int x3)]) dX12_load_85 (by decide) rfl ?_
        refine z_aload_n (pc := 87) 1 dX12_load_87 rfl rfl ?_
        refine z_aload_n (pc := 88) 1 dX12_load_88 rfl rfl ?_
        refine z_getI (pc := 89) dX12_load_89 (am_ob.s kM36) fr_RX12_332_12 (by decide) ?_
        refine z_iload_n (pc := 92) 2 dX12_load_92 rfl rfl ?_
        refine z_iload (pc := 93) 0 dX12_load_93 rfl ?_
        refine z_iload_n (pc := 95) 4 dX12_load_95 rfl rfl ?_
        refine z_iconst (pc := 96) (v := (0 : Int32)) dX12_load_96 (by decide) ?_
        refine z_iconst (pc := 97) (v := (0 : Int32)) dX12_load_97 (by decide) ?_
        refine z_callIs (pc := 98) [.ref 36, .int (fF σ 36 4), .int x1, .int (fF σ 45 (x2 / (20 : Int32)).toNatClampNeg), .int x3, .int (0 : Int32), .int (0 : Int32)] [] rfl (lk_V (Yc := YX12_read) (n := 6) dX12_load_98 rfl rfl (am_ob.s kM36) rfl rfl np_X12_read mh_RX12 (by decide) ml_RX12_335 im_X12_read se_RX12_X12_read_X12_read in_RX12 cd_X12_read) (Nat.le_trans (by decide) hd) ⟨by decide, by decide⟩ (Nat.le_of_ble_eq_true rfl) (am_kp.rf _) (fun v28 s29 h30 => c12_read h30) (fun v28 s29 h30 => ?_)
        refine z_iconst (pc := 101) (v := (1 : Int32)) dX12_load_101 (by decide) ?_
        refine z_bipush (pc := 102) (v := (14 : Int32)) dX12_load_102 (by decide) ?_
        refine z_callI (pc := 104) [.int v28, .int (1 : Int32), .int (14 : Int32)] [] rfl (lk_S (Yc := YX12_within) (n := 3) dX12_load_104 rfl np_X12_within mh_RX12 (by decide) ml_RX12_342 st_X12_within in_RX12 cd_X12_within) (Nat.le_trans (by decide) hd) ⟨by decide, by decide⟩ (Nat.le_of_ble_eq_true rfl) (am_kp.rf _) (fun v31 h33 => c12_within h33) (fun v31 h33 => ?_)
        exact z_rIs dX12_load_107 rfl ⟨by decide, by decide⟩
  · refine z_bipush (pc := 32) (v := (-2 : Int32)) dX12_load_32 (by decide) ?_
    exact z_rIs dX12_load_34 rfl ⟨by decide, by decide⟩
def f12_load (N : Nat) (σ : am_S) (x1 : Int32) (x2 : Int32) (x3 : Int32) : Option (Int32 × am_S) := (f12_in x1.toInt64 (0 : Int64) (999 : Int64)).bind fun v1 => (if v1 = true then (if x2 = (-1 : Int32) then (f12_load_J25 N x1 x2 x3 σ) else ((f12_areTwo σ x2).bind fun v34 => (if v34 = true then (f12_load_J25 N x1 x2 x3 σ) else (some ((-2 : Int32), σ))))) else (some ((-2 : Int32), σ)))
theorem c12_load {l : Launch} {E : am_E} {N : Nat} {σ : am_S} {x1 : Int32} {x2 : Int32} {x3 : Int32} {v : Int32} {σ1 : am_S} (hf : f12_load N σ x1 x2 x3 = some (v, σ1)) : Ctr l E msM YX12_load (106) 0 0 [.ref 36, .int x1, .int x2, .int x3] σ (some (.int v)) σ1 := by
  refine ctr_of (G := fun u r s => r = some (.int u.1) ∧ s = u.2) (by decide +kernel) (Nat.le_of_ble_eq_true rfl) hf ⟨rfl, rfl⟩ (fun d hd => ?_)
  refine z_eqlv (lv' := [(0, .ref 36), (1, .int x1), (2, .int x2), (3, .int x3)]) rfl ?_
  unfold f12_load
  refine z_iload_n (pc := 0) 1 dX12_load_0 rfl rfl ?_
  refine z_i2l (pc := 1) dX12_load_1 ?_
  refine z_lconst (pc := 2) (v := (0 : Int64)) dX12_load_2 (by decide) ?_
  refine z_ldc2 (pc := 3) (v := (999 : Int64)) dX12_load_3 kl_RX12_162 ?_
  refine z_callB (pc := 6) [.long x1.toInt64, .long (0 : Int64), .long (999 : Int64)] [] rfl (lk_S (Yc := YX12_in) (n := 3) dX12_load_6 rfl np_X12_in mh_RX12 (by decide) ml_RX12_134 st_X12_in in_RX12 cd_X12_in) (Nat.le_trans (by decide) hd) ⟨by decide, by decide⟩ (Nat.le_of_ble_eq_true rfl) (am_kp.rf _) (fun v1 h3 => c12_in h3) (fun v1 h3 => ?_)
  refine z_bz_eq (pc := 9) (tgt := 32) dX12_load_9 (by decide) (fun h4 => ?_) (fun h4 => ?_)
  · refine z_iload_n (pc := 12) 2 dX12_load_12 rfl rfl ?_
    refine z_iconst (pc := 13) (v := (-1 : Int32)) dX12_load_13 (by decide) ?_
    refine z_ic_eq (pc := 14) (tgt := 25) dX12_load_14 (by decide) (fun h5 => ?_) (fun h5 => ?_)
    · refine z_lv (lv' := [(0, .ref 36), (1, .int x1), (2, .int x2), (3, .int x3)]) [0, 1, 2, 3] rfl ?_
      exact z12_load_J25 hd x1 x2 x3 σ
    · refine z_aload_n (pc := 17) 0 dX12_load_17 rfl rfl ?_
      refine z_iload_n (pc := 18) 2 dX12_load_18 rfl rfl ?_
      refine z_callB (pc := 19) [.ref 36, .int x2] [] rfl (lk_V (Yc := YX12_areTwo) (n := 1) dX12_load_19 rfl rfl (am_ob.s kM36) rfl rfl np_X12_areTwo mh_RX12 (by decide) ml_RX12_339 im_X12_areTwo se_RX12_X12_areTwo_X12_areTwo in_RX12 cd_X12_areTwo) (Nat.le_trans (by decide) hd) ⟨by decide, by decide⟩ (Nat.le_of_ble_eq_true rfl) (am_kp.rf _) (fun v34 h36 => c12_areTwo h36) (fun v34 h36 => ?_)
      refine z_bz_eq (pc := 22) (tgt := 32) dX12_load_22 (by decide) (fun h37 => ?_) (fun h37 => ?_)
      · refine z_lv (lv' := [(0, .ref 36), (1, .int x1), (2, .int x2), (3, .int x3)]) [0, 1, 2, 3] rfl ?_
        exact z12_load_J25 hd x1 x2 x3 σ
      · refine z_bipush (pc := 32) (v := (-2 : Int32)) dX12_load_32 (by decide) ?_
        exact z_rIs dX12_load_34 rfl ⟨by decide, by decide⟩
  · refine z_bipush (pc := 32) (v := (-2 : Int32)) dX12_load_32 (by decide) ?_
    exact z_rIs dX12_load_34 rfl ⟨by decide, by decide⟩
def f12_lost_J156 (k74 : Int32 → Int32 → am_S → Option (Int32 × am_S)) (N : Nat) (x2 : Int32) (x3 : Int32) (σ : am_S) : Option (Int32 × am_S) := k74 x2 (x3 + (1 : Int32)) σ
theorem z12_lost_J156 {l : Launch} {E : am_E} {d : Nat} {σ0 : am_S} {N : Nat} (hd : 2 ≤ d) {k74 : Int32 → Int32 → am_S → Option (Int32 × am_S)} (hk74 : ∀ (x2 : Int32) (x3 : Int32) (σ : am_S), Z l E msM σ0 YX12_lost d 0 0 74 [(0, .ref 36), (2, .int x2), (3, .int x3)] [] 0 0 σ (k74 x2 x3 σ) (fun u r s => r = some (.int u.1) ∧ s = u.2)) (x2 : Int32) (x3 : Int32) (σ : am_S) : Z l E msM σ0 YX12_lost d 0 0 156 [(0, .ref 36), (2, .int x2), (3, .int x3)] [] 0 0 σ (f12_lost_J156 k74 N x2 x3 σ) (fun u r s => r = some (.int u.1) ∧ s = u.2) := by
  unfold f12_lost_J156
  refine z_iinc (pc := 156) (v := x3 + (1 : Int32)) (lv' := [(3, .int (x3 + (1 : Int32))), (0, .ref 36), (2, .int x2)]) 2 dX12_lost_156 rfl rfl (by decide) rfl ?_
  refine z_goto (pc := 159) (tgt := 74) dX12_lost_159 (by decide) ?_
  refine z_lv (lv' := [(0, .ref 36), (2, .int x2), (3, .int (x3 + (1 : Int32)))]) [1, 2, 0] rfl ?_
  exact hk74 x2 (x3 + (1 : Int32)) σ
def f12_lost_L85 (k74 : Int32 → Int32 → am_S → Option (Int32 × am_S)) (N : Nat) : Nat → Int32 → Int32 → Int32 → am_S → Option (Int32 × am_S)
  | 0, _, _, _, _ => none
  | n + 1, x2, x3, x4, σ => if (10 : Int32) ≤ x4 then (f12_lost_J156 k74 N x2 x3 σ) else (if am_in (((10 : Int32) * x3) + x4) 100 = true then (if (1000 : Int32) ≤ fF σ 58 (((10 : Int32) * x3) + x4).toNatClampNeg then (f12_lost_L85 k74 N n x2 x3 (x4 + (1 : Int32)) σ) else (if am_in (((10 : Int32) * x3) + x4) 100 = true then (if (1000 : Int32) ≤ fF σ 57 (((10 : Int32) * x3) + x4).toNatClampNeg then (f12_lost_L85 k74 N n (x2 + (100 : Int32)) x3 (x4 + (1 : Int32)) σ) else (if am_in (((10 : Int32) * x3) + x4) 100 = true then (if am_in (((10 : Int32) * x3) + x4) 100 = true then (f12_lost_L85 k74 N n (x2 + ((fF σ 57 (((10 : Int32) * x3) + x4).toNatClampNeg) - (fF σ 58 (((10 : Int32) * x3) + x4).toNatClampNeg))) x3 (x4 + (1 : Int32)) σ) else none) else none)) else none)) else none)
theorem z12_lost_L85 {l : Launch} {E : am_E} {d : Nat} {σ0 : am_S} {N : Nat} (hd : 2 ≤ d) {k74 : Int32 → Int32 → am_S → Option (Int32 × am_S)} (hk74 : ∀ (x2 : Int32) (x3 : Int32) (σ : am_S), Z l E msM σ0 YX12_lost d 0 0 74 [(0, .ref 36), (2, .int x2), (3, .int x3)] [] 0 0 σ (k74 x2 x3 σ) (fun u r s => r = some (.int u.1) ∧ s = u.2)) : ∀ (n : Nat) (x2 : Int32) (x3 : Int32) (x4 : Int32) (σ : am_S), Z l E msM σ0 YX12_lost d 0 0 85 [(0, .ref 36), (2, .int x2), (3, .int x3), (4, .int x4)] [] 0 0 σ (f12_lost_L85 k74 N n x2 x3 x4 σ) (fun u r s => r = some (.int u.1) ∧ s = u.2) := by
  intro n
  induction n with
  | zero => intros; exact z_none
  | succ n ih =>
    intro x2 x3 x4 σ
    unfold f12_lost_L85
    refine z_iload (pc := 85) 3 dX12_lost_85 rfl ?_
    refine z_bipush (pc := 87) (v := (10 : Int32)) dX12_lost_87 (by decide) ?_
    refine z_ic_ge (pc := 89) (tgt := 156) dX12_lost_89 (by decide) (fun h17 => ?_) (fun h17 => ?_)
    · refine z_lv (lv' := [(0, .ref 36), (2, .int x2), (3, .int x3)]) [0, 1, 2] rfl ?_
      exact z12_lost_J156 hd hk74 x2 x3 σ
    · refine z_bipush (pc := 92) (v := (10 : Int32)) dX12_lost_92 (by decide) ?_
      refine z_iload_n (pc := 94) 2 dX12_lost_94 rfl rfl ?_
      refine z_imul (pc := 95) dX12_lost_95 ?_
      refine z_iload (pc := 96) 3 dX12_lost_96 rfl ?_
      refine z_iadd (pc := 98) dX12_lost_98 ?_
      refine z_istore (pc := 99) (lv' := [(5, .int (((10 : Int32) * x3) + x4)), (0, .ref 36), (2, .int x2), (3, .int x3), (4, .int x4)]) dX12_lost_99 (by decide) rfl ?_
      refine z_aload_n (pc := 101) 1 dX12_lost_101 rfl rfl ?_
      refine z_getQ (pc := 102) (b := 58) dX12_lost_102 kM36 fr_RX12_77_12 (by decide) rfl ?_
      refine z_iload (pc := 105) 0 dX12_lost_105 rfl ?_
      refine z_iald (pc := 107) dX12_lost_107 (am_ar.s kM58) (fun h18 => ?_)
      refine z_sipush (pc := 108) (v := (1000 : Int32)) dX12_lost_108 (by decide) ?_
      refine z_ic_ge (pc := 111) (tgt := 150) dX12_lost_111 (by decide) (fun h19 => ?_) (fun h19 => ?_)
      · refine z_iinc (pc := 150) (v := x4 + (1 : Int32)) (lv' := [(4, .int (x4 + (1 : Int32))), (5, .int (((10 : Int32) * x3) + x4)), (0, .ref 36), (2, .int x2), (3, .int x3)]) 4 dX12_lost_150 rfl rfl (by decide) rfl ?_
        refine z_goto (pc := 153) (tgt := 85) dX12_lost_153 (by decide) ?_
        refine z_lv (lv' := [(0, .ref 36), (2, .int x2), (3, .int x3), (4, .int (x4 + (1 : Int32)))]) [2, 3, 4, 0] rfl ?_
        exact ih x2 x3 (x4 + (1 : Int32)) σ
      · refine z_iload_n (pc := 114) 2 dX12_lost_114 rfl rfl ?_
        refine z_aload_n (pc := 115) 1 dX12_lost_115 rfl rfl ?_
        refine z_getQ (pc := 116) (b := 57) dX12_lost_116 kM36 fr_RX12_74_12 (by decide) rfl ?_
        refine z_iload (pc := 119) 0 dX12_lost_119 rfl ?_
        refine z_iald (pc := 121) dX12_lost_121 (am_ar.s kM57) (fun h20 => ?_)
        refine z_sipush (pc := 122) (v := (1000 : Int32)) dX12_lost_122 (by decide) ?_
        refine z_ic_ge (pc := 125) (tgt := 146) dX12_lost_125 (by decide) (fun h21 => ?_) (fun h21 => ?_)
        · refine z_bipush (pc := 146) (v := (100 : Int32)) dX12_lost_146 (by decide) ?_
          refine z_iadd (pc := 148) dX12_lost_148 ?_
          refine z_istore_n (pc := 149) (lv' := [(2, .int (x2 + (100 : Int32))), (5, .int (((10 : Int32) * x3) + x4)), (0, .ref 36), (3, .int x3), (4, .int x4)]) dX12_lost_149 rfl (by decide) rfl ?_
          refine z_iinc (pc := 150) (v := x4 + (1 : Int32)) (lv' := [(4, .int (x4 + (1 : Int32))), (2, .int (x2 + (100 : Int32))), (5, .int (((10 : Int32) * x3) + x4)), (0, .ref 36), (3, .int x3)]) 4 dX12_lost_150 rfl rfl (by decide) rfl ?_
          refine z_goto (pc := 153) (tgt := 85) dX12_lost_153 (by decide) ?_
          refine z_lv (lv' := [(0, .ref 36), (2, .int (x2 + (100 : Int32))), (3, .int x3), (4, .int (x4 + (1 : Int32)))]) [3, 1, 4, 0] rfl ?_
          exact ih (x2 + (100 : Int32)) x3 (x4 + (1 : Int32)) σ
        · refine z_aload_n (pc := 128) 1 dX12_lost_128 rfl rfl ?_
          refine z_getQ (pc := 129) (b := 57) dX12_lost_129 kM36 fr_RX12_74_12 (by decide) rfl ?_
          refine z_iload (pc := 132) 0 dX12_lost_132 rfl ?_
          refine z_iald (pc := 134) dX12_lost_134 (am_ar.s kM57) (fun h22 => ?_)
          refine z_aload_n (pc := 135) 1 dX12_lost_135 rfl rfl ?_
          refine z_getQ (pc := 136) (b := 58) dX12_lost_136 kM36 fr_RX12_77_12 (by decide) rfl ?_
          refine z_iload (pc := 139) 0 dX12_lost_139 rfl ?_
          refine z_iald (pc := 141) dX12_lost_141 (am_ar.s kM58) (fun h23 => ?_)
          refine z_isub (pc := 142) dX12_lost_142 ?_
          refine z_goto (pc := 143) (tgt := 148) dX12_lost_143 (by decide) ?_
          refine z_iadd (pc := 148) dX12_lost_148 ?_
          refine z_istore_n (pc := 149) (lv' := [(2, .int (x2 + ((fF σ 57 (((10 : Int32) * x3) + x4).toNatClampNeg) - (fF σ 58 (((10 : Int32) * x3) + x4).toNatClampNeg)))), (5, .int (((10 : Int32) * x3) + x4)), (0, .ref 36), (3, .int x3), (4, .int x4)]) dX12_lost_149 rfl (by decide) rfl ?_
          refine z_iinc (pc := 150) (v := x4 + (1 : Int32)) (lv' := [(4, .int (x4 + (1 : Int32))), (2, .int (x2 + ((fF σ 57 (((10 : Int32) * x3) + x4).toNatClampNeg) - (fF σ 58 (((10 : Int32) * x3) + x4).toNatClampNeg)))), (5, .int (((10 : Int32) * x3) + x4)), (0, .ref 36), (3, .int x3)]) 4 dX12_lost_150 rfl rfl (by decide) rfl ?_
          refine z_goto (pc := 153) (tgt := 85) dX12_lost_153 (by decide) ?_
          refine z_lv (lv' := [(0, .ref 36), (2, .int (x2 + ((fF σ 57 (((10 : Int32) * x3) + x4).toNatClampNeg) - (fF σ 58 (((10 : Int32) * x3) + x4).toNatClampNeg)))), (3, .int x3), (4, .int (x4 + (1 : Int32)))]) [3, 1, 4, 0] rfl ?_
          exact ih (x2 + ((fF σ 57 (((10 : Int32) * x3) + x4).toNatClampNeg) - (fF σ 58 (((10 : Int32) * x3) + x4).toNatClampNeg))) x3 (x4 + (1 : Int32)) σ
def f12_lost_L74 (N : Nat) : Nat → Int32 → Int32 → am_S → Option (Int32 × am_S)
  | 0, _, _, _ => none
  | n + 1, x2, x3, σ => if (10 : Int32) ≤ x3 then (some (x2, σ)) else (f12_lost_L85 (f12_lost_L74 N n) N N x2 x3 (x3 + (1 : Int32)) σ)
theorem z12_lost_L74 {l : Launch} {E : am_E} {d : Nat} {σ0 : am_S} {N : Nat} (hd : 2 ≤ d) : ∀ (n : Nat) (x2 : Int32) (x3 : Int32) (σ : am_S), Z l E msM σ0 YX12_lost d 0 0 74 [(0, .ref 36), (2, .int x2), (3, .int x3)] [] 0 0 σ (f12_lost_L74 N n x2 x3 σ) (fun u r s => r = some (.int u.1) ∧ s = u.2) := by
  intro n
  induction n with
  | zero => intros; exact z_none
  | succ n ih =>
    intro x2 x3 σ
    unfold f12_lost_L74
    refine z_iload_n (pc := 74) 2 dX12_lost_74 rfl rfl ?_
    refine z_bipush (pc := 75) (v := (10 : Int32)) dX12_lost_75 (by decide) ?_
    refine z_ic_ge (pc := 77) (tgt := 162) dX12_lost_77 (by decide) (fun h16 => ?_) (fun h16 => ?_)
    · refine z_iload_n (pc := 162) 1 dX12_lost_162 rfl rfl ?_
      exact z_rIs dX12_lost_163 rfl ⟨by decide, by decide⟩
    · refine z_iload_n (pc := 80) 2 dX12_lost_80 rfl rfl ?_
      refine z_iconst (pc := 81) (v := (1 : Int32)) dX12_lost_81 (by decide) ?_
      refine z_iadd (pc := 82) dX12_lost_82 ?_
      refine z_istore (pc := 83) (lv' := [(4, .int (x3 + (1 : Int32))), (0, .ref 36), (2, .int x2), (3, .int x3)]) dX12_lost_83 (by decide) rfl ?_
      refine z_lv (lv' := [(0, .ref 36), (2, .int x2), (3, .int x3), (4, .int (x3 + (1 : Int32)))]) [1, 2, 3, 0] rfl ?_
      exact z12_lost_L85 hd (fun x2 x3 σ => ih x2 x3 σ) N x2 x3 (x3 + (1 : Int32)) σ
def f12_lost_J52 (N : Nat) (x1 : Int32) (σ : am_S) : Option (Int32 × am_S) := if am_in x1 7 = true then ((f12_walks N (sF σ 42 x1.toNatClampNeg (0 : Int32))).bind fun s13 => (if am_in x1 7 = true then (f12_lost_L74 N N (0 : Int32) (0 : Int32) (sF s13 42 x1.toNatClampNeg (1 : Int32))) else none)) else none
theorem z12_lost_J52 {l : Launch} {E : am_E} {d : Nat} {σ0 : am_S} {N : Nat} (hd : 2 ≤ d) (x1 : Int32) (σ : am_S) : Z l E msM σ0 YX12_lost d 0 0 52 [(0, .ref 36), (1, .int x1)] [] 0 0 σ (f12_lost_J52 N x1 σ) (fun u r s => r = some (.int u.1) ∧ s = u.2) := by
  unfold f12_lost_J52
  refine z_aload_n (pc := 52) 0 dX12_lost_52 rfl rfl ?_
  refine z_getQ (pc := 53) (b := 42) dX12_lost_53 kM36 fr_RX12_29_12 (by decide) rfl ?_
  refine z_iload_n (pc := 56) 1 dX12_lost_56 rfl rfl ?_
  refine z_iconst (pc := 57) (v := (0 : Int32)) dX12_lost_57 (by decide) ?_
  refine z_iast (pc := 58) dX12_lost_58 (am_ar.s kM42) (fun h11 => ?_)
  refine z_aload_n (pc := 59) 0 dX12_lost_59 rfl rfl ?_
  refine z_callVs (pc := 60) [.ref 36] [] rfl (lk_V (Yc := YX12_walks) (n := 0) dX12_lost_60 rfl rfl (am_ob.s kM36) rfl rfl np_X12_walks mh_RX12 (by decide) ml_RX12_383 im_X12_walks se_RX12_X12_walks_X12_walks in_RX12 cd_X12_walks) (Nat.le_trans (by decide) hd) ⟨by decide, by decide⟩ (Nat.le_of_ble_eq_true rfl) (am_kp.rf _) (fun s13 h14 => c12_walks h14) (fun s13 h14 => ?_)
  refine z_aload_n (pc := 63) 0 dX12_lost_63 rfl rfl ?_
  refine z_getQ (pc := 64) (b := 42) dX12_lost_64 kM36 fr_RX12_29_12 (by decide) rfl ?_
  refine z_iload_n (pc := 67) 1 dX12_lost_67 rfl rfl ?_
  refine z_iconst (pc := 68) (v := (1 : Int32)) dX12_lost_68 (by decide) ?_
  refine z_iast (pc := 69) dX12_lost_69 (am_ar.s kM42) (fun h15 => ?_)
  refine z_iconst (pc := 70) (v := (0 : Int32)) dX12_lost_70 (by decide) ?_
  refine z_istore_n (pc := 71) (lv' := [(2, .int (0 : Int32)), (0, .ref 36), (1, .int x1)]) dX12_lost_71 rfl (by decide) rfl ?_
  refine z_iconst (pc := 72) (v := (0 : Int32)) dX12_lost_72 (by decide) ?_
  refine z_istore_n (pc := 73) (lv' := [(3, .int (0 : Int32)), (2, .int (0 : Int32)), (0, .ref 36), (1, .int x1)]) dX12_lost_73 rfl (by decide) rfl ?_
  refine z_lv (lv' := [(0, .ref 36), (2, .int (0 : Int32)), (3, .int (0 : Int32))]) [2, 1, 0] rfl ?_
  exact z12_lost_L74 hd N (0 : Int32) (0 : Int32) (sF s13 42 x1.toNatClampNeg (1 : Int32))
def f12_lost_L28 (N : Nat) : Nat → Int32 → Int32 → am_S → Option (Int32 × am_S)
  | 0, _, _, _ => none
  | n + 1, x1, x2, σ => if (100 : Int32) ≤ x2 then (f12_lost_J52 N x1 σ) else (if am_in x2 100 = true then (if am_in x2 100 = true then (f12_lost_L28 N n x1 (x2 + (1 : Int32)) (sF σ 58 x2.toNatClampNeg (fF σ 57 x2.toNatClampNeg))) else none) else none)
theorem z12_lost_L28 {l : Launch} {E : am_E} {d : Nat} {σ0 : am_S} {N : Nat} (hd : 2 ≤ d) : ∀ (n : Nat) (x1 : Int32) (x2 : Int32) (σ : am_S), Z l E msM σ0 YX12_lost d 0 0 28 [(0, .ref 36), (1, .int x1), (2, .int x2)] [] 0 0 σ (f12_lost_L28 N n x1 x2 σ) (fun u r s => r = some (.int u.1) ∧ s = u.2) := by
  intro n
  induction n with
  | zero => intros; exact z_none
  | succ n ih =>
    intro x1 x2 σ
    unfold f12_lost_L28
    refine z_iload_n (pc := 28) 2 dX12_lost_28 rfl rfl ?_
    refine z_bipush (pc := 29) (v := (100 : Int32)) dX12_lost_29 (by decide) ?_
    refine z_ic_ge (pc := 31) (tgt := 52) dX12_lost_31 (by decide) (fun h10 => ?_) (fun h10 => ?_)
    · refine z_lv (lv' := [(0, .ref 36), (1, .int x1)]) [0, 1] rfl ?_
      exact z12_lost_J52 hd x1 σ
    · refine z_aload_n (pc := 34) 0 dX12_lost_34 rfl rfl ?_
      refine z_getQ (pc := 35) (b := 58) dX12_lost_35 kM36 fr_RX12_77_12 (by decide) rfl ?_
      refine z_iload_n (pc := 38) 2 dX12_lost_38 rfl rfl ?_
      refine z_aload_n (pc := 39) 0 dX12_lost_39 rfl rfl ?_
      refine z_getQ (pc := 40) (b := 57) dX12_lost_40 kM36 fr_RX12_74_12 (by decide) rfl ?_
      refine z_iload_n (pc := 43) 2 dX12_lost_43 rfl rfl ?_
      refine z_iald (pc := 44) dX12_lost_44 (am_ar.s kM57) (fun h24 => ?_)
      refine z_iast (pc := 45) dX12_lost_45 (am_ar.s kM58) (fun h25 => ?_)
      refine z_iinc (pc := 46) (v := x2 + (1 : Int32)) (lv' := [(2, .int (x2 + (1 : Int32))), (0, .ref 36), (1, .int x1)]) 2 dX12_lost_46 rfl rfl (by decide) rfl ?_
      refine z_goto (pc := 49) (tgt := 28) dX12_lost_49 (by decide) ?_
      refine z_lv (lv' := [(0, .ref 36), (1, .int x1), (2, .int (x2 + (1 : Int32)))]) [1, 2, 0] rfl ?_
      exact ih x1 (x2 + (1 : Int32)) (sF σ 58 x2.toNatClampNeg (fF σ 57 x2.toNatClampNeg))
def f12_lost (N : Nat) (σ : am_S) (x1 : Int32) : Option (Int32 × am_S) := (f12_isCrossing σ x1).bind fun v1 => (if v1 = true then (if am_in x1 7 = true then (if fF σ 42 x1.toNatClampNeg = 0 then (some ((0 : Int32), σ)) else ((f12_walks N σ).bind fun s8 => (f12_lost_L28 N N x1 (0 : Int32) s8))) else none) else (some ((-2 : Int32), σ)))
theorem c12_lost {l : Launch} {E : am_E} {N : Nat} {σ : am_S} {x1 : Int32} {v : Int32} {σ1 : am_S} (hf : f12_lost N σ x1 = some (v, σ1)) : Ctr l E msM YX12_lost (2) 0 0 [.ref 36, .int x1] σ (some (.int v)) σ1 := by
  refine ctr_of (G := fun u r s => r = some (.int u.1) ∧ s = u.2) (by decide +kernel) (Nat.le_of_ble_eq_true rfl) hf ⟨rfl, rfl⟩ (fun d hd => ?_)
  refine z_eqlv (lv' := [(0, .ref 36), (1, .int x1)]) rfl ?_
  unfold f12_lost
  refine z_aload_n (pc := 0) 0 dX12_lost_0 rfl rfl ?_
  refine z_iload_n (pc := 1) 1 dX12_lost_1 rfl rfl ?_
  refine z_callB (pc := 2) [.ref 36, .int x1] [] rfl (lk_V (Yc := YX12_isCrossing) (n := 1) dX12_lost_2 rfl rfl (am_ob.s kM36) rfl rfl np_X12_isCrossing mh_RX12 (by decide) ml_RX12_159 im_X12_isCrossing se_RX12_X12_isCrossing_X12_isCrossing in_RX12 cd_X12_isCrossing) (Nat.le_trans (by decide) hd) ⟨by decide, by decide⟩ (Nat.le_of_ble_eq_true rfl) (am_kp.rf _) (fun v1 h3 => c12_isCrossing h3) (fun v1 h3 => ?_)
  refine z_bz_ne (pc := 5) (tgt := 11) dX12_lost_5 (by decide) (fun h4 => ?_) (fun h4 => ?_)
  · refine z_aload_n (pc := 11) 0 dX12_lost_11 rfl rfl ?_
    refine z_getQ (pc := 12) (b := 42) dX12_lost_12 kM36 fr_RX12_29_12 (by decide) rfl ?_
    refine z_iload_n (pc := 15) 1 dX12_lost_15 rfl rfl ?_
    refine z_iald (pc := 16) dX12_lost_16 (am_ar.s kM42) (fun h5 => ?_)
    refine z_if_ne (pc := 17) (tgt := 22) dX12_lost_17 (by decide) (fun h6 => ?_) (fun h6 => ?_)
    · refine z_iconst (pc := 20) (v := (0 : Int32)) dX12_lost_20 (by decide) ?_
      exact z_rIs dX12_lost_21 rfl ⟨by decide, by decide⟩
    · refine z_aload_n (pc := 22) 0 dX12_lost_22 rfl rfl ?_
      refine z_callVs (pc := 23) [.ref 36] [] rfl (lk_V (Yc := YX12_walks) (n := 0) dX12_lost_23 rfl rfl (am_ob.s kM36) rfl rfl np_X12_walks mh_RX12 (by decide) ml_RX12_383 im_X12_walks se_RX12_X12_walks_X12_walks in_RX12 cd_X12_walks) (Nat.le_trans (by decide) hd) ⟨by decide, by decide⟩ (Nat.le_of_ble_eq_true rfl) (am_kp.rf _) (fun s8 h9 => c12_walks h9) (fun s8 h9 => ?_)
      refine z_iconst (pc := 26) (v := (0 : Int32)) dX12_lost_26 (by decide) ?_
      refine z_istore_n (pc := 27) (lv' := [(2, .int (0 : Int32)), (0, .ref 36), (1, .int x1)]) dX12_lost_27 rfl (by decide) rfl ?_
      refine z_lv (lv' := [(0, .ref 36), (1, .int x1), (2, .int (0 : Int32))]) [1, 2, 0] rfl ?_
      exact z12_lost_L28 hd N x1 (0 : Int32) s8
  · refine z_bipush (pc := 8) (v := (-2 : Int32)) dX12_lost_8 (by decide) ?_
    exact z_rIs dX12_lost_10 rfl ⟨by decide, by decide⟩
def f12_minute_J86 (x1 : Int32) (x5 : Int32) (x7 : Int32) (x8 : Int32) (s0 : Int32) (σ : am_S) : Option am_S := if am_in (((481 : Int32) * (((2 : Int32) * x5) - (1 : Int32))) + s0) 8658 = true then (if am_in (((481 : Int32) * (((2 : Int32) * x5) - (1 : Int32))) + s0) 8658 = true then (if x7 = 0 then (if am_in x8 8658 = true then (if s0 + (fF σ 52 (((481 : Int32) * (((2 : Int32) * x5) - (1 : Int32))) + s0).toNatClampNeg) < fF σ 51 x8.toNatClampNeg then (if am_in x8 8658 = true then (if am_in x8 8658 = true then (some (sF (sF σ 51 x8.toNatClampNeg (s0 + (fF σ 52 (((481 : Int32) * (((2 : Int32) * x5) - (1 : Int32))) + s0).toNatClampNeg))) 53 x8.toNatClampNeg ((fF σ 54 (((481 : Int32) * (((2 : Int32) * x5) - (1 : Int32))) + s0).toNatClampNeg) ||| ((1 : Int32) <<< (x1 &&& 31))))) else none) else none) else (if am_in x8 8658 = true then (if s0 + (fF σ 52 (((481 : Int32) * (((2 : Int32) * x5) - (1 : Int32))) + s0).toNatClampNeg) = fF σ 51 x8.toNatClampNeg then (if am_in x8 8658 = true then (if fF σ 53 x8.toNatClampNeg ≤ (fF σ 54 (((481 : Int32) * (((2 : Int32) * x5) - (1 : Int32))) + s0).toNatClampNeg) ||| ((1 : Int32) <<< (x1 &&& 31)) then (some (σ)) else (if am_in x8 8658 = true then (if am_in x8 8658 = true then (some (sF (sF σ 51 x8.toNatClampNeg (s0 + (fF σ 52 (((481 : Int32) * (((2 : Int32) * x5) - (1 : Int32))) + s0).toNatClampNeg))) 53 x8.toNatClampNeg ((fF σ 54 (((481 : Int32) * (((2 : Int32) * x5) - (1 : Int32))) + s0).toNatClampNeg) ||| ((1 : Int32) <<< (x1 &&& 31))))) else none) else none)) else none) else (some (σ))) else none)) else none) else (if am_in x8 8658 = true then (if am_in x8 8658 = true then (some (sF (sF σ 51 x8.toNatClampNeg (s0 + (fF σ 52 (((481 : Int32) * (((2 : Int32) * x5) - (1 : Int32))) + s0).toNatClampNeg))) 53 x8.toNatClampNeg ((fF σ 54 (((481 : Int32) * (((2 : Int32) * x5) - (1 : Int32))) + s0).toNatClampNeg) ||| ((1 : Int32) <<< (x1 &&& 31))))) else none) else none)) else none) else none
theorem z12_minute_J86 {l : Launch} {E : am_E} {d : Nat} {σ0 : am_S} (hd : 0 ≤ d) (x1 : Int32) (x5 : Int32) (x7 : Int32) (x8 : Int32) (s0 : Int32) (σ : am_S) : Z l E msM σ0 YX12_minute d 0 0 86 [(0, .ref 36), (1, .int x1), (5, .int x5), (7, .int x7), (8, .int x8)] [.int s0] 0 0 σ (f12_minute_J86 x1 x5 x7 x8 s0 σ) (fun u r s => r = none ∧ s = u) := by
  unfold f12_minute_J86
  refine z_istore (pc := 86) (lv' := [(10, .int s0), (0, .ref 36), (1, .int x1), (5, .int x5), (7, .int x7), (8, .int x8)]) dX12_minute_86 (by decide) rfl ?_
  refine z_sipush (pc := 88) (v := (481 : Int32)) dX12_minute_88 (by decide) ?_
  refine z_iconst (pc := 91) (v := (2 : Int32)) dX12_minute_91 (by decide) ?_
  refine z_iload (pc := 92) 3 dX12_minute_92 rfl ?_
  refine z_imul (pc := 94) dX12_minute_94 ?_
  refine z_iconst (pc := 95) (v := (1 : Int32)) dX12_minute_95 (by decide) ?_
  refine z_isub (pc := 96) dX12_minute_96 ?_
  refine z_imul (pc := 97) dX12_minute_97 ?_
  refine z_iload (pc := 98) 0 dX12_minute_98 rfl ?_
  refine z_iadd (pc := 100) dX12_minute_100 ?_
  refine z_istore (pc := 101) (lv' := [(11, .int (((481 : Int32) * (((2 : Int32) * x5) - (1 : Int32))) + s0)), (10, .int s0), (0, .ref 36), (1, .int x1), (5, .int x5), (7, .int x7), (8, .int x8)]) dX12_minute_101 (by decide) rfl ?_
  refine z_iload (pc := 103) 1 dX12_minute_103 rfl ?_
  refine z_aload_n (pc := 105) 2 dX12_minute_105 rfl rfl ?_
  refine z_getQ (pc := 106) (b := 52) dX12_minute_106 kM36 fr_RX12_59_12 (by decide) rfl ?_
  refine z_iload (pc := 109) 0 dX12_minute_109 rfl ?_
  refine z_iald (pc := 111) dX12_minute_111 (am_ar.s kM52) (fun h9 => ?_)
  refine z_iadd (pc := 112) dX12_minute_112 ?_
  refine z_istore (pc := 113) (lv' := [(12, .int (s0 + (fF σ 52 (((481 : Int32) * (((2 : Int32) * x5) - (1 : Int32))) + s0).toNatClampNeg))), (11, .int (((481 : Int32) * (((2 : Int32) * x5) - (1 : Int32))) + s0)), (10, .int s0), (0, .ref 36), (1, .int x1), (5, .int x5), (7, .int x7), (8, .int x8)]) dX12_minute_113 (by decide) rfl ?_
  refine z_aload_n (pc := 115) 3 dX12_minute_115 rfl rfl ?_
  refine z_getQ (pc := 116) (b := 54) dX12_minute_116 kM36 fr_RX12_65_12 (by decide) rfl ?_
  refine z_iload (pc := 119) 1 dX12_minute_119 rfl ?_
  refine z_iald (pc := 121) dX12_minute_121 (am_ar.s kM54) (fun h10 => ?_)
  refine z_iconst (pc := 122) (v := (1 : Int32)) dX12_minute_122 (by decide) ?_
  refine z_iload_n (pc := 123) 4 dX12_minute_123 rfl rfl ?_
  refine z_ishl (pc := 124) dX12_minute_124 ?_
  refine z_ior (pc := 125) dX12_minute_125 ?_
  refine z_istore (pc := 126) (lv' := [(13, .int ((fF σ 54 (((481 : Int32) * (((2 : Int32) * x5) - (1 : Int32))) + s0).toNatClampNeg) ||| ((1 : Int32) <<< (x1 &&& 31)))), (12, .int (s0 + (fF σ 52 (((481 : Int32) * (((2 : Int32) * x5) - (1 : Int32))) + s0).toNatClampNeg))), (11, .int (((481 : Int32) * (((2 : Int32) * x5) - (1 : Int32))) + s0)), (10, .int s0), (0, .ref 36), (1, .int x1), (5, .int x5), (7, .int x7), (8, .int x8)]) dX12_minute_126 (by decide) rfl ?_
  refine z_iload (pc := 128) 7 dX12_minute_128 rfl ?_
  refine z_if_ne (pc := 130) (tgt := 169) dX12_minute_130 (by decide) (fun h11 => ?_) (fun h11 => ?_)
  · refine z_iload (pc := 133) 1 dX12_minute_133 rfl ?_
    refine z_aload_n (pc := 135) 4 dX12_minute_135 rfl rfl ?_
    refine z_getQ (pc := 136) (b := 51) dX12_minute_136 kM36 fr_RX12_56_12 (by decide) rfl ?_
    refine z_iload (pc := 139) 8 dX12_minute_139 rfl ?_
    refine z_iald (pc := 141) dX12_minute_141 (am_ar.s kM51) (fun h12 => ?_)
    refine z_ic_lt (pc := 142) (tgt := 169) dX12_minute_142 (by decide) (fun h13 => ?_) (fun h13 => ?_)
    · refine z_aload_n (pc := 169) 4 dX12_minute_169 rfl rfl ?_
      refine z_getQ (pc := 170) (b := 51) dX12_minute_170 kM36 fr_RX12_56_12 (by decide) rfl ?_
      refine z_iload (pc := 173) 8 dX12_minute_173 rfl ?_
      refine z_iload (pc := 175) 1 dX12_minute_175 rfl ?_
      refine z_iast (pc := 177) dX12_minute_177 (am_ar.s kM51) (fun h14 => ?_)
      refine z_aload_n (pc := 178) 4 dX12_minute_178 rfl rfl ?_
      refine z_getQ (pc := 179) (b := 53) dX12_minute_179 kM36 fr_RX12_62_12 (by decide) rfl ?_
      refine z_iload (pc := 182) 8 dX12_minute_182 rfl ?_
      refine z_iload (pc := 184) 0 dX12_minute_184 rfl ?_
      refine z_iast (pc := 186) dX12_minute_186 (am_ar.s kM53) (fun h15 => ?_)
      exact z_rVs dX12_minute_187 rfl ⟨by decide, by decide⟩
    · refine z_iload (pc := 145) 1 dX12_minute_145 rfl ?_
      refine z_aload_n (pc := 147) 4 dX12_minute_147 rfl rfl ?_
      refine z_getQ (pc := 148) (b := 51) dX12_minute_148 kM36 fr_RX12_56_12 (by decide) rfl ?_
      refine z_iload (pc := 151) 8 dX12_minute_151 rfl ?_
      refine z_iald (pc := 153) dX12_minute_153 (am_ar.s kM51) (fun h16 => ?_)
      refine z_ic_ne (pc := 154) (tgt := 187) dX12_minute_154 (by decide) (fun h17 => ?_) (fun h17 => ?_)
      · refine z_iload (pc := 157) 0 dX12_minute_157 rfl ?_
        refine z_aload_n (pc := 159) 4 dX12_minute_159 rfl rfl ?_
        refine z_getQ (pc := 160) (b := 53) dX12_minute_160 kM36 fr_RX12_62_12 (by decide) rfl ?_
        refine z_iload (pc := 163) 8 dX12_minute_163 rfl ?_
        refine z_iald (pc := 165) dX12_minute_165 (am_ar.s kM53) (fun h18 => ?_)
        refine z_ic_ge (pc := 166) (tgt := 187) dX12_minute_166 (by decide) (fun h19 => ?_) (fun h19 => ?_)
        · exact z_rVs dX12_minute_187 rfl ⟨by decide, by decide⟩
        · refine z_aload_n (pc := 169) 4 dX12_minute_169 rfl rfl ?_
          refine z_getQ (pc := 170) (b := 51) dX12_minute_170 kM36 fr_RX12_56_12 (by decide) rfl ?_
          refine z_iload (pc := 173) 8 dX12_minute_173 rfl ?_
          refine z_iload (pc := 175) 1 dX12_minute_175 rfl ?_
          refine z_iast (pc := 177) dX12_minute_177 (am_ar.s kM51) (fun h20 => ?_)
          refine z_aload_n (pc := 178) 4 dX12_minute_178 rfl rfl ?_
          refine z_getQ (pc := 179) (b := 53) dX12_minute_179 kM36 fr_RX12_62_12 (by decide) rfl ?_
          refine z_iload (pc := 182) 8 dX12_minute_182 rfl ?_
          refine z_iload (pc := 184) 0 dX12_minute_184 rfl ?_
          refine z_iast (pc := 186) dX12_minute_186 (am_ar.s kM53) (fun h21 => ?_)
          exact z_rVs dX12_minute_187 rfl ⟨by decide, by decide⟩
      · exact z_rVs dX12_minute_187 rfl ⟨by decide, by decide⟩
  · refine z_aload_n (pc := 169) 4 dX12_minute_169 rfl rfl ?_
    refine z_getQ (pc := 170) (b := 51) dX12_minute_170 kM36 fr_RX12_56_12 (by decide) rfl ?_
    refine z_iload (pc := 173) 8 dX12_minute_173 rfl ?_
    refine z_iload (pc := 175) 1 dX12_minute_175 rfl ?_
    refine z_iast (pc := 177) dX12_minute_177 (am_ar.s kM51) (fun h22 => ?_)
    refine z_aload_n (pc := 178) 4 dX12_minute_178 rfl rfl ?_
    refine z_getQ (pc := 179) (b := 53) dX12_minute_179 kM36 fr_RX12_62_12 (by decide) rfl ?_
    refine z_iload (pc := 182) 8 dX12_minute_182 rfl ?_
    refine z_iload (pc := 184) 0 dX12_minute_184 rfl ?_
    refine z_iast (pc := 186) dX12_minute_186 (am_ar.s kM53) (fun h23 => ?_)
    exact z_rVs dX12_minute_187 rfl ⟨by decide, by decide⟩
def f12_minute (σ : am_S) (x1 : Int32) (x2 : Int32) (x3 : Int32) (x4 : Int32) (x5 : Int32) (x6 : Int32) (x7 : Bool) : Option am_S := if x2 ≤ 0 then (if am_in (((481 : Int32) * (0 : Int32)) + x4) 8658 = true then (if am_in (((481 : Int32) * x2) + x3) 8658 = true then (if am_in (((481 : Int32) * (0 : Int32)) + x4) 8658 = true then (if am_in (((481 : Int32) * x2) + x3) 8658 = true then (if 0 < x2 then (some (sF (sF σ 51 (((481 : Int32) * x2) + x3).toNatClampNeg (x4 + (fF σ 52 (((481 : Int32) * (0 : Int32)) + x4).toNatClampNeg))) 53 (((481 : Int32) * x2) + x3).toNatClampNeg (fF (sF σ 51 (((481 : Int32) * x2) + x3).toNatClampNeg (x4 + (fF σ 52 (((481 : Int32) * (0 : Int32)) + x4).toNatClampNeg))) 54 (((481 : Int32) * (0 : Int32)) + x4).toNatClampNeg))) else (if x4 = 0 then (some (sF (sF σ 51 (((481 : Int32) * x2) + x3).toNatClampNeg (x4 + (fF σ 52 (((481 : Int32) * (0 : Int32)) + x4).toNatClampNeg))) 53 (((481 : Int32) * x2) + x3).toNatClampNeg (fF (sF σ 51 (((481 : Int32) * x2) + x3).toNatClampNeg (x4 + (fF σ 52 (((481 : Int32) * (0 : Int32)) + x4).toNatClampNeg))) 54 (((481 : Int32) * (0 : Int32)) + x4).toNatClampNeg))) else (if x4 ≤ x6 then (f12_minute_J86 x1 x5 (bI x7) (((481 : Int32) * x2) + x3) (0 : Int32) (sF (sF σ 51 (((481 : Int32) * x2) + x3).toNatClampNeg (x4 + (fF σ 52 (((481 : Int32) * (0 : Int32)) + x4).toNatClampNeg))) 53 (((481 : Int32) * x2) + x3).toNatClampNeg (fF (sF σ 51 (((481 : Int32) * x2) + x3).toNatClampNeg (x4 + (fF σ 52 (((481 : Int32) * (0 : Int32)) + x4).toNatClampNeg))) 54 (((481 : Int32) * (0 : Int32)) + x4).toNatClampNeg))) else (f12_minute_J86 x1 x5 (bI x7) (((481 : Int32) * x2) + x3) (x4 - x6) (sF (sF σ 51 (((481 : Int32) * x2) + x3).toNatClampNeg (x4 + (fF σ 52 (((481 : Int32) * (0 : Int32)) + x4).toNatClampNeg))) 53 (((481 : Int32) * x2) + x3).toNatClampNeg (fF (sF σ 51 (((481 : Int32) * x2) + x3).toNatClampNeg (x4 + (fF σ 52 (((481 : Int32) * (0 : Int32)) + x4).toNatClampNeg))) 54 (((481 : Int32) * (0 : Int32)) + x4).toNatClampNeg)))))) else none) else none) else none) else none) else (if am_in (((481 : Int32) * (x2 - (1 : Int32))) + x4) 8658 = true then (if am_in (((481 : Int32) * x2) + x3) 8658 = true then (if am_in (((481 : Int32) * (x2 - (1 : Int32))) + x4) 8658 = true then (if am_in (((481 : Int32) * x2) + x3) 8658 = true then (if 0 < x2 then (some (sF (sF σ 51 (((481 : Int32) * x2) + x3).toNatClampNeg (x4 + (fF σ 52 (((481 : Int32) * (x2 - (1 : Int32))) + x4).toNatClampNeg))) 53 (((481 : Int32) * x2) + x3).toNatClampNeg (fF (sF σ 51 (((481 : Int32) * x2) + x3).toNatClampNeg (x4 + (fF σ 52 (((481 : Int32) * (x2 - (1 : Int32))) + x4).toNatClampNeg))) 54 (((481 : Int32) * (x2 - (1 : Int32))) + x4).toNatClampNeg))) else (if x4 = 0 then (some (sF (sF σ 51 (((481 : Int32) * x2) + x3).toNatClampNeg (x4 + (fF σ 52 (((481 : Int32) * (x2 - (1 : Int32))) + x4).toNatClampNeg))) 53 (((481 : Int32) * x2) + x3).toNatClampNeg (fF (sF σ 51 (((481 : Int32) * x2) + x3).toNatClampNeg (x4 + (fF σ 52 (((481 : Int32) * (x2 - (1 : Int32))) + x4).toNatClampNeg))) 54 (((481 : Int32) * (x2 - (1 : Int32))) + x4).toNatClampNeg))) else (if x4 ≤ x6 then (f12_minute_J86 x1 x5 (bI x7) (((481 : Int32) * x2) + x3) (0 : Int32) (sF (sF σ 51 (((481 : Int32) * x2) + x3).toNatClampNeg (x4 + (fF σ 52 (((481 : Int32) * (x2 - (1 : Int32))) + x4).toNatClampNeg))) 53 (((481 : Int32) * x2) + x3).toNatClampNeg (fF (sF σ 51 (((481 : Int32) * x2) + x3).toNatClampNeg (x4 + (fF σ 52 (((481 : Int32) * (x2 - (1 : Int32))) + x4).toNatClampNeg))) 54 (((481 : Int32) * (x2 - (1 : Int32))) + x4).toNatClampNeg))) else (f12_minute_J86 x1 x5 (bI x7) (((481 : Int32) * x2) + x3) (x4 - x6) (sF (sF σ 51 (((481 : Int32) * x2) + x3).toNatClampNeg (x4 + (fF σ 52 (((481 : Int32) * (x2 - (1 : Int32))) + x4).toNatClampNeg))) 53 (((481 : Int32) * x2) + x3).toNatClampNeg (fF (sF σ 51 (((481 : Int32) * x2) + x3).toNatClampNeg (x4 + (fF σ 52 (((481 : Int32) * (x2 - (1 : Int32))) + x4).toNatClampNeg))) 54 (((481 : Int32) * (x2 - (1 : Int32))) + x4).toNatClampNeg)))))) else none) else none) else none) else none)
theorem c12_minute {l : Launch} {E : am_E} {σ : am_S} {x1 : Int32} {x2 : Int32} {x3 : Int32} {x4 : Int32} {x5 : Int32} {x6 : Int32} {x7 : Bool} {σ1 : am_S} (hf : f12_minute σ x1 x2 x3 x4 x5 x6 x7 = some σ1) : Ctr l E msM YX12_minute (0) 0 0 [.ref 36, .int x1, .int x2, .int x3, .int x4, .int x5, .int x6, .int (bI x7)] σ none σ1 := by
  refine ctr_of (G := fun u r s => r = none ∧ s = u) (by decide +kernel) (Nat.le_of_ble_eq_true rfl) hf ⟨rfl, rfl⟩ (fun d hd => ?_)
  refine z_eqlv (lv' := [(0, .ref 36), (1, .int x1), (2, .int x2), (3, .int x3), (4, .int x4), (5, .int x5), (6, .int x6), (7, .int (bI x7))]) rfl ?_
  unfold f12_minute
  refine z_sipush (pc := 0) (v := (481 : Int32)) dX12_minute_0 (by decide) ?_
  refine z_iload_n (pc := 3) 2 dX12_minute_3 rfl rfl ?_
  refine z_imul (pc := 4) dX12_minute_4 ?_
  refine z_iload_n (pc := 5) 3 dX12_minute_5 rfl rfl ?_
  refine z_iadd (pc := 6) dX12_minute_6 ?_
  refine z_istore (pc := 7) (lv' := [(8, .int (((481 : Int32) * x2) + x3)), (0, .ref 36), (1, .int x1), (2, .int x2), (3, .int x3), (4, .int x4), (5, .int x5), (6, .int x6), (7, .int (bI x7))]) dX12_minute_7 (by decide) rfl ?_
  refine z_sipush (pc := 9) (v := (481 : Int32)) dX12_minute_9 (by decide) ?_
  refine z_iload_n (pc := 12) 3 dX12_minute_12 rfl rfl ?_
  refine z_if_le (pc := 13) (tgt := 22) dX12_minute_13 (by decide) (fun h1 => ?_) (fun h1 => ?_)
  · refine z_iconst (pc := 22) (v := (0 : Int32)) dX12_minute_22 (by decide) ?_
    refine z_imul (pc := 23) dX12_minute_23 ?_
    refine z_iload (pc := 24) 5 dX12_minute_24 rfl ?_
    refine z_iadd (pc := 26) dX12_minute_26 ?_
    refine z_istore (pc := 27) (lv' := [(9, .int (((481 : Int32) * (0 : Int32)) + x4)), (8, .int (((481 : Int32) * x2) + x3)), (0, .ref 36), (1, .int x1), (2, .int x2), (3, .int x3), (4, .int x4), (5, .int x5), (6, .int x6), (7, .int (bI x7))]) dX12_minute_27 (by decide) rfl ?_
    refine z_aload_n (pc := 29) 2 dX12_minute_29 rfl rfl ?_
    refine z_getQ (pc := 30) (b := 51) dX12_minute_30 kM36 fr_RX12_56_12 (by decide) rfl ?_
    refine z_iload (pc := 33) 1 dX12_minute_33 rfl ?_
    refine z_iload (pc := 35) 6 dX12_minute_35 rfl ?_
    refine z_aload_n (pc := 37) 2 dX12_minute_37 rfl rfl ?_
    refine z_getQ (pc := 38) (b := 52) dX12_minute_38 kM36 fr_RX12_59_12 (by decide) rfl ?_
    refine z_iload (pc := 41) 0 dX12_minute_41 rfl ?_
    refine z_iald (pc := 43) dX12_minute_43 (am_ar.s kM52) (fun h2 => ?_)
    refine z_iadd (pc := 44) dX12_minute_44 ?_
    refine z_iast (pc := 45) dX12_minute_45 (am_ar.s kM51) (fun h3 => ?_)
    refine z_aload_n (pc := 46) 2 dX12_minute_46 rfl rfl ?_
    refine z_getQ (pc := 47) (b := 53) dX12_minute_47 kM36 fr_RX12_62_12 (by decide) rfl ?_
    refine z_iload (pc := 50) 1 dX12_minute_50 rfl ?_
    refine z_aload_n (pc := 52) 2 dX12_minute_52 rfl rfl ?_
    refine z_getQ (pc := 53) (b := 54) dX12_minute_53 kM36 fr_RX12_65_12 (by decide) rfl ?_
    refine z_iload (pc := 56) 0 dX12_minute_56 rfl ?_
    refine z_iald (pc := 58) dX12_minute_58 (am_ar.s kM54) (fun h4 => ?_)
    refine z_iast (pc := 59) dX12_minute_59 (am_ar.s kM53) (fun h5 => ?_)
    refine z_iload_n (pc := 60) 4 dX12_minute_60 rfl rfl ?_
    refine z_if_gt (pc := 61) (tgt := 69) dX12_minute_61 (by decide) (fun h6 => ?_) (fun h6 => ?_)
    · exact z_rVs dX12_minute_69 rfl ⟨by decide, by decide⟩
    · refine z_iload (pc := 64) 6 dX12_minute_64 rfl ?_
      refine z_if_ne (pc := 66) (tgt := 70) dX12_minute_66 (by decide) (fun h7 => ?_) (fun h7 => ?_)
      · exact z_rVs dX12_minute_69 rfl ⟨by decide, by decide⟩
      · refine z_iload (pc := 70) 6 dX12_minute_70 rfl ?_
        refine z_iload (pc := 72) 8 dX12_minute_72 rfl ?_
        refine z_ic_le (pc := 74) (tgt := 85) dX12_minute_74 (by decide) (fun h8 => ?_) (fun h8 => ?_)
        · refine z_iconst (pc := 85) (v := (0 : Int32)) dX12_minute_85 (by decide) ?_
          refine z_lv (lv' := [(0, .ref 36), (1, .int x1), (5, .int x5), (7, .int (bI x7)), (8, .int (((481 : Int32) * x2) + x3))]) [2, 3, 7, 9, 1] rfl ?_
          exact z12_minute_J86 hd x1 x5 (bI x7) (((481 : Int32) * x2) + x3) (0 : Int32) (sF (sF σ 51 (((481 : Int32) * x2) + x3).toNatClampNeg (x4 + (fF σ 52 (((481 : Int32) * (0 : Int32)) + x4).toNatClampNeg))) 53 (((481 : Int32) * x2) + x3).toNatClampNeg (fF (sF σ 51 (((481 : Int32) * x2) + x3).toNatClampNeg (x4 + (fF σ 52 (((481 : Int32) * (0 : Int32)) + x4).toNatClampNeg))) 54 (((481 : Int32) * (0 : Int32)) + x4).toNatClampNeg))
        · refine z_iload (pc := 77) 6 dX12_minute_77 rfl ?_
          refine z_iload (pc := 79) 8 dX12_minute_79 rfl ?_
          refine z_isub (pc := 81) dX12_minute_81 ?_
          refine z_goto (pc := 82) (tgt := 86) dX12_minute_82 (by decide) ?_
          refine z_lv (lv' := [(0, .ref 36), (1, .int x1), (5, .int x5), (7, .int (bI x7)), (8, .int (((481 : Int32) * x2) + x3))]) [2, 3, 7, 9, 1] rfl ?_
          exact z12_minute_J86 hd x1 x5 (bI x7) (((481 : Int32) * x2) + x3) (x4 - x6) (sF (sF σ 51 (((481 : Int32) * x2) + x3).toNatClampNeg (x4 + (fF σ 52 (((481 : Int32) * (0 : Int32)) + x4).toNatClampNeg))) 53 (((481 : Int32) * x2) + x3).toNatClampNeg (fF (sF σ 51 (((481 : Int32) * x2) + x3).toNatClampNeg (x4 + (fF σ 52 (((481 : Int32) * (0 : Int32)) + x4).toNatClampNeg))) 54 (((481 : Int32) * (0 : Int32)) + x4).toNatClampNeg))
  · refine z_iload_n (pc := 16) 3 dX12_minute_16 rfl rfl ?_
    refine z_iconst (pc := 17) (v := (1 : Int32)) dX12_minute_17 (by decide) ?_
    refine z_isub (pc := 18) dX12_minute_18 ?_
    refine z_goto (pc := 19) (tgt := 23) dX12_minute_19 (by decide) ?_
    refine z_imul (pc := 23) dX12_minute_23 ?_
    refine z_iload (pc := 24) 5 dX12_minute_24 rfl ?_
    refine z_iadd (pc := 26) dX12_minute_26 ?_
    refine z_istore (pc := 27) (lv' := [(9, .int (((481 : Int32) * (x2 - (1 : Int32))) + x4)), (8, .int (((481 : Int32) * x2) + x3)), (0, .ref 36), (1, .int x1), (2, .int x2), (3, .int x3), (4, .int x4), (5, .int x5), (6, .int x6), (7, .int (bI x7))]) dX12_minute_27 (by decide) rfl ?_
    refine z_aload_n (pc := 29) 2 dX12_minute_29 rfl rfl ?_
    refine z_getQ (pc := 30) (b := 51) dX12_minute_30 kM36 fr_RX12_56_12 (by decide) rfl ?_
    refine z_iload (pc := 33) 1 dX12_minute_33 rfl ?_
    refine z_iload (pc := 35) 6 dX12_minute_35 rfl ?_
    refine z_aload_n (pc := 37) 2 dX12_minute_37 rfl rfl ?_
    refine z_getQ (pc := 38) (b := 52) dX12_minute_38 kM36 fr_RX12_59_12 (by decide) rfl ?_
    refine z_iload (pc := 41) 0 dX12_minute_41 rfl ?_
    refine z_iald (pc := 43) dX12_minute_43 (am_ar.s kM52) (fun h24 => ?_)
    refine z_iadd (pc := 44) dX12_minute_44 ?_
    refine z_iast (pc := 45) dX12_minute_45 (am_ar.s kM51) (fun h25 => ?_)
    refine z_aload_n (pc := 46) 2 dX12_minute_46 rfl rfl ?_
    refine z_getQ (pc := 47) (b := 53) dX12_minute_47 kM36 fr_RX12_62_12 (by decide) rfl ?_
    refine z_iload (pc := 50) 1 dX12_minute_50 rfl ?_
    refine z_aload_n (pc := 52) 2 dX12_minute_52 rfl rfl ?_
    refine z_getQ (pc := 53) (b := 54) dX12_minute_53 kM36 fr_RX12_65_12 (by decide) rfl ?_
    refine z_iload (pc := 56) 0 dX12_minute_56 rfl ?_
    refine z_iald (pc := 58) dX12_minute_58 (am_ar.s kM54) (fun h26 => ?_)
    refine z_iast (pc := 59) dX12_minute_59 (am_ar.s kM53) (fun h27 => ?_)
    refine z_iload_n (pc := 60) 4 dX12_minute_60 rfl rfl ?_
    refine z_if_gt (pc := 61) (tgt := 69) dX12_minute_61 (by decide) (fun h28 => ?_) (fun h28 => ?_)
    · exact z_rVs dX12_minute_69 rfl ⟨by decide, by decide⟩
    · refine z_iload (pc := 64) 6 dX12_minute_64 rfl ?_
      refine z_if_ne (pc := 66) (tgt := 70) dX12_minute_66 (by decide) (fun h29 => ?_) (fun h29 => ?_)
      · exact z_rVs dX12_minute_69 rfl ⟨by decide, by decide⟩
      · refine z_iload (pc := 70) 6 dX12_minute_70 rfl ?_
        refine z_iload (pc := 72) 8 dX12_minute_72 rfl ?_
        refine z_ic_le (pc := 74) (tgt := 85) dX12_minute_74 (by decide) (fun h30 => ?_) (fun h30 => ?_)
        · refine z_iconst (pc := 85) (v := (0 : Int32)) dX12_minute_85 (by decide) ?_
          refine z_lv (lv' := [(0, .ref 36), (1, .int x1), (5, .int x5), (7, .int (bI x7)), (8, .int (((481 : Int32) * x2) + x3))]) [2, 3, 7, 9, 1] rfl ?_
          exact z12_minute_J86 hd x1 x5 (bI x7) (((481 : Int32) * x2) + x3) (0 : Int32) (sF (sF σ 51 (((481 : Int32) * x2) + x3).toNatClampNeg (x4 + (fF σ 52 (((481 : Int32) * (x2 - (1 : Int32))) + x4).toNatClampNeg))) 53 (((481 : Int32) * x2) + x3).toNatClampNeg (fF (sF σ 51 (((481 : Int32) * x2) + x3).toNatClampNeg (x4 + (fF σ 52 (((481 : Int32) * (x2 - (1 : Int32))) + x4).toNatClampNeg))) 54 (((481 : Int32) * (x2 - (1 : Int32))) + x4).toNatClampNeg))
        · refine z_iload (pc := 77) 6 dX12_minute_77 rfl ?_
          refine z_iload (pc := 79) 8 dX12_minute_79 rfl ?_
          refine z_isub (pc := 81) dX12_minute_81 ?_
          refine z_goto (pc := 82) (tgt := 86) dX12_minute_82 (by decide) ?_
          refine z_lv (lv' := [(0, .ref 36), (1, .int x1), (5, .int x5), (7, .int (bI x7)), (8, .int (((481 : Int32) * x2) + x3))]) [2, 3, 7, 9, 1] rfl ?_
          exact z12_minute_J86 hd x1 x5 (bI x7) (((481 : Int32) * x2) + x3) (x4 - x6) (sF (sF σ 51 (((481 : Int32) * x2) + x3).toNatClampNeg (x4 + (fF σ 52 (((481 : Int32) * (x2 - (1 : Int32))) + x4).toNatClampNeg))) 53 (((481 : Int32) * x2) + x3).toNatClampNeg (fF (sF σ 51 (((481 : Int32) * x2) + x3).toNatClampNeg (x4 + (fF σ 52 (((481 : Int32) * (x2 - (1 : Int32))) + x4).toNatClampNeg))) 54 (((481 : Int32) * (x2 - (1 : Int32))) + x4).toNatClampNeg))
def f12_open_J184 (σ : am_S) (N : Nat) (x2 : Int32) (x3 : Int32) (x4 : Int32) (x5 : Int32) : Option Int32 := if x2 = 0 then (some (x3)) else (if x2 = (1 : Int32) then (some (x4)) else (some (x5)))
theorem z12_open_J184 {l : Launch} {E : am_E} {d : Nat} {N : Nat} {σ : am_S} (hd : 1 ≤ d) (x2 : Int32) (x3 : Int32) (x4 : Int32) (x5 : Int32) : Z l E msM σ YX12_open d 0 0 184 [(2, .int x2), (3, .int x3), (4, .int x4), (5, .int x5)] [] 0 0 σ (f12_open_J184 σ N x2 x3 x4 x5) (fun u r s => r = some (.int u) ∧ s = σ) := by
  unfold f12_open_J184
  refine z_iload_n (pc := 184) 0 dX12_open_184 rfl rfl ?_
  refine z_if_ne (pc := 185) (tgt := 192) dX12_open_185 (by decide) (fun h10 => ?_) (fun h10 => ?_)
  · refine z_iload_n (pc := 188) 1 dX12_open_188 rfl rfl ?_
    refine z_goto (pc := 189) (tgt := 204) dX12_open_189 (by decide) ?_
    exact z_rI dX12_open_204 rfl ⟨by decide, by decide⟩
  · refine z_iload_n (pc := 192) 0 dX12_open_192 rfl rfl ?_
    refine z_iconst (pc := 193) (v := (1 : Int32)) dX12_open_193 (by decide) ?_
    refine z_ic_ne (pc := 194) (tgt := 202) dX12_open_194 (by decide) (fun h11 => ?_) (fun h11 => ?_)
    · refine z_iload (pc := 197) 2 dX12_open_197 rfl ?_
      refine z_goto (pc := 199) (tgt := 204) dX12_open_199 (by decide) ?_
      exact z_rI dX12_open_204 rfl ⟨by decide, by decide⟩
    · refine z_iload (pc := 202) 3 dX12_open_202 rfl ?_
      exact z_rI dX12_open_204 rfl ⟨by decide, by decide⟩
def f12_open_J137 (k38 : Int32 → Int32 → Int32 → Int32 → Int32 → Int32 → Option Int32) (σ : am_S) (N : Nat) (x1 : Int32) (x2 : Int32) (x3 : Int32) (x4 : Int32) (x5 : Int32) (x6 : Int32) (x7 : Int32) (x8 : Int32) : Option Int32 := if x1 < x8 then (k38 x1 x2 x3 x4 x5 (x6 + (1 : Int32))) else (if x7 < x4 then (k38 x1 x2 x3 x4 x5 (x6 + (1 : Int32))) else (if x7 = x4 then (if x8 < x5 then (k38 x1 x2 x6 x7 x8 (x6 + (1 : Int32))) else (k38 x1 x2 x3 x4 x5 (x6 + (1 : Int32)))) else (k38 x1 x2 x6 x7 x8 (x6 + (1 : Int32)))))
theorem z12_open_J137 {l : Launch} {E : am_E} {d : Nat} {N : Nat} {σ : am_S} (hd : 1 ≤ d) {k38 : Int32 → Int32 → Int32 → Int32 → Int32 → Int32 → Option Int32} (hk38 : ∀ (x1 : Int32) (x2 : Int32) (x3 : Int32) (x4 : Int32) (x5 : Int32) (x6 : Int32), Z l E msM σ YX12_open d 0 0 38 [(0, .ref 36), (1, .int x1), (2, .int x2), (3, .int x3), (4, .int x4), (5, .int x5), (6, .int x6)] [] 0 0 σ (k38 x1 x2 x3 x4 x5 x6) (fun u r s => r = some (.int u) ∧ s = σ)) (x1 : Int32) (x2 : Int32) (x3 : Int32) (x4 : Int32) (x5 : Int32) (x6 : Int32) (x7 : Int32) (x8 : Int32) : Z l E msM σ YX12_open d 0 0 137 [(0, .ref 36), (1, .int x1), (2, .int x2), (3, .int x3), (4, .int x4), (5, .int x5), (6, .int x6), (7, .int x7), (8, .int x8)] [] 0 0 σ (f12_open_J137 k38 σ N x1 x2 x3 x4 x5 x6 x7 x8) (fun u r s => r = some (.int u) ∧ s = σ) := by
  unfold f12_open_J137
  refine z_iload (pc := 137) 8 dX12_open_137 rfl ?_
  refine z_iload_n (pc := 139) 1 dX12_open_139 rfl rfl ?_
  refine z_ic_gt (pc := 140) (tgt := 178) dX12_open_140 (by decide) (fun h13 => ?_) (fun h13 => ?_)
  · refine z_iinc (pc := 178) (v := x6 + (1 : Int32)) (lv' := [(6, .int (x6 + (1 : Int32))), (0, .ref 36), (1, .int x1), (2, .int x2), (3, .int x3), (4, .int x4), (5, .int x5), (7, .int x7), (8, .int x8)]) 6 dX12_open_178 rfl rfl (by decide) rfl ?_
    refine z_goto (pc := 181) (tgt := 38) dX12_open_181 (by decide) ?_
    refine z_lv (lv' := [(0, .ref 36), (1, .int x1), (2, .int x2), (3, .int x3), (4, .int x4), (5, .int x5), (6, .int (x6 + (1 : Int32)))]) [1, 2, 3, 4, 5, 6, 0] rfl ?_
    exact hk38 x1 x2 x3 x4 x5 (x6 + (1 : Int32))
  · refine z_iload (pc := 143) 7 dX12_open_143 rfl ?_
    refine z_iload (pc := 145) 4 dX12_open_145 rfl ?_
    refine z_ic_lt (pc := 147) (tgt := 178) dX12_open_147 (by decide) (fun h14 => ?_) (fun h14 => ?_)
    · refine z_iinc (pc := 178) (v := x6 + (1 : Int32)) (lv' := [(6, .int (x6 + (1 : Int32))), (0, .ref 36), (1, .int x1), (2, .int x2), (3, .int x3), (4, .int x4), (5, .int x5), (7, .int x7), (8, .int x8)]) 6 dX12_open_178 rfl rfl (by decide) rfl ?_
      refine z_goto (pc := 181) (tgt := 38) dX12_open_181 (by decide) ?_
      refine z_lv (lv' := [(0, .ref 36), (1, .int x1), (2, .int x2), (3, .int x3), (4, .int x4), (5, .int x5), (6, .int (x6 + (1 : Int32)))]) [1, 2, 3, 4, 5, 6, 0] rfl ?_
      exact hk38 x1 x2 x3 x4 x5 (x6 + (1 : Int32))
    · refine z_iload (pc := 150) 7 dX12_open_150 rfl ?_
      refine z_iload (pc := 152) 4 dX12_open_152 rfl ?_
      refine z_ic_ne (pc := 154) (tgt := 167) dX12_open_154 (by decide) (fun h15 => ?_) (fun h15 => ?_)
      · refine z_iload (pc := 157) 8 dX12_open_157 rfl ?_
        refine z_iload (pc := 159) 5 dX12_open_159 rfl ?_
        refine z_ic_lt (pc := 161) (tgt := 167) dX12_open_161 (by decide) (fun h16 => ?_) (fun h16 => ?_)
        · refine z_iload (pc := 167) 6 dX12_open_167 rfl ?_
          refine z_istore_n (pc := 169) (lv' := [(3, .int x6), (0, .ref 36), (1, .int x1), (2, .int x2), (4, .int x4), (5, .int x5), (6, .int x6), (7, .int x7), (8, .int x8)]) dX12_open_169 rfl (by decide) rfl ?_
          refine z_iload (pc := 170) 7 dX12_open_170 rfl ?_
          refine z_istore (pc := 172) (lv' := [(4, .int x7), (3, .int x6), (0, .ref 36), (1, .int x1), (2, .int x2), (5, .int x5), (6, .int x6), (7, .int x7), (8, .int x8)]) dX12_open_172 (by decide) rfl ?_
          refine z_iload (pc := 174) 8 dX12_open_174 rfl ?_
          refine z_istore (pc := 176) (lv' := [(5, .int x8), (4, .int x7), (3, .int x6), (0, .ref 36), (1, .int x1), (2, .int x2), (6, .int x6), (7, .int x7), (8, .int x8)]) dX12_open_176 (by decide) rfl ?_
          refine z_iinc (pc := 178) (v := x6 + (1 : Int32)) (lv' := [(6, .int (x6 + (1 : Int32))), (5, .int x8), (4, .int x7), (3, .int x6), (0, .ref 36), (1, .int x1), (2, .int x2), (7, .int x7), (8, .int x8)]) 6 dX12_open_178 rfl rfl (by decide) rfl ?_
          refine z_goto (pc := 181) (tgt := 38) dX12_open_181 (by decide) ?_
          refine z_lv (lv' := [(0, .ref 36), (1, .int x1), (2, .int x2), (3, .int x6), (4, .int x7), (5, .int x8), (6, .int (x6 + (1 : Int32)))]) [4, 5, 6, 3, 2, 1, 0] rfl ?_
          exact hk38 x1 x2 x6 x7 x8 (x6 + (1 : Int32))
        · refine z_goto (pc := 164) (tgt := 178) dX12_open_164 (by decide) ?_
          refine z_iinc (pc := 178) (v := x6 + (1 : Int32)) (lv' := [(6, .int (x6 + (1 : Int32))), (0, .ref 36), (1, .int x1), (2, .int x2), (3, .int x3), (4, .int x4), (5, .int x5), (7, .int x7), (8, .int x8)]) 6 dX12_open_178 rfl rfl (by decide) rfl ?_
          refine z_goto (pc := 181) (tgt := 38) dX12_open_181 (by decide) ?_
          refine z_lv (lv' := [(0, .ref 36), (1, .int x1), (2, .int x2), (3, .int x3), (4, .int x4), (5, .int x5), (6, .int (x6 + (1 : Int32)))]) [1, 2, 3, 4, 5, 6, 0] rfl ?_
          exact hk38 x1 x2 x3 x4 x5 (x6 + (1 : Int32))
      · refine z_iload (pc := 167) 6 dX12_open_167 rfl ?_
        refine z_istore_n (pc := 169) (lv' := [(3, .int x6), (0, .ref 36), (1, .int x1), (2, .int x2), (4, .int x4), (5, .int x5), (6, .int x6), (7, .int x7), (8, .int x8)]) dX12_open_169 rfl (by decide) rfl ?_
        refine z_iload (pc := 170) 7 dX12_open_170 rfl ?_
        refine z_istore (pc := 172) (lv' := [(4, .int x7), (3, .int x6), (0, .ref 36), (1, .int x1), (2, .int x2), (5, .int x5), (6, .int x6), (7, .int x7), (8, .int x8)]) dX12_open_172 (by decide) rfl ?_
        refine z_iload (pc := 174) 8 dX12_open_174 rfl ?_
        refine z_istore (pc := 176) (lv' := [(5, .int x8), (4, .int x7), (3, .int x6), (0, .ref 36), (1, .int x1), (2, .int x2), (6, .int x6), (7, .int x7), (8, .int x8)]) dX12_open_176 (by decide) rfl ?_
        refine z_iinc (pc := 178) (v := x6 + (1 : Int32)) (lv' := [(6, .int (x6 + (1 : Int32))), (5, .int x8), (4, .int x7), (3, .int x6), (0, .ref 36), (1, .int x1), (2, .int x2), (7, .int x7), (8, .int x8)]) 6 dX12_open_178 rfl rfl (by decide) rfl ?_
        refine z_goto (pc := 181) (tgt := 38) dX12_open_181 (by decide) ?_
        refine z_lv (lv' := [(0, .ref 36), (1, .int x1), (2, .int x2), (3, .int x6), (4, .int x7), (5, .int x8), (6, .int (x6 + (1 : Int32)))]) [4, 5, 6, 3, 2, 1, 0] rfl ?_
        exact hk38 x1 x2 x6 x7 x8 (x6 + (1 : Int32))
def f12_open_L58 (k38 : Int32 → Int32 → Int32 → Int32 → Int32 → Int32 → Option Int32) (σ : am_S) (N : Nat) : Nat → Int32 → Int32 → Int32 → Int32 → Int32 → Int32 → Int32 → Int32 → Int32 → Option Int32
  | 0, _, _, _, _, _, _, _, _, _ => none
  | n + 1, x1, x2, x3, x4, x5, x6, x7, x8, x9 => if fF σ 36 11 ≤ x9 then (f12_open_J137 k38 σ N x1 x2 x3 x4 x5 x6 x7 x8) else (if (x6 >>> (x9 &&& 31)) &&& (1 : Int32) = (1 : Int32) then (if am_in x9 7 = true then (if (x6 >>> (x9 &&& 31)) &&& (1 : Int32) = (1 : Int32) then (if am_in x9 7 = true then (if fF σ 40 x9.toNatClampNeg ≤ (30 : Int32) then (f12_open_L58 k38 σ N n x1 x2 x3 x4 x5 x6 (x7 + (fF σ 43 x9.toNatClampNeg)) (x8 + (2 : Int32)) (x9 + (1 : Int32))) else (f12_open_L58 k38 σ N n x1 x2 x3 x4 x5 x6 (x7 + (fF σ 43 x9.toNatClampNeg)) (x8 + (3 : Int32)) (x9 + (1 : Int32)))) else none) else (f12_open_L58 k38 σ N n x1 x2 x3 x4 x5 x6 (x7 + (fF σ 43 x9.toNatClampNeg)) (x8 + (0 : Int32)) (x9 + (1 : Int32)))) else none) else (if (x6 >>> (x9 &&& 31)) &&& (1 : Int32) = (1 : Int32) then (if am_in x9 7 = true then (if fF σ 40 x9.toNatClampNeg ≤ (30 : Int32) then (f12_open_L58 k38 σ N n x1 x2 x3 x4 x5 x6 (x7 + (0 : Int32)) (x8 + (2 : Int32)) (x9 + (1 : Int32))) else (f12_open_L58 k38 σ N n x1 x2 x3 x4 x5 x6 (x7 + (0 : Int32)) (x8 + (3 : Int32)) (x9 + (1 : Int32)))) else none) else (f12_open_L58 k38 σ N n x1 x2 x3 x4 x5 x6 (x7 + (0 : Int32)) (x8 + (0 : Int32)) (x9 + (1 : Int32)))))
theorem z12_open_L58 {l : Launch} {E : am_E} {d : Nat} {N : Nat} {σ : am_S} (hd : 1 ≤ d) {k38 : Int32 → Int32 → Int32 → Int32 → Int32 → Int32 → Option Int32} (hk38 : ∀ (x1 : Int32) (x2 : Int32) (x3 : Int32) (x4 : Int32) (x5 : Int32) (x6 : Int32), Z l E msM σ YX12_open d 0 0 38 [(0, .ref 36), (1, .int x1), (2, .int x2), (3, .int x3), (4, .int x4), (5, .int x5), (6, .int x6)] [] 0 0 σ (k38 x1 x2 x3 x4 x5 x6) (fun u r s => r = some (.int u) ∧ s = σ)) : ∀ (n : Nat) (x1 : Int32) (x2 : Int32) (x3 : Int32) (x4 : Int32) (x5 : Int32) (x6 : Int32) (x7 : Int32) (x8 : Int32) (x9 : Int32), Z l E msM σ YX12_open d 0 0 58 [(0, .ref 36), (1, .int x1), (2, .int x2), (3, .int x3), (4, .int x4), (5, .int x5), (6, .int x6), (7, .int x7), (8, .int x8), (9, .int x9)] [] 0 0 σ (f12_open_L58 k38 σ N n x1 x2 x3 x4 x5 x6 x7 x8 x9) (fun u r s => r = some (.int u) ∧ s = σ) := by
  intro n
  induction n with
  | zero => intros; exact z_none
  | succ n ih =>
    intro x1 x2 x3 x4 x5 x6 x7 x8 x9
    unfold f12_open_L58
    refine z_iload (pc := 58) 9 dX12_open_58 rfl ?_
    refine z_aload_n (pc := 60) 0 dX12_open_60 rfl rfl ?_
    refine z_getI (pc := 61) dX12_open_61 (am_ob.s kM36) fr_RX12_131_12 (by decide) ?_
    refine z_ic_ge (pc := 64) (tgt := 137) dX12_open_64 (by decide) (fun h12 => ?_) (fun h12 => ?_)
    · refine z_lv (lv' := [(0, .ref 36), (1, .int x1), (2, .int x2), (3, .int x3), (4, .int x4), (5, .int x5), (6, .int x6), (7, .int x7), (8, .int x8)]) [0, 1, 2, 3, 4, 5, 6, 7, 8] rfl ?_
      exact z12_open_J137 hd hk38 x1 x2 x3 x4 x5 x6 x7 x8
    · refine z_iload (pc := 67) 7 dX12_open_67 rfl ?_
      refine z_iload (pc := 69) 6 dX12_open_69 rfl ?_
      refine z_iload (pc := 71) 9 dX12_open_71 rfl ?_
      refine z_ishr (pc := 73) dX12_open_73 ?_
      refine z_iconst (pc := 74) (v := (1 : Int32)) dX12_open_74 (by decide) ?_
      refine z_iand (pc := 75) dX12_open_75 ?_
      refine z_iconst (pc := 76) (v := (1 : Int32)) dX12_open_76 (by decide) ?_
      refine z_ic_ne (pc := 77) (tgt := 90) dX12_open_77 (by decide) (fun h17 => ?_) (fun h17 => ?_)
      · refine z_aload_n (pc := 80) 0 dX12_open_80 rfl rfl ?_
        refine z_getQ (pc := 81) (b := 43) dX12_open_81 kM36 fr_RX12_32_12 (by decide) rfl ?_
        refine z_iload (pc := 84) 9 dX12_open_84 rfl ?_
        refine z_iald (pc := 86) dX12_open_86 (am_ar.s kM43) (fun h18 => ?_)
        refine z_goto (pc := 87) (tgt := 91) dX12_open_87 (by decide) ?_
        refine z_iadd (pc := 91) dX12_open_91 ?_
        refine z_istore (pc := 92) (lv' := [(7, .int (x7 + (fF σ 43 x9.toNatClampNeg))), (0, .ref 36), (1, .int x1), (2, .int x2), (3, .int x3), (4, .int x4), (5, .int x5), (6, .int x6), (8, .int x8), (9, .int x9)]) dX12_open_92 (by decide) rfl ?_
        refine z_iload (pc := 94) 8 dX12_open_94 rfl ?_
        refine z_iload (pc := 96) 7 dX12_open_96 rfl ?_
        refine z_iload (pc := 98) 9 dX12_open_98 rfl ?_
        refine z_ishr (pc := 100) dX12_open_100 ?_
        refine z_iconst (pc := 101) (v := (1 : Int32)) dX12_open_101 (by decide) ?_
        refine z_iand (pc := 102) dX12_open_102 ?_
        refine z_iconst (pc := 103) (v := (1 : Int32)) dX12_open_103 (by decide) ?_
        refine z_ic_ne (pc := 104) (tgt := 127) dX12_open_104 (by decide) (fun h19 => ?_) (fun h19 => ?_)
        · refine z_aload_n (pc := 107) 1 dX12_open_107 rfl rfl ?_
          refine z_getQ (pc := 108) (b := 40) dX12_open_108 kM36 fr_RX12_23_12 (by decide) rfl ?_
          refine z_iload (pc := 111) 9 dX12_open_111 rfl ?_
          refine z_iald (pc := 113) dX12_open_113 (am_ar.s kM40) (fun h20 => ?_)
          refine z_bipush (pc := 114) (v := (30 : Int32)) dX12_open_114 (by decide) ?_
          refine z_ic_le (pc := 116) (tgt := 123) dX12_open_116 (by decide) (fun h21 => ?_) (fun h21 => ?_)
          · refine z_iconst (pc := 123) (v := (2 : Int32)) dX12_open_123 (by decide) ?_
            refine z_goto (pc := 124) (tgt := 128) dX12_open_124 (by decide) ?_
            refine z_iadd (pc := 128) dX12_open_128 ?_
            refine z_istore (pc := 129) (lv' := [(8, .int (x8 + (2 : Int32))), (7, .int (x7 + (fF σ 43 x9.toNatClampNeg))), (0, .ref 36), (1, .int x1), (2, .int x2), (3, .int x3), (4, .int x4), (5, .int x5), (6, .int x6), (9, .int x9)]) dX12_open_129 (by decide) rfl ?_
            refine z_iinc (pc := 131) (v := x9 + (1 : Int32)) (lv' := [(9, .int (x9 + (1 : Int32))), (8, .int (x8 + (2 : Int32))), (7, .int (x7 + (fF σ 43 x9.toNatClampNeg))), (0, .ref 36), (1, .int x1), (2, .int x2), (3, .int x3), (4, .int x4), (5, .int x5), (6, .int x6)]) 9 dX12_open_131 rfl rfl (by decide) rfl ?_
            refine z_goto (pc := 134) (tgt := 58) dX12_open_134 (by decide) ?_
            refine z_lv (lv' := [(0, .ref 36), (1, .int x1), (2, .int x2), (3, .int x3), (4, .int x4), (5, .int x5), (6, .int x6), (7, .int (x7 + (fF σ 43 x9.toNatClampNeg))), (8, .int (x8 + (2 : Int32))), (9, .int (x9 + (1 : Int32)))]) [3, 4, 5, 6, 7, 8, 9, 2, 1, 0] rfl ?_
            exact ih x1 x2 x3 x4 x5 x6 (x7 + (fF σ 43 x9.toNatClampNeg)) (x8 + (2 : Int32)) (x9 + (1 : Int32))
          · refine z_iconst (pc := 119) (v := (3 : Int32)) dX12_open_119 (by decide) ?_
            refine z_goto (pc := 120) (tgt := 128) dX12_open_120 (by decide) ?_
            refine z_iadd (pc := 128) dX12_open_128 ?_
            refine z_istore (pc := 129) (lv' := [(8, .int (x8 + (3 : Int32))), (7, .int (x7 + (fF σ 43 x9.toNatClampNeg))), (0, .ref 36), (1, .int x1), (2, .int x2), (3, .int x3), (4, .int x4), (5, .int x5), (6, .int x6), (9, .int x9)]) dX12_open_129 (by decide) rfl ?_
            refine z_iinc (pc := 131) (v := x9 + (1 : Int32)) (lv' := [(9, .int (x9 + (1 : Int32))), (8, .int (x8 + (3 : Int32))), (7, .int (x7 + (fF σ 43 x9.toNatClampNeg))), (0, .ref 36), (1, .int x1), (2, .int x2), (3, .int x3), (4, .int x4), (5, .int x5), (6, .int x6)]) 9 dX12_open_131 rfl rfl (by decide) rfl ?_
            refine z_goto (pc := 134) (tgt := 58) dX12_open_134 (by decide) ?_
            refine z_lv (lv' := [(0, .ref 36), (1, .int x1), (2, .int x2), (3, .int x3), (4, .int x4), (5, .int x5), (6, .int x6), (7, .int (x7 + (fF σ 43 x9.toNatClampNeg))), (8, .int (x8 + (3 : Int32))), (9, .int (x9 + (1 : Int32)))]) [3, 4, 5, 6, 7, 8, 9, 2, 1, 0] rfl ?_
            exact ih x1 x2 x3 x4 x5 x6 (x7 + (fF σ 43 x9.toNatClampNeg)) (x8 + (3 : Int32)) (x9 + (1 : Int32))
        · refine z_iconst (pc := 127) (v := (0 : Int32)) dX12_open_127 (by decide) ?_
          refine z_iadd (pc := 128) dX12_open_128 ?_
          refine z_istore (pc := 129) (lv' := [(8, .int (x8 + (0 : Int32))), (7, .int (x7 + (fF σ 43 x9.toNatClampNeg))), (0, .ref 36), (1, .int x1), (2, .int x2), (3, .int x3), (4, .int x4), (5, .int x5), (6, .int x6), (9, .int x9)]) dX12_open_129 (by decide) rfl ?_
          refine z_iinc (pc := 131) (v := x9 + (1 : Int32)) (lv' := [(9, .int (x9 + (1 : Int32))), (8, .int (x8 + (0 : Int32))), (7, .int (x7 + (fF σ 43 x9.toNatClampNeg))), (0, .ref 36), (1, .int x1), (2, .int x2), (3, .int x3), (4, .int x4), (5, .int x5), (6, .int x6)]) 9 dX12_open_131 rfl rfl (by decide) rfl ?_
          refine z_goto (pc := 134) (tgt := 58) dX12_open_134 (by decide) ?_
          refine z_lv (lv' := [(0, .ref 36), (1, .int x1), (2, .int x2), (3, .int x3), (4, .int x4), (5, .int x5), (6, .int x6), (7, .int (x7 + (fF σ 43 x9.toNatClampNeg))), (8, .int (x8 + (0 : Int32))), (9, .int (x9 + (1 : Int32)))]) [3, 4, 5, 6, 7, 8, 9, 2, 1, 0] rfl ?_
          exact ih x1 x2 x3 x4 x5 x6 (x7 + (fF σ 43 x9.toNatClampNeg)) (x8 + (0 : Int32)) (x9 + (1 : Int32))
      · refine z_iconst (pc := 90) (v := (0 : Int32)) dX12_open_90 (by decide) ?_
        refine z_iadd (pc := 91) dX12_open_91 ?_
        refine z_istore (pc := 92) (lv' := [(7, .int (x7 + (0 : Int32))), (0, .ref 36), (1, .int x1), (2, .int x2), (3, .int x3), (4, .int x4), (5, .int x5), (6, .int x6), (8, .int x8), (9, .int x9)]) dX12_open_92 (by decide) rfl ?_
        refine z_iload (pc := 94) 8 dX12_open_94 rfl ?_
        refine z_iload (pc := 96) 7 dX12_open_96 rfl ?_
        refine z_iload (pc := 98) 9 dX12_open_98 rfl ?_
        refine z_ishr (pc := 100) dX12_open_100 ?_
        refine z_iconst (pc := 101) (v := (1 : Int32)) dX12_open_101 (by decide) ?_
        refine z_iand (pc := 102) dX12_open_102 ?_
        refine z_iconst (pc := 103) (v := (1 : Int32)) dX12_open_103 (by decide) ?_
        refine z_ic_ne (pc := 104) (tgt := 127) dX12_open_104 (by decide) (fun h22 => ?_) (fun h22 => ?_)
        · refine z_aload_n (pc := 107) 1 dX12_open_107 rfl rfl ?_
          refine z_getQ (pc := 108) (b := 40) dX12_open_108 kM36 fr_RX12_23_12 (by decide) rfl ?_
          refine z_iload (pc := 111) 9 dX12_open_111 rfl ?_
          refine z_iald (pc := 113) dX12_open_113 (am_ar.s kM40) (fun h23 => ?_)
          refine z_bipush (pc := 114) (v := (30 : Int32)) dX12_open_114 (by decide) ?_
          refine z_ic_le (pc := 116) (tgt := 123) dX12_open_116 (by decide) (fun h24 => ?_) (fun h24 => ?_)
          · refine z_iconst (pc := 123) (v := (2 : Int32)) dX12_open_123 (by decide) ?_
            refine z_goto (pc := 124) (tgt := 128) dX12_open_124 (by decide) ?_
            refine z_iadd (pc := 128) dX12_open_128 ?_
            refine z_istore (pc := 129) (lv' := [(8, .int (x8 + (2 : Int32))), (7, .int (x7 + (0 : Int32))), (0, .ref 36), (1, .int x1), (2, .int x2), (3, .int x3), (4, .int x4), (5, .int x5), (6, .int x6), (9, .int x9)]) dX12_open_129 (by decide) rfl ?_
            refine z_iinc (pc := 131) (v := x9 + (1 : Int32)) (lv' := [(9, .int (x9 + (1 : Int32))), (8, .int (x8 + (2 : Int32))), (7, .int (x7 + (0 : Int32))), (0, .ref 36), (1, .int x1), (2, .int x2), (3, .int x3), (4, .int x4), (5, .int x5), (6, .int x6)]) 9 dX12_open_131 rfl rfl (by decide) rfl ?_
            refine z_goto (pc := 134) (tgt := 58) dX12_open_134 (by decide) ?_
            refine z_lv (lv' := [(0, .ref 36), (1, .int x1), (2, .int x2), (3, .int x3), (4, .int x4), (5, .int x5), (6, .int x6), (7, .int (x7 + (0 : Int32))), (8, .int (x8 + (2 : Int32))), (9, .int (x9 + (1 : Int32)))]) [3, 4, 5, 6, 7, 8, 9, 2, 1, 0] rfl ?_
            exact ih x1 x2 x3 x4 x5 x6 (x7 + (0 : Int32)) (x8 + (2 : Int32)) (x9 + (1 : Int32))
          · refine z_iconst (pc := 119) (v := (3 : Int32)) dX12_open_119 (by decide) ?_
            refine z_goto (pc := 120) (tgt := 128) dX12_open_120 (by decide) ?_
            refine z_iadd (pc := 128) dX12_open_128 ?_
            refine z_istore (pc := 129) (lv' := [(8, .int (x8 + (3 : Int32))), (7, .int (x7 + (0 : Int32))), (0, .ref 36), (1, .int x1), (2, .int x2), (3, .int x3), (4, .int x4), (5, .int x5), (6, .int x6), (9, .int x9)]) dX12_open_129 (by decide) rfl ?_
            refine z_iinc (pc := 131) (v := x9 + (1 : Int32)) (lv' := [(9, .int (x9 + (1 : Int32))), (8, .int (x8 + (3 : Int32))), (7, .int (x7 + (0 : Int32))), (0, .ref 36), (1, .int x1), (2, .int x2), (3, .int x3), (4, .int x4), (5, .int x5), (6, .int x6)]) 9 dX12_open_131 rfl rfl (by decide) rfl ?_
            refine z_goto (pc := 134) (tgt := 58) dX12_open_134 (by decide) ?_
            refine z_lv (lv' := [(0, .ref 36), (1, .int x1), (2, .int x2), (3, .int x3), (4, .int x4), (5, .int x5), (6, .int x6), (7, .int (x7 + (0 : Int32))), (8, .int (x8 + (3 : Int32))), (9, .int (x9 + (1 : Int32)))]) [3, 4, 5, 6, 7, 8, 9, 2, 1, 0] rfl ?_
            exact ih x1 x2 x3 x4 x5 x6 (x7 + (0 : Int32)) (x8 + (3 : Int32)) (x9 + (1 : Int32))
        · refine z_iconst (pc := 127) (v := (0 : Int32)) dX12_open_127 (by decide) ?_
          refine z_iadd (pc := 128) dX12_open_128 ?_
          refine z_istore (pc := 129) (lv' := [(8, .int (x8 + (0 : Int32))), (7, .int (x7 + (0 : Int32))), (0, .ref 36), (1, .int x1), (2, .int x2), (3, .int x3), (4, .int x4), (5, .int x5), (6, .int x6), (9, .int x9)]) dX12_open_129 (by decide) rfl ?_
          refine z_iinc (pc := 131) (v := x9 + (1 : Int32)) (lv' := [(9, .int (x9 + (1 : Int32))), (8, .int (x8 + (0 : Int32))), (7, .int (x7 + (0 : Int32))), (0, .ref 36), (1, .int x1), (2, .int x2), (3, .int x3), (4, .int x4), (5, .int x5), (6, .int x6)]) 9 dX12_open_131 rfl rfl (by decide) rfl ?_
          refine z_goto (pc := 134) (tgt := 58) dX12_open_134 (by decide) ?_
          refine z_lv (lv' := [(0, .ref 36), (1, .int x1), (2, .int x2), (3, .int x3), (4, .int x4), (5, .int x5), (6, .int x6), (7, .int (x7 + (0 : Int32))), (8, .int (x8 + (0 : Int32))), (9, .int (x9 + (1 : Int32)))]) [3, 4, 5, 6, 7, 8, 9, 2, 1, 0] rfl ?_
          exact ih x1 x2 x3 x4 x5 x6 (x7 + (0 : Int32)) (x8 + (0 : Int32)) (x9 + (1 : Int32))
def f12_open_L38 (σ : am_S) (N : Nat) : Nat → Int32 → Int32 → Int32 → Int32 → Int32 → Int32 → Option Int32
  | 0, _, _, _, _, _, _ => none
  | n + 1, x1, x2, x3, x4, x5, x6 => if (1 : Int32) <<< ((fF σ 36 11) &&& 31) ≤ x6 then (f12_open_J184 σ N x2 x3 x4 x5) else (f12_open_L58 (f12_open_L38 σ N n) σ N N x1 x2 x3 x4 x5 x6 (0 : Int32) (0 : Int32) (0 : Int32))
theorem z12_open_L38 {l : Launch} {E : am_E} {d : Nat} {N : Nat} {σ : am_S} (hd : 1 ≤ d) : ∀ (n : Nat) (x1 : Int32) (x2 : Int32) (x3 : Int32) (x4 : Int32) (x5 : Int32) (x6 : Int32), Z l E msM σ YX12_open d 0 0 38 [(0, .ref 36), (1, .int x1), (2, .int x2), (3, .int x3), (4, .int x4), (5, .int x5), (6, .int x6)] [] 0 0 σ (f12_open_L38 σ N n x1 x2 x3 x4 x5 x6) (fun u r s => r = some (.int u) ∧ s = σ) := by
  intro n
  induction n with
  | zero => intros; exact z_none
  | succ n ih =>
    intro x1 x2 x3 x4 x5 x6
    unfold f12_open_L38
    refine z_iload (pc := 38) 6 dX12_open_38 rfl ?_
    refine z_iconst (pc := 40) (v := (1 : Int32)) dX12_open_40 (by decide) ?_
    refine z_aload_n (pc := 41) 0 dX12_open_41 rfl rfl ?_
    refine z_getI (pc := 42) dX12_open_42 (am_ob.s kM36) fr_RX12_131_12 (by decide) ?_
    refine z_ishl (pc := 45) dX12_open_45 ?_
    refine z_ic_ge (pc := 46) (tgt := 184) dX12_open_46 (by decide) (fun h9 => ?_) (fun h9 => ?_)
    · refine z_lv (lv' := [(2, .int x2), (3, .int x3), (4, .int x4), (5, .int x5)]) [2, 3, 4, 5] rfl ?_
      exact z12_open_J184 hd x2 x3 x4 x5
    · refine z_iconst (pc := 49) (v := (0 : Int32)) dX12_open_49 (by decide) ?_
      refine z_istore (pc := 50) (lv' := [(7, .int (0 : Int32)), (0, .ref 36), (1, .int x1), (2, .int x2), (3, .int x3), (4, .int x4), (5, .int x5), (6, .int x6)]) dX12_open_50 (by decide) rfl ?_
      refine z_iconst (pc := 52) (v := (0 : Int32)) dX12_open_52 (by decide) ?_
      refine z_istore (pc := 53) (lv' := [(8, .int (0 : Int32)), (7, .int (0 : Int32)), (0, .ref 36), (1, .int x1), (2, .int x2), (3, .int x3), (4, .int x4), (5, .int x5), (6, .int x6)]) dX12_open_53 (by decide) rfl ?_
      refine z_iconst (pc := 55) (v := (0 : Int32)) dX12_open_55 (by decide) ?_
      refine z_istore (pc := 56) (lv' := [(9, .int (0 : Int32)), (8, .int (0 : Int32)), (7, .int (0 : Int32)), (0, .ref 36), (1, .int x1), (2, .int x2), (3, .int x3), (4, .int x4), (5, .int x5), (6, .int x6)]) dX12_open_56 (by decide) rfl ?_
      refine z_lv (lv' := [(0, .ref 36), (1, .int x1), (2, .int x2), (3, .int x3), (4, .int x4), (5, .int x5), (6, .int x6), (7, .int (0 : Int32)), (8, .int (0 : Int32)), (9, .int (0 : Int32))]) [3, 4, 5, 6, 7, 8, 9, 2, 1, 0] rfl ?_
      exact z12_open_L58 hd (fun x1 x2 x3 x4 x5 x6 => ih x1 x2 x3 x4 x5 x6) N x1 x2 x3 x4 x5 x6 (0 : Int32) (0 : Int32) (0 : Int32)
def f12_open (N : Nat) (σ : am_S) (x1 : Int32) (x2 : Int32) : Option Int32 := (f12_in x1.toInt64 (0 : Int64) (42 : Int64)).bind fun v1 => (if v1 = true then ((f12_in x2.toInt64 (0 : Int64) (2 : Int64)).bind fun v5 => (if v5 = true then (f12_open_L38 σ N N x1 x2 (0 : Int32) (-1 : Int32) (0 : Int32) (0 : Int32)) else (some ((-2 : Int32))))) else (some ((-2 : Int32))))
theorem c12_open {l : Launch} {E : am_E} {N : Nat} {σ : am_S} {x1 : Int32} {x2 : Int32} {v : Int32} (hf : f12_open N σ x1 x2 = some v) : Ctr l E msM YX12_open (1) 0 0 [.ref 36, .int x1, .int x2] σ (some (.int v)) σ := by
  refine ctr_of (G := fun u r s => r = some (.int u) ∧ s = σ) (by decide +kernel) (Nat.le_of_ble_eq_true rfl) hf ⟨rfl, rfl⟩ (fun d hd => ?_)
  refine z_eqlv (lv' := [(0, .ref 36), (1, .int x1), (2, .int x2)]) rfl ?_
  unfold f12_open
  refine z_iload_n (pc := 0) 1 dX12_open_0 rfl rfl ?_
  refine z_i2l (pc := 1) dX12_open_1 ?_
  refine z_lconst (pc := 2) (v := (0 : Int64)) dX12_open_2 (by decide) ?_
  refine z_ldc2 (pc := 3) (v := (42 : Int64)) dX12_open_3 kl_RX12_379 ?_
  refine z_callB (pc := 6) [.long x1.toInt64, .long (0 : Int64), .long (42 : Int64)] [] rfl (lk_S (Yc := YX12_in) (n := 3) dX12_open_6 rfl np_X12_in mh_RX12 (by decide) ml_RX12_134 st_X12_in in_RX12 cd_X12_in) (Nat.le_trans (by decide) hd) ⟨by decide, by decide⟩ (Nat.le_of_ble_eq_true rfl) (am_kp.rf _) (fun v1 h3 => c12_in h3) (fun v1 h3 => ?_)
  refine z_bz_eq (pc := 9) (tgt := 24) dX12_open_9 (by decide) (fun h4 => ?_) (fun h4 => ?_)
  · refine z_iload_n (pc := 12) 2 dX12_open_12 rfl rfl ?_
    refine z_i2l (pc := 13) dX12_open_13 ?_
    refine z_lconst (pc := 14) (v := (0 : Int64)) dX12_open_14 (by decide) ?_
    refine z_ldc2 (pc := 15) (v := (2 : Int64)) dX12_open_15 kl_RX12_381 ?_
    refine z_callB (pc := 18) [.long x2.toInt64, .long (0 : Int64), .long (2 : Int64)] [] rfl (lk_S (Yc := YX12_in) (n := 3) dX12_open_18 rfl np_X12_in mh_RX12 (by decide) ml_RX12_134 st_X12_in in_RX12 cd_X12_in) (Nat.le_trans (by decide) hd) ⟨by decide, by decide⟩ (Nat.le_of_ble_eq_true rfl) (am_kp.rf _) (fun v5 h7 => c12_in h7) (fun v5 h7 => ?_)
    refine z_bz_ne (pc := 21) (tgt := 27) dX12_open_21 (by decide) (fun h8 => ?_) (fun h8 => ?_)
    · refine z_iconst (pc := 27) (v := (0 : Int32)) dX12_open_27 (by decide) ?_
      refine z_istore_n (pc := 28) (lv' := [(3, .int (0 : Int32)), (0, .ref 36), (1, .int x1), (2, .int x2)]) dX12_open_28 rfl (by decide) rfl ?_
      refine z_iconst (pc := 29) (v := (-1 : Int32)) dX12_open_29 (by decide) ?_
      refine z_istore (pc := 30) (lv' := [(4, .int (-1 : Int32)), (3, .int (0 : Int32)), (0, .ref 36), (1, .int x1), (2, .int x2)]) dX12_open_30 (by decide) rfl ?_
      refine z_iconst (pc := 32) (v := (0 : Int32)) dX12_open_32 (by decide) ?_
      refine z_istore (pc := 33) (lv' := [(5, .int (0 : Int32)), (4, .int (-1 : Int32)), (3, .int (0 : Int32)), (0, .ref 36), (1, .int x1), (2, .int x2)]) dX12_open_33 (by decide) rfl ?_
      refine z_iconst (pc := 35) (v := (0 : Int32)) dX12_open_35 (by decide) ?_
      refine z_istore (pc := 36) (lv' := [(6, .int (0 : Int32)), (5, .int (0 : Int32)), (4, .int (-1 : Int32)), (3, .int (0 : Int32)), (0, .ref 36), (1, .int x1), (2, .int x2)]) dX12_open_36 (by decide) rfl ?_
      refine z_lv (lv' := [(0, .ref 36), (1, .int x1), (2, .int x2), (3, .int (0 : Int32)), (4, .int (-1 : Int32)), (5, .int (0 : Int32)), (6, .int (0 : Int32))]) [4, 5, 6, 3, 2, 1, 0] rfl ?_
      exact z12_open_L38 hd N x1 x2 (0 : Int32) (-1 : Int32) (0 : Int32) (0 : Int32)
    · refine z_bipush (pc := 24) (v := (-2 : Int32)) dX12_open_24 (by decide) ?_
      exact z_rI dX12_open_26 rfl ⟨by decide, by decide⟩
  · refine z_bipush (pc := 24) (v := (-2 : Int32)) dX12_open_24 (by decide) ?_
    exact z_rI dX12_open_26 rfl ⟨by decide, by decide⟩
def f12_over (x0 : Int32) : Option Int32 := if x0 = 0 then (some ((-1 : Int32))) else (if x0 = (3 : Int32) then (some ((1 : Int32))) else (if x0 = (5 : Int32) then (some ((2 : Int32))) else (some ((0 : Int32)))))
theorem c12_over {l : Launch} {E : am_E} {σ : am_S} {x0 : Int32} {v : Int32} (hf : f12_over x0 = some v) : Ctr l E msM YX12_over (0) 0 0 [.int x0] σ (some (.int v)) σ := by
  refine ctr_of (G := fun u r s => r = some (.int u) ∧ s = σ) (by decide +kernel) (Nat.le_of_ble_eq_true rfl) hf ⟨rfl, rfl⟩ (fun d hd => ?_)
  refine z_eqlv (lv' := [(0, .int x0)]) rfl ?_
  unfold f12_over
  refine z_iload_n (pc := 0) 0 dX12_over_0 rfl rfl ?_
  refine z_if_ne (pc := 1) (tgt := 8) dX12_over_1 (by decide) (fun h1 => ?_) (fun h1 => ?_)
  · refine z_iconst (pc := 4) (v := (-1 : Int32)) dX12_over_4 (by decide) ?_
    refine z_goto (pc := 5) (tgt := 27) dX12_over_5 (by decide) ?_
    exact z_rI dX12_over_27 rfl ⟨by decide, by decide⟩
  · refine z_iload_n (pc := 8) 0 dX12_over_8 rfl rfl ?_
    refine z_iconst (pc := 9) (v := (3 : Int32)) dX12_over_9 (by decide) ?_
    refine z_ic_ne (pc := 10) (tgt := 17) dX12_over_10 (by decide) (fun h2 => ?_) (fun h2 => ?_)
    · refine z_iconst (pc := 13) (v := (1 : Int32)) dX12_over_13 (by decide) ?_
      refine z_goto (pc := 14) (tgt := 27) dX12_over_14 (by decide) ?_
      exact z_rI dX12_over_27 rfl ⟨by decide, by decide⟩
    · refine z_iload_n (pc := 17) 0 dX12_over_17 rfl rfl ?_
      refine z_iconst (pc := 18) (v := (5 : Int32)) dX12_over_18 (by decide) ?_
      refine z_ic_ne (pc := 19) (tgt := 26) dX12_over_19 (by decide) (fun h3 => ?_) (fun h3 => ?_)
      · refine z_iconst (pc := 22) (v := (2 : Int32)) dX12_over_22 (by decide) ?_
        refine z_goto (pc := 23) (tgt := 27) dX12_over_23 (by decide) ?_
        exact z_rI dX12_over_27 rfl ⟨by decide, by decide⟩
      · refine z_iconst (pc := 26) (v := (0 : Int32)) dX12_over_26 (by decide) ?_
        exact z_rI dX12_over_27 rfl ⟨by decide, by decide⟩
def f12_paceOf (σ : am_S) (x1 : Int32) : Option Int32 := if am_in x1 14 = true then (if am_in x1 14 = true then (if fF σ 44 x1.toNatClampNeg = (1 : Int32) then (some ((12 : Int32))) else (if fF σ 44 x1.toNatClampNeg = (2 : Int32) then (some ((10 : Int32) - ((fF σ 45 x1.toNatClampNeg) / (20 : Int32)))) else (if fF σ 44 x1.toNatClampNeg = (3 : Int32) then (if am_in x1 14 = true then (some ((12 : Int32) + (fF σ 46 x1.toNatClampNeg))) else none) else (if fF σ 44 x1.toNatClampNeg = (4 : Int32) then (some ((7 : Int32))) else (if fF σ 44 x1.toNatClampNeg = (5 : Int32) then (some ((2 : Int32) + (((10 : Int32) - ((fF σ 45 x1.toNatClampNeg) / (20 : Int32))) / (2 : Int32)))) else (some ((10 : Int32)))))))) else none) else none
theorem c12_paceOf {l : Launch} {E : am_E} {σ : am_S} {x1 : Int32} {v : Int32} (hf : f12_paceOf σ x1 = some v) : Ctr l E msM YX12_paceOf (0) 0 0 [.ref 36, .int x1] σ (some (.int v)) σ := by
  refine ctr_of (G := fun u r s => r = some (.int u) ∧ s = σ) (by decide +kernel) (Nat.le_of_ble_eq_true rfl) hf ⟨rfl, rfl⟩ (fun d hd => ?_)
  refine z_eqlv (lv' := [(0, .ref 36), (1, .int x1)]) rfl ?_
  unfold f12_paceOf
  refine z_bipush (pc := 0) (v := (10 : Int32)) dX12_paceOf_0 (by decide) ?_
  refine z_aload_n (pc := 2) 0 dX12_paceOf_2 rfl rfl ?_
  refine z_getQ (pc := 3) (b := 45) dX12_paceOf_3 kM36 fr_RX12_38_12 (by decide) rfl ?_
  refine z_iload_n (pc := 6) 1 dX12_paceOf_6 rfl rfl ?_
  refine z_iald (pc := 7) dX12_paceOf_7 (am_ar.s kM45) (fun h1 => ?_)
  refine z_bipush (pc := 8) (v := (20 : Int32)) dX12_paceOf_8 (by decide) ?_
  refine z_idiv (pc := 10) dX12_paceOf_10 (by decide) ?_
  refine z_isub (pc := 11) dX12_paceOf_11 ?_
  refine z_istore_n (pc := 12) (lv' := [(2, .int ((10 : Int32) - ((fF σ 45 x1.toNatClampNeg) / (20 : Int32)))), (0, .ref 36), (1, .int x1)]) dX12_paceOf_12 rfl (by decide) rfl ?_
  refine z_aload_n (pc := 13) 1 dX12_paceOf_13 rfl rfl ?_
  refine z_getQ (pc := 14) (b := 44) dX12_paceOf_14 kM36 fr_RX12_35_12 (by decide) rfl ?_
  refine z_iload_n (pc := 17) 2 dX12_paceOf_17 rfl rfl ?_
  refine z_iald (pc := 18) dX12_paceOf_18 (am_ar.s kM44) (fun h2 => ?_)
  refine z_ite (fun h3 => ?_) (fun h3 => ?_)
  · refine z_tsEq (pc := 19) (1) (off := 33) (tgt := 52) dX12_paceOf_19 h3 (by decide) (by decide) (by decide) (by decide) ?_
    refine z_bipush (pc := 52) (v := (12 : Int32)) dX12_paceOf_52 (by decide) ?_
    exact z_rI dX12_paceOf_54 rfl ⟨by decide, by decide⟩
  · refine z_ite (fun h4 => ?_) (fun h4 => ?_)
    · refine z_tsEq (pc := 19) (2) (off := 36) (tgt := 55) dX12_paceOf_19 h4 (by decide) (by decide) (by decide) (by decide) ?_
      refine z_iload_n (pc := 55) 0 dX12_paceOf_55 rfl rfl ?_
      exact z_rI dX12_paceOf_56 rfl ⟨by decide, by decide⟩
    · refine z_ite (fun h5 => ?_) (fun h5 => ?_)
      · refine z_tsEq (pc := 19) (3) (off := 38) (tgt := 57) dX12_paceOf_19 h5 (by decide) (by decide) (by decide) (by decide) ?_
        refine z_bipush (pc := 57) (v := (12 : Int32)) dX12_paceOf_57 (by decide) ?_
        refine z_aload_n (pc := 59) 1 dX12_paceOf_59 rfl rfl ?_
        refine z_getQ (pc := 60) (b := 46) dX12_paceOf_60 kM36 fr_RX12_41_12 (by decide) rfl ?_
        refine z_iload_n (pc := 63) 2 dX12_paceOf_63 rfl rfl ?_
        refine z_iald (pc := 64) dX12_paceOf_64 (am_ar.s kM46) (fun h6 => ?_)
        refine z_iadd (pc := 65) dX12_paceOf_65 ?_
        exact z_rI dX12_paceOf_66 rfl ⟨by decide, by decide⟩
      · refine z_ite (fun h7 => ?_) (fun h7 => ?_)
        · refine z_tsEq (pc := 19) (4) (off := 48) (tgt := 67) dX12_paceOf_19 h7 (by decide) (by decide) (by decide) (by decide) ?_
          refine z_bipush (pc := 67) (v := (7 : Int32)) dX12_paceOf_67 (by decide) ?_
          exact z_rI dX12_paceOf_69 rfl ⟨by decide, by decide⟩
        · refine z_ite (fun h8 => ?_) (fun h8 => ?_)
          · refine z_tsEq (pc := 19) (5) (off := 51) (tgt := 70) dX12_paceOf_19 h8 (by decide) (by decide) (by decide) (by decide) ?_
            refine z_iconst (pc := 70) (v := (2 : Int32)) dX12_paceOf_70 (by decide) ?_
            refine z_iload_n (pc := 71) 0 dX12_paceOf_71 rfl rfl ?_
            refine z_iconst (pc := 72) (v := (2 : Int32)) dX12_paceOf_72 (by decide) ?_
            refine z_idiv (pc := 73) dX12_paceOf_73 (by decide) ?_
            refine z_iadd (pc := 74) dX12_paceOf_74 ?_
            exact z_rI dX12_paceOf_75 rfl ⟨by decide, by decide⟩
          · refine z_tsNe (pc := 19) (tgt := 76) [1, 2, 3, 4, 5] 5 dX12_paceOf_19 (by decide) (by decide) (List.forall_mem_cons.mpr ⟨h3, List.forall_mem_cons.mpr ⟨h4, List.forall_mem_cons.mpr ⟨h5, List.forall_mem_cons.mpr ⟨h7, List.forall_mem_cons.mpr ⟨h8, List.forall_mem_nil _⟩⟩⟩⟩⟩) (by decide) ?_
            refine z_bipush (pc := 76) (v := (10 : Int32)) dX12_paceOf_76 (by decide) ?_
            exact z_rI dX12_paceOf_78 rfl ⟨by decide, by decide⟩
def f12_partsOf (σ : am_S) (x1 : Int32) : Option Int32 := if am_in x1 14 = true then (if fF σ 44 x1.toNatClampNeg = (1 : Int32) then (some ((3 : Int32))) else (if fF σ 44 x1.toNatClampNeg = (3 : Int32) then (some ((6 : Int32))) else (if fF σ 44 x1.toNatClampNeg = (4 : Int32) then (some ((2 : Int32))) else (if fF σ 44 x1.toNatClampNeg = (5 : Int32) then (some ((5 : Int32))) else (some ((4 : Int32))))))) else none
theorem c12_partsOf {l : Launch} {E : am_E} {σ : am_S} {x1 : Int32} {v : Int32} (hf : f12_partsOf σ x1 = some v) : Ctr l E msM YX12_partsOf (0) 0 0 [.ref 36, .int x1] σ (some (.int v)) σ := by
  refine ctr_of (G := fun u r s => r = some (.int u) ∧ s = σ) (by decide +kernel) (Nat.le_of_ble_eq_true rfl) hf ⟨rfl, rfl⟩ (fun d hd => ?_)
  refine z_eqlv (lv' := [(0, .ref 36), (1, .int x1)]) rfl ?_
  unfold f12_partsOf
  refine z_aload_n (pc := 0) 0 dX12_partsOf_0 rfl rfl ?_
  refine z_getQ (pc := 1) (b := 44) dX12_partsOf_1 kM36 fr_RX12_35_12 (by decide) rfl ?_
  refine z_iload_n (pc := 4) 1 dX12_partsOf_4 rfl rfl ?_
  refine z_iald (pc := 5) dX12_partsOf_5 (am_ar.s kM44) (fun h1 => ?_)
  refine z_istore_n (pc := 6) (lv' := [(2, .int (fF σ 44 x1.toNatClampNeg)), (0, .ref 36), (1, .int x1)]) dX12_partsOf_6 rfl (by decide) rfl ?_
  refine z_iload_n (pc := 7) 0 dX12_partsOf_7 rfl rfl ?_
  refine z_iconst (pc := 8) (v := (1 : Int32)) dX12_partsOf_8 (by decide) ?_
  refine z_ic_ne (pc := 9) (tgt := 16) dX12_partsOf_9 (by decide) (fun h2 => ?_) (fun h2 => ?_)
  · refine z_iconst (pc := 12) (v := (3 : Int32)) dX12_partsOf_12 (by decide) ?_
    refine z_goto (pc := 13) (tgt := 45) dX12_partsOf_13 (by decide) ?_
    exact z_rI dX12_partsOf_45 rfl ⟨by decide, by decide⟩
  · refine z_iload_n (pc := 16) 0 dX12_partsOf_16 rfl rfl ?_
    refine z_iconst (pc := 17) (v := (3 : Int32)) dX12_partsOf_17 (by decide) ?_
    refine z_ic_ne (pc := 18) (tgt := 26) dX12_partsOf_18 (by decide) (fun h3 => ?_) (fun h3 => ?_)
    · refine z_bipush (pc := 21) (v := (6 : Int32)) dX12_partsOf_21 (by decide) ?_
      refine z_goto (pc := 23) (tgt := 45) dX12_partsOf_23 (by decide) ?_
      exact z_rI dX12_partsOf_45 rfl ⟨by decide, by decide⟩
    · refine z_iload_n (pc := 26) 0 dX12_partsOf_26 rfl rfl ?_
      refine z_iconst (pc := 27) (v := (4 : Int32)) dX12_partsOf_27 (by decide) ?_
      refine z_ic_ne (pc := 28) (tgt := 35) dX12_partsOf_28 (by decide) (fun h4 => ?_) (fun h4 => ?_)
      · refine z_iconst (pc := 31) (v := (2 : Int32)) dX12_partsOf_31 (by decide) ?_
        refine z_goto (pc := 32) (tgt := 45) dX12_partsOf_32 (by decide) ?_
        exact z_rI dX12_partsOf_45 rfl ⟨by decide, by decide⟩
      · refine z_iload_n (pc := 35) 0 dX12_partsOf_35 rfl rfl ?_
        refine z_iconst (pc := 36) (v := (5 : Int32)) dX12_partsOf_36 (by decide) ?_
        refine z_ic_ne (pc := 37) (tgt := 44) dX12_partsOf_37 (by decide) (fun h5 => ?_) (fun h5 => ?_)
        · refine z_iconst (pc := 40) (v := (5 : Int32)) dX12_partsOf_40 (by decide) ?_
          refine z_goto (pc := 41) (tgt := 45) dX12_partsOf_41 (by decide) ?_
          exact z_rI dX12_partsOf_45 rfl ⟨by decide, by decide⟩
        · refine z_iconst (pc := 44) (v := (4 : Int32)) dX12_partsOf_44 (by decide) ?_
          exact z_rI dX12_partsOf_45 rfl ⟨by decide, by decide⟩
def f12_path (σ : am_S) (x1 : Int32) (x2 : Int32) : Option (Int32 × am_S) := (f12_areLandings x1).bind fun v1 => (if v1 = true then ((f12_in x2.toInt64 (0 : Int64) (99 : Int64)).bind fun v5 => (if v5 = true then (if am_in x1 100 = true then (if am_in x1 100 = true then (if am_in (((10 : Int32) * (x1 - x1 / (10 : Int32) * (10 : Int32))) + (x1 / (10 : Int32))) 100 = true then (some (fF σ 56 x1.toNatClampNeg, sF (sF σ 56 x1.toNatClampNeg x2) 56 (((10 : Int32) * (x1 - x1 / (10 : Int32) * (10 : Int32))) + (x1 / (10 : Int32))).toNatClampNeg x2)) else none) else none) else none) else (some ((-2 : Int32), σ)))) else (some ((-2 : Int32), σ)))
theorem c12_path {l : Launch} {E : am_E} {σ : am_S} {x1 : Int32} {x2 : Int32} {v : Int32} {σ1 : am_S} (hf : f12_path σ x1 x2 = some (v, σ1)) : Ctr l E msM YX12_path (2) 0 0 [.ref 36, .int x1, .int x2] σ (some (.int v)) σ1 := by
  refine ctr_of (G := fun u r s => r = some (.int u.1) ∧ s = u.2) (by decide +kernel) (Nat.le_of_ble_eq_true rfl) hf ⟨rfl, rfl⟩ (fun d hd => ?_)
  refine z_eqlv (lv' := [(0, .ref 36), (1, .int x1), (2, .int x2)]) rfl ?_
  unfold f12_path
  refine z_iload_n (pc := 0) 1 dX12_path_0 rfl rfl ?_
  refine z_callB (pc := 1) [.int x1] [] rfl (lk_S (Yc := YX12_areLandings) (n := 1) dX12_path_1 rfl np_X12_areLandings mh_RX12 (by decide) ml_RX12_147 st_X12_areLandings in_RX12 cd_X12_areLandings) (Nat.le_trans (by decide) hd) ⟨by decide, by decide⟩ (Nat.le_of_ble_eq_true rfl) (am_kp.rf _) (fun v1 h3 => c12_areLandings h3) (fun v1 h3 => ?_)
  refine z_bz_eq (pc := 4) (tgt := 19) dX12_path_4 (by decide) (fun h4 => ?_) (fun h4 => ?_)
  · refine z_iload_n (pc := 7) 2 dX12_path_7 rfl rfl ?_
    refine z_i2l (pc := 8) dX12_path_8 ?_
    refine z_lconst (pc := 9) (v := (0 : Int64)) dX12_path_9 (by decide) ?_
    refine z_ldc2 (pc := 10) (v := (99 : Int64)) dX12_path_10 kl_RX12_143 ?_
    refine z_callB (pc := 13) [.long x2.toInt64, .long (0 : Int64), .long (99 : Int64)] [] rfl (lk_S (Yc := YX12_in) (n := 3) dX12_path_13 rfl np_X12_in mh_RX12 (by decide) ml_RX12_134 st_X12_in in_RX12 cd_X12_in) (Nat.le_trans (by decide) hd) ⟨by decide, by decide⟩ (Nat.le_of_ble_eq_true rfl) (am_kp.rf _) (fun v5 h7 => c12_in h7) (fun v5 h7 => ?_)
    refine z_bz_ne (pc := 16) (tgt := 22) dX12_path_16 (by decide) (fun h8 => ?_) (fun h8 => ?_)
    · refine z_aload_n (pc := 22) 0 dX12_path_22 rfl rfl ?_
      refine z_getQ (pc := 23) (b := 56) dX12_path_23 kM36 fr_RX12_71_12 (by decide) rfl ?_
      refine z_iload_n (pc := 26) 1 dX12_path_26 rfl rfl ?_
      refine z_iald (pc := 27) dX12_path_27 (am_ar.s kM56) (fun h9 => ?_)
      refine z_istore_n (pc := 28) (lv' := [(3, .int (fF σ 56 x1.toNatClampNeg)), (0, .ref 36), (1, .int x1), (2, .int x2)]) dX12_path_28 rfl (by decide) rfl ?_
      refine z_aload_n (pc := 29) 1 dX12_path_29 rfl rfl ?_
      refine z_getQ (pc := 30) (b := 56) dX12_path_30 kM36 fr_RX12_71_12 (by decide) rfl ?_
      refine z_iload_n (pc := 33) 2 dX12_path_33 rfl rfl ?_
      refine z_iload_n (pc := 34) 3 dX12_path_34 rfl rfl ?_
      refine z_iast (pc := 35) dX12_path_35 (am_ar.s kM56) (fun h10 => ?_)
      refine z_aload_n (pc := 36) 1 dX12_path_36 rfl rfl ?_
      refine z_getQ (pc := 37) (b := 56) dX12_path_37 kM36 fr_RX12_71_12 (by decide) rfl ?_
      refine z_bipush (pc := 40) (v := (10 : Int32)) dX12_path_40 (by decide) ?_
      refine z_iload_n (pc := 42) 2 dX12_path_42 rfl rfl ?_
      refine z_bipush (pc := 43) (v := (10 : Int32)) dX12_path_43 (by decide) ?_
      refine z_irem (pc := 45) dX12_path_45 (by decide) ?_
      refine z_imul (pc := 46) dX12_path_46 ?_
      refine z_iload_n (pc := 47) 2 dX12_path_47 rfl rfl ?_
      refine z_bipush (pc := 48) (v := (10 : Int32)) dX12_path_48 (by decide) ?_
      refine z_idiv (pc := 50) dX12_path_50 (by decide) ?_
      refine z_iadd (pc := 51) dX12_path_51 ?_
      refine z_iload_n (pc := 52) 3 dX12_path_52 rfl rfl ?_
      refine z_iast (pc := 53) dX12_path_53 (am_ar.s kM56) (fun h11 => ?_)
      refine z_iload_n (pc := 54) 0 dX12_path_54 rfl rfl ?_
      exact z_rIs dX12_path_55 rfl ⟨by decide, by decide⟩
    · refine z_bipush (pc := 19) (v := (-2 : Int32)) dX12_path_19 (by decide) ?_
      exact z_rIs dX12_path_21 rfl ⟨by decide, by decide⟩
  · refine z_bipush (pc := 19) (v := (-2 : Int32)) dX12_path_19 (by decide) ?_
    exact z_rIs dX12_path_21 rfl ⟨by decide, by decide⟩
def f12_rower_J53 (x1 : Int32) (x2 : Int32) (x3 : Int32) (σ : am_S) : Option (Int32 × am_S) := if fF σ 36 21 = (14 : Int32) then (some ((-4 : Int32), σ)) else (if am_in (fF σ 36 21) 14 = true then (if am_in (fF (sF σ 44 (fF σ 36 21).toNatClampNeg x1) 36 21) 14 = true then (if am_in (fF (sF (sF σ 44 (fF σ 36 21).toNatClampNeg x1) 45 (fF (sF σ 44 (fF σ 36 21).toNatClampNeg x1) 36 21).toNatClampNeg (x2 / (100 : Int32))) 36 21) 14 = true then (if am_in (fF (sF (sF (sF σ 44 (fF σ 36 21).toNatClampNeg x1) 45 (fF (sF σ 44 (fF σ 36 21).toNatClampNeg x1) 36 21).toNatClampNeg (x2 / (100 : Int32))) 46 (fF (sF (sF σ 44 (fF σ 36 21).toNatClampNeg x1) 45 (fF (sF σ 44 (fF σ 36 21).toNatClampNeg x1) 36 21).toNatClampNeg (x2 / (100 : Int32))) 36 21).toNatClampNeg ((x2 / (10 : Int32)) - (x2 / (10 : Int32)) / (10 : Int32) * (10 : Int32))) 36 21) 14 = true then (if am_in (fF (sF (sF (sF (sF σ 44 (fF σ 36 21).toNatClampNeg x1) 45 (fF (sF σ 44 (fF σ 36 21).toNatClampNeg x1) 36 21).toNatClampNeg (x2 / (100 : Int32))) 46 (fF (sF (sF σ 44 (fF σ 36 21).toNatClampNeg x1) 45 (fF (sF σ 44 (fF σ 36 21).toNatClampNeg x1) 36 21).toNatClampNeg (x2 / (100 : Int32))) 36 21).toNatClampNeg ((x2 / (10 : Int32)) - (x2 / (10 : Int32)) / (10 : Int32) * (10 : Int32))) 47 (fF (sF (sF (sF σ 44 (fF σ 36 21).toNatClampNeg x1) 45 (fF (sF σ 44 (fF σ 36 21).toNatClampNeg x1) 36 21).toNatClampNeg (x2 / (100 : Int32))) 46 (fF (sF (sF σ 44 (fF σ 36 21).toNatClampNeg x1) 45 (fF (sF σ 44 (fF σ 36 21).toNatClampNeg x1) 36 21).toNatClampNeg (x2 / (100 : Int32))) 36 21).toNatClampNeg ((x2 / (10 : Int32)) - (x2 / (10 : Int32)) / (10 : Int32) * (10 : Int32))) 36 21).toNatClampNeg (x2 - x2 / (10 : Int32) * (10 : Int32))) 36 21) 14 = true then (if am_in (fF (sF (sF (sF (sF (sF σ 44 (fF σ 36 21).toNatClampNeg x1) 45 (fF (sF σ 44 (fF σ 36 21).toNatClampNeg x1) 36 21).toNatClampNeg (x2 / (100 : Int32))) 46 (fF (sF (sF σ 44 (fF σ 36 21).toNatClampNeg x1) 45 (fF (sF σ 44 (fF σ 36 21).toNatClampNeg x1) 36 21).toNatClampNeg (x2 / (100 : Int32))) 36 21).toNatClampNeg ((x2 / (10 : Int32)) - (x2 / (10 : Int32)) / (10 : Int32) * (10 : Int32))) 47 (fF (sF (sF (sF σ 44 (fF σ 36 21).toNatClampNeg x1) 45 (fF (sF σ 44 (fF σ 36 21).toNatClampNeg x1) 36 21).toNatClampNeg (x2 / (100 : Int32))) 46 (fF (sF (sF σ 44 (fF σ 36 21).toNatClampNeg x1) 45 (fF (sF σ 44 (fF σ 36 21).toNatClampNeg x1) 36 21).toNatClampNeg (x2 / (100 : Int32))) 36 21).toNatClampNeg ((x2 / (10 : Int32)) - (x2 / (10 : Int32)) / (10 : Int32) * (10 : Int32))) 36 21).toNatClampNeg (x2 - x2 / (10 : Int32) * (10 : Int32))) 48 (fF (sF (sF (sF (sF σ 44 (fF σ 36 21).toNatClampNeg x1) 45 (fF (sF σ 44 (fF σ 36 21).toNatClampNeg x1) 36 21).toNatClampNeg (x2 / (100 : Int32))) 46 (fF (sF (sF σ 44 (fF σ 36 21).toNatClampNeg x1) 45 (fF (sF σ 44 (fF σ 36 21).toNatClampNeg x1) 36 21).toNatClampNeg (x2 / (100 : Int32))) 36 21).toNatClampNeg ((x2 / (10 : Int32)) - (x2 / (10 : Int32)) / (10 : Int32) * (10 : Int32))) 47 (fF (sF (sF (sF σ 44 (fF σ 36 21).toNatClampNeg x1) 45 (fF (sF σ 44 (fF σ 36 21).toNatClampNeg x1) 36 21).toNatClampNeg (x2 / (100 : Int32))) 46 (fF (sF (sF σ 44 (fF σ 36 21).toNatClampNeg x1) 45 (fF (sF σ 44 (fF σ 36 21).toNatClampNeg x1) 36 21).toNatClampNeg (x2 / (100 : Int32))) 36 21).toNatClampNeg ((x2 / (10 : Int32)) - (x2 / (10 : Int32)) / (10 : Int32) * (10 : Int32))) 36 21).toNatClampNeg (x2 - x2 / (10 : Int32) * (10 : Int32))) 36 21).toNatClampNeg x3) 36 21) 14 = true then (if am_in (fF (sF (sF (sF (sF (sF (sF σ 44 (fF σ 36 21).toNatClampNeg x1) 45 (fF (sF σ 44 (fF σ 36 21).toNatClampNeg x1) 36 21).toNatClampNeg (x2 / (100 : Int32))) 46 (fF (sF (sF σ 44 (fF σ 36 21).toNatClampNeg x1) 45 (fF (sF σ 44 (fF σ 36 21).toNatClampNeg x1) 36 21).toNatClampNeg (x2 / (100 : Int32))) 36 21).toNatClampNeg ((x2 / (10 : Int32)) - (x2 / (10 : Int32)) / (10 : Int32) * (10 : Int32))) 47 (fF (sF (sF (sF σ 44 (fF σ 36 21).toNatClampNeg x1) 45 (fF (sF σ 44 (fF σ 36 21).toNatClampNeg x1) 36 21).toNatClampNeg (x2 / (100 : Int32))) 46 (fF (sF (sF σ 44 (fF σ 36 21).toNatClampNeg x1) 45 (fF (sF σ 44 (fF σ 36 21).toNatClampNeg x1) 36 21).toNatClampNeg (x2 / (100 : Int32))) 36 21).toNatClampNeg ((x2 / (10 : Int32)) - (x2 / (10 : Int32)) / (10 : Int32) * (10 : Int32))) 36 21).toNatClampNeg (x2 - x2 / (10 : Int32) * (10 : Int32))) 48 (fF (sF (sF (sF (sF σ 44 (fF σ 36 21).toNatClampNeg x1) 45 (fF (sF σ 44 (fF σ 36 21).toNatClampNeg x1) 36 21).toNatClampNeg (x2 / (100 : Int32))) 46 (fF (sF (sF σ 44 (fF σ 36 21).toNatClampNeg x1) 45 (fF (sF σ 44 (fF σ 36 21).toNatClampNeg x1) 36 21).toNatClampNeg (x2 / (100 : Int32))) 36 21).toNatClampNeg ((x2 / (10 : Int32)) - (x2 / (10 : Int32)) / (10 : Int32) * (10 : Int32))) 47 (fF (sF (sF (sF σ 44 (fF σ 36 21).toNatClampNeg x1) 45 (fF (sF σ 44 (fF σ 36 21).toNatClampNeg x1) 36 21).toNatClampNeg (x2 / (100 : Int32))) 46 (fF (sF (sF σ 44 (fF σ 36 21).toNatClampNeg x1) 45 (fF (sF σ 44 (fF σ 36 21).toNatClampNeg x1) 36 21).toNatClampNeg (x2 / (100 : Int32))) 36 21).toNatClampNeg ((x2 / (10 : Int32)) - (x2 / (10 : Int32)) / (10 : Int32) * (10 : Int32))) 36 21).toNatClampNeg (x2 - x2 / (10 : Int32) * (10 : Int32))) 36 21).toNatClampNeg x3) 49 (fF (sF (sF (sF (sF (sF σ 44 (fF σ 36 21).toNatClampNeg x1) 45 (fF (sF σ 44 (fF σ 36 21).toNatClampNeg x1) 36 21).toNatClampNeg (x2 / (100 : Int32))) 46 (fF (sF (sF σ 44 (fF σ 36 21).toNatClampNeg x1) 45 (fF (sF σ 44 (fF σ 36 21).toNatClampNeg x1) 36 21).toNatClampNeg (x2 / (100 : Int32))) 36 21).toNatClampNeg ((x2 / (10 : Int32)) - (x2 / (10 : Int32)) / (10 : Int32) * (10 : Int32))) 47 (fF (sF (sF (sF σ 44 (fF σ 36 21).toNatClampNeg x1) 45 (fF (sF σ 44 (fF σ 36 21).toNatClampNeg x1) 36 21).toNatClampNeg (x2 / (100 : Int32))) 46 (fF (sF (sF σ 44 (fF σ 36 21).toNatClampNeg x1) 45 (fF (sF σ 44 (fF σ 36 21).toNatClampNeg x1) 36 21).toNatClampNeg (x2 / (100 : Int32))) 36 21).toNatClampNeg ((x2 / (10 : Int32)) - (x2 / (10 : Int32)) / (10 : Int32) * (10 : Int32))) 36 21).toNatClampNeg (x2 - x2 / (10 : Int32) * (10 : Int32))) 48 (fF (sF (sF (sF (sF σ 44 (fF σ 36 21).toNatClampNeg x1) 45 (fF (sF σ 44 (fF σ 36 21).toNatClampNeg x1) 36 21).toNatClampNeg (x2 / (100 : Int32))) 46 (fF (sF (sF σ 44 (fF σ 36 21).toNatClampNeg x1) 45 (fF (sF σ 44 (fF σ 36 21).toNatClampNeg x1) 36 21).toNatClampNeg (x2 / (100 : Int32))) 36 21).toNatClampNeg ((x2 / (10 : Int32)) - (x2 / (10 : Int32)) / (10 : Int32) * (10 : Int32))) 47 (fF (sF (sF (sF σ 44 (fF σ 36 21).toNatClampNeg x1) 45 (fF (sF σ 44 (fF σ 36 21).toNatClampNeg x1) 36 21).toNatClampNeg (x2 / (100 : Int32))) 46 (fF (sF (sF σ 44 (fF σ 36 21).toNatClampNeg x1) 45 (fF (sF σ 44 (fF σ 36 21).toNatClampNeg x1) 36 21).toNatClampNeg (x2 / (100 : Int32))) 36 21).toNatClampNeg ((x2 / (10 : Int32)) - (x2 / (10 : Int32)) / (10 : Int32) * (10 : Int32))) 36 21).toNatClampNeg (x2 - x2 / (10 : Int32) * (10 : Int32))) 36 21).toNatClampNeg x3) 36 21).toNatClampNeg (0 : Int32)) 36 21) 14 = true then (some ((fF (sF (sF (sF (sF (sF (sF (sF (sF σ 44 (fF σ 36 21).toNatClampNeg x1) 45 (fF (sF σ 44 (fF σ 36 21).toNatClampNeg x1) 36 21).toNatClampNeg (x2 / (100 : Int32))) 46 (fF (sF (sF σ 44 (fF σ 36 21).toNatClampNeg x1) 45 (fF (sF σ 44 (fF σ 36 21).toNatClampNeg x1) 36 21).toNatClampNeg (x2 / (100 : Int32))) 36 21).toNatClampNeg ((x2 / (10 : Int32)) - (x2 / (10 : Int32)) / (10 : Int32) * (10 : Int32))) 47 (fF (sF (sF (sF σ 44 (fF σ 36 21).toNatClampNeg x1) 45 (fF (sF σ 44 (fF σ 36 21).toNatClampNeg x1) 36 21).toNatClampNeg (x2 / (100 : Int32))) 46 (fF (sF (sF σ 44 (fF σ 36 21).toNatClampNeg x1) 45 (fF (sF σ 44 (fF σ 36 21).toNatClampNeg x1) 36 21).toNatClampNeg (x2 / (100 : Int32))) 36 21).toNatClampNeg ((x2 / (10 : Int32)) - (x2 / (10 : Int32)) / (10 : Int32) * (10 : Int32))) 36 21).toNatClampNeg (x2 - x2 / (10 : Int32) * (10 : Int32))) 48 (fF (sF (sF (sF (sF σ 44 (fF σ 36 21).toNatClampNeg x1) 45 (fF (sF σ 44 (fF σ 36 21).toNatClampNeg x1) 36 21).toNatClampNeg (x2 / (100 : Int32))) 46 (fF (sF (sF σ 44 (fF σ 36 21).toNatClampNeg x1) 45 (fF (sF σ 44 (fF σ 36 21).toNatClampNeg x1) 36 21).toNatClampNeg (x2 / (100 : Int32))) 36 21).toNatClampNeg ((x2 / (10 : Int32)) - (x2 / (10 : Int32)) / (10 : Int32) * (10 : Int32))) 47 (fF (sF (sF (sF σ 44 (fF σ 36 21).toNatClampNeg x1) 45 (fF (sF σ 44 (fF σ 36 21).toNatClampNeg x1) 36 21).toNatClampNeg (x2 / (100 : Int32))) 46 (fF (sF (sF σ 44 (fF σ 36 21).toNatClampNeg x1) 45 (fF (sF σ 44 (fF σ 36 21).toNatClampNeg x1) 36 21).toNatClampNeg (x2 / (100 : Int32))) 36 21).toNatClampNeg ((x2 / (10 : Int32)) - (x2 / (10 : Int32)) / (10 : Int32) * (10 : Int32))) 36 21).toNatClampNeg (x2 - x2 / (10 : Int32) * (10 : Int32))) 36 21).toNatClampNeg x3) 49 (fF (sF (sF (sF (sF (sF σ 44 (fF σ 36 21).toNatClampNeg x1) 45 (fF (sF σ 44 (fF σ 36 21).toNatClampNeg x1) 36 21).toNatClampNeg (x2 / (100 : Int32))) 46 (fF (sF (sF σ 44 (fF σ 36 21).toNatClampNeg x1) 45 (fF (sF σ 44 (fF σ 36 21).toNatClampNeg x1) 36 21).toNatClampNeg (x2 / (100 : Int32))) 36 21).toNatClampNeg ((x2 / (10 : Int32)) - (x2 / (10 : Int32)) / (10 : Int32) * (10 : Int32))) 47 (fF (sF (sF (sF σ 44 (fF σ 36 21).toNatClampNeg x1) 45 (fF (sF σ 44 (fF σ 36 21).toNatClampNeg x1) 36 21).toNatClampNeg (x2 / (100 : Int32))) 46 (fF (sF (sF σ 44 (fF σ 36 21).toNatClampNeg x1) 45 (fF (sF σ 44 (fF σ 36 21).toNatClampNeg x1) 36 21).toNatClampNeg (x2 / (100 : Int32))) 36 21).toNatClampNeg ((x2 / (10 : Int32)) - (x2 / (10 : Int32)) / (10 : Int32) * (10 : Int32))) 36 21).toNatClampNeg (x2 - x2 / (10 : Int32) * (10 : Int32))) 48 (fF (sF (sF (sF (sF σ 44 (fF σ 36 21).toNatClampNeg x1) 45 (fF (sF σ 44 (fF σ 36 21).toNatClampNeg x1) 36 21).toNatClampNeg (x2 / (100 : Int32))) 46 (fF (sF (sF σ 44 (fF σ 36 21).toNatClampNeg x1) 45 (fF (sF σ 44 (fF σ 36 21).toNatClampNeg x1) 36 21).toNatClampNeg (x2 / (100 : Int32))) 36 21).toNatClampNeg ((x2 / (10 : Int32)) - (x2 / (10 : Int32)) / (10 : Int32) * (10 : Int32))) 47 (fF (sF (sF (sF σ 44 (fF σ 36 21).toNatClampNeg x1) 45 (fF (sF σ 44 (fF σ 36 21).toNatClampNeg x1) 36 21).toNatClampNeg (x2 / (100 : Int32))) 46 (fF (sF (sF σ 44 (fF σ 36 21).toNatClampNeg x1) 45 (fF (sF σ 44 (fF σ 36 21).toNatClampNeg x1) 36 21).toNatClampNeg (x2 / (100 : Int32))) 36 21).toNatClampNeg ((x2 / (10 : Int32)) - (x2 / (10 : Int32)) / (10 : Int32) * (10 : Int32))) 36 21).toNatClampNeg (x2 - x2 / (10 : Int32) * (10 : Int32))) 36 21).toNatClampNeg x3) 36 21).toNatClampNeg (0 : Int32)) 50 (fF (sF (sF (sF (sF (sF (sF σ 44 (fF σ 36 21).toNatClampNeg x1) 45 (fF (sF σ 44 (fF σ 36 21).toNatClampNeg x1) 36 21).toNatClampNeg (x2 / (100 : Int32))) 46 (fF (sF (sF σ 44 (fF σ 36 21).toNatClampNeg x1) 45 (fF (sF σ 44 (fF σ 36 21).toNatClampNeg x1) 36 21).toNatClampNeg (x2 / (100 : Int32))) 36 21).toNatClampNeg ((x2 / (10 : Int32)) - (x2 / (10 : Int32)) / (10 : Int32) * (10 : Int32))) 47 (fF (sF (sF (sF σ 44 (fF σ 36 21).toNatClampNeg x1) 45 (fF (sF σ 44 (fF σ 36 21).toNatClampNeg x1) 36 21).toNatClampNeg (x2 / (100 : Int32))) 46 (fF (sF (sF σ 44 (fF σ 36 21).toNatClampNeg x1) 45 (fF (sF σ 44 (fF σ 36 21).toNatClampNeg x1) 36 21).toNatClampNeg (x2 / (100 : Int32))) 36 21).toNatClampNeg ((x2 / (10 : Int32)) - (x2 / (10 : Int32)) / (10 : Int32) * (10 : Int32))) 36 21).toNatClampNeg (x2 - x2 / (10 : Int32) * (10 : Int32))) 48 (fF (sF (sF (sF (sF σ 44 (fF σ 36 21).toNatClampNeg x1) 45 (fF (sF σ 44 (fF σ 36 21).toNatClampNeg x1) 36 21).toNatClampNeg (x2 / (100 : Int32))) 46 (fF (sF (sF σ 44 (fF σ 36 21).toNatClampNeg x1) 45 (fF (sF σ 44 (fF σ 36 21).toNatClampNeg x1) 36 21).toNatClampNeg (x2 / (100 : Int32))) 36 21).toNatClampNeg ((x2 / (10 : Int32)) - (x2 / (10 : Int32)) / (10 : Int32) * (10 : Int32))) 47 (fF (sF (sF (sF σ 44 (fF σ 36 21).toNatClampNeg x1) 45 (fF (sF σ 44 (fF σ 36 21).toNatClampNeg x1) 36 21).toNatClampNeg (x2 / (100 : Int32))) 46 (fF (sF (sF σ 44 (fF σ 36 21).toNatClampNeg x1) 45 (fF (sF σ 44 (fF σ 36 21).toNatClampNeg x1) 36 21).toNatClampNeg (x2 / (100 : Int32))) 36 21).toNatClampNeg ((x2 / (10 : Int32)) - (x2 / (10 : Int32)) / (10 : Int32) * (10 : Int32))) 36 21).toNatClampNeg (x2 - x2 / (10 : Int32) * (10 : Int32))) 36 21).toNatClampNeg x3) 49 (fF (sF (sF (sF (sF (sF σ 44 (fF σ 36 21).toNatClampNeg x1) 45 (fF (sF σ 44 (fF σ 36 21).toNatClampNeg x1) 36 21).toNatClampNeg (x2 / (100 : Int32))) 46 (fF (sF (sF σ 44 (fF σ 36 21).toNatClampNeg x1) 45 (fF (sF σ 44 (fF σ 36 21).toNatClampNeg x1) 36 21).toNatClampNeg (x2 / (100 : Int32))) 36 21).toNatClampNeg ((x2 / (10 : Int32)) - (x2 / (10 : Int32)) / (10 : Int32) * (10 : Int32))) 47 (fF (sF (sF (sF σ 44 (fF σ 36 21).toNatClampNeg x1) 45 (fF (sF σ 44 (fF σ 36 21).toNatClampNeg x1) 36 21).toNatClampNeg (x2 / (100 : Int32))) 46 (fF (sF (sF σ 44 (fF σ 36 21).toNatClampNeg x1) 45 (fF (sF σ 44 (fF σ 36 21).toNatClampNeg x1) 36 21).toNatClampNeg (x2 / (100 : Int32))) 36 21).toNatClampNeg ((x2 / (10 : Int32)) - (x2 / (10 : Int32)) / (10 : Int32) * (10 : Int32))) 36 21).toNatClampNeg (x2 - x2 / (10 : Int32) * (10 : Int32))) 48 (fF (sF (sF (sF (sF σ 44 (fF σ 36 21).toNatClampNeg x1) 45 (fF (sF σ 44 (fF σ 36 21).toNatClampNeg x1) 36 21).toNatClampNeg (x2 / (100 : Int32))) 46 (fF (sF (sF σ 44 (fF σ 36 21).toNatClampNeg x1) 45 (fF (sF σ 44 (fF σ 36 21).toNatClampNeg x1) 36 21).toNatClampNeg (x2 / (100 : Int32))) 36 21).toNatClampNeg ((x2 / (10 : Int32)) - (x2 / (10 : Int32)) / (10 : Int32) * (10 : Int32))) 47 (fF (sF (sF (sF σ 44 (fF σ 36 21).toNatClampNeg x1) 45 (fF (sF σ 44 (fF σ 36 21).toNatClampNeg x1) 36 21).toNatClampNeg (x2 / (100 : Int32))) 46 (fF (sF (sF σ 44 (fF σ 36 21).toNatClampNeg x1) 45 (fF (sF σ 44 (fF σ 36 21).toNatClampNeg x1) 36 21).toNatClampNeg (x2 / (100 : Int32))) 36 21).toNatClampNeg ((x2 / (10 : Int32)) - (x2 / (10 : Int32)) / (10 : Int32) * (10 : Int32))) 36 21).toNatClampNeg (x2 - x2 / (10 : Int32) * (10 : Int32))) 36 21).toNatClampNeg x3) 36 21).toNatClampNeg (0 : Int32)) 36 21).toNatClampNeg (0 : Int32)) 36 21 ((fF (sF (sF (sF (sF (sF (sF (sF σ 44 (fF σ 36 21).toNatClampNeg x1) 45 (fF (sF σ 44 (fF σ 36 21).toNatClampNeg x1) 36 21).toNatClampNeg (x2 / (100 : Int32))) 46 (fF (sF (sF σ 44 (fF σ 36 21).toNatClampNeg x1) 45 (fF (sF σ 44 (fF σ 36 21).toNatClampNeg x1) 36 21).toNatClampNeg (x2 / (100 : Int32))) 36 21).toNatClampNeg ((x2 / (10 : Int32)) - (x2 / (10 : Int32)) / (10 : Int32) * (10 : Int32))) 47 (fF (sF (sF (sF σ 44 (fF σ 36 21).toNatClampNeg x1) 45 (fF (sF σ 44 (fF σ 36 21).toNatClampNeg x1) 36 21).toNatClampNeg (x2 / (100 : Int32))) 46 (fF (sF (sF σ 44 (fF σ 36 21).toNatClampNeg x1) 45 (fF (sF σ 44 (fF σ 36 21).toNatClampNeg x1) 36 21).toNatClampNeg (x2 / (100 : Int32))) 36 21).toNatClampNeg ((x2 / (10 : Int32)) - (x2 / (10 : Int32)) / (10 : Int32) * (10 : Int32))) 36 21).toNatClampNeg (x2 - x2 / (10 : Int32) * (10 : Int32))) 48 (fF (sF (sF (sF (sF σ 44 (fF σ 36 21).toNatClampNeg x1) 45 (fF (sF σ 44 (fF σ 36 21).toNatClampNeg x1) 36 21).toNatClampNeg (x2 / (100 : Int32))) 46 (fF (sF (sF σ 44 (fF σ 36 21).toNatClampNeg x1) 45 (fF (sF σ 44 (fF σ 36 21).toNatClampNeg x1) 36 21).toNatClampNeg (x2 / (100 : Int32))) 36 21).toNatClampNeg ((x2 / (10 : Int32)) - (x2 / (10 : Int32)) / (10 : Int32) * (10 : Int32))) 47 (fF (sF (sF (sF σ 44 (fF σ 36 21).toNatClampNeg x1) 45 (fF (sF σ 44 (fF σ 36 21).toNatClampNeg x1) 36 21).toNatClampNeg (x2 / (100 : Int32))) 46 (fF (sF (sF σ 44 (fF σ 36 21).toNatClampNeg x1) 45 (fF (sF σ 44 (fF σ 36 21).toNatClampNeg x1) 36 21).toNatClampNeg (x2 / (100 : Int32))) 36 21).toNatClampNeg ((x2 / (10 : Int32)) - (x2 / (10 : Int32)) / (10 : Int32) * (10 : Int32))) 36 21).toNatClampNeg (x2 - x2 / (10 : Int32) * (10 : Int32))) 36 21).toNatClampNeg x3) 49 (fF (sF (sF (sF (sF (sF σ 44 (fF σ 36 21).toNatClampNeg x1) 45 (fF (sF σ 44 (fF σ 36 21).toNatClampNeg x1) 36 21).toNatClampNeg (x2 / (100 : Int32))) 46 (fF (sF (sF σ 44 (fF σ 36 21).toNatClampNeg x1) 45 (fF (sF σ 44 (fF σ 36 21).toNatClampNeg x1) 36 21).toNatClampNeg (x2 / (100 : Int32))) 36 21).toNatClampNeg ((x2 / (10 : Int32)) - (x2 / (10 : Int32)) / (10 : Int32) * (10 : Int32))) 47 (fF (sF (sF (sF σ 44 (fF σ 36 21).toNatClampNeg x1) 45 (fF (sF σ 44 (fF σ 36 21).toNatClampNeg x1) 36 21).toNatClampNeg (x2 / (100 : Int32))) 46 (fF (sF (sF σ 44 (fF σ 36 21).toNatClampNeg x1) 45 (fF (sF σ 44 (fF σ 36 21).toNatClampNeg x1) 36 21).toNatClampNeg (x2 / (100 : Int32))) 36 21).toNatClampNeg ((x2 / (10 : Int32)) - (x2 / (10 : Int32)) / (10 : Int32) * (10 : Int32))) 36 21).toNatClampNeg (x2 - x2 / (10 : Int32) * (10 : Int32))) 48 (fF (sF (sF (sF (sF σ 44 (fF σ 36 21).toNatClampNeg x1) 45 (fF (sF σ 44 (fF σ 36 21).toNatClampNeg x1) 36 21).toNatClampNeg (x2 / (100 : Int32))) 46 (fF (sF (sF σ 44 (fF σ 36 21).toNatClampNeg x1) 45 (fF (sF σ 44 (fF σ 36 21).toNatClampNeg x1) 36 21).toNatClampNeg (x2 / (100 : Int32))) 36 21).toNatClampNeg ((x2 / (10 : Int32)) - (x2 / (10 : Int32)) / (10 : Int32) * (10 : Int32))) 47 (fF (sF (sF (sF σ 44 (fF σ 36 21).toNatClampNeg x1) 45 (fF (sF σ 44 (fF σ 36 21).toNatClampNeg x1) 36 21).toNatClampNeg (x2 / (100 : Int32))) 46 (fF (sF (sF σ 44 (fF σ 36 21).toNatClampNeg x1) 45 (fF (sF σ 44 (fF σ 36 21).toNatClampNeg x1) 36 21).toNatClampNeg (x2 / (100 : Int32))) 36 21).toNatClampNeg ((x2 / (10 : Int32)) - (x2 / (10 : Int32)) / (10 : Int32) * (10 : Int32))) 36 21).toNatClampNeg (x2 - x2 / (10 : Int32) * (10 : Int32))) 36 21).toNatClampNeg x3) 36 21).toNatClampNeg (0 : Int32)) 50 (fF (sF (sF (sF (sF (sF (sF σ 44 (fF σ 36 21).toNatClampNeg x1) 45 (fF (sF σ 44 (fF σ 36 21).toNatClampNeg x1) 36 21).toNatClampNeg (x2 / (100 : Int32))) 46 (fF (sF (sF σ 44 (fF σ 36 21).toNatClampNeg x1) 45 (fF (sF σ 44 (fF σ 36 21).toNatClampNeg x1) 36 21).toNatClampNeg (x2 / (100 : Int32))) 36 21).toNatClampNeg ((x2 / (10 : Int32)) - (x2 / (10 : Int32)) / (10 : Int32) * (10 : Int32))) 47 (fF (sF (sF (sF σ 44 (fF σ 36 21).toNatClampNeg x1) 45 (fF (sF σ 44 (fF σ 36 21).toNatClampNeg x1) 36 21).toNatClampNeg (x2 / (100 : Int32))) 46 (fF (sF (sF σ 44 (fF σ 36 21).toNatClampNeg x1) 45 (fF (sF σ 44 (fF σ 36 21).toNatClampNeg x1) 36 21).toNatClampNeg (x2 / (100 : Int32))) 36 21).toNatClampNeg ((x2 / (10 : Int32)) - (x2 / (10 : Int32)) / (10 : Int32) * (10 : Int32))) 36 21).toNatClampNeg (x2 - x2 / (10 : Int32) * (10 : Int32))) 48 (fF (sF (sF (sF (sF σ 44 (fF σ 36 21).toNatClampNeg x1) 45 (fF (sF σ 44 (fF σ 36 21).toNatClampNeg x1) 36 21).toNatClampNeg (x2 / (100 : Int32))) 46 (fF (sF (sF σ 44 (fF σ 36 21).toNatClampNeg x1) 45 (fF (sF σ 44 (fF σ 36 21).toNatClampNeg x1) 36 21).toNatClampNeg (x2 / (100 : Int32))) 36 21).toNatClampNeg ((x2 / (10 : Int32)) - (x2 / (10 : Int32)) / (10 : Int32) * (10 : Int32))) 47 (fF (sF (sF (sF σ 44 (fF σ 36 21).toNatClampNeg x1) 45 (fF (sF σ 44 (fF σ 36 21).toNatClampNeg x1) 36 21).toNatClampNeg (x2 / (100 : Int32))) 46 (fF (sF (sF σ 44 (fF σ 36 21).toNatClampNeg x1) 45 (fF (sF σ 44 (fF σ 36 21).toNatClampNeg x1) 36 21).toNatClampNeg (x2 / (100 : Int32))) 36 21).toNatClampNeg ((x2 / (10 : Int32)) - (x2 / (10 : Int32)) / (10 : Int32) * (10 : Int32))) 36 21).toNatClampNeg (x2 - x2 / (10 : Int32) * (10 : Int32))) 36 21).toNatClampNeg x3) 49 (fF (sF (sF (sF (sF (sF σ 44 (fF σ 36 21).toNatClampNeg x1) 45 (fF (sF σ 44 (fF σ 36 21).toNatClampNeg x1) 36 21).toNatClampNeg (x2 / (100 : Int32))) 46 (fF (sF (sF σ 44 (fF σ 36 21).toNatClampNeg x1) 45 (fF (sF σ 44 (fF σ 36 21).toNatClampNeg x1) 36 21).toNatClampNeg (x2 / (100 : Int32))) 36 21).toNatClampNeg ((x2 / (10 : Int32)) - (x2 / (10 : Int32)) / (10 : Int32) * (10 : Int32))) 47 (fF (sF (sF (sF σ 44 (fF σ 36 21).toNatClampNeg x1) 45 (fF (sF σ 44 (fF σ 36 21).toNatClampNeg x1) 36 21).toNatClampNeg (x2 / (100 : Int32))) 46 (fF (sF (sF σ 44 (fF σ 36 21).toNatClampNeg x1) 45 (fF (sF σ 44 (fF σ 36 21).toNatClampNeg x1) 36 21).toNatClampNeg (x2 / (100 : Int32))) 36 21).toNatClampNeg ((x2 / (10 : Int32)) - (x2 / (10 : Int32)) / (10 : Int32) * (10 : Int32))) 36 21).toNatClampNeg (x2 - x2 / (10 : Int32) * (10 : Int32))) 48 (fF (sF (sF (sF (sF σ 44 (fF σ 36 21).toNatClampNeg x1) 45 (fF (sF σ 44 (fF σ 36 21).toNatClampNeg x1) 36 21).toNatClampNeg (x2 / (100 : Int32))) 46 (fF (sF (sF σ 44 (fF σ 36 21).toNatClampNeg x1) 45 (fF (sF σ 44 (fF σ 36 21).toNatClampNeg x1) 36 21).toNatClampNeg (x2 / (100 : Int32))) 36 21).toNatClampNeg ((x2 / (10 : Int32)) - (x2 / (10 : Int32)) / (10 : Int32) * (10 : Int32))) 47 (fF (sF (sF (sF σ 44 (fF σ 36 21).toNatClampNeg x1) 45 (fF (sF σ 44 (fF σ 36 21).toNatClampNeg x1) 36 21).toNatClampNeg (x2 / (100 : Int32))) 46 (fF (sF (sF σ 44 (fF σ 36 21).toNatClampNeg x1) 45 (fF (sF σ 44 (fF σ 36 21).toNatClampNeg x1) 36 21).toNatClampNeg (x2 / (100 : Int32))) 36 21).toNatClampNeg ((x2 / (10 : Int32)) - (x2 / (10 : Int32)) / (10 : Int32) * (10 : Int32))) 36 21).toNatClampNeg (x2 - x2 / (10 : Int32) * (10 : Int32))) 36 21).toNatClampNeg x3) 36 21).toNatClampNeg (0 : Int32)) 36 21).toNatClampNeg (0 : Int32)) 36 21) + (1 : Int32))) 36 21) - (1 : Int32), sF (sF (sF (sF (sF (sF (sF (sF σ 44 (fF σ 36 21).toNatClampNeg x1) 45 (fF (sF σ 44 (fF σ 36 21).toNatClampNeg x1) 36 21).toNatClampNeg (x2 / (100 : Int32))) 46 (fF (sF (sF σ 44 (fF σ 36 21).toNatClampNeg x1) 45 (fF (sF σ 44 (fF σ 36 21).toNatClampNeg x1) 36 21).toNatClampNeg (x2 / (100 : Int32))) 36 21).toNatClampNeg ((x2 / (10 : Int32)) - (x2 / (10 : Int32)) / (10 : Int32) * (10 : Int32))) 47 (fF (sF (sF (sF σ 44 (fF σ 36 21).toNatClampNeg x1) 45 (fF (sF σ 44 (fF σ 36 21).toNatClampNeg x1) 36 21).toNatClampNeg (x2 / (100 : Int32))) 46 (fF (sF (sF σ 44 (fF σ 36 21).toNatClampNeg x1) 45 (fF (sF σ 44 (fF σ 36 21).toNatClampNeg x1) 36 21).toNatClampNeg (x2 / (100 : Int32))) 36 21).toNatClampNeg ((x2 / (10 : Int32)) - (x2 / (10 : Int32)) / (10 : Int32) * (10 : Int32))) 36 21).toNatClampNeg (x2 - x2 / (10 : Int32) * (10 : Int32))) 48 (fF (sF (sF (sF (sF σ 44 (fF σ 36 21).toNatClampNeg x1) 45 (fF (sF σ 44 (fF σ 36 21).toNatClampNeg x1) 36 21).toNatClampNeg (x2 / (100 : Int32))) 46 (fF (sF (sF σ 44 (fF σ 36 21).toNatClampNeg x1) 45 (fF (sF σ 44 (fF σ 36 21).toNatClampNeg x1) 36 21).toNatClampNeg (x2 / (100 : Int32))) 36 21).toNatClampNeg ((x2 / (10 : Int32)) - (x2 / (10 : Int32)) / (10 : Int32) * (10 : Int32))) 47 (fF (sF (sF (sF σ 44 (fF σ 36 21).toNatClampNeg x1) 45 (fF (sF σ 44 (fF σ 36 21).toNatClampNeg x1) 36 21).toNatClampNeg (x2 / (100 : Int32))) 46 (fF (sF (sF σ 44 (fF σ 36 21).toNatClampNeg x1) 45 (fF (sF σ 44 (fF σ 36 21).toNatClampNeg x1) 36 21).toNatClampNeg (x2 / (100 : Int32))) 36 21).toNatClampNeg ((x2 / (10 : Int32)) - (x2 / (10 : Int32)) / (10 : Int32) * (10 : Int32))) 36 21).toNatClampNeg (x2 - x2 / (10 : Int32) * (10 : Int32))) 36 21).toNatClampNeg x3) 49 (fF (sF (sF (sF (sF (sF σ 44 (fF σ 36 21).toNatClampNeg x1) 45 (fF (sF σ 44 (fF σ 36 21).toNatClampNeg x1) 36 21).toNatClampNeg (x2 / (100 : Int32))) 46 (fF (sF (sF σ 44 (fF σ 36 21).toNatClampNeg x1) 45 (fF (sF σ 44 (fF σ 36 21).toNatClampNeg x1) 36 21).toNatClampNeg (x2 / (100 : Int32))) 36 21).toNatClampNeg ((x2 / (10 : Int32)) - (x2 / (10 : Int32)) / (10 : Int32) * (10 : Int32))) 47 (fF (sF (sF (sF σ 44 (fF σ 36 21).toNatClampNeg x1) 45 (fF (sF σ 44 (fF σ 36 21).toNatClampNeg x1) 36 21).toNatClampNeg (x2 / (100 : Int32))) 46 (fF (sF (sF σ 44 (fF σ 36 21).toNatClampNeg x1) 45 (fF (sF σ 44 (fF σ 36 21).toNatClampNeg x1) 36 21).toNatClampNeg (x2 / (100 : Int32))) 36 21).toNatClampNeg ((x2 / (10 : Int32)) - (x2 / (10 : Int32)) / (10 : Int32) * (10 : Int32))) 36 21).toNatClampNeg (x2 - x2 / (10 : Int32) * (10 : Int32))) 48 (fF (sF (sF (sF (sF σ 44 (fF σ 36 21).toNatClampNeg x1) 45 (fF (sF σ 44 (fF σ 36 21).toNatClampNeg x1) 36 21).toNatClampNeg (x2 / (100 : Int32))) 46 (fF (sF (sF σ 44 (fF σ 36 21).toNatClampNeg x1) 45 (fF (sF σ 44 (fF σ 36 21).toNatClampNeg x1) 36 21).toNatClampNeg (x2 / (100 : Int32))) 36 21).toNatClampNeg ((x2 / (10 : Int32)) - (x2 / (10 : Int32)) / (10 : Int32) * (10 : Int32))) 47 (fF (sF (sF (sF σ 44 (fF σ 36 21).toNatClampNeg x1) 45 (fF (sF σ 44 (fF σ 36 21).toNatClampNeg x1) 36 21).toNatClampNeg (x2 / (100 : Int32))) 46 (fF (sF (sF σ 44 (fF σ 36 21).toNatClampNeg x1) 45 (fF (sF σ 44 (fF σ 36 21).toNatClampNeg x1) 36 21).toNatClampNeg (x2 / (100 : Int32))) 36 21).toNatClampNeg ((x2 / (10 : Int32)) - (x2 / (10 : Int32)) / (10 : Int32) * (10 : Int32))) 36 21).toNatClampNeg (x2 - x2 / (10 : Int32) * (10 : Int32))) 36 21).toNatClampNeg x3) 36 21).toNatClampNeg (0 : Int32)) 50 (fF (sF (sF (sF (sF (sF (sF σ 44 (fF σ 36 21).toNatClampNeg x1) 45 (fF (sF σ 44 (fF σ 36 21).toNatClampNeg x1) 36 21).toNatClampNeg (x2 / (100 : Int32))) 46 (fF (sF (sF σ 44 (fF σ 36 21).toNatClampNeg x1) 45 (fF (sF σ 44 (fF σ 36 21).toNatClampNeg x1) 36 21).toNatClampNeg (x2 / (100 : Int32))) 36 21).toNatClampNeg ((x2 / (10 : Int32)) - (x2 / (10 : Int32)) / (10 : Int32) * (10 : Int32))) 47 (fF (sF (sF (sF σ 44 (fF σ 36 21).toNatClampNeg x1) 45 (fF (sF σ 44 (fF σ 36 21).toNatClampNeg x1) 36 21).toNatClampNeg (x2 / (100 : Int32))) 46 (fF (sF (sF σ 44 (fF σ 36 21).toNatClampNeg x1) 45 (fF (sF σ 44 (fF σ 36 21).toNatClampNeg x1) 36 21).toNatClampNeg (x2 / (100 : Int32))) 36 21).toNatClampNeg ((x2 / (10 : Int32)) - (x2 / (10 : Int32)) / (10 : Int32) * (10 : Int32))) 36 21).toNatClampNeg (x2 - x2 / (10 : Int32) * (10 : Int32))) 48 (fF (sF (sF (sF (sF σ 44 (fF σ 36 21).toNatClampNeg x1) 45 (fF (sF σ 44 (fF σ 36 21).toNatClampNeg x1) 36 21).toNatClampNeg (x2 / (100 : Int32))) 46 (fF (sF (sF σ 44 (fF σ 36 21).toNatClampNeg x1) 45 (fF (sF σ 44 (fF σ 36 21).toNatClampNeg x1) 36 21).toNatClampNeg (x2 / (100 : Int32))) 36 21).toNatClampNeg ((x2 / (10 : Int32)) - (x2 / (10 : Int32)) / (10 : Int32) * (10 : Int32))) 47 (fF (sF (sF (sF σ 44 (fF σ 36 21).toNatClampNeg x1) 45 (fF (sF σ 44 (fF σ 36 21).toNatClampNeg x1) 36 21).toNatClampNeg (x2 / (100 : Int32))) 46 (fF (sF (sF σ 44 (fF σ 36 21).toNatClampNeg x1) 45 (fF (sF σ 44 (fF σ 36 21).toNatClampNeg x1) 36 21).toNatClampNeg (x2 / (100 : Int32))) 36 21).toNatClampNeg ((x2 / (10 : Int32)) - (x2 / (10 : Int32)) / (10 : Int32) * (10 : Int32))) 36 21).toNatClampNeg (x2 - x2 / (10 : Int32) * (10 : Int32))) 36 21).toNatClampNeg x3) 49 (fF (sF (sF (sF (sF (sF σ 44 (fF σ 36 21).toNatClampNeg x1) 45 (fF (sF σ 44 (fF σ 36 21).toNatClampNeg x1) 36 21).toNatClampNeg (x2 / (100 : Int32))) 46 (fF (sF (sF σ 44 (fF σ 36 21).toNatClampNeg x1) 45 (fF (sF σ 44 (fF σ 36 21).toNatClampNeg x1) 36 21).toNatClampNeg (x2 / (100 : Int32))) 36 21).toNatClampNeg ((x2 / (10 : Int32)) - (x2 / (10 : Int32)) / (10 : Int32) * (10 : Int32))) 47 (fF (sF (sF (sF σ 44 (fF σ 36 21).toNatClampNeg x1) 45 (fF (sF σ 44 (fF σ 36 21).toNatClampNeg x1) 36 21).toNatClampNeg (x2 / (100 : Int32))) 46 (fF (sF (sF σ 44 (fF σ 36 21).toNatClampNeg x1) 45 (fF (sF σ 44 (fF σ 36 21).toNatClampNeg x1) 36 21).toNatClampNeg (x2 / (100 : Int32))) 36 21).toNatClampNeg ((x2 / (10 : Int32)) - (x2 / (10 : Int32)) / (10 : Int32) * (10 : Int32))) 36 21).toNatClampNeg (x2 - x2 / (10 : Int32) * (10 : Int32))) 48 (fF (sF (sF (sF (sF σ 44 (fF σ 36 21).toNatClampNeg x1) 45 (fF (sF σ 44 (fF σ 36 21).toNatClampNeg x1) 36 21).toNatClampNeg (x2 / (100 : Int32))) 46 (fF (sF (sF σ 44 (fF σ 36 21).toNatClampNeg x1) 45 (fF (sF σ 44 (fF σ 36 21).toNatClampNeg x1) 36 21).toNatClampNeg (x2 / (100 : Int32))) 36 21).toNatClampNeg ((x2 / (10 : Int32)) - (x2 / (10 : Int32)) / (10 : Int32) * (10 : Int32))) 47 (fF (sF (sF (sF σ 44 (fF σ 36 21).toNatClampNeg x1) 45 (fF (sF σ 44 (fF σ 36 21).toNatClampNeg x1) 36 21).toNatClampNeg (x2 / (100 : Int32))) 46 (fF (sF (sF σ 44 (fF σ 36 21).toNatClampNeg x1) 45 (fF (sF σ 44 (fF σ 36 21).toNatClampNeg x1) 36 21).toNatClampNeg (x2 / (100 : Int32))) 36 21).toNatClampNeg ((x2 / (10 : Int32)) - (x2 / (10 : Int32)) / (10 : Int32) * (10 : Int32))) 36 21).toNatClampNeg (x2 - x2 / (10 : Int32) * (10 : Int32))) 36 21).toNatClampNeg x3) 36 21).toNatClampNeg (0 : Int32)) 36 21).toNatClampNeg (0 : Int32)) 36 21 ((fF (sF (sF (sF (sF (sF (sF (sF σ 44 (fF σ 36 21).toNatClampNeg x1) 45 (fF (sF σ 44 (fF σ 36 21).toNatClampNeg x1) 36 21).toNatClampNeg (x2 / (100 : Int32))) 46 (fF (sF (sF σ 44 (fF σ 36 21).toNatClampNeg x1) 45 (fF (sF σ 44 (fF σ 36 21).toNatClampNeg x1) 36 21).toNatClampNeg (x2 / (100 : Int32))) 36 21).toNatClampNeg ((x2 / (10 : Int32)) - (x2 / (10 : Int32)) / (10 : Int32) * (10 : Int32))) 47 (fF (sF (sF (sF σ 44 (fF σ 36 21).toNatClampNeg x1) 45 (fF (sF σ 44 (fF σ 36 21).toNatClampNeg x1) 36 21).toNatClampNeg (x2 / (100 : Int32))) 46 (fF (sF (sF σ 44 (fF σ 36 21).toNatClampNeg x1) 45 (fF (sF σ 44 (fF σ 36 21).toNatClampNeg x1) 36 21).toNatClampNeg (x2 / (100 : Int32))) 36 21).toNatClampNeg ((x2 / (10 : Int32)) - (x2 / (10 : Int32)) / (10 : Int32) * (10 : Int32))) 36 21).toNatClampNeg (x2 - x2 / (10 : Int32) * (10 : Int32))) 48 (fF (sF (sF (sF (sF σ 44 (fF σ 36 21).toNatClampNeg x1) 45 (fF (sF σ 44 (fF σ 36 21).toNatClampNeg x1) 36 21).toNatClampNeg (x2 / (100 : Int32))) 46 (fF (sF (sF σ 44 (fF σ 36 21).toNatClampNeg x1) 45 (fF (sF σ 44 (fF σ 36 21).toNatClampNeg x1) 36 21).toNatClampNeg (x2 / (100 : Int32))) 36 21).toNatClampNeg ((x2 / (10 : Int32)) - (x2 / (10 : Int32)) / (10 : Int32) * (10 : Int32))) 47 (fF (sF (sF (sF σ 44 (fF σ 36 21).toNatClampNeg x1) 45 (fF (sF σ 44 (fF σ 36 21).toNatClampNeg x1) 36 21).toNatClampNeg (x2 / (100 : Int32))) 46 (fF (sF (sF σ 44 (fF σ 36 21).toNatClampNeg x1) 45 (fF (sF σ 44 (fF σ 36 21).toNatClampNeg x1) 36 21).toNatClampNeg (x2 / (100 : Int32))) 36 21).toNatClampNeg ((x2 / (10 : Int32)) - (x2 / (10 : Int32)) / (10 : Int32) * (10 : Int32))) 36 21).toNatClampNeg (x2 - x2 / (10 : Int32) * (10 : Int32))) 36 21).toNatClampNeg x3) 49 (fF (sF (sF (sF (sF (sF σ 44 (fF σ 36 21).toNatClampNeg x1) 45 (fF (sF σ 44 (fF σ 36 21).toNatClampNeg x1) 36 21).toNatClampNeg (x2 / (100 : Int32))) 46 (fF (sF (sF σ 44 (fF σ 36 21).toNatClampNeg x1) 45 (fF (sF σ 44 (fF σ 36 21).toNatClampNeg x1) 36 21).toNatClampNeg (x2 / (100 : Int32))) 36 21).toNatClampNeg ((x2 / (10 : Int32)) - (x2 / (10 : Int32)) / (10 : Int32) * (10 : Int32))) 47 (fF (sF (sF (sF σ 44 (fF σ 36 21).toNatClampNeg x1) 45 (fF (sF σ 44 (fF σ 36 21).toNatClampNeg x1) 36 21).toNatClampNeg (x2 / (100 : Int32))) 46 (fF (sF (sF σ 44 (fF σ 36 21).toNatClampNeg x1) 45 (fF (sF σ 44 (fF σ 36 21).toNatClampNeg x1) 36 21).toNatClampNeg (x2 / (100 : Int32))) 36 21).toNatClampNeg ((x2 / (10 : Int32)) - (x2 / (10 : Int32)) / (10 : Int32) * (10 : Int32))) 36 21).toNatClampNeg (x2 - x2 / (10 : Int32) * (10 : Int32))) 48 (fF (sF (sF (sF (sF σ 44 (fF σ 36 21).toNatClampNeg x1) 45 (fF (sF σ 44 (fF σ 36 21).toNatClampNeg x1) 36 21).toNatClampNeg (x2 / (100 : Int32))) 46 (fF (sF (sF σ 44 (fF σ 36 21).toNatClampNeg x1) 45 (fF (sF σ 44 (fF σ 36 21).toNatClampNeg x1) 36 21).toNatClampNeg (x2 / (100 : Int32))) 36 21).toNatClampNeg ((x2 / (10 : Int32)) - (x2 / (10 : Int32)) / (10 : Int32) * (10 : Int32))) 47 (fF (sF (sF (sF σ 44 (fF σ 36 21).toNatClampNeg x1) 45 (fF (sF σ 44 (fF σ 36 21).toNatClampNeg x1) 36 21).toNatClampNeg (x2 / (100 : Int32))) 46 (fF (sF (sF σ 44 (fF σ 36 21).toNatClampNeg x1) 45 (fF (sF σ 44 (fF σ 36 21).toNatClampNeg x1) 36 21).toNatClampNeg (x2 / (100 : Int32))) 36 21).toNatClampNeg ((x2 / (10 : Int32)) - (x2 / (10 : Int32)) / (10 : Int32) * (10 : Int32))) 36 21).toNatClampNeg (x2 - x2 / (10 : Int32) * (10 : Int32))) 36 21).toNatClampNeg x3) 36 21).toNatClampNeg (0 : Int32)) 50 (fF (sF (sF (sF (sF (sF (sF σ 44 (fF σ 36 21).toNatClampNeg x1) 45 (fF (sF σ 44 (fF σ 36 21).toNatClampNeg x1) 36 21).toNatClampNeg (x2 / (100 : Int32))) 46 (fF (sF (sF σ 44 (fF σ 36 21).toNatClampNeg x1) 45 (fF (sF σ 44 (fF σ 36 21).toNatClampNeg x1) 36 21).toNatClampNeg (x2 / (100 : Int32))) 36 21).toNatClampNeg ((x2 / (10 : Int32)) - (x2 / (10 : Int32)) / (10 : Int32) * (10 : Int32))) 47 (fF (sF (sF (sF σ 44 (fF σ 36 21).toNatClampNeg x1) 45 (fF (sF σ 44 (fF σ 36 21).toNatClampNeg x1) 36 21).toNatClampNeg (x2 / (100 : Int32))) 46 (fF (sF (sF σ 44 (fF σ 36 21).toNatClampNeg x1) 45 (fF (sF σ 44 (fF σ 36 21).toNatClampNeg x1) 36 21).toNatClampNeg (x2 / (100 : Int32))) 36 21).toNatClampNeg ((x2 / (10 : Int32)) - (x2 / (10 : Int32)) / (10 : Int32) * (10 : Int32))) 36 21).toNatClampNeg (x2 - x2 / (10 : Int32) * (10 : Int32))) 48 (fF (sF (sF (sF (sF σ 44 (fF σ 36 21).toNatClampNeg x1) 45 (fF (sF σ 44 (fF σ 36 21).toNatClampNeg x1) 36 21).toNatClampNeg (x2 / (100 : Int32))) 46 (fF (sF (sF σ 44 (fF σ 36 21).toNatClampNeg x1) 45 (fF (sF σ 44 (fF σ 36 21).toNatClampNeg x1) 36 21).toNatClampNeg (x2 / (100 : Int32))) 36 21).toNatClampNeg ((x2 / (10 : Int32)) - (x2 / (10 : Int32)) / (10 : Int32) * (10 : Int32))) 47 (fF (sF (sF (sF σ 44 (fF σ 36 21).toNatClampNeg x1) 45 (fF (sF σ 44 (fF σ 36 21).toNatClampNeg x1) 36 21).toNatClampNeg (x2 / (100 : Int32))) 46 (fF (sF (sF σ 44 (fF σ 36 21).toNatClampNeg x1) 45 (fF (sF σ 44 (fF σ 36 21).toNatClampNeg x1) 36 21).toNatClampNeg (x2 / (100 : Int32))) 36 21).toNatClampNeg ((x2 / (10 : Int32)) - (x2 / (10 : Int32)) / (10 : Int32) * (10 : Int32))) 36 21).toNatClampNeg (x2 - x2 / (10 : Int32) * (10 : Int32))) 36 21).toNatClampNeg x3) 49 (fF (sF (sF (sF (sF (sF σ 44 (fF σ 36 21).toNatClampNeg x1) 45 (fF (sF σ 44 (fF σ 36 21).toNatClampNeg x1) 36 21).toNatClampNeg (x2 / (100 : Int32))) 46 (fF (sF (sF σ 44 (fF σ 36 21).toNatClampNeg x1) 45 (fF (sF σ 44 (fF σ 36 21).toNatClampNeg x1) 36 21).toNatClampNeg (x2 / (100 : Int32))) 36 21).toNatClampNeg ((x2 / (10 : Int32)) - (x2 / (10 : Int32)) / (10 : Int32) * (10 : Int32))) 47 (fF (sF (sF (sF σ 44 (fF σ 36 21).toNatClampNeg x1) 45 (fF (sF σ 44 (fF σ 36 21).toNatClampNeg x1) 36 21).toNatClampNeg (x2 / (100 : Int32))) 46 (fF (sF (sF σ 44 (fF σ 36 21).toNatClampNeg x1) 45 (fF (sF σ 44 (fF σ 36 21).toNatClampNeg x1) 36 21).toNatClampNeg (x2 / (100 : Int32))) 36 21).toNatClampNeg ((x2 / (10 : Int32)) - (x2 / (10 : Int32)) / (10 : Int32) * (10 : Int32))) 36 21).toNatClampNeg (x2 - x2 / (10 : Int32) * (10 : Int32))) 48 (fF (sF (sF (sF (sF σ 44 (fF σ 36 21).toNatClampNeg x1) 45 (fF (sF σ 44 (fF σ 36 21).toNatClampNeg x1) 36 21).toNatClampNeg (x2 / (100 : Int32))) 46 (fF (sF (sF σ 44 (fF σ 36 21).toNatClampNeg x1) 45 (fF (sF σ 44 (fF σ 36 21).toNatClampNeg x1) 36 21).toNatClampNeg (x2 / (100 : Int32))) 36 21).toNatClampNeg ((x2 / (10 : Int32)) - (x2 / (10 : Int32)) / (10 : Int32) * (10 : Int32))) 47 (fF (sF (sF (sF σ 44 (fF σ 36 21).toNatClampNeg x1) 45 (fF (sF σ 44 (fF σ 36 21).toNatClampNeg x1) 36 21).toNatClampNeg (x2 / (100 : Int32))) 46 (fF (sF (sF σ 44 (fF σ 36 21).toNatClampNeg x1) 45 (fF (sF σ 44 (fF σ 36 21).toNatClampNeg x1) 36 21).toNatClampNeg (x2 / (100 : Int32))) 36 21).toNatClampNeg ((x2 / (10 : Int32)) - (x2 / (10 : Int32)) / (10 : Int32) * (10 : Int32))) 36 21).toNatClampNeg (x2 - x2 / (10 : Int32) * (10 : Int32))) 36 21).toNatClampNeg x3) 36 21).toNatClampNeg (0 : Int32)) 36 21).toNatClampNeg (0 : Int32)) 36 21) + (1 : Int32)))) else none) else none) else none) else none) else none) else none) else none)
theorem z12_rower_J53 {l : Launch} {E : am_E} {d : Nat} {σ0 : am_S} (hd : 2 ≤ d) (x1 : Int32) (x2 : Int32) (x3 : Int32) (σ : am_S) : Z l E msM σ0 YX12_rower d 0 0 53 [(0, .ref 36), (1, .int x1), (2, .int x2), (3, .int x3)] [] 0 0 σ (f12_rower_J53 x1 x2 x3 σ) (fun u r s => r = some (.int u.1) ∧ s = u.2) := by
  unfold f12_rower_J53
  refine z_aload_n (pc := 53) 0 dX12_rower_53 rfl rfl ?_
  refine z_getI (pc := 54) dX12_rower_54 (am_ob.s kM36) fr_RX12_138_12 (by decide) ?_
  refine z_bipush (pc := 57) (v := (14 : Int32)) dX12_rower_57 (by decide) ?_
  refine z_ic_ne (pc := 59) (tgt := 65) dX12_rower_59 (by decide) (fun h14 => ?_) (fun h14 => ?_)
  · refine z_bipush (pc := 62) (v := (-4 : Int32)) dX12_rower_62 (by decide) ?_
    exact z_rIs dX12_rower_64 rfl ⟨by decide, by decide⟩
  · refine z_aload_n (pc := 65) 0 dX12_rower_65 rfl rfl ?_
    refine z_getQ (pc := 66) (b := 44) dX12_rower_66 kM36 fr_RX12_35_12 (by decide) rfl ?_
    refine z_aload_n (pc := 69) 0 dX12_rower_69 rfl rfl ?_
    refine z_getI (pc := 70) dX12_rower_70 (am_ob.s kM36) fr_RX12_138_12 (by decide) ?_
    refine z_iload_n (pc := 73) 1 dX12_rower_73 rfl rfl ?_
    refine z_iast (pc := 74) dX12_rower_74 (am_ar.s kM44) (fun h15 => ?_)
    refine z_aload_n (pc := 75) 0 dX12_rower_75 rfl rfl ?_
    refine z_getQ (pc := 76) (b := 45) dX12_rower_76 kM36 fr_RX12_38_12 (by decide) rfl ?_
    refine z_aload_n (pc := 79) 0 dX12_rower_79 rfl rfl ?_
    refine z_getI (pc := 80) dX12_rower_80 (am_ob.s kM36) fr_RX12_138_12 (by decide) ?_
    refine z_iload_n (pc := 83) 2 dX12_rower_83 rfl rfl ?_
    refine z_bipush (pc := 84) (v := (100 : Int32)) dX12_rower_84 (by decide) ?_
    refine z_idiv (pc := 86) dX12_rower_86 (by decide) ?_
    refine z_iast (pc := 87) dX12_rower_87 (am_ar.s kM45) (fun h16 => ?_)
    refine z_aload_n (pc := 88) 0 dX12_rower_88 rfl rfl ?_
    refine z_getQ (pc := 89) (b := 46) dX12_rower_89 kM36 fr_RX12_41_12 (by decide) rfl ?_
    refine z_aload_n (pc := 92) 0 dX12_rower_92 rfl rfl ?_
    refine z_getI (pc := 93) dX12_rower_93 (am_ob.s kM36) fr_RX12_138_12 (by decide) ?_
    refine z_iload_n (pc := 96) 2 dX12_rower_96 rfl rfl ?_
    refine z_bipush (pc := 97) (v := (10 : Int32)) dX12_rower_97 (by decide) ?_
    refine z_idiv (pc := 99) dX12_rower_99 (by decide) ?_
    refine z_bipush (pc := 100) (v := (10 : Int32)) dX12_rower_100 (by decide) ?_
    refine z_irem (pc := 102) dX12_rower_102 (by decide) ?_
    refine z_iast (pc := 103) dX12_rower_103 (am_ar.s kM46) (fun h17 => ?_)
    refine z_aload_n (pc := 104) 0 dX12_rower_104 rfl rfl ?_
    refine z_getQ (pc := 105) (b := 47) dX12_rower_105 kM36 fr_RX12_44_12 (by decide) rfl ?_
    refine z_aload_n (pc := 108) 0 dX12_rower_108 rfl rfl ?_
    refine z_getI (pc := 109) dX12_rower_109 (am_ob.s kM36) fr_RX12_138_12 (by decide) ?_
    refine z_iload_n (pc := 112) 2 dX12_rower_112 rfl rfl ?_
    refine z_bipush (pc := 113) (v := (10 : Int32)) dX12_rower_113 (by decide) ?_
    refine z_irem (pc := 115) dX12_rower_115 (by decide) ?_
    refine z_iast (pc := 116) dX12_rower_116 (am_ar.s kM47) (fun h18 => ?_)
    refine z_aload_n (pc := 117) 0 dX12_rower_117 rfl rfl ?_
    refine z_getQ (pc := 118) (b := 48) dX12_rower_118 kM36 fr_RX12_47_12 (by decide) rfl ?_
    refine z_aload_n (pc := 121) 0 dX12_rower_121 rfl rfl ?_
    refine z_getI (pc := 122) dX12_rower_122 (am_ob.s kM36) fr_RX12_138_12 (by decide) ?_
    refine z_iload_n (pc := 125) 3 dX12_rower_125 rfl rfl ?_
    refine z_iast (pc := 126) dX12_rower_126 (am_ar.s kM48) (fun h19 => ?_)
    refine z_aload_n (pc := 127) 0 dX12_rower_127 rfl rfl ?_
    refine z_getQ (pc := 128) (b := 49) dX12_rower_128 kM36 fr_RX12_50_12 (by decide) rfl ?_
    refine z_aload_n (pc := 131) 0 dX12_rower_131 rfl rfl ?_
    refine z_getI (pc := 132) dX12_rower_132 (am_ob.s kM36) fr_RX12_138_12 (by decide) ?_
    refine z_iconst (pc := 135) (v := (0 : Int32)) dX12_rower_135 (by decide) ?_
    refine z_iast (pc := 136) dX12_rower_136 (am_ar.s kM49) (fun h20 => ?_)
    refine z_aload_n (pc := 137) 0 dX12_rower_137 rfl rfl ?_
    refine z_getQ (pc := 138) (b := 50) dX12_rower_138 kM36 fr_RX12_53_12 (by decide) rfl ?_
    refine z_aload_n (pc := 141) 0 dX12_rower_141 rfl rfl ?_
    refine z_getI (pc := 142) dX12_rower_142 (am_ob.s kM36) fr_RX12_138_12 (by decide) ?_
    refine z_iconst (pc := 145) (v := (0 : Int32)) dX12_rower_145 (by decide) ?_
    refine z_iast (pc := 146) dX12_rower_146 (am_ar.s kM50) (fun h21 => ?_)
    refine z_aload_n (pc := 147) 0 dX12_rower_147 rfl rfl ?_
    refine z_dup (pc := 148) dX12_rower_148 rfl ?_
    refine z_getI (pc := 149) dX12_rower_149 (am_ob.s kM36) fr_RX12_138_12 (by decide) ?_
    refine z_iconst (pc := 152) (v := (1 : Int32)) dX12_rower_152 (by decide) ?_
    refine z_iadd (pc := 153) dX12_rower_153 ?_
    refine z_putI (pc := 154) dX12_rower_154 (am_ob.s kM36) fw_RX12_138_12 (by decide) ?_
    refine z_aload_n (pc := 157) 0 dX12_rower_157 rfl rfl ?_
    refine z_getI (pc := 158) dX12_rower_158 (am_ob.s kM36) fr_RX12_138_12 (by decide) ?_
    refine z_iconst (pc := 161) (v := (1 : Int32)) dX12_rower_161 (by decide) ?_
    refine z_isub (pc := 162) dX12_rower_162 ?_
    exact z_rIs dX12_rower_163 rfl ⟨by decide, by decide⟩
def f12_rower (σ : am_S) (x1 : Int32) (x2 : Int32) (x3 : Int32) : Option (Int32 × am_S) := (f12_in x1.toInt64 (0 : Int64) (5 : Int64)).bind fun v1 => (if v1 = true then ((f12_in x2.toInt64 (1400 : Int64) (9099 : Int64)).bind fun v5 => (if v5 = true then ((f12_isCrossing σ (x2 - x2 / (10 : Int32) * (10 : Int32))).bind fun v9 => (if v9 = true then (if x3 = (-1 : Int32) then (f12_rower_J53 x1 x2 x3 σ) else ((f12_isRower σ x3).bind fun v22 => (if v22 = true then (f12_rower_J53 x1 x2 x3 σ) else (some ((-2 : Int32), σ))))) else (some ((-2 : Int32), σ)))) else (some ((-2 : Int32), σ)))) else (some ((-2 : Int32), σ)))
theorem c12_rower {l : Launch} {E : am_E} {σ : am_S} {x1 : Int32} {x2 : Int32} {x3 : Int32} {v : Int32} {σ1 : am_S} (hf : f12_rower σ x1 x2 x3 = some (v, σ1)) : Ctr l E msM YX12_rower (2) 0 0 [.ref 36, .int x1, .int x2, .int x3] σ (some (.int v)) σ1 := by
  refine ctr_of (G := fun u r s => r = some (.int u.1) ∧ s = u.2) (by decide +kernel) (Nat.le_of_ble_eq_true rfl) hf ⟨rfl, rfl⟩ (fun d hd => ?_)
  refine z_eqlv (lv' := [(0, .ref 36), (1, .int x1), (2, .int x2), (3, .int x3)]) rfl ?_
  unfold f12_rower
  refine z_iload_n (pc := 0) 1 dX12_rower_0 rfl rfl ?_
  refine z_i2l (pc := 1) dX12_rower_1 ?_
  refine z_lconst (pc := 2) (v := (0 : Int64)) dX12_rower_2 (by decide) ?_
  refine z_ldc2 (pc := 3) (v := (5 : Int64)) dX12_rower_3 kl_RX12_164 ?_
  refine z_callB (pc := 6) [.long x1.toInt64, .long (0 : Int64), .long (5 : Int64)] [] rfl (lk_S (Yc := YX12_in) (n := 3) dX12_rower_6 rfl np_X12_in mh_RX12 (by decide) ml_RX12_134 st_X12_in in_RX12 cd_X12_in) (Nat.le_trans (by decide) hd) ⟨by decide, by decide⟩ (Nat.le_of_ble_eq_true rfl) (am_kp.rf _) (fun v1 h3 => c12_in h3) (fun v1 h3 => ?_)
  refine z_bz_eq (pc := 9) (tgt := 50) dX12_rower_9 (by decide) (fun h4 => ?_) (fun h4 => ?_)
  · refine z_iload_n (pc := 12) 2 dX12_rower_12 rfl rfl ?_
    refine z_i2l (pc := 13) dX12_rower_13 ?_
    refine z_ldc2 (pc := 14) (v := (1400 : Int64)) dX12_rower_14 kl_RX12_166 ?_
    refine z_ldc2 (pc := 17) (v := (9099 : Int64)) dX12_rower_17 kl_RX12_168 ?_
    refine z_callB (pc := 20) [.long x2.toInt64, .long (1400 : Int64), .long (9099 : Int64)] [] rfl (lk_S (Yc := YX12_in) (n := 3) dX12_rower_20 rfl np_X12_in mh_RX12 (by decide) ml_RX12_134 st_X12_in in_RX12 cd_X12_in) (Nat.le_trans (by decide) hd) ⟨by decide, by decide⟩ (Nat.le_of_ble_eq_true rfl) (am_kp.rf _) (fun v5 h7 => c12_in h7) (fun v5 h7 => ?_)
    refine z_bz_eq (pc := 23) (tgt := 50) dX12_rower_23 (by decide) (fun h8 => ?_) (fun h8 => ?_)
    · refine z_aload_n (pc := 26) 0 dX12_rower_26 rfl rfl ?_
      refine z_iload_n (pc := 27) 2 dX12_rower_27 rfl rfl ?_
      refine z_bipush (pc := 28) (v := (10 : Int32)) dX12_rower_28 (by decide) ?_
      refine z_irem (pc := 30) dX12_rower_30 (by decide) ?_
      refine z_callB (pc := 31) [.ref 36, .int (x2 - x2 / (10 : Int32) * (10 : Int32))] [] rfl (lk_V (Yc := YX12_isCrossing) (n := 1) dX12_rower_31 rfl rfl (am_ob.s kM36) rfl rfl np_X12_isCrossing mh_RX12 (by decide) ml_RX12_159 im_X12_isCrossing se_RX12_X12_isCrossing_X12_isCrossing in_RX12 cd_X12_isCrossing) (Nat.le_trans (by decide) hd) ⟨by decide, by decide⟩ (Nat.le_of_ble_eq_true rfl) (am_kp.rf _) (fun v9 h11 => c12_isCrossing h11) (fun v9 h11 => ?_)
      refine z_bz_eq (pc := 34) (tgt := 50) dX12_rower_34 (by decide) (fun h12 => ?_) (fun h12 => ?_)
      · refine z_iload_n (pc := 37) 3 dX12_rower_37 rfl rfl ?_
        refine z_iconst (pc := 38) (v := (-1 : Int32)) dX12_rower_38 (by decide) ?_
        refine z_ic_eq (pc := 39) (tgt := 53) dX12_rower_39 (by decide) (fun h13 => ?_) (fun h13 => ?_)
        · refine z_lv (lv' := [(0, .ref 36), (1, .int x1), (2, .int x2), (3, .int x3)]) [0, 1, 2, 3] rfl ?_
          exact z12_rower_J53 hd x1 x2 x3 σ
        · refine z_aload_n (pc := 42) 0 dX12_rower_42 rfl rfl ?_
          refine z_iload_n (pc := 43) 3 dX12_rower_43 rfl rfl ?_
          refine z_callB (pc := 44) [.ref 36, .int x3] [] rfl (lk_V (Yc := YX12_isRower) (n := 1) dX12_rower_44 rfl rfl (am_ob.s kM36) rfl rfl np_X12_isRower mh_RX12 (by decide) ml_RX12_170 im_X12_isRower se_RX12_X12_isRower_X12_isRower in_RX12 cd_X12_isRower) (Nat.le_trans (by decide) hd) ⟨by decide, by decide⟩ (Nat.le_of_ble_eq_true rfl) (am_kp.rf _) (fun v22 h24 => c12_isRower h24) (fun v22 h24 => ?_)
          refine z_bz_ne (pc := 47) (tgt := 53) dX12_rower_47 (by decide) (fun h25 => ?_) (fun h25 => ?_)
          · refine z_lv (lv' := [(0, .ref 36), (1, .int x1), (2, .int x2), (3, .int x3)]) [0, 1, 2, 3] rfl ?_
            exact z12_rower_J53 hd x1 x2 x3 σ
          · refine z_bipush (pc := 50) (v := (-2 : Int32)) dX12_rower_50 (by decide) ?_
            exact z_rIs dX12_rower_52 rfl ⟨by decide, by decide⟩
      · refine z_bipush (pc := 50) (v := (-2 : Int32)) dX12_rower_50 (by decide) ?_
        exact z_rIs dX12_rower_52 rfl ⟨by decide, by decide⟩
    · refine z_bipush (pc := 50) (v := (-2 : Int32)) dX12_rower_50 (by decide) ?_
      exact z_rIs dX12_rower_52 rfl ⟨by decide, by decide⟩
  · refine z_bipush (pc := 50) (v := (-2 : Int32)) dX12_rower_50 (by decide) ?_
    exact z_rIs dX12_rower_52 rfl ⟨by decide, by decide⟩
def f12_rowers_L75 (N : Nat) : Nat → Int32 → Int32 → Int32 → Int32 → Int32 → am_S → Option (Int32 × am_S)
  | 0, _, _, _, _, _, _ => none
  | n + 1, x1, x3, x4, x5, x6, σ => if x4 ≤ x6 then (some (x5, σ)) else (if x3 < 0 then (some ((-12 : Int32), σ)) else (if am_in x1 4 = true then (if x3 ≤ ((fF σ 66 x1.toNatClampNeg) - ((3 : Int32) * x6)) - (3 : Int32) then (if am_in ((((40 : Int32) * x1) + x3) + ((3 : Int32) * x6)) 160 = true then (if am_in (((((40 : Int32) * x1) + x3) + ((3 : Int32) * x6)) + (1 : Int32)) 160 = true then (if am_in (((((40 : Int32) * x1) + x3) + ((3 : Int32) * x6)) + (2 : Int32)) 160 = true then ((f12_rower σ (fF σ 67 ((((40 : Int32) * x1) + x3) + ((3 : Int32) * x6)).toNatClampNeg) (fF σ 67 (((((40 : Int32) * x1) + x3) + ((3 : Int32) * x6)) + (1 : Int32)).toNatClampNeg) (fF σ 67 (((((40 : Int32) * x1) + x3) + ((3 : Int32) * x6)) + (2 : Int32)).toNatClampNeg)).bind fun (v24, s25) => (if v24 < 0 then (f12_rowers_L75 N n x1 x3 x4 (x5 + (0 : Int32)) (x6 + (1 : Int32)) s25) else (f12_rowers_L75 N n x1 x3 x4 (x5 + (1 : Int32)) (x6 + (1 : Int32)) s25))) else none) else none) else none) else (some ((-12 : Int32), σ))) else none))
theorem z12_rowers_L75 {l : Launch} {E : am_E} {d : Nat} {σ0 : am_S} {N : Nat} (hd : 3 ≤ d) : ∀ (n : Nat) (x1 : Int32) (x3 : Int32) (x4 : Int32) (x5 : Int32) (x6 : Int32) (σ : am_S), Z l E msM σ0 YX12_rowers d 0 0 75 [(0, .ref 36), (1, .int x1), (3, .int x3), (4, .int x4), (5, .int x5), (6, .int x6)] [] 0 0 σ (f12_rowers_L75 N n x1 x3 x4 x5 x6 σ) (fun u r s => r = some (.int u.1) ∧ s = u.2) := by
  intro n
  induction n with
  | zero => intros; exact z_none
  | succ n ih =>
    intro x1 x3 x4 x5 x6 σ
    unfold f12_rowers_L75
    refine z_iload (pc := 75) 5 dX12_rowers_75 rfl ?_
    refine z_iload (pc := 77) 3 dX12_rowers_77 rfl ?_
    refine z_ic_ge (pc := 79) (tgt := 167) dX12_rowers_79 (by decide) (fun h17 => ?_) (fun h17 => ?_)
    · refine z_iload (pc := 167) 4 dX12_rowers_167 rfl ?_
      exact z_rIs dX12_rowers_169 rfl ⟨by decide, by decide⟩
    · refine z_iload_n (pc := 82) 2 dX12_rowers_82 rfl rfl ?_
      refine z_if_lt (pc := 83) (tgt := 103) dX12_rowers_83 (by decide) (fun h18 => ?_) (fun h18 => ?_)
      · refine z_bipush (pc := 103) (v := (-12 : Int32)) dX12_rowers_103 (by decide) ?_
        exact z_rIs dX12_rowers_105 rfl ⟨by decide, by decide⟩
      · refine z_iload_n (pc := 86) 2 dX12_rowers_86 rfl rfl ?_
        refine z_aload_n (pc := 87) 0 dX12_rowers_87 rfl rfl ?_
        refine z_getQ (pc := 88) (b := 66) dX12_rowers_88 kM36 fr_RX12_102_12 (by decide) rfl ?_
        refine z_iload_n (pc := 91) 1 dX12_rowers_91 rfl rfl ?_
        refine z_iald (pc := 92) dX12_rowers_92 (am_ar.s kM66) (fun h19 => ?_)
        refine z_iconst (pc := 93) (v := (3 : Int32)) dX12_rowers_93 (by decide) ?_
        refine z_iload (pc := 94) 5 dX12_rowers_94 rfl ?_
        refine z_imul (pc := 96) dX12_rowers_96 ?_
        refine z_isub (pc := 97) dX12_rowers_97 ?_
        refine z_iconst (pc := 98) (v := (3 : Int32)) dX12_rowers_98 (by decide) ?_
        refine z_isub (pc := 99) dX12_rowers_99 ?_
        refine z_ic_le (pc := 100) (tgt := 106) dX12_rowers_100 (by decide) (fun h20 => ?_) (fun h20 => ?_)
        · refine z_bipush (pc := 106) (v := (40 : Int32)) dX12_rowers_106 (by decide) ?_
          refine z_iload_n (pc := 108) 1 dX12_rowers_108 rfl rfl ?_
          refine z_imul (pc := 109) dX12_rowers_109 ?_
          refine z_iload_n (pc := 110) 2 dX12_rowers_110 rfl rfl ?_
          refine z_iadd (pc := 111) dX12_rowers_111 ?_
          refine z_iconst (pc := 112) (v := (3 : Int32)) dX12_rowers_112 (by decide) ?_
          refine z_iload (pc := 113) 5 dX12_rowers_113 rfl ?_
          refine z_imul (pc := 115) dX12_rowers_115 ?_
          refine z_iadd (pc := 116) dX12_rowers_116 ?_
          refine z_istore (pc := 117) (lv' := [(7, .int ((((40 : Int32) * x1) + x3) + ((3 : Int32) * x6))), (0, .ref 36), (1, .int x1), (3, .int x3), (4, .int x4), (5, .int x5), (6, .int x6)]) dX12_rowers_117 (by decide) rfl ?_
          refine z_iload (pc := 119) 5 dX12_rowers_119 rfl ?_
          refine z_aload_n (pc := 121) 1 dX12_rowers_121 rfl rfl ?_
          refine z_aload_n (pc := 122) 1 dX12_rowers_122 rfl rfl ?_
          refine z_getQ (pc := 123) (b := 67) dX12_rowers_123 kM36 fr_RX12_105_12 (by decide) rfl ?_
          refine z_iload (pc := 126) 0 dX12_rowers_126 rfl ?_
          refine z_iald (pc := 128) dX12_rowers_128 (am_ar.s kM67) (fun h21 => ?_)
          refine z_aload_n (pc := 129) 1 dX12_rowers_129 rfl rfl ?_
          refine z_getQ (pc := 130) (b := 67) dX12_rowers_130 kM36 fr_RX12_105_12 (by decide) rfl ?_
          refine z_iload (pc := 133) 0 dX12_rowers_133 rfl ?_
          refine z_iconst (pc := 135) (v := (1 : Int32)) dX12_rowers_135 (by decide) ?_
          refine z_iadd (pc := 136) dX12_rowers_136 ?_
          refine z_iald (pc := 137) dX12_rowers_137 (am_ar.s kM67) (fun h22 => ?_)
          refine z_aload_n (pc := 138) 1 dX12_rowers_138 rfl rfl ?_
          refine z_getQ (pc := 139) (b := 67) dX12_rowers_139 kM36 fr_RX12_105_12 (by decide) rfl ?_
          refine z_iload (pc := 142) 0 dX12_rowers_142 rfl ?_
          refine z_iconst (pc := 144) (v := (2 : Int32)) dX12_rowers_144 (by decide) ?_
          refine z_iadd (pc := 145) dX12_rowers_145 ?_
          refine z_iald (pc := 146) dX12_rowers_146 (am_ar.s kM67) (fun h23 => ?_)
          refine z_callIs (pc := 147) [.ref 36, .int (fF σ 67 ((((40 : Int32) * x1) + x3) + ((3 : Int32) * x6)).toNatClampNeg), .int (fF σ 67 (((((40 : Int32) * x1) + x3) + ((3 : Int32) * x6)) + (1 : Int32)).toNatClampNeg), .int (fF σ 67 (((((40 : Int32) * x1) + x3) + ((3 : Int32) * x6)) + (2 : Int32)).toNatClampNeg)] [.int x5] rfl (lk_V (Yc := YX12_rower) (n := 3) dX12_rowers_147 rfl rfl (am_ob.s kM36) rfl rfl np_X12_rower mh_RX12 (by decide) ml_RX12_424 im_X12_rower se_RX12_X12_rower_X12_rower in_RX12 cd_X12_rower) (Nat.le_trans (by decide) hd) ⟨by decide, by decide⟩ (Nat.le_of_ble_eq_true rfl) (am_kp.rf _) (fun v24 s25 h26 => c12_rower h26) (fun v24 s25 h26 => ?_)
          refine z_if_lt (pc := 150) (tgt := 157) dX12_rowers_150 (by decide) (fun h27 => ?_) (fun h27 => ?_)
          · refine z_iconst (pc := 157) (v := (0 : Int32)) dX12_rowers_157 (by decide) ?_
            refine z_iadd (pc := 158) dX12_rowers_158 ?_
            refine z_istore (pc := 159) (lv' := [(5, .int (x5 + (0 : Int32))), (7, .int ((((40 : Int32) * x1) + x3) + ((3 : Int32) * x6))), (0, .ref 36), (1, .int x1), (3, .int x3), (4, .int x4), (6, .int x6)]) dX12_rowers_159 (by decide) rfl ?_
            refine z_iinc (pc := 161) (v := x6 + (1 : Int32)) (lv' := [(6, .int (x6 + (1 : Int32))), (5, .int (x5 + (0 : Int32))), (7, .int ((((40 : Int32) * x1) + x3) + ((3 : Int32) * x6))), (0, .ref 36), (1, .int x1), (3, .int x3), (4, .int x4)]) 6 dX12_rowers_161 rfl rfl (by decide) rfl ?_
            refine z_goto (pc := 164) (tgt := 75) dX12_rowers_164 (by decide) ?_
            refine z_lv (lv' := [(0, .ref 36), (1, .int x1), (3, .int x3), (4, .int x4), (5, .int (x5 + (0 : Int32))), (6, .int (x6 + (1 : Int32)))]) [3, 4, 5, 6, 1, 0] rfl ?_
            exact ih x1 x3 x4 (x5 + (0 : Int32)) (x6 + (1 : Int32)) s25
          · refine z_iconst (pc := 153) (v := (1 : Int32)) dX12_rowers_153 (by decide) ?_
            refine z_goto (pc := 154) (tgt := 158) dX12_rowers_154 (by decide) ?_
            refine z_iadd (pc := 158) dX12_rowers_158 ?_
            refine z_istore (pc := 159) (lv' := [(5, .int (x5 + (1 : Int32))), (7, .int ((((40 : Int32) * x1) + x3) + ((3 : Int32) * x6))), (0, .ref 36), (1, .int x1), (3, .int x3), (4, .int x4), (6, .int x6)]) dX12_rowers_159 (by decide) rfl ?_
            refine z_iinc (pc := 161) (v := x6 + (1 : Int32)) (lv' := [(6, .int (x6 + (1 : Int32))), (5, .int (x5 + (1 : Int32))), (7, .int ((((40 : Int32) * x1) + x3) + ((3 : Int32) * x6))), (0, .ref 36), (1, .int x1), (3, .int x3), (4, .int x4)]) 6 dX12_rowers_161 rfl rfl (by decide) rfl ?_
            refine z_goto (pc := 164) (tgt := 75) dX12_rowers_164 (by decide) ?_
            refine z_lv (lv' := [(0, .ref 36), (1, .int x1), (3, .int x3), (4, .int x4), (5, .int (x5 + (1 : Int32))), (6, .int (x6 + (1 : Int32)))]) [3, 4, 5, 6, 1, 0] rfl ?_
            exact ih x1 x3 x4 (x5 + (1 : Int32)) (x6 + (1 : Int32)) s25
        · refine z_bipush (pc := 103) (v := (-12 : Int32)) dX12_rowers_103 (by decide) ?_
          exact z_rIs dX12_rowers_105 rfl ⟨by decide, by decide⟩
def f12_rowers (N : Nat) (σ : am_S) (x1 : Int32) (x2 : Int32) (x3 : Int32) (x4 : Int32) : Option (Int32 × am_S) := (f12_isSheet x1).bind fun v1 => (if v1 = true then ((f12_in x2.toInt64 (0 : Int64) (2 : Int64)).bind fun v5 => (if v5 = true then ((f12_in x4.toInt64 (0 : Int64) (12 : Int64)).bind fun v9 => (if v9 = true then (if am_in x1 4 = true then (if fF σ 64 x1.toNatClampNeg = 0 then (if am_in x1 4 = true then (if fF σ 64 x1.toNatClampNeg = 0 then (some ((-11 : Int32), σ)) else (f12_rowers_L75 N N x1 x3 x4 (0 : Int32) (0 : Int32) σ)) else none) else (if am_in x1 4 = true then (if fF σ 65 x1.toNatClampNeg = x2 then (if am_in x1 4 = true then (if fF σ 64 x1.toNatClampNeg = 0 then (some ((-11 : Int32), σ)) else (f12_rowers_L75 N N x1 x3 x4 (0 : Int32) (0 : Int32) σ)) else none) else (some ((-13 : Int32), σ))) else none)) else none) else (some ((-2 : Int32), σ)))) else (some ((-2 : Int32), σ)))) else (some ((-2 : Int32), σ)))
theorem c12_rowers {l : Launch} {E : am_E} {N : Nat} {σ : am_S} {x1 : Int32} {x2 : Int32} {x3 : Int32} {x4 : Int32} {v : Int32} {σ1 : am_S} (hf : f12_rowers N σ x1 x2 x3 x4 = some (v, σ1)) : Ctr l E msM YX12_rowers (3) 0 0 [.ref 36, .int x1, .int x2, .int x3, .int x4] σ (some (.int v)) σ1 := by
  refine ctr_of (G := fun u r s => r = some (.int u.1) ∧ s = u.2) (by decide +kernel) (Nat.le_of_ble_eq_true rfl) hf ⟨rfl, rfl⟩ (fun d hd => ?_)
  refine z_eqlv (lv' := [(0, .ref 36), (1, .int x1), (2, .int x2), (3, .int x3), (4, .int x4)]) rfl ?_
  unfold f12_rowers
  refine z_iload_n (pc := 0) 1 dX12_rowers_0 rfl rfl ?_
  refine z_callB (pc := 1) [.int x1] [] rfl (lk_S (Yc := YX12_isSheet) (n := 1) dX12_rowers_1 rfl np_X12_isSheet mh_RX12 (by decide) ml_RX12_346 st_X12_isSheet in_RX12 cd_X12_isSheet) (Nat.le_trans (by decide) hd) ⟨by decide, by decide⟩ (Nat.le_of_ble_eq_true rfl) (am_kp.rf _) (fun v1 h3 => c12_isSheet h3) (fun v1 h3 => ?_)
  refine z_bz_eq (pc := 4) (tgt := 32) dX12_rowers_4 (by decide) (fun h4 => ?_) (fun h4 => ?_)
  · refine z_iload_n (pc := 7) 2 dX12_rowers_7 rfl rfl ?_
    refine z_i2l (pc := 8) dX12_rowers_8 ?_
    refine z_lconst (pc := 9) (v := (0 : Int64)) dX12_rowers_9 (by decide) ?_
    refine z_ldc2 (pc := 10) (v := (2 : Int64)) dX12_rowers_10 kl_RX12_381 ?_
    refine z_callB (pc := 13) [.long x2.toInt64, .long (0 : Int64), .long (2 : Int64)] [] rfl (lk_S (Yc := YX12_in) (n := 3) dX12_rowers_13 rfl np_X12_in mh_RX12 (by decide) ml_RX12_134 st_X12_in in_RX12 cd_X12_in) (Nat.le_trans (by decide) hd) ⟨by decide, by decide⟩ (Nat.le_of_ble_eq_true rfl) (am_kp.rf _) (fun v5 h7 => c12_in h7) (fun v5 h7 => ?_)
    refine z_bz_eq (pc := 16) (tgt := 32) dX12_rowers_16 (by decide) (fun h8 => ?_) (fun h8 => ?_)
    · refine z_iload (pc := 19) 4 dX12_rowers_19 rfl ?_
      refine z_i2l (pc := 21) dX12_rowers_21 ?_
      refine z_lconst (pc := 22) (v := (0 : Int64)) dX12_rowers_22 (by decide) ?_
      refine z_ldc2 (pc := 23) (v := (12 : Int64)) dX12_rowers_23 kl_RX12_422 ?_
      refine z_callB (pc := 26) [.long x4.toInt64, .long (0 : Int64), .long (12 : Int64)] [] rfl (lk_S (Yc := YX12_in) (n := 3) dX12_rowers_26 rfl np_X12_in mh_RX12 (by decide) ml_RX12_134 st_X12_in in_RX12 cd_X12_in) (Nat.le_trans (by decide) hd) ⟨by decide, by decide⟩ (Nat.le_of_ble_eq_true rfl) (am_kp.rf _) (fun v9 h11 => c12_in h11) (fun v9 h11 => ?_)
      refine z_bz_ne (pc := 29) (tgt := 35) dX12_rowers_29 (by decide) (fun h12 => ?_) (fun h12 => ?_)
      · refine z_aload_n (pc := 35) 0 dX12_rowers_35 rfl rfl ?_
        refine z_getQ (pc := 36) (b := 64) dX12_rowers_36 kM36 fr_RX12_95_12 (by decide) rfl ?_
        refine z_iload_n (pc := 39) 1 dX12_rowers_39 rfl rfl ?_
        refine z_zald (pc := 40) dX12_rowers_40 (am_ar.s kM64) (fun h13 => ?_)
        refine z_if_eq (pc := 41) (tgt := 57) dX12_rowers_41 (by decide) (fun h14 => ?_) (fun h14 => ?_)
        · refine z_aload_n (pc := 57) 0 dX12_rowers_57 rfl rfl ?_
          refine z_getQ (pc := 58) (b := 64) dX12_rowers_58 kM36 fr_RX12_95_12 (by decide) rfl ?_
          refine z_iload_n (pc := 61) 1 dX12_rowers_61 rfl rfl ?_
          refine z_zald (pc := 62) dX12_rowers_62 (am_ar.s kM64) (fun h15 => ?_)
          refine z_if_ne (pc := 63) (tgt := 69) dX12_rowers_63 (by decide) (fun h16 => ?_) (fun h16 => ?_)
          · refine z_bipush (pc := 66) (v := (-11 : Int32)) dX12_rowers_66 (by decide) ?_
            exact z_rIs dX12_rowers_68 rfl ⟨by decide, by decide⟩
          · refine z_iconst (pc := 69) (v := (0 : Int32)) dX12_rowers_69 (by decide) ?_
            refine z_istore (pc := 70) (lv' := [(5, .int (0 : Int32)), (0, .ref 36), (1, .int x1), (2, .int x2), (3, .int x3), (4, .int x4)]) dX12_rowers_70 (by decide) rfl ?_
            refine z_iconst (pc := 72) (v := (0 : Int32)) dX12_rowers_72 (by decide) ?_
            refine z_istore (pc := 73) (lv' := [(6, .int (0 : Int32)), (5, .int (0 : Int32)), (0, .ref 36), (1, .int x1), (2, .int x2), (3, .int x3), (4, .int x4)]) dX12_rowers_73 (by decide) rfl ?_
            refine z_lv (lv' := [(0, .ref 36), (1, .int x1), (3, .int x3), (4, .int x4), (5, .int (0 : Int32)), (6, .int (0 : Int32))]) [2, 3, 5, 6, 1, 0] rfl ?_
            exact z12_rowers_L75 hd N x1 x3 x4 (0 : Int32) (0 : Int32) σ
        · refine z_aload_n (pc := 44) 0 dX12_rowers_44 rfl rfl ?_
          refine z_getQ (pc := 45) (b := 65) dX12_rowers_45 kM36 fr_RX12_99_12 (by decide) rfl ?_
          refine z_iload_n (pc := 48) 1 dX12_rowers_48 rfl rfl ?_
          refine z_iald (pc := 49) dX12_rowers_49 (am_ar.s kM65) (fun h28 => ?_)
          refine z_iload_n (pc := 50) 2 dX12_rowers_50 rfl rfl ?_
          refine z_ic_eq (pc := 51) (tgt := 57) dX12_rowers_51 (by decide) (fun h29 => ?_) (fun h29 => ?_)
          · refine z_aload_n (pc := 57) 0 dX12_rowers_57 rfl rfl ?_
            refine z_getQ (pc := 58) (b := 64) dX12_rowers_58 kM36 fr_RX12_95_12 (by decide) rfl ?_
            refine z_iload_n (pc := 61) 1 dX12_rowers_61 rfl rfl ?_
            refine z_zald (pc := 62) dX12_rowers_62 (am_ar.s kM64) (fun h30 => ?_)
            refine z_if_ne (pc := 63) (tgt := 69) dX12_rowers_63 (by decide) (fun h31 => ?_) (fun h31 => ?_)
            · refine z_bipush (pc := 66) (v := (-11 : Int32)) dX12_rowers_66 (by decide) ?_
              exact z_rIs dX12_rowers_68 rfl ⟨by decide, by decide⟩
            · refine z_iconst (pc := 69) (v := (0 : Int32)) dX12_rowers_69 (by decide) ?_
              refine z_istore (pc := 70) (lv' := [(5, .int (0 : Int32)), (0, .ref 36), (1, .int x1), (2, .int x2), (3, .int x3), (4, .int x4)]) dX12_rowers_70 (by decide) rfl ?_
              refine z_iconst (pc := 72) (v := (0 : Int32)) dX12_rowers_72 (by decide) ?_
              refine z_istore (pc := 73) (lv' := [(6, .int (0 : Int32)), (5, .int (0 : Int32)), (0, .ref 36), (1, .int x1), (2, .int x2), (3, .int x3), (4, .int x4)]) dX12_rowers_73 (by decide) rfl ?_
              refine z_lv (lv' := [(0, .ref 36), (1, .int x1), (3, .int x3), (4, .int x4), (5, .int (0 : Int32)), (6, .int (0 : Int32))]) [2, 3, 5, 6, 1, 0] rfl ?_
              exact z12_rowers_L75 hd N x1 x3 x4 (0 : Int32) (0 : Int32) σ
          · refine z_bipush (pc := 54) (v := (-13 : Int32)) dX12_rowers_54 (by decide) ?_
            exact z_rIs dX12_rowers_56 rfl ⟨by decide, by decide⟩
      · refine z_bipush (pc := 32) (v := (-2 : Int32)) dX12_rowers_32 (by decide) ?_
        exact z_rIs dX12_rowers_34 rfl ⟨by decide, by decide⟩
    · refine z_bipush (pc := 32) (v := (-2 : Int32)) dX12_rowers_32 (by decide) ?_
      exact z_rIs dX12_rowers_34 rfl ⟨by decide, by decide⟩
  · refine z_bipush (pc := 32) (v := (-2 : Int32)) dX12_rowers_32 (by decide) ?_
    exact z_rIs dX12_rowers_34 rfl ⟨by decide, by decide⟩
def f12_set_J59 (x1 : Int32) (x2 : Int32) (x3 : Int32) (σ : am_S) : Option (Int32 × am_S) := (f12_isCrossing σ (x1 - (10 : Int32))).bind fun v11 => (if v11 = true then ((f12_in x2.toInt64 (0 : Int64) (1 : Int64)).bind fun v15 => (if v15 = true then (if am_in (x1 - (10 : Int32)) 7 = true then (if am_in (x1 - (10 : Int32)) 7 = true then ((f12_isCrossing (sF σ 42 (x1 - (10 : Int32)).toNatClampNeg x2) (x1 - (20 : Int32))).bind fun v21 => (if v21 = true then ((f12_in x2.toInt64 (0 : Int64) (999 : Int64)).bind fun v25 => (if v25 = true then (if am_in (x1 - (20 : Int32)) 7 = true then (if am_in (x1 - (20 : Int32)) 7 = true then (some (fF (sF σ 42 (x1 - (10 : Int32)).toNatClampNeg x2) 43 (x1 - (20 : Int32)).toNatClampNeg, sF (sF σ 42 (x1 - (10 : Int32)).toNatClampNeg x2) 43 (x1 - (20 : Int32)).toNatClampNeg x2)) else none) else none) else (some (fF σ 42 (x1 - (10 : Int32)).toNatClampNeg, sF σ 42 (x1 - (10 : Int32)).toNatClampNeg x2)))) else (some (fF σ 42 (x1 - (10 : Int32)).toNatClampNeg, sF σ 42 (x1 - (10 : Int32)).toNatClampNeg x2)))) else none) else none) else ((f12_isCrossing σ (x1 - (20 : Int32))).bind fun v31 => (if v31 = true then ((f12_in x2.toInt64 (0 : Int64) (999 : Int64)).bind fun v35 => (if v35 = true then (if am_in (x1 - (20 : Int32)) 7 = true then (if am_in (x1 - (20 : Int32)) 7 = true then (some (fF σ 43 (x1 - (20 : Int32)).toNatClampNeg, sF σ 43 (x1 - (20 : Int32)).toNatClampNeg x2)) else none) else none) else (some (x3, σ)))) else (some (x3, σ)))))) else ((f12_isCrossing σ (x1 - (20 : Int32))).bind fun v41 => (if v41 = true then ((f12_in x2.toInt64 (0 : Int64) (999 : Int64)).bind fun v45 => (if v45 = true then (if am_in (x1 - (20 : Int32)) 7 = true then (if am_in (x1 - (20 : Int32)) 7 = true then (some (fF σ 43 (x1 - (20 : Int32)).toNatClampNeg, sF σ 43 (x1 - (20 : Int32)).toNatClampNeg x2)) else none) else none) else (some (x3, σ)))) else (some (x3, σ)))))
theorem z12_set_J59 {l : Launch} {E : am_E} {d : Nat} {σ0 : am_S} (hd : 2 ≤ d) (x1 : Int32) (x2 : Int32) (x3 : Int32) (σ : am_S) : Z l E msM σ0 YX12_set d 0 0 59 [(0, .ref 36), (1, .int x1), (2, .int x2), (3, .int x3)] [] 0 0 σ (f12_set_J59 x1 x2 x3 σ) (fun u r s => r = some (.int u.1) ∧ s = u.2) := by
  unfold f12_set_J59
  refine z_aload_n (pc := 59) 0 dX12_set_59 rfl rfl ?_
  refine z_iload_n (pc := 60) 1 dX12_set_60 rfl rfl ?_
  refine z_bipush (pc := 61) (v := (10 : Int32)) dX12_set_61 (by decide) ?_
  refine z_isub (pc := 63) dX12_set_63 ?_
  refine z_callB (pc := 64) [.ref 36, .int (x1 - (10 : Int32))] [] rfl (lk_V (Yc := YX12_isCrossing) (n := 1) dX12_set_64 rfl rfl (am_ob.s kM36) rfl rfl np_X12_isCrossing mh_RX12 (by decide) ml_RX12_159 im_X12_isCrossing se_RX12_X12_isCrossing_X12_isCrossing in_RX12 cd_X12_isCrossing) (Nat.le_trans (by decide) hd) ⟨by decide, by decide⟩ (Nat.le_of_ble_eq_true rfl) (am_kp.rf _) (fun v11 h13 => c12_isCrossing h13) (fun v11 h13 => ?_)
  refine z_bz_eq (pc := 67) (tgt := 100) dX12_set_67 (by decide) (fun h14 => ?_) (fun h14 => ?_)
  · refine z_iload_n (pc := 70) 2 dX12_set_70 rfl rfl ?_
    refine z_i2l (pc := 71) dX12_set_71 ?_
    refine z_lconst (pc := 72) (v := (0 : Int64)) dX12_set_72 (by decide) ?_
    refine z_lconst (pc := 73) (v := (1 : Int64)) dX12_set_73 (by decide) ?_
    refine z_callB (pc := 74) [.long x2.toInt64, .long (0 : Int64), .long (1 : Int64)] [] rfl (lk_S (Yc := YX12_in) (n := 3) dX12_set_74 rfl np_X12_in mh_RX12 (by decide) ml_RX12_134 st_X12_in in_RX12 cd_X12_in) (Nat.le_trans (by decide) hd) ⟨by decide, by decide⟩ (Nat.le_of_ble_eq_true rfl) (am_kp.rf _) (fun v15 h17 => c12_in h17) (fun v15 h17 => ?_)
    refine z_bz_eq (pc := 77) (tgt := 100) dX12_set_77 (by decide) (fun h18 => ?_) (fun h18 => ?_)
    · refine z_aload_n (pc := 80) 0 dX12_set_80 rfl rfl ?_
      refine z_getQ (pc := 81) (b := 42) dX12_set_81 kM36 fr_RX12_29_12 (by decide) rfl ?_
      refine z_iload_n (pc := 84) 1 dX12_set_84 rfl rfl ?_
      refine z_bipush (pc := 85) (v := (10 : Int32)) dX12_set_85 (by decide) ?_
      refine z_isub (pc := 87) dX12_set_87 ?_
      refine z_iald (pc := 88) dX12_set_88 (am_ar.s kM42) (fun h19 => ?_)
      refine z_istore_n (pc := 89) (lv' := [(3, .int (fF σ 42 (x1 - (10 : Int32)).toNatClampNeg)), (0, .ref 36), (1, .int x1), (2, .int x2)]) dX12_set_89 rfl (by decide) rfl ?_
      refine z_aload_n (pc := 90) 1 dX12_set_90 rfl rfl ?_
      refine z_getQ (pc := 91) (b := 42) dX12_set_91 kM36 fr_RX12_29_12 (by decide) rfl ?_
      refine z_iload_n (pc := 94) 2 dX12_set_94 rfl rfl ?_
      refine z_bipush (pc := 95) (v := (10 : Int32)) dX12_set_95 (by decide) ?_
      refine z_isub (pc := 97) dX12_set_97 ?_
      refine z_iload_n (pc := 98) 3 dX12_set_98 rfl rfl ?_
      refine z_iast (pc := 99) dX12_set_99 (am_ar.s kM42) (fun h20 => ?_)
      refine z_aload_n (pc := 100) 1 dX12_set_100 rfl rfl ?_
      refine z_iload_n (pc := 101) 2 dX12_set_101 rfl rfl ?_
      refine z_bipush (pc := 102) (v := (20 : Int32)) dX12_set_102 (by decide) ?_
      refine z_isub (pc := 104) dX12_set_104 ?_
      refine z_callB (pc := 105) [.ref 36, .int (x1 - (20 : Int32))] [] rfl (lk_V (Yc := YX12_isCrossing) (n := 1) dX12_set_105 rfl rfl (am_ob.s kM36) rfl rfl np_X12_isCrossing mh_RX12 (by decide) ml_RX12_159 im_X12_isCrossing se_RX12_X12_isCrossing_X12_isCrossing in_RX12 cd_X12_isCrossing) (Nat.le_trans (by decide) hd) ⟨by decide, by decide⟩ (Nat.le_of_ble_eq_true rfl) (am_kp.rf _) (fun v21 h23 => c12_isCrossing h23) (fun v21 h23 => ?_)
      refine z_bz_eq (pc := 108) (tgt := 143) dX12_set_108 (by decide) (fun h24 => ?_) (fun h24 => ?_)
      · refine z_iload_n (pc := 111) 3 dX12_set_111 rfl rfl ?_
        refine z_i2l (pc := 112) dX12_set_112 ?_
        refine z_lconst (pc := 113) (v := (0 : Int64)) dX12_set_113 (by decide) ?_
        refine z_ldc2 (pc := 114) (v := (999 : Int64)) dX12_set_114 kl_RX12_162 ?_
        refine z_callB (pc := 117) [.long x2.toInt64, .long (0 : Int64), .long (999 : Int64)] [] rfl (lk_S (Yc := YX12_in) (n := 3) dX12_set_117 rfl np_X12_in mh_RX12 (by decide) ml_RX12_134 st_X12_in in_RX12 cd_X12_in) (Nat.le_trans (by decide) hd) ⟨by decide, by decide⟩ (Nat.le_of_ble_eq_true rfl) (am_kp.rf _) (fun v25 h27 => c12_in h27) (fun v25 h27 => ?_)
        refine z_bz_eq (pc := 120) (tgt := 143) dX12_set_120 (by decide) (fun h28 => ?_) (fun h28 => ?_)
        · refine z_aload_n (pc := 123) 1 dX12_set_123 rfl rfl ?_
          refine z_getQ (pc := 124) (b := 43) dX12_set_124 kM36 fr_RX12_32_12 (by decide) rfl ?_
          refine z_iload_n (pc := 127) 2 dX12_set_127 rfl rfl ?_
          refine z_bipush (pc := 128) (v := (20 : Int32)) dX12_set_128 (by decide) ?_
          refine z_isub (pc := 130) dX12_set_130 ?_
          refine z_iald (pc := 131) dX12_set_131 (am_ar.s kM43) (fun h29 => ?_)
          refine z_istore_n (pc := 132) (lv' := [(3, .int (fF (sF σ 42 (x1 - (10 : Int32)).toNatClampNeg x2) 43 (x1 - (20 : Int32)).toNatClampNeg)), (0, .ref 36), (1, .int x1), (2, .int x2)]) dX12_set_132 rfl (by decide) rfl ?_
          refine z_aload_n (pc := 133) 1 dX12_set_133 rfl rfl ?_
          refine z_getQ (pc := 134) (b := 43) dX12_set_134 kM36 fr_RX12_32_12 (by decide) rfl ?_
          refine z_iload_n (pc := 137) 2 dX12_set_137 rfl rfl ?_
          refine z_bipush (pc := 138) (v := (20 : Int32)) dX12_set_138 (by decide) ?_
          refine z_isub (pc := 140) dX12_set_140 ?_
          refine z_iload_n (pc := 141) 3 dX12_set_141 rfl rfl ?_
          refine z_iast (pc := 142) dX12_set_142 (am_ar.s kM43) (fun h30 => ?_)
          refine z_iload_n (pc := 143) 0 dX12_set_143 rfl rfl ?_
          exact z_rIs dX12_set_144 rfl ⟨by decide, by decide⟩
        · refine z_iload_n (pc := 143) 0 dX12_set_143 rfl rfl ?_
          exact z_rIs dX12_set_144 rfl ⟨by decide, by decide⟩
      · refine z_iload_n (pc := 143) 0 dX12_set_143 rfl rfl ?_
        exact z_rIs dX12_set_144 rfl ⟨by decide, by decide⟩
    · refine z_aload_n (pc := 100) 0 dX12_set_100 rfl rfl ?_
      refine z_iload_n (pc := 101) 1 dX12_set_101 rfl rfl ?_
      refine z_bipush (pc := 102) (v := (20 : Int32)) dX12_set_102 (by decide) ?_
      refine z_isub (pc := 104) dX12_set_104 ?_
      refine z_callB (pc := 105) [.ref 36, .int (x1 - (20 : Int32))] [] rfl (lk_V (Yc := YX12_isCrossing) (n := 1) dX12_set_105 rfl rfl (am_ob.s kM36) rfl rfl np_X12_isCrossing mh_RX12 (by decide) ml_RX12_159 im_X12_isCrossing se_RX12_X12_isCrossing_X12_isCrossing in_RX12 cd_X12_isCrossing) (Nat.le_trans (by decide) hd) ⟨by decide, by decide⟩ (Nat.le_of_ble_eq_true rfl) (am_kp.rf _) (fun v31 h33 => c12_isCrossing h33) (fun v31 h33 => ?_)
      refine z_bz_eq (pc := 108) (tgt := 143) dX12_set_108 (by decide) (fun h34 => ?_) (fun h34 => ?_)
      · refine z_iload_n (pc := 111) 2 dX12_set_111 rfl rfl ?_
        refine z_i2l (pc := 112) dX12_set_112 ?_
        refine z_lconst (pc := 113) (v := (0 : Int64)) dX12_set_113 (by decide) ?_
        refine z_ldc2 (pc := 114) (v := (999 : Int64)) dX12_set_114 kl_RX12_162 ?_
        refine z_callB (pc := 117) [.long x2.toInt64, .long (0 : Int64), .long (999 : Int64)] [] rfl (lk_S (Yc := YX12_in) (n := 3) dX12_set_117 rfl np_X12_in mh_RX12 (by decide) ml_RX12_134 st_X12_in in_RX12 cd_X12_in) (Nat.le_trans (by decide) hd) ⟨by decide, by decide⟩ (Nat.le_of_ble_eq_true rfl) (am_kp.rf _) (fun v35 h37 => c12_in h37) (fun v35 h37 => ?_)
        refine z_bz_eq (pc := 120) (tgt := 143) dX12_set_120 (by decide) (fun h38 => ?_) (fun h38 => ?_)
        · refine z_aload_n (pc := 123) 0 dX12_set_123 rfl rfl ?_
          refine z_getQ (pc := 124) (b := 43) dX12_set_124 kM36 fr_RX12_32_12 (by decide) rfl ?_
          refine z_iload_n (pc := 127) 1 dX12_set_127 rfl rfl ?_
          refine z_bipush (pc := 128) (v := (20 : Int32)) dX12_set_128 (by decide) ?_
          refine z_isub (pc := 130) dX12_set_130 ?_
          refine z_iald (pc := 131) dX12_set_131 (am_ar.s kM43) (fun h39 => ?_)
          refine z_istore_n (pc := 132) (lv' := [(3, .int (fF σ 43 (x1 - (20 : Int32)).toNatClampNeg)), (0, .ref 36), (1, .int x1), (2, .int x2)]) dX12_set_132 rfl (by decide) rfl ?_
          refine z_aload_n (pc := 133) 1 dX12_set_133 rfl rfl ?_
          refine z_getQ (pc := 134) (b := 43) dX12_set_134 kM36 fr_RX12_32_12 (by decide) rfl ?_
          refine z_iload_n (pc := 137) 2 dX12_set_137 rfl rfl ?_
          refine z_bipush (pc := 138) (v := (20 : Int32)) dX12_set_138 (by decide) ?_
          refine z_isub (pc := 140) dX12_set_140 ?_
          refine z_iload_n (pc := 141) 3 dX12_set_141 rfl rfl ?_
          refine z_iast (pc := 142) dX12_set_142 (am_ar.s kM43) (fun h40 => ?_)
          refine z_iload_n (pc := 143) 0 dX12_set_143 rfl rfl ?_
          exact z_rIs dX12_set_144 rfl ⟨by decide, by decide⟩
        · refine z_iload_n (pc := 143) 3 dX12_set_143 rfl rfl ?_
          exact z_rIs dX12_set_144 rfl ⟨by decide, by decide⟩
      · refine z_iload_n (pc := 143) 3 dX12_set_143 rfl rfl ?_
        exact z_rIs dX12_set_144 rfl ⟨by decide, by decide⟩
  · refine z_aload_n (pc := 100) 0 dX12_set_100 rfl rfl ?_
    refine z_iload_n (pc := 101) 1 dX12_set_101 rfl rfl ?_
    refine z_bipush (pc := 102) (v := (20 : Int32)) dX12_set_102 (by decide) ?_
    refine z_isub (pc := 104) dX12_set_104 ?_
    refine z_callB (pc := 105) [.ref 36, .int (x1 - (20 : Int32))] [] rfl (lk_V (Yc := YX12_isCrossing) (n := 1) dX12_set_105 rfl rfl (am_ob.s kM36) rfl rfl np_X12_isCrossing mh_RX12 (by decide) ml_RX12_159 im_X12_isCrossing se_RX12_X12_isCrossing_X12_isCrossing in_RX12 cd_X12_isCrossing) (Nat.le_trans (by decide) hd) ⟨by decide, by decide⟩ (Nat.le_of_ble_eq_true rfl) (am_kp.rf _) (fun v41 h43 => c12_isCrossing h43) (fun v41 h43 => ?_)
    refine z_bz_eq (pc := 108) (tgt := 143) dX12_set_108 (by decide) (fun h44 => ?_) (fun h44 => ?_)
    · refine z_iload_n (pc := 111) 2 dX12_set_111 rfl rfl ?_
      refine z_i2l (pc := 112) dX12_set_112 ?_
      refine z_lconst (pc := 113) (v := (0 : Int64)) dX12_set_113 (by decide) ?_
      refine z_ldc2 (pc := 114) (v := (999 : Int64)) dX12_set_114 kl_RX12_162 ?_
      refine z_callB (pc := 117) [.long x2.toInt64, .long (0 : Int64), .long (999 : Int64)] [] rfl (lk_S (Yc := YX12_in) (n := 3) dX12_set_117 rfl np_X12_in mh_RX12 (by decide) ml_RX12_134 st_X12_in in_RX12 cd_X12_in) (Nat.le_trans (by decide) hd) ⟨by decide, by decide⟩ (Nat.le_of_ble_eq_true rfl) (am_kp.rf _) (fun v45 h47 => c12_in h47) (fun v45 h47 => ?_)
      refine z_bz_eq (pc := 120) (tgt := 143) dX12_set_120 (by decide) (fun h48 => ?_) (fun h48 => ?_)
      · refine z_aload_n (pc := 123) 0 dX12_set_123 rfl rfl ?_
        refine z_getQ (pc := 124) (b := 43) dX12_set_124 kM36 fr_RX12_32_12 (by decide) rfl ?_
        refine z_iload_n (pc := 127) 1 dX12_set_127 rfl rfl ?_
        refine z_bipush (pc := 128) (v := (20 : Int32)) dX12_set_128 (by decide) ?_
        refine z_isub (pc := 130) dX12_set_130 ?_
        refine z_iald (pc := 131) dX12_set_131 (am_ar.s kM43) (fun h49 => ?_)
        refine z_istore_n (pc := 132) (lv' := [(3, .int (fF σ 43 (x1 - (20 : Int32)).toNatClampNeg)), (0, .ref 36), (1, .int x1), (2, .int x2)]) dX12_set_132 rfl (by decide) rfl ?_
        refine z_aload_n (pc := 133) 1 dX12_set_133 rfl rfl ?_
        refine z_getQ (pc := 134) (b := 43) dX12_set_134 kM36 fr_RX12_32_12 (by decide) rfl ?_
        refine z_iload_n (pc := 137) 2 dX12_set_137 rfl rfl ?_
        refine z_bipush (pc := 138) (v := (20 : Int32)) dX12_set_138 (by decide) ?_
        refine z_isub (pc := 140) dX12_set_140 ?_
        refine z_iload_n (pc := 141) 3 dX12_set_141 rfl rfl ?_
        refine z_iast (pc := 142) dX12_set_142 (am_ar.s kM43) (fun h50 => ?_)
        refine z_iload_n (pc := 143) 0 dX12_set_143 rfl rfl ?_
        exact z_rIs dX12_set_144 rfl ⟨by decide, by decide⟩
      · refine z_iload_n (pc := 143) 3 dX12_set_143 rfl rfl ?_
        exact z_rIs dX12_set_144 rfl ⟨by decide, by decide⟩
    · refine z_iload_n (pc := 143) 3 dX12_set_143 rfl rfl ?_
      exact z_rIs dX12_set_144 rfl ⟨by decide, by decide⟩
def f12_set (σ : am_S) (x1 : Int32) (x2 : Int32) : Option (Int32 × am_S) := (f12_in x1.toInt64 (0 : Int64) (1 : Int64)).bind fun v1 => (if v1 = true then ((f12_in x2.toInt64 (0 : Int64) (9 : Int64)).bind fun v5 => (if v5 = true then (if x1 = 0 then (if x1 = 0 then (f12_set_J59 x1 x2 (fF σ 36 12) (sF σ 36 12 x2)) else (f12_set_J59 x1 x2 (fF σ 36 12) (sF σ 36 13 x2))) else (if x1 = 0 then (f12_set_J59 x1 x2 (fF σ 36 13) (sF σ 36 12 x2)) else (f12_set_J59 x1 x2 (fF σ 36 13) (sF σ 36 13 x2)))) else (f12_set_J59 x1 x2 (-1000 : Int32) σ))) else (f12_set_J59 x1 x2 (-1000 : Int32) σ))
theorem c12_set {l : Launch} {E : am_E} {σ : am_S} {x1 : Int32} {x2 : Int32} {v : Int32} {σ1 : am_S} (hf : f12_set σ x1 x2 = some (v, σ1)) : Ctr l E msM YX12_set (2) 0 0 [.ref 36, .int x1, .int x2] σ (some (.int v)) σ1 := by
  refine ctr_of (G := fun u r s => r = some (.int u.1) ∧ s = u.2) (by decide +kernel) (Nat.le_of_ble_eq_true rfl) hf ⟨rfl, rfl⟩ (fun d hd => ?_)
  refine z_eqlv (lv' := [(0, .ref 36), (1, .int x1), (2, .int x2)]) rfl ?_
  unfold f12_set
  refine z_sipush (pc := 0) (v := (-1000 : Int32)) dX12_set_0 (by decide) ?_
  refine z_istore_n (pc := 3) (lv' := [(3, .int (-1000 : Int32)), (0, .ref 36), (1, .int x1), (2, .int x2)]) dX12_set_3 rfl (by decide) rfl ?_
  refine z_iload_n (pc := 4) 2 dX12_set_4 rfl rfl ?_
  refine z_i2l (pc := 5) dX12_set_5 ?_
  refine z_lconst (pc := 6) (v := (0 : Int64)) dX12_set_6 (by decide) ?_
  refine z_lconst (pc := 7) (v := (1 : Int64)) dX12_set_7 (by decide) ?_
  refine z_callB (pc := 8) [.long x1.toInt64, .long (0 : Int64), .long (1 : Int64)] [] rfl (lk_S (Yc := YX12_in) (n := 3) dX12_set_8 rfl np_X12_in mh_RX12 (by decide) ml_RX12_134 st_X12_in in_RX12 cd_X12_in) (Nat.le_trans (by decide) hd) ⟨by decide, by decide⟩ (Nat.le_of_ble_eq_true rfl) (am_kp.rf _) (fun v1 h3 => c12_in h3) (fun v1 h3 => ?_)
  refine z_bz_eq (pc := 11) (tgt := 59) dX12_set_11 (by decide) (fun h4 => ?_) (fun h4 => ?_)
  · refine z_iload_n (pc := 14) 3 dX12_set_14 rfl rfl ?_
    refine z_i2l (pc := 15) dX12_set_15 ?_
    refine z_lconst (pc := 16) (v := (0 : Int64)) dX12_set_16 (by decide) ?_
    refine z_ldc2 (pc := 17) (v := (9 : Int64)) dX12_set_17 kl_RX12_151 ?_
    refine z_callB (pc := 20) [.long x2.toInt64, .long (0 : Int64), .long (9 : Int64)] [] rfl (lk_S (Yc := YX12_in) (n := 3) dX12_set_20 rfl np_X12_in mh_RX12 (by decide) ml_RX12_134 st_X12_in in_RX12 cd_X12_in) (Nat.le_trans (by decide) hd) ⟨by decide, by decide⟩ (Nat.le_of_ble_eq_true rfl) (am_kp.rf _) (fun v5 h7 => c12_in h7) (fun v5 h7 => ?_)
    refine z_bz_eq (pc := 23) (tgt := 59) dX12_set_23 (by decide) (fun h8 => ?_) (fun h8 => ?_)
    · refine z_iload_n (pc := 26) 2 dX12_set_26 rfl rfl ?_
      refine z_if_ne (pc := 27) (tgt := 37) dX12_set_27 (by decide) (fun h9 => ?_) (fun h9 => ?_)
      · refine z_aload_n (pc := 30) 1 dX12_set_30 rfl rfl ?_
        refine z_getI (pc := 31) dX12_set_31 (am_ob.s kM36) fr_RX12_153_12 (by decide) ?_
        refine z_goto (pc := 34) (tgt := 41) dX12_set_34 (by decide) ?_
        refine z_istore_n (pc := 41) (lv' := [(3, .int (fF σ 36 12)), (0, .ref 36), (1, .int x1), (2, .int x2)]) dX12_set_41 rfl (by decide) rfl ?_
        refine z_iload_n (pc := 42) 2 dX12_set_42 rfl rfl ?_
        refine z_if_ne (pc := 43) (tgt := 54) dX12_set_43 (by decide) (fun h10 => ?_) (fun h10 => ?_)
        · refine z_aload_n (pc := 46) 1 dX12_set_46 rfl rfl ?_
          refine z_iload_n (pc := 47) 3 dX12_set_47 rfl rfl ?_
          refine z_putI (pc := 48) dX12_set_48 (am_ob.s kM36) fw_RX12_153_12 (by decide) ?_
          refine z_goto (pc := 51) (tgt := 59) dX12_set_51 (by decide) ?_
          refine z_lv (lv' := [(0, .ref 36), (1, .int x1), (2, .int x2), (3, .int (fF σ 36 12))]) [1, 2, 3, 0] rfl ?_
          exact z12_set_J59 hd x1 x2 (fF σ 36 12) (sF σ 36 12 x2)
        · refine z_aload_n (pc := 54) 1 dX12_set_54 rfl rfl ?_
          refine z_iload_n (pc := 55) 3 dX12_set_55 rfl rfl ?_
          refine z_putI (pc := 56) dX12_set_56 (am_ob.s kM36) fw_RX12_156_12 (by decide) ?_
          refine z_lv (lv' := [(0, .ref 36), (1, .int x1), (2, .int x2), (3, .int (fF σ 36 12))]) [1, 2, 3, 0] rfl ?_
          exact z12_set_J59 hd x1 x2 (fF σ 36 12) (sF σ 36 13 x2)
      · refine z_aload_n (pc := 37) 1 dX12_set_37 rfl rfl ?_
        refine z_getI (pc := 38) dX12_set_38 (am_ob.s kM36) fr_RX12_156_12 (by decide) ?_
        refine z_istore_n (pc := 41) (lv' := [(3, .int (fF σ 36 13)), (0, .ref 36), (1, .int x1), (2, .int x2)]) dX12_set_41 rfl (by decide) rfl ?_
        refine z_iload_n (pc := 42) 2 dX12_set_42 rfl rfl ?_
        refine z_if_ne (pc := 43) (tgt := 54) dX12_set_43 (by decide) (fun h51 => ?_) (fun h51 => ?_)
        · refine z_aload_n (pc := 46) 1 dX12_set_46 rfl rfl ?_
          refine z_iload_n (pc := 47) 3 dX12_set_47 rfl rfl ?_
          refine z_putI (pc := 48) dX12_set_48 (am_ob.s kM36) fw_RX12_153_12 (by decide) ?_
          refine z_goto (pc := 51) (tgt := 59) dX12_set_51 (by decide) ?_
          refine z_lv (lv' := [(0, .ref 36), (1, .int x1), (2, .int x2), (3, .int (fF σ 36 13))]) [1, 2, 3, 0] rfl ?_
          exact z12_set_J59 hd x1 x2 (fF σ 36 13) (sF σ 36 12 x2)
        · refine z_aload_n (pc := 54) 1 dX12_set_54 rfl rfl ?_
          refine z_iload_n (pc := 55) 3 dX12_set_55 rfl rfl ?_
          refine z_putI (pc := 56) dX12_set_56 (am_ob.s kM36) fw_RX12_156_12 (by decide) ?_
          refine z_lv (lv' := [(0, .ref 36), (1, .int x1), (2, .int x2), (3, .int (fF σ 36 13))]) [1, 2, 3, 0] rfl ?_
          exact z12_set_J59 hd x1 x2 (fF σ 36 13) (sF σ 36 13 x2)
    · refine z_lv (lv' := [(0, .ref 36), (1, .int x1), (2, .int x2), (3, .int (-1000 : Int32))]) [1, 2, 3, 0] rfl ?_
      exact z12_set_J59 hd x1 x2 (-1000 : Int32) σ
  · refine z_lv (lv' := [(0, .ref 36), (1, .int x1), (2, .int x2), (3, .int (-1000 : Int32))]) [1, 2, 3, 0] rfl ?_
    exact z12_set_J59 hd x1 x2 (-1000 : Int32) σ
def f12_shares_L115 (σ : am_S) (N : Nat) : Nat → Int32 → Int32 → Int32 → Int32 → Int32 → Option Int32
  | 0, _, _, _, _, _ => none
  | n + 1, x1, x2, x4, x5, x6 => if fF σ 36 21 ≤ x6 then (some (x5)) else (if am_in x6 14 = true then (if fF σ 47 x6.toNatClampNeg = x1 then ((f12_partsOf σ x6).bind fun v15 => (if x4 = 0 then none else (f12_shares_L115 σ N n x1 x2 x4 (x5 - ((x2 * v15) / x4)) (x6 + (1 : Int32))))) else (f12_shares_L115 σ N n x1 x2 x4 (x5 - (0 : Int32)) (x6 + (1 : Int32)))) else none)
theorem z12_shares_L115 {l : Launch} {E : am_E} {d : Nat} {N : Nat} {σ : am_S} (hd : 2 ≤ d) : ∀ (n : Nat) (x1 : Int32) (x2 : Int32) (x4 : Int32) (x5 : Int32) (x6 : Int32), Z l E msM σ YX12_shares d 0 0 115 [(0, .ref 36), (1, .int x1), (2, .int x2), (4, .int x4), (5, .int x5), (6, .int x6)] [] 0 0 σ (f12_shares_L115 σ N n x1 x2 x4 x5 x6) (fun u r s => r = some (.int u) ∧ s = σ) := by
  intro n
  induction n with
  | zero => intros; exact z_none
  | succ n ih =>
    intro x1 x2 x4 x5 x6
    unfold f12_shares_L115
    refine z_iload (pc := 115) 5 dX12_shares_115 rfl ?_
    refine z_aload_n (pc := 117) 0 dX12_shares_117 rfl rfl ?_
    refine z_getI (pc := 118) dX12_shares_118 (am_ob.s kM36) fr_RX12_138_12 (by decide) ?_
    refine z_ic_ge (pc := 121) (tgt := 161) dX12_shares_121 (by decide) (fun h12 => ?_) (fun h12 => ?_)
    · refine z_iload (pc := 161) 4 dX12_shares_161 rfl ?_
      exact z_rI dX12_shares_163 rfl ⟨by decide, by decide⟩
    · refine z_iload (pc := 124) 4 dX12_shares_124 rfl ?_
      refine z_aload_n (pc := 126) 0 dX12_shares_126 rfl rfl ?_
      refine z_getQ (pc := 127) (b := 47) dX12_shares_127 kM36 fr_RX12_44_12 (by decide) rfl ?_
      refine z_iload (pc := 130) 5 dX12_shares_130 rfl ?_
      refine z_iald (pc := 132) dX12_shares_132 (am_ar.s kM47) (fun h13 => ?_)
      refine z_iload_n (pc := 133) 1 dX12_shares_133 rfl rfl ?_
      refine z_ic_ne (pc := 134) (tgt := 151) dX12_shares_134 (by decide) (fun h14 => ?_) (fun h14 => ?_)
      · refine z_iload_n (pc := 137) 2 dX12_shares_137 rfl rfl ?_
        refine z_aload_n (pc := 138) 0 dX12_shares_138 rfl rfl ?_
        refine z_iload (pc := 139) 5 dX12_shares_139 rfl ?_
        refine z_callI (pc := 141) [.ref 36, .int x6] [.int x2, .int x5] rfl (lk_V (Yc := YX12_partsOf) (n := 1) dX12_shares_141 rfl rfl (am_ob.s kM36) rfl rfl np_X12_partsOf mh_RX12 (by decide) ml_RX12_191 im_X12_partsOf se_RX12_X12_partsOf_X12_partsOf in_RX12 cd_X12_partsOf) (Nat.le_trans (by decide) hd) ⟨by decide, by decide⟩ (Nat.le_of_ble_eq_true rfl) (am_kp.rf _) (fun v15 h17 => c12_partsOf h17) (fun v15 h17 => ?_)
        refine z_imul (pc := 144) dX12_shares_144 ?_
        refine z_iload (pc := 145) 3 dX12_shares_145 rfl ?_
        refine z_ite (fun _ => z_none) (fun h18 => ?_)
        refine z_idiv (pc := 147) dX12_shares_147 h18 ?_
        refine z_goto (pc := 148) (tgt := 152) dX12_shares_148 (by decide) ?_
        refine z_isub (pc := 152) dX12_shares_152 ?_
        refine z_istore (pc := 153) (lv' := [(5, .int (x5 - ((x2 * v15) / x4))), (0, .ref 36), (1, .int x1), (2, .int x2), (4, .int x4), (6, .int x6)]) dX12_shares_153 (by decide) rfl ?_
        refine z_iinc (pc := 155) (v := x6 + (1 : Int32)) (lv' := [(6, .int (x6 + (1 : Int32))), (5, .int (x5 - ((x2 * v15) / x4))), (0, .ref 36), (1, .int x1), (2, .int x2), (4, .int x4)]) 5 dX12_shares_155 rfl rfl (by decide) rfl ?_
        refine z_goto (pc := 158) (tgt := 115) dX12_shares_158 (by decide) ?_
        refine z_lv (lv' := [(0, .ref 36), (1, .int x1), (2, .int x2), (4, .int x4), (5, .int (x5 - ((x2 * v15) / x4))), (6, .int (x6 + (1 : Int32)))]) [2, 3, 4, 5, 1, 0] rfl ?_
        exact ih x1 x2 x4 (x5 - ((x2 * v15) / x4)) (x6 + (1 : Int32))
      · refine z_iconst (pc := 151) (v := (0 : Int32)) dX12_shares_151 (by decide) ?_
        refine z_isub (pc := 152) dX12_shares_152 ?_
        refine z_istore (pc := 153) (lv' := [(5, .int (x5 - (0 : Int32))), (0, .ref 36), (1, .int x1), (2, .int x2), (4, .int x4), (6, .int x6)]) dX12_shares_153 (by decide) rfl ?_
        refine z_iinc (pc := 155) (v := x6 + (1 : Int32)) (lv' := [(6, .int (x6 + (1 : Int32))), (5, .int (x5 - (0 : Int32))), (0, .ref 36), (1, .int x1), (2, .int x2), (4, .int x4)]) 5 dX12_shares_155 rfl rfl (by decide) rfl ?_
        refine z_goto (pc := 158) (tgt := 115) dX12_shares_158 (by decide) ?_
        refine z_lv (lv' := [(0, .ref 36), (1, .int x1), (2, .int x2), (4, .int x4), (5, .int (x5 - (0 : Int32))), (6, .int (x6 + (1 : Int32)))]) [2, 3, 4, 5, 1, 0] rfl ?_
        exact ih x1 x2 x4 (x5 - (0 : Int32)) (x6 + (1 : Int32))
def f12_shares_J93 (σ : am_S) (N : Nat) (x1 : Int32) (x2 : Int32) (x3 : Int32) (x4 : Int32) : Option Int32 := if x3 = (-1 : Int32) then (f12_shares_L115 σ N N x1 x2 x4 x2 (0 : Int32)) else ((f12_partsOf σ x3).bind fun v19 => (if x4 = 0 then none else (some ((x2 * v19) / x4))))
theorem z12_shares_J93 {l : Launch} {E : am_E} {d : Nat} {N : Nat} {σ : am_S} (hd : 2 ≤ d) (x1 : Int32) (x2 : Int32) (x3 : Int32) (x4 : Int32) : Z l E msM σ YX12_shares d 0 0 93 [(0, .ref 36), (1, .int x1), (2, .int x2), (3, .int x3), (4, .int x4)] [] 0 0 σ (f12_shares_J93 σ N x1 x2 x3 x4) (fun u r s => r = some (.int u) ∧ s = σ) := by
  unfold f12_shares_J93
  refine z_iload_n (pc := 93) 3 dX12_shares_93 rfl rfl ?_
  refine z_iconst (pc := 94) (v := (-1 : Int32)) dX12_shares_94 (by decide) ?_
  refine z_ic_eq (pc := 95) (tgt := 109) dX12_shares_95 (by decide) (fun h11 => ?_) (fun h11 => ?_)
  · refine z_iload_n (pc := 109) 2 dX12_shares_109 rfl rfl ?_
    refine z_istore (pc := 110) (lv' := [(5, .int x2), (0, .ref 36), (1, .int x1), (2, .int x2), (3, .int x3), (4, .int x4)]) dX12_shares_110 (by decide) rfl ?_
    refine z_iconst (pc := 112) (v := (0 : Int32)) dX12_shares_112 (by decide) ?_
    refine z_istore (pc := 113) (lv' := [(6, .int (0 : Int32)), (5, .int x2), (0, .ref 36), (1, .int x1), (2, .int x2), (3, .int x3), (4, .int x4)]) dX12_shares_113 (by decide) rfl ?_
    refine z_lv (lv' := [(0, .ref 36), (1, .int x1), (2, .int x2), (4, .int x4), (5, .int x2), (6, .int (0 : Int32))]) [2, 3, 4, 6, 1, 0] rfl ?_
    exact z12_shares_L115 hd N x1 x2 x4 x2 (0 : Int32)
  · refine z_iload_n (pc := 98) 2 dX12_shares_98 rfl rfl ?_
    refine z_aload_n (pc := 99) 0 dX12_shares_99 rfl rfl ?_
    refine z_iload_n (pc := 100) 3 dX12_shares_100 rfl rfl ?_
    refine z_callI (pc := 101) [.ref 36, .int x3] [.int x2] rfl (lk_V (Yc := YX12_partsOf) (n := 1) dX12_shares_101 rfl rfl (am_ob.s kM36) rfl rfl np_X12_partsOf mh_RX12 (by decide) ml_RX12_191 im_X12_partsOf se_RX12_X12_partsOf_X12_partsOf in_RX12 cd_X12_partsOf) (Nat.le_trans (by decide) hd) ⟨by decide, by decide⟩ (Nat.le_of_ble_eq_true rfl) (am_kp.rf _) (fun v19 h21 => c12_partsOf h21) (fun v19 h21 => ?_)
    refine z_imul (pc := 104) dX12_shares_104 ?_
    refine z_iload (pc := 105) 4 dX12_shares_105 rfl ?_
    refine z_ite (fun _ => z_none) (fun h22 => ?_)
    refine z_idiv (pc := 107) dX12_shares_107 h22 ?_
    exact z_rI dX12_shares_108 rfl ⟨by decide, by decide⟩
def f12_shares_L52 (σ : am_S) (N : Nat) : Nat → Int32 → Int32 → Int32 → Int32 → Int32 → Option Int32
  | 0, _, _, _, _, _ => none
  | n + 1, x1, x2, x3, x4, x5 => if fF σ 36 21 ≤ x5 then (f12_shares_J93 σ N x1 x2 x3 x4) else (if am_in x5 14 = true then (if fF σ 47 x5.toNatClampNeg = x1 then ((f12_partsOf σ x5).bind fun v25 => (f12_shares_L52 σ N n x1 x2 x3 (x4 + v25) (x5 + (1 : Int32)))) else (f12_shares_L52 σ N n x1 x2 x3 (x4 + (0 : Int32)) (x5 + (1 : Int32)))) else none)
theorem z12_shares_L52 {l : Launch} {E : am_E} {d : Nat} {N : Nat} {σ : am_S} (hd : 2 ≤ d) : ∀ (n : Nat) (x1 : Int32) (x2 : Int32) (x3 : Int32) (x4 : Int32) (x5 : Int32), Z l E msM σ YX12_shares d 0 0 52 [(0, .ref 36), (1, .int x1), (2, .int x2), (3, .int x3), (4, .int x4), (5, .int x5)] [] 0 0 σ (f12_shares_L52 σ N n x1 x2 x3 x4 x5) (fun u r s => r = some (.int u) ∧ s = σ) := by
  intro n
  induction n with
  | zero => intros; exact z_none
  | succ n ih =>
    intro x1 x2 x3 x4 x5
    unfold f12_shares_L52
    refine z_iload (pc := 52) 5 dX12_shares_52 rfl ?_
    refine z_aload_n (pc := 54) 0 dX12_shares_54 rfl rfl ?_
    refine z_getI (pc := 55) dX12_shares_55 (am_ob.s kM36) fr_RX12_138_12 (by decide) ?_
    refine z_ic_ge (pc := 58) (tgt := 93) dX12_shares_58 (by decide) (fun h10 => ?_) (fun h10 => ?_)
    · refine z_lv (lv' := [(0, .ref 36), (1, .int x1), (2, .int x2), (3, .int x3), (4, .int x4)]) [0, 1, 2, 3, 4] rfl ?_
      exact z12_shares_J93 hd x1 x2 x3 x4
    · refine z_iload (pc := 61) 4 dX12_shares_61 rfl ?_
      refine z_aload_n (pc := 63) 0 dX12_shares_63 rfl rfl ?_
      refine z_getQ (pc := 64) (b := 47) dX12_shares_64 kM36 fr_RX12_44_12 (by decide) rfl ?_
      refine z_iload (pc := 67) 5 dX12_shares_67 rfl ?_
      refine z_iald (pc := 69) dX12_shares_69 (am_ar.s kM47) (fun h23 => ?_)
      refine z_iload_n (pc := 70) 1 dX12_shares_70 rfl rfl ?_
      refine z_ic_ne (pc := 71) (tgt := 83) dX12_shares_71 (by decide) (fun h24 => ?_) (fun h24 => ?_)
      · refine z_aload_n (pc := 74) 0 dX12_shares_74 rfl rfl ?_
        refine z_iload (pc := 75) 5 dX12_shares_75 rfl ?_
        refine z_callI (pc := 77) [.ref 36, .int x5] [.int x4] rfl (lk_V (Yc := YX12_partsOf) (n := 1) dX12_shares_77 rfl rfl (am_ob.s kM36) rfl rfl np_X12_partsOf mh_RX12 (by decide) ml_RX12_191 im_X12_partsOf se_RX12_X12_partsOf_X12_partsOf in_RX12 cd_X12_partsOf) (Nat.le_trans (by decide) hd) ⟨by decide, by decide⟩ (Nat.le_of_ble_eq_true rfl) (am_kp.rf _) (fun v25 h27 => c12_partsOf h27) (fun v25 h27 => ?_)
        refine z_goto (pc := 80) (tgt := 84) dX12_shares_80 (by decide) ?_
        refine z_iadd (pc := 84) dX12_shares_84 ?_
        refine z_istore (pc := 85) (lv' := [(4, .int (x4 + v25)), (0, .ref 36), (1, .int x1), (2, .int x2), (3, .int x3), (5, .int x5)]) dX12_shares_85 (by decide) rfl ?_
        refine z_iinc (pc := 87) (v := x5 + (1 : Int32)) (lv' := [(5, .int (x5 + (1 : Int32))), (4, .int (x4 + v25)), (0, .ref 36), (1, .int x1), (2, .int x2), (3, .int x3)]) 5 dX12_shares_87 rfl rfl (by decide) rfl ?_
        refine z_goto (pc := 90) (tgt := 52) dX12_shares_90 (by decide) ?_
        refine z_lv (lv' := [(0, .ref 36), (1, .int x1), (2, .int x2), (3, .int x3), (4, .int (x4 + v25)), (5, .int (x5 + (1 : Int32)))]) [2, 3, 4, 5, 1, 0] rfl ?_
        exact ih x1 x2 x3 (x4 + v25) (x5 + (1 : Int32))
      · refine z_iconst (pc := 83) (v := (0 : Int32)) dX12_shares_83 (by decide) ?_
        refine z_iadd (pc := 84) dX12_shares_84 ?_
        refine z_istore (pc := 85) (lv' := [(4, .int (x4 + (0 : Int32))), (0, .ref 36), (1, .int x1), (2, .int x2), (3, .int x3), (5, .int x5)]) dX12_shares_85 (by decide) rfl ?_
        refine z_iinc (pc := 87) (v := x5 + (1 : Int32)) (lv' := [(5, .int (x5 + (1 : Int32))), (4, .int (x4 + (0 : Int32))), (0, .ref 36), (1, .int x1), (2, .int x2), (3, .int x3)]) 5 dX12_shares_87 rfl rfl (by decide) rfl ?_
        refine z_goto (pc := 90) (tgt := 52) dX12_shares_90 (by decide) ?_
        refine z_lv (lv' := [(0, .ref 36), (1, .int x1), (2, .int x2), (3, .int x3), (4, .int (x4 + (0 : Int32))), (5, .int (x5 + (1 : Int32)))]) [2, 3, 4, 5, 1, 0] rfl ?_
        exact ih x1 x2 x3 (x4 + (0 : Int32)) (x5 + (1 : Int32))
def f12_shares (N : Nat) (σ : am_S) (x1 : Int32) (x2 : Int32) (x3 : Int32) : Option Int32 := (f12_isCrossing σ x1).bind fun v1 => (if v1 = true then ((f12_in x2.toInt64 (0 : Int64) (99999 : Int64)).bind fun v5 => (if v5 = true then (if x3 = (-1 : Int32) then (f12_shares_L52 σ N N x1 x2 x3 (0 : Int32) (0 : Int32)) else ((f12_isRower σ x3).bind fun v28 => (if v28 = true then (if am_in x3 14 = true then (if fF σ 47 x3.toNatClampNeg = x1 then (f12_shares_L52 σ N N x1 x2 x3 (0 : Int32) (0 : Int32)) else (some ((-2 : Int32)))) else none) else (some ((-2 : Int32)))))) else (some ((-2 : Int32))))) else (some ((-2 : Int32))))
theorem c12_shares {l : Launch} {E : am_E} {N : Nat} {σ : am_S} {x1 : Int32} {x2 : Int32} {x3 : Int32} {v : Int32} (hf : f12_shares N σ x1 x2 x3 = some v) : Ctr l E msM YX12_shares (2) 0 0 [.ref 36, .int x1, .int x2, .int x3] σ (some (.int v)) σ := by
  refine ctr_of (G := fun u r s => r = some (.int u) ∧ s = σ) (by decide +kernel) (Nat.le_of_ble_eq_true rfl) hf ⟨rfl, rfl⟩ (fun d hd => ?_)
  refine z_eqlv (lv' := [(0, .ref 36), (1, .int x1), (2, .int x2), (3, .int x3)]) rfl ?_
  unfold f12_shares
  refine z_aload_n (pc := 0) 0 dX12_shares_0 rfl rfl ?_
  refine z_iload_n (pc := 1) 1 dX12_shares_1 rfl rfl ?_
  refine z_callB (pc := 2) [.ref 36, .int x1] [] rfl (lk_V (Yc := YX12_isCrossing) (n := 1) dX12_shares_2 rfl rfl (am_ob.s kM36) rfl rfl np_X12_isCrossing mh_RX12 (by decide) ml_RX12_159 im_X12_isCrossing se_RX12_X12_isCrossing_X12_isCrossing in_RX12 cd_X12_isCrossing) (Nat.le_trans (by decide) hd) ⟨by decide, by decide⟩ (Nat.le_of_ble_eq_true rfl) (am_kp.rf _) (fun v1 h3 => c12_isCrossing h3) (fun v1 h3 => ?_)
  refine z_bz_eq (pc := 5) (tgt := 43) dX12_shares_5 (by decide) (fun h4 => ?_) (fun h4 => ?_)
  · refine z_iload_n (pc := 8) 2 dX12_shares_8 rfl rfl ?_
    refine z_i2l (pc := 9) dX12_shares_9 ?_
    refine z_lconst (pc := 10) (v := (0 : Int64)) dX12_shares_10 (by decide) ?_
    refine z_ldc2 (pc := 11) (v := (99999 : Int64)) dX12_shares_11 kl_RX12_397 ?_
    refine z_callB (pc := 14) [.long x2.toInt64, .long (0 : Int64), .long (99999 : Int64)] [] rfl (lk_S (Yc := YX12_in) (n := 3) dX12_shares_14 rfl np_X12_in mh_RX12 (by decide) ml_RX12_134 st_X12_in in_RX12 cd_X12_in) (Nat.le_trans (by decide) hd) ⟨by decide, by decide⟩ (Nat.le_of_ble_eq_true rfl) (am_kp.rf _) (fun v5 h7 => c12_in h7) (fun v5 h7 => ?_)
    refine z_bz_eq (pc := 17) (tgt := 43) dX12_shares_17 (by decide) (fun h8 => ?_) (fun h8 => ?_)
    · refine z_iload_n (pc := 20) 3 dX12_shares_20 rfl rfl ?_
      refine z_iconst (pc := 21) (v := (-1 : Int32)) dX12_shares_21 (by decide) ?_
      refine z_ic_eq (pc := 22) (tgt := 46) dX12_shares_22 (by decide) (fun h9 => ?_) (fun h9 => ?_)
      · refine z_iconst (pc := 46) (v := (0 : Int32)) dX12_shares_46 (by decide) ?_
        refine z_istore (pc := 47) (lv' := [(4, .int (0 : Int32)), (0, .ref 36), (1, .int x1), (2, .int x2), (3, .int x3)]) dX12_shares_47 (by decide) rfl ?_
        refine z_iconst (pc := 49) (v := (0 : Int32)) dX12_shares_49 (by decide) ?_
        refine z_istore (pc := 50) (lv' := [(5, .int (0 : Int32)), (4, .int (0 : Int32)), (0, .ref 36), (1, .int x1), (2, .int x2), (3, .int x3)]) dX12_shares_50 (by decide) rfl ?_
        refine z_lv (lv' := [(0, .ref 36), (1, .int x1), (2, .int x2), (3, .int x3), (4, .int (0 : Int32)), (5, .int (0 : Int32))]) [2, 3, 4, 5, 1, 0] rfl ?_
        exact z12_shares_L52 hd N x1 x2 x3 (0 : Int32) (0 : Int32)
      · refine z_aload_n (pc := 25) 0 dX12_shares_25 rfl rfl ?_
        refine z_iload_n (pc := 26) 3 dX12_shares_26 rfl rfl ?_
        refine z_callB (pc := 27) [.ref 36, .int x3] [] rfl (lk_V (Yc := YX12_isRower) (n := 1) dX12_shares_27 rfl rfl (am_ob.s kM36) rfl rfl np_X12_isRower mh_RX12 (by decide) ml_RX12_170 im_X12_isRower se_RX12_X12_isRower_X12_isRower in_RX12 cd_X12_isRower) (Nat.le_trans (by decide) hd) ⟨by decide, by decide⟩ (Nat.le_of_ble_eq_true rfl) (am_kp.rf _) (fun v28 h30 => c12_isRower h30) (fun v28 h30 => ?_)
        refine z_bz_eq (pc := 30) (tgt := 43) dX12_shares_30 (by decide) (fun h31 => ?_) (fun h31 => ?_)
        · refine z_aload_n (pc := 33) 0 dX12_shares_33 rfl rfl ?_
          refine z_getQ (pc := 34) (b := 47) dX12_shares_34 kM36 fr_RX12_44_12 (by decide) rfl ?_
          refine z_iload_n (pc := 37) 3 dX12_shares_37 rfl rfl ?_
          refine z_iald (pc := 38) dX12_shares_38 (am_ar.s kM47) (fun h32 => ?_)
          refine z_iload_n (pc := 39) 1 dX12_shares_39 rfl rfl ?_
          refine z_ic_eq (pc := 40) (tgt := 46) dX12_shares_40 (by decide) (fun h33 => ?_) (fun h33 => ?_)
          · refine z_iconst (pc := 46) (v := (0 : Int32)) dX12_shares_46 (by decide) ?_
            refine z_istore (pc := 47) (lv' := [(4, .int (0 : Int32)), (0, .ref 36), (1, .int x1), (2, .int x2), (3, .int x3)]) dX12_shares_47 (by decide) rfl ?_
            refine z_iconst (pc := 49) (v := (0 : Int32)) dX12_shares_49 (by decide) ?_
            refine z_istore (pc := 50) (lv' := [(5, .int (0 : Int32)), (4, .int (0 : Int32)), (0, .ref 36), (1, .int x1), (2, .int x2), (3, .int x3)]) dX12_shares_50 (by decide) rfl ?_
            refine z_lv (lv' := [(0, .ref 36), (1, .int x1), (2, .int x2), (3, .int x3), (4, .int (0 : Int32)), (5, .int (0 : Int32))]) [2, 3, 4, 5, 1, 0] rfl ?_
            exact z12_shares_L52 hd N x1 x2 x3 (0 : Int32) (0 : Int32)
          · refine z_bipush (pc := 43) (v := (-2 : Int32)) dX12_shares_43 (by decide) ?_
            exact z_rI dX12_shares_45 rfl ⟨by decide, by decide⟩
        · refine z_bipush (pc := 43) (v := (-2 : Int32)) dX12_shares_43 (by decide) ?_
          exact z_rI dX12_shares_45 rfl ⟨by decide, by decide⟩
    · refine z_bipush (pc := 43) (v := (-2 : Int32)) dX12_shares_43 (by decide) ?_
      exact z_rI dX12_shares_45 rfl ⟨by decide, by decide⟩
  · refine z_bipush (pc := 43) (v := (-2 : Int32)) dX12_shares_43 (by decide) ?_
    exact z_rI dX12_shares_45 rfl ⟨by decide, by decide⟩
def f12_sheet_L77 (N : Nat) : Nat → Int32 → Int32 → Int32 → Int32 → am_S → Option (Int32 × am_S)
  | 0, _, _, _, _, _ => none
  | n + 1, x1, x2, x3, x4, σ => if x3 ≤ x4 then (some ((1 : Int32), σ)) else (if x2 < 0 then (some ((1 : Int32), σ)) else (if am_in (((40 : Int32) * x1) + x4) 160 = true then (f12_sheet_L77 N n x1 x2 x3 (x4 + (1 : Int32)) (sF σ 67 (((40 : Int32) * x1) + x4).toNatClampNeg (0 : Int32))) else none))
theorem z12_sheet_L77 {l : Launch} {E : am_E} {d : Nat} {σ0 : am_S} {N : Nat} (hd : 2 ≤ d) : ∀ (n : Nat) (x1 : Int32) (x2 : Int32) (x3 : Int32) (x4 : Int32) (σ : am_S), Z l E msM σ0 YX12_sheet d 0 0 77 [(0, .ref 36), (1, .int x1), (2, .int x2), (3, .int x3), (4, .int x4)] [] 0 0 σ (f12_sheet_L77 N n x1 x2 x3 x4 σ) (fun u r s => r = some (.int u.1) ∧ s = u.2) := by
  intro n
  induction n with
  | zero => intros; exact z_none
  | succ n ih =>
    intro x1 x2 x3 x4 σ
    unfold f12_sheet_L77
    refine z_iload (pc := 77) 4 dX12_sheet_77 rfl ?_
    refine z_iload_n (pc := 79) 3 dX12_sheet_79 rfl rfl ?_
    refine z_ic_ge (pc := 80) (tgt := 106) dX12_sheet_80 (by decide) (fun h15 => ?_) (fun h15 => ?_)
    · refine z_iconst (pc := 106) (v := (1 : Int32)) dX12_sheet_106 (by decide) ?_
      exact z_rIs dX12_sheet_107 rfl ⟨by decide, by decide⟩
    · refine z_iload_n (pc := 83) 2 dX12_sheet_83 rfl rfl ?_
      refine z_if_lt (pc := 84) (tgt := 106) dX12_sheet_84 (by decide) (fun h16 => ?_) (fun h16 => ?_)
      · refine z_iconst (pc := 106) (v := (1 : Int32)) dX12_sheet_106 (by decide) ?_
        exact z_rIs dX12_sheet_107 rfl ⟨by decide, by decide⟩
      · refine z_aload_n (pc := 87) 0 dX12_sheet_87 rfl rfl ?_
        refine z_getQ (pc := 88) (b := 67) dX12_sheet_88 kM36 fr_RX12_105_12 (by decide) rfl ?_
        refine z_bipush (pc := 91) (v := (40 : Int32)) dX12_sheet_91 (by decide) ?_
        refine z_iload_n (pc := 93) 1 dX12_sheet_93 rfl rfl ?_
        refine z_imul (pc := 94) dX12_sheet_94 ?_
        refine z_iload (pc := 95) 4 dX12_sheet_95 rfl ?_
        refine z_iadd (pc := 97) dX12_sheet_97 ?_
        refine z_iconst (pc := 98) (v := (0 : Int32)) dX12_sheet_98 (by decide) ?_
        refine z_iast (pc := 99) dX12_sheet_99 (am_ar.s kM67) (fun h17 => ?_)
        refine z_iinc (pc := 100) (v := x4 + (1 : Int32)) (lv' := [(4, .int (x4 + (1 : Int32))), (0, .ref 36), (1, .int x1), (2, .int x2), (3, .int x3)]) 4 dX12_sheet_100 rfl rfl (by decide) rfl ?_
        refine z_goto (pc := 103) (tgt := 77) dX12_sheet_103 (by decide) ?_
        refine z_lv (lv' := [(0, .ref 36), (1, .int x1), (2, .int x2), (3, .int x3), (4, .int (x4 + (1 : Int32)))]) [1, 2, 3, 4, 0] rfl ?_
        exact ih x1 x2 x3 (x4 + (1 : Int32)) (sF σ 67 (((40 : Int32) * x1) + x4).toNatClampNeg (0 : Int32))
def f12_sheet_J34 (N : Nat) (x1 : Int32) (x2 : Int32) (x3 : Int32) (σ : am_S) : Option (Int32 × am_S) := if x2 < 0 then (if x2 < 0 then (if am_in x1 4 = true then (if am_in x1 4 = true then (if am_in x1 4 = true then (f12_sheet_L77 N N x1 x2 x3 (0 : Int32) (sF (sF (sF σ 64 x1.toNatClampNeg (0 : Int32)) 65 x1.toNatClampNeg x2) 66 x1.toNatClampNeg x3)) else none) else none) else none) else (if am_in x1 4 = true then (if am_in x1 4 = true then (if am_in x1 4 = true then (f12_sheet_L77 N N x1 x2 x3 (0 : Int32) (sF (sF (sF σ 64 x1.toNatClampNeg (1 : Int32)) 65 x1.toNatClampNeg x2) 66 x1.toNatClampNeg x3)) else none) else none) else none)) else (if 0 ≤ x3 then (if x2 < 0 then (if am_in x1 4 = true then (if am_in x1 4 = true then (if am_in x1 4 = true then (f12_sheet_L77 N N x1 x2 x3 (0 : Int32) (sF (sF (sF σ 64 x1.toNatClampNeg (0 : Int32)) 65 x1.toNatClampNeg x2) 66 x1.toNatClampNeg x3)) else none) else none) else none) else (if am_in x1 4 = true then (if am_in x1 4 = true then (if am_in x1 4 = true then (f12_sheet_L77 N N x1 x2 x3 (0 : Int32) (sF (sF (sF σ 64 x1.toNatClampNeg (1 : Int32)) 65 x1.toNatClampNeg x2) 66 x1.toNatClampNeg x3)) else none) else none) else none)) else (some ((-14 : Int32), σ)))
theorem z12_sheet_J34 {l : Launch} {E : am_E} {d : Nat} {σ0 : am_S} {N : Nat} (hd : 2 ≤ d) (x1 : Int32) (x2 : Int32) (x3 : Int32) (σ : am_S) : Z l E msM σ0 YX12_sheet d 0 0 34 [(0, .ref 36), (1, .int x1), (2, .int x2), (3, .int x3)] [] 0 0 σ (f12_sheet_J34 N x1 x2 x3 σ) (fun u r s => r = some (.int u.1) ∧ s = u.2) := by
  unfold f12_sheet_J34
  refine z_iload_n (pc := 34) 2 dX12_sheet_34 rfl rfl ?_
  refine z_if_lt (pc := 35) (tgt := 45) dX12_sheet_35 (by decide) (fun h10 => ?_) (fun h10 => ?_)
  · refine z_aload_n (pc := 45) 0 dX12_sheet_45 rfl rfl ?_
    refine z_getQ (pc := 46) (b := 64) dX12_sheet_46 kM36 fr_RX12_95_12 (by decide) rfl ?_
    refine z_iload_n (pc := 49) 1 dX12_sheet_49 rfl rfl ?_
    refine z_iload_n (pc := 50) 2 dX12_sheet_50 rfl rfl ?_
    refine z_if_lt (pc := 51) (tgt := 58) dX12_sheet_51 (by decide) (fun h11 => ?_) (fun h11 => ?_)
    · refine z_iconst (pc := 58) (v := (0 : Int32)) dX12_sheet_58 (by decide) ?_
      refine z_zast (pc := 59) dX12_sheet_59 (am_ar.s kM64) (by decide +kernel) (fun h12 => ?_)
      refine z_aload_n (pc := 60) 0 dX12_sheet_60 rfl rfl ?_
      refine z_getQ (pc := 61) (b := 65) dX12_sheet_61 kM36 fr_RX12_99_12 (by decide) rfl ?_
      refine z_iload_n (pc := 64) 1 dX12_sheet_64 rfl rfl ?_
      refine z_iload_n (pc := 65) 2 dX12_sheet_65 rfl rfl ?_
      refine z_iast (pc := 66) dX12_sheet_66 (am_ar.s kM65) (fun h13 => ?_)
      refine z_aload_n (pc := 67) 0 dX12_sheet_67 rfl rfl ?_
      refine z_getQ (pc := 68) (b := 66) dX12_sheet_68 kM36 fr_RX12_102_12 (by decide) rfl ?_
      refine z_iload_n (pc := 71) 1 dX12_sheet_71 rfl rfl ?_
      refine z_iload_n (pc := 72) 3 dX12_sheet_72 rfl rfl ?_
      refine z_iast (pc := 73) dX12_sheet_73 (am_ar.s kM66) (fun h14 => ?_)
      refine z_iconst (pc := 74) (v := (0 : Int32)) dX12_sheet_74 (by decide) ?_
      refine z_istore (pc := 75) (lv' := [(4, .int (0 : Int32)), (0, .ref 36), (1, .int x1), (2, .int x2), (3, .int x3)]) dX12_sheet_75 (by decide) rfl ?_
      refine z_lv (lv' := [(0, .ref 36), (1, .int x1), (2, .int x2), (3, .int x3), (4, .int (0 : Int32))]) [1, 2, 3, 4, 0] rfl ?_
      exact z12_sheet_L77 hd N x1 x2 x3 (0 : Int32) (sF (sF (sF σ 64 x1.toNatClampNeg (0 : Int32)) 65 x1.toNatClampNeg x2) 66 x1.toNatClampNeg x3)
    · refine z_iconst (pc := 54) (v := (1 : Int32)) dX12_sheet_54 (by decide) ?_
      refine z_goto (pc := 55) (tgt := 59) dX12_sheet_55 (by decide) ?_
      refine z_zast (pc := 59) dX12_sheet_59 (am_ar.s kM64) (by decide +kernel) (fun h18 => ?_)
      refine z_aload_n (pc := 60) 0 dX12_sheet_60 rfl rfl ?_
      refine z_getQ (pc := 61) (b := 65) dX12_sheet_61 kM36 fr_RX12_99_12 (by decide) rfl ?_
      refine z_iload_n (pc := 64) 1 dX12_sheet_64 rfl rfl ?_
      refine z_iload_n (pc := 65) 2 dX12_sheet_65 rfl rfl ?_
      refine z_iast (pc := 66) dX12_sheet_66 (am_ar.s kM65) (fun h19 => ?_)
      refine z_aload_n (pc := 67) 0 dX12_sheet_67 rfl rfl ?_
      refine z_getQ (pc := 68) (b := 66) dX12_sheet_68 kM36 fr_RX12_102_12 (by decide) rfl ?_
      refine z_iload_n (pc := 71) 1 dX12_sheet_71 rfl rfl ?_
      refine z_iload_n (pc := 72) 3 dX12_sheet_72 rfl rfl ?_
      refine z_iast (pc := 73) dX12_sheet_73 (am_ar.s kM66) (fun h20 => ?_)
      refine z_iconst (pc := 74) (v := (0 : Int32)) dX12_sheet_74 (by decide) ?_
      refine z_istore (pc := 75) (lv' := [(4, .int (0 : Int32)), (0, .ref 36), (1, .int x1), (2, .int x2), (3, .int x3)]) dX12_sheet_75 (by decide) rfl ?_
      refine z_lv (lv' := [(0, .ref 36), (1, .int x1), (2, .int x2), (3, .int x3), (4, .int (0 : Int32))]) [1, 2, 3, 4, 0] rfl ?_
      exact z12_sheet_L77 hd N x1 x2 x3 (0 : Int32) (sF (sF (sF σ 64 x1.toNatClampNeg (1 : Int32)) 65 x1.toNatClampNeg x2) 66 x1.toNatClampNeg x3)
  · refine z_iload_n (pc := 38) 3 dX12_sheet_38 rfl rfl ?_
    refine z_if_ge (pc := 39) (tgt := 45) dX12_sheet_39 (by decide) (fun h21 => ?_) (fun h21 => ?_)
    · refine z_aload_n (pc := 45) 0 dX12_sheet_45 rfl rfl ?_
      refine z_getQ (pc := 46) (b := 64) dX12_sheet_46 kM36 fr_RX12_95_12 (by decide) rfl ?_
      refine z_iload_n (pc := 49) 1 dX12_sheet_49 rfl rfl ?_
      refine z_iload_n (pc := 50) 2 dX12_sheet_50 rfl rfl ?_
      refine z_if_lt (pc := 51) (tgt := 58) dX12_sheet_51 (by decide) (fun h22 => ?_) (fun h22 => ?_)
      · refine z_iconst (pc := 58) (v := (0 : Int32)) dX12_sheet_58 (by decide) ?_
        refine z_zast (pc := 59) dX12_sheet_59 (am_ar.s kM64) (by decide +kernel) (fun h23 => ?_)
        refine z_aload_n (pc := 60) 0 dX12_sheet_60 rfl rfl ?_
        refine z_getQ (pc := 61) (b := 65) dX12_sheet_61 kM36 fr_RX12_99_12 (by decide) rfl ?_
        refine z_iload_n (pc := 64) 1 dX12_sheet_64 rfl rfl ?_
        refine z_iload_n (pc := 65) 2 dX12_sheet_65 rfl rfl ?_
        refine z_iast (pc := 66) dX12_sheet_66 (am_ar.s kM65) (fun h24 => ?_)
        refine z_aload_n (pc := 67) 0 dX12_sheet_67 rfl rfl ?_
        refine z_getQ (pc := 68) (b := 66) dX12_sheet_68 kM36 fr_RX12_102_12 (by decide) rfl ?_
        refine z_iload_n (pc := 71) 1 dX12_sheet_71 rfl rfl ?_
        refine z_iload_n (pc := 72) 3 dX12_sheet_72 rfl rfl ?_
        refine z_iast (pc := 73) dX12_sheet_73 (am_ar.s kM66) (fun h25 => ?_)
        refine z_iconst (pc := 74) (v := (0 : Int32)) dX12_sheet_74 (by decide) ?_
        refine z_istore (pc := 75) (lv' := [(4, .int (0 : Int32)), (0, .ref 36), (1, .int x1), (2, .int x2), (3, .int x3)]) dX12_sheet_75 (by decide) rfl ?_
        refine z_lv (lv' := [(0, .ref 36), (1, .int x1), (2, .int x2), (3, .int x3), (4, .int (0 : Int32))]) [1, 2, 3, 4, 0] rfl ?_
        exact z12_sheet_L77 hd N x1 x2 x3 (0 : Int32) (sF (sF (sF σ 64 x1.toNatClampNeg (0 : Int32)) 65 x1.toNatClampNeg x2) 66 x1.toNatClampNeg x3)
      · refine z_iconst (pc := 54) (v := (1 : Int32)) dX12_sheet_54 (by decide) ?_
        refine z_goto (pc := 55) (tgt := 59) dX12_sheet_55 (by decide) ?_
        refine z_zast (pc := 59) dX12_sheet_59 (am_ar.s kM64) (by decide +kernel) (fun h26 => ?_)
        refine z_aload_n (pc := 60) 0 dX12_sheet_60 rfl rfl ?_
        refine z_getQ (pc := 61) (b := 65) dX12_sheet_61 kM36 fr_RX12_99_12 (by decide) rfl ?_
        refine z_iload_n (pc := 64) 1 dX12_sheet_64 rfl rfl ?_
        refine z_iload_n (pc := 65) 2 dX12_sheet_65 rfl rfl ?_
        refine z_iast (pc := 66) dX12_sheet_66 (am_ar.s kM65) (fun h27 => ?_)
        refine z_aload_n (pc := 67) 0 dX12_sheet_67 rfl rfl ?_
        refine z_getQ (pc := 68) (b := 66) dX12_sheet_68 kM36 fr_RX12_102_12 (by decide) rfl ?_
        refine z_iload_n (pc := 71) 1 dX12_sheet_71 rfl rfl ?_
        refine z_iload_n (pc := 72) 3 dX12_sheet_72 rfl rfl ?_
        refine z_iast (pc := 73) dX12_sheet_73 (am_ar.s kM66) (fun h28 => ?_)
        refine z_iconst (pc := 74) (v := (0 : Int32)) dX12_sheet_74 (by decide) ?_
        refine z_istore (pc := 75) (lv' := [(4, .int (0 : Int32)), (0, .ref 36), (1, .int x1), (2, .int x2), (3, .int x3)]) dX12_sheet_75 (by decide) rfl ?_
        refine z_lv (lv' := [(0, .ref 36), (1, .int x1), (2, .int x2), (3, .int x3), (4, .int (0 : Int32))]) [1, 2, 3, 4, 0] rfl ?_
        exact z12_sheet_L77 hd N x1 x2 x3 (0 : Int32) (sF (sF (sF σ 64 x1.toNatClampNeg (1 : Int32)) 65 x1.toNatClampNeg x2) 66 x1.toNatClampNeg x3)
    · refine z_bipush (pc := 42) (v := (-14 : Int32)) dX12_sheet_42 (by decide) ?_
      exact z_rIs dX12_sheet_44 rfl ⟨by decide, by decide⟩
def f12_sheet (N : Nat) (σ : am_S) (x1 : Int32) (x2 : Int32) (x3 : Int32) : Option (Int32 × am_S) := (f12_isSheet x1).bind fun v1 => (if v1 = true then ((f12_in x2.toInt64 (-1 : Int64) (2 : Int64)).bind fun v5 => (if v5 = true then (if x2 < 0 then (f12_sheet_J34 N x1 x2 x3 σ) else (if x3 ≤ (40 : Int32) then (f12_sheet_J34 N x1 x2 x3 σ) else (some ((-2 : Int32), σ)))) else (some ((-2 : Int32), σ)))) else (some ((-2 : Int32), σ)))
theorem c12_sheet {l : Launch} {E : am_E} {N : Nat} {σ : am_S} {x1 : Int32} {x2 : Int32} {x3 : Int32} {v : Int32} {σ1 : am_S} (hf : f12_sheet N σ x1 x2 x3 = some (v, σ1)) : Ctr l E msM YX12_sheet (2) 0 0 [.ref 36, .int x1, .int x2, .int x3] σ (some (.int v)) σ1 := by
  refine ctr_of (G := fun u r s => r = some (.int u.1) ∧ s = u.2) (by decide +kernel) (Nat.le_of_ble_eq_true rfl) hf ⟨rfl, rfl⟩ (fun d hd => ?_)
  refine z_eqlv (lv' := [(0, .ref 36), (1, .int x1), (2, .int x2), (3, .int x3)]) rfl ?_
  unfold f12_sheet
  refine z_iload_n (pc := 0) 1 dX12_sheet_0 rfl rfl ?_
  refine z_callB (pc := 1) [.int x1] [] rfl (lk_S (Yc := YX12_isSheet) (n := 1) dX12_sheet_1 rfl np_X12_isSheet mh_RX12 (by decide) ml_RX12_346 st_X12_isSheet in_RX12 cd_X12_isSheet) (Nat.le_trans (by decide) hd) ⟨by decide, by decide⟩ (Nat.le_of_ble_eq_true rfl) (am_kp.rf _) (fun v1 h3 => c12_isSheet h3) (fun v1 h3 => ?_)
  refine z_bz_eq (pc := 4) (tgt := 31) dX12_sheet_4 (by decide) (fun h4 => ?_) (fun h4 => ?_)
  · refine z_iload_n (pc := 7) 2 dX12_sheet_7 rfl rfl ?_
    refine z_i2l (pc := 8) dX12_sheet_8 ?_
    refine z_ldc2 (pc := 9) (v := (-1 : Int64)) dX12_sheet_9 kl_RX12_233 ?_
    refine z_ldc2 (pc := 12) (v := (2 : Int64)) dX12_sheet_12 kl_RX12_381 ?_
    refine z_callB (pc := 15) [.long x2.toInt64, .long (-1 : Int64), .long (2 : Int64)] [] rfl (lk_S (Yc := YX12_in) (n := 3) dX12_sheet_15 rfl np_X12_in mh_RX12 (by decide) ml_RX12_134 st_X12_in in_RX12 cd_X12_in) (Nat.le_trans (by decide) hd) ⟨by decide, by decide⟩ (Nat.le_of_ble_eq_true rfl) (am_kp.rf _) (fun v5 h7 => c12_in h7) (fun v5 h7 => ?_)
    refine z_bz_eq (pc := 18) (tgt := 31) dX12_sheet_18 (by decide) (fun h8 => ?_) (fun h8 => ?_)
    · refine z_iload_n (pc := 21) 2 dX12_sheet_21 rfl rfl ?_
      refine z_if_lt (pc := 22) (tgt := 34) dX12_sheet_22 (by decide) (fun h9 => ?_) (fun h9 => ?_)
      · refine z_lv (lv' := [(0, .ref 36), (1, .int x1), (2, .int x2), (3, .int x3)]) [0, 1, 2, 3] rfl ?_
        exact z12_sheet_J34 hd x1 x2 x3 σ
      · refine z_iload_n (pc := 25) 3 dX12_sheet_25 rfl rfl ?_
        refine z_bipush (pc := 26) (v := (40 : Int32)) dX12_sheet_26 (by decide) ?_
        refine z_ic_le (pc := 28) (tgt := 34) dX12_sheet_28 (by decide) (fun h29 => ?_) (fun h29 => ?_)
        · refine z_lv (lv' := [(0, .ref 36), (1, .int x1), (2, .int x2), (3, .int x3)]) [0, 1, 2, 3] rfl ?_
          exact z12_sheet_J34 hd x1 x2 x3 σ
        · refine z_bipush (pc := 31) (v := (-2 : Int32)) dX12_sheet_31 (by decide) ?_
          exact z_rIs dX12_sheet_33 rfl ⟨by decide, by decide⟩
    · refine z_bipush (pc := 31) (v := (-2 : Int32)) dX12_sheet_31 (by decide) ?_
      exact z_rIs dX12_sheet_33 rfl ⟨by decide, by decide⟩
  · refine z_bipush (pc := 31) (v := (-2 : Int32)) dX12_sheet_31 (by decide) ?_
    exact z_rIs dX12_sheet_33 rfl ⟨by decide, by decide⟩
def f12_spell_L3 (N : Nat) : Nat → Int32 → Int64 → Int32 → am_S → Option am_S
  | 0, _, _, _, _ => none
  | n + 1, x1, l2, x4, σ => if (8 : Int32) ≤ x4 then (some (σ)) else (if am_in (x1 + x4) 960 = true then (f12_spell_L3 N n x1 l2 (x4 + (1 : Int32)) (sF σ 37 (x1 + x4).toNatClampNeg (((l2 >>> (((56 : Int32) - ((8 : Int32) * x4)).toInt64 &&& 63)) &&& (255 : Int64)).toInt32))) else none)
theorem z12_spell_L3 {l : Launch} {E : am_E} {d : Nat} {σ0 : am_S} {N : Nat} (hd : 0 ≤ d) : ∀ (n : Nat) (x1 : Int32) (l2 : Int64) (x4 : Int32) (σ : am_S), Z l E msM σ0 YX12_spell d 0 0 3 [(0, .ref 36), (1, .int x1), (2, .long l2), (4, .int x4)] [] 0 0 σ (f12_spell_L3 N n x1 l2 x4 σ) (fun u r s => r = none ∧ s = u) := by
  intro n
  induction n with
  | zero => intros; exact z_none
  | succ n ih =>
    intro x1 l2 x4 σ
    unfold f12_spell_L3
    refine z_iload (pc := 3) 3 dX12_spell_3 rfl ?_
    refine z_bipush (pc := 5) (v := (8 : Int32)) dX12_spell_5 (by decide) ?_
    refine z_ic_ge (pc := 7) (tgt := 40) dX12_spell_7 (by decide) (fun h1 => ?_) (fun h1 => ?_)
    · exact z_rVs dX12_spell_40 rfl ⟨by decide, by decide⟩
    · refine z_aload_n (pc := 10) 0 dX12_spell_10 rfl rfl ?_
      refine z_getQ (pc := 11) (b := 37) dX12_spell_11 kM36 fr_RX12_13_12 (by decide) rfl ?_
      refine z_iload_n (pc := 14) 1 dX12_spell_14 rfl rfl ?_
      refine z_iload (pc := 15) 3 dX12_spell_15 rfl ?_
      refine z_iadd (pc := 17) dX12_spell_17 ?_
      refine z_lload_n (pc := 18) 2 dX12_spell_18 rfl rfl ?_
      refine z_bipush (pc := 19) (v := (56 : Int32)) dX12_spell_19 (by decide) ?_
      refine z_bipush (pc := 21) (v := (8 : Int32)) dX12_spell_21 (by decide) ?_
      refine z_iload (pc := 23) 3 dX12_spell_23 rfl ?_
      refine z_imul (pc := 25) dX12_spell_25 ?_
      refine z_isub (pc := 26) dX12_spell_26 ?_
      refine z_lshr (pc := 27) dX12_spell_27 ?_
      refine z_ldc2 (pc := 28) (v := (255 : Int64)) dX12_spell_28 kl_RX12_129 ?_
      refine z_land (pc := 31) dX12_spell_31 ?_
      refine z_l2i (pc := 32) dX12_spell_32 ?_
      refine z_iast (pc := 33) dX12_spell_33 (am_ar.s kM37) (fun h2 => ?_)
      refine z_iinc (pc := 34) (v := x4 + (1 : Int32)) (lv' := [(4, .int (x4 + (1 : Int32))), (0, .ref 36), (1, .int x1), (2, .long l2)]) 3 dX12_spell_34 rfl rfl (by decide) rfl ?_
      refine z_goto (pc := 37) (tgt := 3) dX12_spell_37 (by decide) ?_
      refine z_lv (lv' := [(0, .ref 36), (1, .int x1), (2, .long l2), (4, .int (x4 + (1 : Int32)))]) [1, 2, 3, 0] rfl ?_
      exact ih x1 l2 (x4 + (1 : Int32)) (sF σ 37 (x1 + x4).toNatClampNeg (((l2 >>> (((56 : Int32) - ((8 : Int32) * x4)).toInt64 &&& 63)) &&& (255 : Int64)).toInt32))
def f12_spell (N : Nat) (σ : am_S) (x1 : Int32) (x2 : Int64) : Option am_S := f12_spell_L3 N N x1 x2 (0 : Int32) σ
theorem c12_spell {l : Launch} {E : am_E} {N : Nat} {σ : am_S} {x1 : Int32} {x2 : Int64} {σ1 : am_S} (hf : f12_spell N σ x1 x2 = some σ1) : Ctr l E msM YX12_spell (0) 0 0 [.ref 36, .int x1, .long x2] σ none σ1 := by
  refine ctr_of (G := fun u r s => r = none ∧ s = u) (by decide +kernel) (Nat.le_of_ble_eq_true rfl) hf ⟨rfl, rfl⟩ (fun d hd => ?_)
  refine z_eqlv (lv' := [(0, .ref 36), (1, .int x1), (2, .long x2)]) rfl ?_
  unfold f12_spell
  refine z_iconst (pc := 0) (v := (0 : Int32)) dX12_spell_0 (by decide) ?_
  refine z_istore (pc := 1) (lv' := [(4, .int (0 : Int32)), (0, .ref 36), (1, .int x1), (2, .long x2)]) dX12_spell_1 (by decide) rfl ?_
  refine z_lv (lv' := [(0, .ref 36), (1, .int x1), (2, .long x2), (4, .int (0 : Int32))]) [1, 2, 3, 0] rfl ?_
  exact z12_spell_L3 hd N x1 x2 (0 : Int32) σ
def f12_tail_L8 (N : Nat) : Nat → Int32 → Int32 → Int32 → Int32 → Option Int32
  | 0, _, _, _, _ => none
  | n + 1, x2, x3, x4, x5 => if x5 ≤ 0 then (some (x4)) else (if x5 ≤ x3 then (f12_tail_L8 N n x2 x3 (x4 + (((2 : Int32) * x2) * (0 : Int32))) (0 : Int32)) else (f12_tail_L8 N n x2 x3 (x4 + (((2 : Int32) * x2) * (x5 - x3))) (x5 - x3)))
theorem z12_tail_L8 {l : Launch} {E : am_E} {d : Nat} {σ : am_S} {N : Nat} (hd : 0 ≤ d) : ∀ (n : Nat) (x2 : Int32) (x3 : Int32) (x4 : Int32) (x5 : Int32), Z l E msM σ YX12_tail d 0 0 8 [(2, .int x2), (3, .int x3), (4, .int x4), (5, .int x5)] [] 0 0 σ (f12_tail_L8 N n x2 x3 x4 x5) (fun u r s => r = some (.int u) ∧ s = σ) := by
  intro n
  induction n with
  | zero => intros; exact z_none
  | succ n ih =>
    intro x2 x3 x4 x5
    unfold f12_tail_L8
    refine z_iload (pc := 8) 3 dX12_tail_8 rfl ?_
    refine z_if_le (pc := 10) (tgt := 43) dX12_tail_10 (by decide) (fun h1 => ?_) (fun h1 => ?_)
    · refine z_iload (pc := 43) 2 dX12_tail_43 rfl ?_
      exact z_rI dX12_tail_45 rfl ⟨by decide, by decide⟩
    · refine z_iload (pc := 13) 3 dX12_tail_13 rfl ?_
      refine z_iload_n (pc := 15) 1 dX12_tail_15 rfl rfl ?_
      refine z_ic_le (pc := 16) (tgt := 26) dX12_tail_16 (by decide) (fun h2 => ?_) (fun h2 => ?_)
      · refine z_iconst (pc := 26) (v := (0 : Int32)) dX12_tail_26 (by decide) ?_
        refine z_istore (pc := 27) (lv' := [(5, .int (0 : Int32)), (2, .int x2), (3, .int x3), (4, .int x4)]) dX12_tail_27 (by decide) rfl ?_
        refine z_iload (pc := 29) 3 dX12_tail_29 rfl ?_
        refine z_iconst (pc := 31) (v := (2 : Int32)) dX12_tail_31 (by decide) ?_
        refine z_iload_n (pc := 32) 1 dX12_tail_32 rfl rfl ?_
        refine z_imul (pc := 33) dX12_tail_33 ?_
        refine z_iload (pc := 34) 0 dX12_tail_34 rfl ?_
        refine z_imul (pc := 36) dX12_tail_36 ?_
        refine z_iadd (pc := 37) dX12_tail_37 ?_
        refine z_istore (pc := 38) (lv' := [(4, .int (x4 + (((2 : Int32) * x2) * (0 : Int32)))), (5, .int (0 : Int32)), (2, .int x2), (3, .int x3)]) dX12_tail_38 (by decide) rfl ?_
        refine z_goto (pc := 40) (tgt := 8) dX12_tail_40 (by decide) ?_
        refine z_lv (lv' := [(2, .int x2), (3, .int x3), (4, .int (x4 + (((2 : Int32) * x2) * (0 : Int32)))), (5, .int (0 : Int32))]) [2, 3, 0, 1] rfl ?_
        exact ih x2 x3 (x4 + (((2 : Int32) * x2) * (0 : Int32))) (0 : Int32)
      · refine z_iload (pc := 19) 3 dX12_tail_19 rfl ?_
        refine z_iload_n (pc := 21) 1 dX12_tail_21 rfl rfl ?_
        refine z_isub (pc := 22) dX12_tail_22 ?_
        refine z_goto (pc := 23) (tgt := 27) dX12_tail_23 (by decide) ?_
        refine z_istore (pc := 27) (lv' := [(5, .int (x5 - x3)), (2, .int x2), (3, .int x3), (4, .int x4)]) dX12_tail_27 (by decide) rfl ?_
        refine z_iload (pc := 29) 3 dX12_tail_29 rfl ?_
        refine z_iconst (pc := 31) (v := (2 : Int32)) dX12_tail_31 (by decide) ?_
        refine z_iload_n (pc := 32) 1 dX12_tail_32 rfl rfl ?_
        refine z_imul (pc := 33) dX12_tail_33 ?_
        refine z_iload (pc := 34) 0 dX12_tail_34 rfl ?_
        refine z_imul (pc := 36) dX12_tail_36 ?_
        refine z_iadd (pc := 37) dX12_tail_37 ?_
        refine z_istore (pc := 38) (lv' := [(4, .int (x4 + (((2 : Int32) * x2) * (x5 - x3)))), (5, .int (x5 - x3)), (2, .int x2), (3, .int x3)]) dX12_tail_38 (by decide) rfl ?_
        refine z_goto (pc := 40) (tgt := 8) dX12_tail_40 (by decide) ?_
        refine z_lv (lv' := [(2, .int x2), (3, .int x3), (4, .int (x4 + (((2 : Int32) * x2) * (x5 - x3)))), (5, .int (x5 - x3))]) [2, 3, 0, 1] rfl ?_
        exact ih x2 x3 (x4 + (((2 : Int32) * x2) * (x5 - x3))) (x5 - x3)
def f12_tail (N : Nat) (x0 : Int32) (x1 : Int32) (x2 : Int32) (x3 : Int32) : Option Int32 := f12_tail_L8 N N x2 x3 (x1 * x0) x0
theorem c12_tail {l : Launch} {E : am_E} {N : Nat} {σ : am_S} {x0 : Int32} {x1 : Int32} {x2 : Int32} {x3 : Int32} {v : Int32} (hf : f12_tail N x0 x1 x2 x3 = some v) : Ctr l E msM YX12_tail (0) 0 0 [.int x0, .int x1, .int x2, .int x3] σ (some (.int v)) σ := by
  refine ctr_of (G := fun u r s => r = some (.int u) ∧ s = σ) (by decide +kernel) (Nat.le_of_ble_eq_true rfl) hf ⟨rfl, rfl⟩ (fun d hd => ?_)
  refine z_eqlv (lv' := [(0, .int x0), (1, .int x1), (2, .int x2), (3, .int x3)]) rfl ?_
  unfold f12_tail
  refine z_iload_n (pc := 0) 1 dX12_tail_0 rfl rfl ?_
  refine z_iload_n (pc := 1) 0 dX12_tail_1 rfl rfl ?_
  refine z_imul (pc := 2) dX12_tail_2 ?_
  refine z_istore (pc := 3) (lv' := [(4, .int (x1 * x0)), (0, .int x0), (1, .int x1), (2, .int x2), (3, .int x3)]) dX12_tail_3 (by decide) rfl ?_
  refine z_iload_n (pc := 5) 1 dX12_tail_5 rfl rfl ?_
  refine z_istore (pc := 6) (lv' := [(5, .int x0), (4, .int (x1 * x0)), (0, .int x0), (1, .int x1), (2, .int x2), (3, .int x3)]) dX12_tail_6 (by decide) rfl ?_
  refine z_lv (lv' := [(2, .int x2), (3, .int x3), (4, .int (x1 * x0)), (5, .int x0)]) [4, 5, 1, 0] rfl ?_
  exact z12_tail_L8 hd N x2 x3 (x1 * x0) x0
def f12_taken_J51 (σ : am_S) (N : Nat) (x1 : Int32) (x2 : Int32) (x3 : Int32) : Option Int32 := if x3 = x2 then (if am_in x1 14 = true then (some (fF σ 46 x1.toNatClampNeg)) else none) else (some ((-13 : Int32)))
theorem z12_taken_J51 {l : Launch} {E : am_E} {d : Nat} {N : Nat} {σ : am_S} (hd : 2 ≤ d) (x1 : Int32) (x2 : Int32) (x3 : Int32) : Z l E msM σ YX12_taken d 0 0 51 [(0, .ref 36), (1, .int x1), (2, .int x2), (3, .int x3)] [] 0 0 σ (f12_taken_J51 σ N x1 x2 x3) (fun u r s => r = some (.int u) ∧ s = σ) := by
  unfold f12_taken_J51
  refine z_iload_n (pc := 51) 3 dX12_taken_51 rfl rfl ?_
  refine z_iload_n (pc := 52) 2 dX12_taken_52 rfl rfl ?_
  refine z_ic_ne (pc := 53) (tgt := 65) dX12_taken_53 (by decide) (fun h11 => ?_) (fun h11 => ?_)
  · refine z_aload_n (pc := 56) 0 dX12_taken_56 rfl rfl ?_
    refine z_getQ (pc := 57) (b := 46) dX12_taken_57 kM36 fr_RX12_41_12 (by decide) rfl ?_
    refine z_iload_n (pc := 60) 1 dX12_taken_60 rfl rfl ?_
    refine z_iald (pc := 61) dX12_taken_61 (am_ar.s kM46) (fun h12 => ?_)
    refine z_goto (pc := 62) (tgt := 67) dX12_taken_62 (by decide) ?_
    exact z_rI dX12_taken_67 rfl ⟨by decide, by decide⟩
  · refine z_bipush (pc := 65) (v := (-13 : Int32)) dX12_taken_65 (by decide) ?_
    exact z_rI dX12_taken_67 rfl ⟨by decide, by decide⟩
def f12_taken_L33 (σ : am_S) (N : Nat) : Nat → Int32 → Int32 → Int32 → Option Int32
  | 0, _, _, _ => none
  | n + 1, x1, x2, x3 => if x3 = (-1 : Int32) then (f12_taken_J51 σ N x1 x2 x3) else (if x3 = x2 then (f12_taken_J51 σ N x1 x2 x3) else ((f12_over x3).bind fun v14 => (f12_taken_L33 σ N n x1 x2 v14)))
theorem z12_taken_L33 {l : Launch} {E : am_E} {d : Nat} {N : Nat} {σ : am_S} (hd : 2 ≤ d) : ∀ (n : Nat) (x1 : Int32) (x2 : Int32) (x3 : Int32), Z l E msM σ YX12_taken d 0 0 33 [(0, .ref 36), (1, .int x1), (2, .int x2), (3, .int x3)] [] 0 0 σ (f12_taken_L33 σ N n x1 x2 x3) (fun u r s => r = some (.int u) ∧ s = σ) := by
  intro n
  induction n with
  | zero => intros; exact z_none
  | succ n ih =>
    intro x1 x2 x3
    unfold f12_taken_L33
    refine z_iload_n (pc := 33) 3 dX12_taken_33 rfl rfl ?_
    refine z_iconst (pc := 34) (v := (-1 : Int32)) dX12_taken_34 (by decide) ?_
    refine z_ic_eq (pc := 35) (tgt := 51) dX12_taken_35 (by decide) (fun h10 => ?_) (fun h10 => ?_)
    · refine z_lv (lv' := [(0, .ref 36), (1, .int x1), (2, .int x2), (3, .int x3)]) [0, 1, 2, 3] rfl ?_
      exact z12_taken_J51 hd x1 x2 x3
    · refine z_iload_n (pc := 38) 3 dX12_taken_38 rfl rfl ?_
      refine z_iload_n (pc := 39) 2 dX12_taken_39 rfl rfl ?_
      refine z_ic_eq (pc := 40) (tgt := 51) dX12_taken_40 (by decide) (fun h13 => ?_) (fun h13 => ?_)
      · refine z_lv (lv' := [(0, .ref 36), (1, .int x1), (2, .int x2), (3, .int x3)]) [0, 1, 2, 3] rfl ?_
        exact z12_taken_J51 hd x1 x2 x3
      · refine z_iload_n (pc := 43) 3 dX12_taken_43 rfl rfl ?_
        refine z_callI (pc := 44) [.int x3] [] rfl (lk_S (Yc := YX12_over) (n := 1) dX12_taken_44 rfl np_X12_over mh_RX12 (by decide) ml_RX12_427 st_X12_over in_RX12 cd_X12_over) (Nat.le_trans (by decide) hd) ⟨by decide, by decide⟩ (Nat.le_of_ble_eq_true rfl) (am_kp.rf _) (fun v14 h16 => c12_over h16) (fun v14 h16 => ?_)
        refine z_istore_n (pc := 47) (lv' := [(3, .int v14), (0, .ref 36), (1, .int x1), (2, .int x2)]) dX12_taken_47 rfl (by decide) rfl ?_
        refine z_goto (pc := 48) (tgt := 33) dX12_taken_48 (by decide) ?_
        refine z_lv (lv' := [(0, .ref 36), (1, .int x1), (2, .int x2), (3, .int v14)]) [1, 2, 3, 0] rfl ?_
        exact ih x1 x2 v14
def f12_taken (N : Nat) (σ : am_S) (x1 : Int32) (x2 : Int32) : Option Int32 := (f12_in x2.toInt64 (0 : Int64) (5 : Int64)).bind fun v1 => (if v1 = true then ((f12_isRower σ x1).bind fun v5 => (if v5 = true then (if am_in x1 14 = true then (f12_taken_L33 σ N N x1 x2 (fF σ 44 x1.toNatClampNeg)) else none) else (some ((-11 : Int32))))) else (some ((-2 : Int32))))
theorem c12_taken {l : Launch} {E : am_E} {N : Nat} {σ : am_S} {x1 : Int32} {x2 : Int32} {v : Int32} (hf : f12_taken N σ x1 x2 = some v) : Ctr l E msM YX12_taken (2) 0 0 [.ref 36, .int x1, .int x2] σ (some (.int v)) σ := by
  refine ctr_of (G := fun u r s => r = some (.int u) ∧ s = σ) (by decide +kernel) (Nat.le_of_ble_eq_true rfl) hf ⟨rfl, rfl⟩ (fun d hd => ?_)
  refine z_eqlv (lv' := [(0, .ref 36), (1, .int x1), (2, .int x2)]) rfl ?_
  unfold f12_taken
  refine z_iload_n (pc := 0) 2 dX12_taken_0 rfl rfl ?_
  refine z_i2l (pc := 1) dX12_taken_1 ?_
  refine z_lconst (pc := 2) (v := (0 : Int64)) dX12_taken_2 (by decide) ?_
  refine z_ldc2 (pc := 3) (v := (5 : Int64)) dX12_taken_3 kl_RX12_164 ?_
  refine z_callB (pc := 6) [.long x2.toInt64, .long (0 : Int64), .long (5 : Int64)] [] rfl (lk_S (Yc := YX12_in) (n := 3) dX12_taken_6 rfl np_X12_in mh_RX12 (by decide) ml_RX12_134 st_X12_in in_RX12 cd_X12_in) (Nat.le_trans (by decide) hd) ⟨by decide, by decide⟩ (Nat.le_of_ble_eq_true rfl) (am_kp.rf _) (fun v1 h3 => c12_in h3) (fun v1 h3 => ?_)
  refine z_bz_ne (pc := 9) (tgt := 15) dX12_taken_9 (by decide) (fun h4 => ?_) (fun h4 => ?_)
  · refine z_aload_n (pc := 15) 0 dX12_taken_15 rfl rfl ?_
    refine z_iload_n (pc := 16) 1 dX12_taken_16 rfl rfl ?_
    refine z_callB (pc := 17) [.ref 36, .int x1] [] rfl (lk_V (Yc := YX12_isRower) (n := 1) dX12_taken_17 rfl rfl (am_ob.s kM36) rfl rfl np_X12_isRower mh_RX12 (by decide) ml_RX12_170 im_X12_isRower se_RX12_X12_isRower_X12_isRower in_RX12 cd_X12_isRower) (Nat.le_trans (by decide) hd) ⟨by decide, by decide⟩ (Nat.le_of_ble_eq_true rfl) (am_kp.rf _) (fun v5 h7 => c12_isRower h7) (fun v5 h7 => ?_)
    refine z_bz_ne (pc := 20) (tgt := 26) dX12_taken_20 (by decide) (fun h8 => ?_) (fun h8 => ?_)
    · refine z_aload_n (pc := 26) 0 dX12_taken_26 rfl rfl ?_
      refine z_getQ (pc := 27) (b := 44) dX12_taken_27 kM36 fr_RX12_35_12 (by decide) rfl ?_
      refine z_iload_n (pc := 30) 1 dX12_taken_30 rfl rfl ?_
      refine z_iald (pc := 31) dX12_taken_31 (am_ar.s kM44) (fun h9 => ?_)
      refine z_istore_n (pc := 32) (lv' := [(3, .int (fF σ 44 x1.toNatClampNeg)), (0, .ref 36), (1, .int x1), (2, .int x2)]) dX12_taken_32 rfl (by decide) rfl ?_
      refine z_lv (lv' := [(0, .ref 36), (1, .int x1), (2, .int x2), (3, .int (fF σ 44 x1.toNatClampNeg))]) [1, 2, 3, 0] rfl ?_
      exact z12_taken_L33 hd N x1 x2 (fF σ 44 x1.toNatClampNeg)
    · refine z_bipush (pc := 23) (v := (-11 : Int32)) dX12_taken_23 (by decide) ?_
      exact z_rI dX12_taken_25 rfl ⟨by decide, by decide⟩
  · refine z_bipush (pc := 12) (v := (-2 : Int32)) dX12_taken_12 (by decide) ?_
    exact z_rI dX12_taken_14 rfl ⟨by decide, by decide⟩
def f12_takes (σ : am_S) (x1 : Int32) (x2 : Int32) : Option Int32 := (f12_isCrossing σ x1).bind fun v1 => (if v1 = true then ((f12_areTwo σ x2).bind fun v5 => (if v5 = true then (if x2 / (20 : Int32) = x2 - x2 / (20 : Int32) * (20 : Int32) then (some ((-2 : Int32))) else ((f12_paceOf σ (x2 / (20 : Int32))).bind fun v10 => ((f12_paceOf σ (x2 - x2 / (20 : Int32) * (20 : Int32))).bind fun v13 => (if am_in x1 7 = true then (if v10 + v13 = 0 then none else (some (((((fF σ 40 x1.toNatClampNeg) + ((2 : Int32) * (fF σ 36 13))) + (v10 + v13)) - (1 : Int32)) / (v10 + v13)))) else none)))) else (some ((-2 : Int32))))) else (some ((-2 : Int32))))
theorem c12_takes {l : Launch} {E : am_E} {σ : am_S} {x1 : Int32} {x2 : Int32} {v : Int32} (hf : f12_takes σ x1 x2 = some v) : Ctr l E msM YX12_takes (3) 0 0 [.ref 36, .int x1, .int x2] σ (some (.int v)) σ := by
  refine ctr_of (G := fun u r s => r = some (.int u) ∧ s = σ) (by decide +kernel) (Nat.le_of_ble_eq_true rfl) hf ⟨rfl, rfl⟩ (fun d hd => ?_)
  refine z_eqlv (lv' := [(0, .ref 36), (1, .int x1), (2, .int x2)]) rfl ?_
  unfold f12_takes
  refine z_aload_n (pc := 0) 0 dX12_takes_0 rfl rfl ?_
  refine z_iload_n (pc := 1) 1 dX12_takes_1 rfl rfl ?_
  refine z_callB (pc := 2) [.ref 36, .int x1] [] rfl (lk_V (Yc := YX12_isCrossing) (n := 1) dX12_takes_2 rfl rfl (am_ob.s kM36) rfl rfl np_X12_isCrossing mh_RX12 (by decide) ml_RX12_159 im_X12_isCrossing se_RX12_X12_isCrossing_X12_isCrossing in_RX12 cd_X12_isCrossing) (Nat.le_trans (by decide) hd) ⟨by decide, by decide⟩ (Nat.le_of_ble_eq_true rfl) (am_kp.rf _) (fun v1 h3 => c12_isCrossing h3) (fun v1 h3 => ?_)
  refine z_bz_eq (pc := 5) (tgt := 27) dX12_takes_5 (by decide) (fun h4 => ?_) (fun h4 => ?_)
  · refine z_aload_n (pc := 8) 0 dX12_takes_8 rfl rfl ?_
    refine z_iload_n (pc := 9) 2 dX12_takes_9 rfl rfl ?_
    refine z_callB (pc := 10) [.ref 36, .int x2] [] rfl (lk_V (Yc := YX12_areTwo) (n := 1) dX12_takes_10 rfl rfl (am_ob.s kM36) rfl rfl np_X12_areTwo mh_RX12 (by decide) ml_RX12_339 im_X12_areTwo se_RX12_X12_areTwo_X12_areTwo in_RX12 cd_X12_areTwo) (Nat.le_trans (by decide) hd) ⟨by decide, by decide⟩ (Nat.le_of_ble_eq_true rfl) (am_kp.rf _) (fun v5 h7 => c12_areTwo h7) (fun v5 h7 => ?_)
    refine z_bz_eq (pc := 13) (tgt := 27) dX12_takes_13 (by decide) (fun h8 => ?_) (fun h8 => ?_)
    · refine z_iload_n (pc := 16) 2 dX12_takes_16 rfl rfl ?_
      refine z_bipush (pc := 17) (v := (20 : Int32)) dX12_takes_17 (by decide) ?_
      refine z_idiv (pc := 19) dX12_takes_19 (by decide) ?_
      refine z_iload_n (pc := 20) 2 dX12_takes_20 rfl rfl ?_
      refine z_bipush (pc := 21) (v := (20 : Int32)) dX12_takes_21 (by decide) ?_
      refine z_irem (pc := 23) dX12_takes_23 (by decide) ?_
      refine z_ic_ne (pc := 24) (tgt := 30) dX12_takes_24 (by decide) (fun h9 => ?_) (fun h9 => ?_)
      · refine z_bipush (pc := 27) (v := (-2 : Int32)) dX12_takes_27 (by decide) ?_
        exact z_rI dX12_takes_29 rfl ⟨by decide, by decide⟩
      · refine z_aload_n (pc := 30) 0 dX12_takes_30 rfl rfl ?_
        refine z_iload_n (pc := 31) 2 dX12_takes_31 rfl rfl ?_
        refine z_bipush (pc := 32) (v := (20 : Int32)) dX12_takes_32 (by decide) ?_
        refine z_idiv (pc := 34) dX12_takes_34 (by decide) ?_
        refine z_callI (pc := 35) [.ref 36, .int (x2 / (20 : Int32))] [] rfl (lk_V (Yc := YX12_paceOf) (n := 1) dX12_takes_35 rfl rfl (am_ob.s kM36) rfl rfl np_X12_paceOf mh_RX12 (by decide) ml_RX12_183 im_X12_paceOf se_RX12_X12_paceOf_X12_paceOf in_RX12 cd_X12_paceOf) (Nat.le_trans (by decide) hd) ⟨by decide, by decide⟩ (Nat.le_of_ble_eq_true rfl) (am_kp.rf _) (fun v10 h12 => c12_paceOf h12) (fun v10 h12 => ?_)
        refine z_aload_n (pc := 38) 0 dX12_takes_38 rfl rfl ?_
        refine z_iload_n (pc := 39) 2 dX12_takes_39 rfl rfl ?_
        refine z_bipush (pc := 40) (v := (20 : Int32)) dX12_takes_40 (by decide) ?_
        refine z_irem (pc := 42) dX12_takes_42 (by decide) ?_
        refine z_callI (pc := 43) [.ref 36, .int (x2 - x2 / (20 : Int32) * (20 : Int32))] [.int v10] rfl (lk_V (Yc := YX12_paceOf) (n := 1) dX12_takes_43 rfl rfl (am_ob.s kM36) rfl rfl np_X12_paceOf mh_RX12 (by decide) ml_RX12_183 im_X12_paceOf se_RX12_X12_paceOf_X12_paceOf in_RX12 cd_X12_paceOf) (Nat.le_trans (by decide) hd) ⟨by decide, by decide⟩ (Nat.le_of_ble_eq_true rfl) (am_kp.rf _) (fun v13 h15 => c12_paceOf h15) (fun v13 h15 => ?_)
        refine z_iadd (pc := 46) dX12_takes_46 ?_
        refine z_istore_n (pc := 47) (lv' := [(3, .int (v10 + v13)), (0, .ref 36), (1, .int x1), (2, .int x2)]) dX12_takes_47 rfl (by decide) rfl ?_
        refine z_aload_n (pc := 48) 1 dX12_takes_48 rfl rfl ?_
        refine z_getQ (pc := 49) (b := 40) dX12_takes_49 kM36 fr_RX12_23_12 (by decide) rfl ?_
        refine z_iload_n (pc := 52) 2 dX12_takes_52 rfl rfl ?_
        refine z_iald (pc := 53) dX12_takes_53 (am_ar.s kM40) (fun h16 => ?_)
        refine z_iconst (pc := 54) (v := (2 : Int32)) dX12_takes_54 (by decide) ?_
        refine z_aload_n (pc := 55) 1 dX12_takes_55 rfl rfl ?_
        refine z_getI (pc := 56) dX12_takes_56 (am_ob.s kM36) fr_RX12_156_12 (by decide) ?_
        refine z_imul (pc := 59) dX12_takes_59 ?_
        refine z_iadd (pc := 60) dX12_takes_60 ?_
        refine z_iload_n (pc := 61) 0 dX12_takes_61 rfl rfl ?_
        refine z_iadd (pc := 62) dX12_takes_62 ?_
        refine z_iconst (pc := 63) (v := (1 : Int32)) dX12_takes_63 (by decide) ?_
        refine z_isub (pc := 64) dX12_takes_64 ?_
        refine z_iload_n (pc := 65) 0 dX12_takes_65 rfl rfl ?_
        refine z_ite (fun _ => z_none) (fun h17 => ?_)
        refine z_idiv (pc := 66) dX12_takes_66 h17 ?_
        exact z_rI dX12_takes_67 rfl ⟨by decide, by decide⟩
    · refine z_bipush (pc := 27) (v := (-2 : Int32)) dX12_takes_27 (by decide) ?_
      exact z_rI dX12_takes_29 rfl ⟨by decide, by decide⟩
  · refine z_bipush (pc := 27) (v := (-2 : Int32)) dX12_takes_27 (by decide) ?_
    exact z_rI dX12_takes_29 rfl ⟨by decide, by decide⟩
def f12_text_J49 (N : Nat) (σ : am_S) : Option (Int32 × am_S) := if am_in (fF σ 36 3) 6 = true then ((f12_read N (sF (sF σ 38 (fF σ 36 3).toNatClampNeg (fF σ 36 6)) 36 6 (0 : Int32)) (fF (sF (sF σ 38 (fF σ 36 3).toNatClampNeg (fF σ 36 6)) 36 6 (0 : Int32)) 36 3) (0 : Int32) (0 : Int32) (0 : Int32) (0 : Int32) (0 : Int32)).bind fun (v4, s5) => (if fF s5 36 29 = 0 then (some ((fF (sF s5 36 3 ((fF s5 36 3) + (1 : Int32))) 36 3) - (1 : Int32), sF s5 36 3 ((fF s5 36 3) + (1 : Int32)))) else (some ((-100 : Int32) - (fF s5 36 30), s5)))) else none
theorem z12_text_J49 {l : Launch} {E : am_E} {d : Nat} {σ0 : am_S} {N : Nat} (hd : 106 ≤ d) (σ : am_S) : Z l E msM σ0 YX12_text d 0 0 49 [(0, .ref 36)] [] 0 0 σ (f12_text_J49 N σ) (fun u r s => r = some (.int u.1) ∧ s = u.2) := by
  unfold f12_text_J49
  refine z_aload_n (pc := 49) 0 dX12_text_49 rfl rfl ?_
  refine z_getQ (pc := 50) (b := 38) dX12_text_50 kM36 fr_RX12_17_12 (by decide) rfl ?_
  refine z_aload_n (pc := 53) 0 dX12_text_53 rfl rfl ?_
  refine z_getI (pc := 54) dX12_text_54 (am_ob.s kM36) fr_RX12_126_12 (by decide) ?_
  refine z_aload_n (pc := 57) 0 dX12_text_57 rfl rfl ?_
  refine z_getI (pc := 58) dX12_text_58 (am_ob.s kM36) fr_RX12_200_12 (by decide) ?_
  refine z_iast (pc := 61) dX12_text_61 (am_ar.s kM38) (fun h3 => ?_)
  refine z_aload_n (pc := 62) 0 dX12_text_62 rfl rfl ?_
  refine z_iconst (pc := 63) (v := (0 : Int32)) dX12_text_63 (by decide) ?_
  refine z_putI (pc := 64) dX12_text_64 (am_ob.s kM36) fw_RX12_200_12 (by decide) ?_
  refine z_aload_n (pc := 67) 0 dX12_text_67 rfl rfl ?_
  refine z_aload_n (pc := 68) 0 dX12_text_68 rfl rfl ?_
  refine z_getI (pc := 69) dX12_text_69 (am_ob.s kM36) fr_RX12_126_12 (by decide) ?_
  refine z_iconst (pc := 72) (v := (0 : Int32)) dX12_text_72 (by decide) ?_
  refine z_iconst (pc := 73) (v := (0 : Int32)) dX12_text_73 (by decide) ?_
  refine z_iconst (pc := 74) (v := (0 : Int32)) dX12_text_74 (by decide) ?_
  refine z_iconst (pc := 75) (v := (0 : Int32)) dX12_text_75 (by decide) ?_
  refine z_iconst (pc := 76) (v := (0 : Int32)) dX12_text_76 (by decide) ?_
  refine z_callIs (pc := 77) [.ref 36, .int (fF (sF (sF σ 38 (fF σ 36 3).toNatClampNeg (fF σ 36 6)) 36 6 (0 : Int32)) 36 3), .int (0 : Int32), .int (0 : Int32), .int (0 : Int32), .int (0 : Int32), .int (0 : Int32)] [] rfl (lk_V (Yc := YX12_read) (n := 6) dX12_text_77 rfl rfl (am_ob.s kM36) rfl rfl np_X12_read mh_RX12 (by decide) ml_RX12_335 im_X12_read se_RX12_X12_read_X12_read in_RX12 cd_X12_read) (Nat.le_trans (by decide) hd) ⟨by decide, by decide⟩ (Nat.le_of_ble_eq_true rfl) (am_kp.rf _) (fun v4 s5 h6 => c12_read h6) (fun v4 s5 h6 => ?_)
  refine z_istore_n (pc := 80) (lv' := [(1, .int v4), (0, .ref 36)]) dX12_text_80 rfl (by decide) rfl ?_
  refine z_aload_n (pc := 81) 1 dX12_text_81 rfl rfl ?_
  refine z_getI (pc := 82) dX12_text_82 (am_ob.s kM36) fr_RX12_241_12 (by decide) ?_
  refine z_if_eq (pc := 85) (tgt := 96) dX12_text_85 (by decide) (fun h7 => ?_) (fun h7 => ?_)
  · refine z_aload_n (pc := 96) 1 dX12_text_96 rfl rfl ?_
    refine z_dup (pc := 97) dX12_text_97 rfl ?_
    refine z_getI (pc := 98) dX12_text_98 (am_ob.s kM36) fr_RX12_126_12 (by decide) ?_
    refine z_iconst (pc := 101) (v := (1 : Int32)) dX12_text_101 (by decide) ?_
    refine z_iadd (pc := 102) dX12_text_102 ?_
    refine z_putI (pc := 103) dX12_text_103 (am_ob.s kM36) fw_RX12_126_12 (by decide) ?_
    refine z_aload_n (pc := 106) 1 dX12_text_106 rfl rfl ?_
    refine z_getI (pc := 107) dX12_text_107 (am_ob.s kM36) fr_RX12_126_12 (by decide) ?_
    refine z_iconst (pc := 110) (v := (1 : Int32)) dX12_text_110 (by decide) ?_
    refine z_isub (pc := 111) dX12_text_111 ?_
    exact z_rIs dX12_text_112 rfl ⟨by decide, by decide⟩
  · refine z_bipush (pc := 88) (v := (-100 : Int32)) dX12_text_88 (by decide) ?_
    refine z_aload_n (pc := 90) 1 dX12_text_90 rfl rfl ?_
    refine z_getI (pc := 91) dX12_text_91 (am_ob.s kM36) fr_RX12_245_12 (by decide) ?_
    refine z_isub (pc := 94) dX12_text_94 ?_
    exact z_rIs dX12_text_95 rfl ⟨by decide, by decide⟩
def f12_text_L14 (N : Nat) : Nat → Int32 → am_S → Option (Int32 × am_S)
  | 0, _, _ => none
  | n + 1, x1, σ => if fF σ 36 6 ≤ x1 then (f12_text_J49 N σ) else (if am_in x1 160 = true then (if am_in (((160 : Int32) * (fF σ 36 3)) + x1) 960 = true then (f12_text_L14 N n (x1 + (1 : Int32)) (sF σ 37 (((160 : Int32) * (fF σ 36 3)) + x1).toNatClampNeg (fF σ 39 x1.toNatClampNeg))) else none) else none)
theorem z12_text_L14 {l : Launch} {E : am_E} {d : Nat} {σ0 : am_S} {N : Nat} (hd : 106 ≤ d) : ∀ (n : Nat) (x1 : Int32) (σ : am_S), Z l E msM σ0 YX12_text d 0 0 14 [(0, .ref 36), (1, .int x1)] [] 0 0 σ (f12_text_L14 N n x1 σ) (fun u r s => r = some (.int u.1) ∧ s = u.2) := by
  intro n
  induction n with
  | zero => intros; exact z_none
  | succ n ih =>
    intro x1 σ
    unfold f12_text_L14
    refine z_iload_n (pc := 14) 1 dX12_text_14 rfl rfl ?_
    refine z_aload_n (pc := 15) 0 dX12_text_15 rfl rfl ?_
    refine z_getI (pc := 16) dX12_text_16 (am_ob.s kM36) fr_RX12_200_12 (by decide) ?_
    refine z_ic_ge (pc := 19) (tgt := 49) dX12_text_19 (by decide) (fun h2 => ?_) (fun h2 => ?_)
    · refine z_lv (lv' := [(0, .ref 36)]) [0] rfl ?_
      exact z12_text_J49 hd σ
    · refine z_aload_n (pc := 22) 0 dX12_text_22 rfl rfl ?_
      refine z_getQ (pc := 23) (b := 37) dX12_text_23 kM36 fr_RX12_13_12 (by decide) rfl ?_
      refine z_sipush (pc := 26) (v := (160 : Int32)) dX12_text_26 (by decide) ?_
      refine z_aload_n (pc := 29) 0 dX12_text_29 rfl rfl ?_
      refine z_getI (pc := 30) dX12_text_30 (am_ob.s kM36) fr_RX12_126_12 (by decide) ?_
      refine z_imul (pc := 33) dX12_text_33 ?_
      refine z_iload_n (pc := 34) 1 dX12_text_34 rfl rfl ?_
      refine z_iadd (pc := 35) dX12_text_35 ?_
      refine z_aload_n (pc := 36) 0 dX12_text_36 rfl rfl ?_
      refine z_getQ (pc := 37) (b := 39) dX12_text_37 kM36 fr_RX12_20_12 (by decide) rfl ?_
      refine z_iload_n (pc := 40) 1 dX12_text_40 rfl rfl ?_
      refine z_iald (pc := 41) dX12_text_41 (am_ar.s kM39) (fun h8 => ?_)
      refine z_iast (pc := 42) dX12_text_42 (am_ar.s kM37) (fun h9 => ?_)
      refine z_iinc (pc := 43) (v := x1 + (1 : Int32)) (lv' := [(1, .int (x1 + (1 : Int32))), (0, .ref 36)]) 1 dX12_text_43 rfl rfl (by decide) rfl ?_
      refine z_goto (pc := 46) (tgt := 14) dX12_text_46 (by decide) ?_
      refine z_lv (lv' := [(0, .ref 36), (1, .int (x1 + (1 : Int32)))]) [1, 0] rfl ?_
      exact ih (x1 + (1 : Int32)) (sF σ 37 (((160 : Int32) * (fF σ 36 3)) + x1).toNatClampNeg (fF σ 39 x1.toNatClampNeg))
def f12_text (N : Nat) (σ : am_S) : Option (Int32 × am_S) := if fF σ 36 3 = (6 : Int32) then (some ((-4 : Int32), σ)) else (f12_text_L14 N N (0 : Int32) σ)
theorem c12_text {l : Launch} {E : am_E} {N : Nat} {σ : am_S} {v : Int32} {σ1 : am_S} (hf : f12_text N σ = some (v, σ1)) : Ctr l E msM YX12_text (106) 0 0 [.ref 36] σ (some (.int v)) σ1 := by
  refine ctr_of (G := fun u r s => r = some (.int u.1) ∧ s = u.2) (by decide +kernel) (Nat.le_of_ble_eq_true rfl) hf ⟨rfl, rfl⟩ (fun d hd => ?_)
  refine z_eqlv (lv' := [(0, .ref 36)]) rfl ?_
  unfold f12_text
  refine z_aload_n (pc := 0) 0 dX12_text_0 rfl rfl ?_
  refine z_getI (pc := 1) dX12_text_1 (am_ob.s kM36) fr_RX12_126_12 (by decide) ?_
  refine z_bipush (pc := 4) (v := (6 : Int32)) dX12_text_4 (by decide) ?_
  refine z_ic_ne (pc := 6) (tgt := 12) dX12_text_6 (by decide) (fun h1 => ?_) (fun h1 => ?_)
  · refine z_bipush (pc := 9) (v := (-4 : Int32)) dX12_text_9 (by decide) ?_
    exact z_rIs dX12_text_11 rfl ⟨by decide, by decide⟩
  · refine z_iconst (pc := 12) (v := (0 : Int32)) dX12_text_12 (by decide) ?_
    refine z_istore_n (pc := 13) (lv' := [(1, .int (0 : Int32)), (0, .ref 36)]) dX12_text_13 rfl (by decide) rfl ?_
    refine z_lv (lv' := [(0, .ref 36), (1, .int (0 : Int32))]) [1, 0] rfl ?_
    exact z12_text_L14 hd N (0 : Int32) σ
def f12_told (N : Nat) (σ : am_S) (x1 : Int32) (x2 : Int32) (x3 : Int32) : Option (Int32 × am_S) := (f12_isRower σ x1).bind fun v1 => (if v1 = true then ((f12_isHour x2).bind fun v5 => (if v5 = true then (if x3 = (0 : Int32) then (if am_in x1 14 = true then (some (fF σ 44 x1.toNatClampNeg, σ)) else none) else (if x3 = (1 : Int32) then (if am_in x1 14 = true then (some (fF σ 45 x1.toNatClampNeg, σ)) else none) else (if x3 = (2 : Int32) then (if am_in x1 14 = true then (some (fF σ 46 x1.toNatClampNeg, σ)) else none) else (if x3 = (3 : Int32) then (if am_in x1 14 = true then (some (fF σ 47 x1.toNatClampNeg, σ)) else none) else (if x3 = (4 : Int32) then (if am_in x1 14 = true then (some (fF σ 48 x1.toNatClampNeg, σ)) else none) else (if x3 = (5 : Int32) then (if am_in x1 14 = true then (some (fF σ 49 x1.toNatClampNeg, σ)) else none) else (if x3 = (6 : Int32) then (if am_in x1 14 = true then (some (fF σ 50 x1.toNatClampNeg, σ)) else none) else (if x3 = (7 : Int32) then ((f12_paceOf σ x1).bind fun v24 => (some (v24, σ))) else (if x3 = (8 : Int32) then ((f12_may σ x1 x2).bind fun v28 => (if v28 = true then (some ((1 : Int32), σ)) else (some ((0 : Int32), σ)))) else (if x3 = (9 : Int32) then ((f12_partsOf σ x1).bind fun v33 => (some (v33, σ))) else (if x3 = (10 : Int32) then ((f12_dueOf N σ x1 x2).bind fun (v37, s38) => (some (v37, s38))) else (some ((-1000000 : Int32), σ))))))))))))) else (some ((-1000000 : Int32), σ)))) else (some ((-1000000 : Int32), σ)))
theorem c12_told {l : Launch} {E : am_E} {N : Nat} {σ : am_S} {x1 : Int32} {x2 : Int32} {x3 : Int32} {v : Int32} {σ1 : am_S} (hf : f12_told N σ x1 x2 x3 = some (v, σ1)) : Ctr l E msM YX12_told (107) 0 0 [.ref 36, .int x1, .int x2, .int x3] σ (some (.int v)) σ1 := by
  refine ctr_of (G := fun u r s => r = some (.int u.1) ∧ s = u.2) (by decide +kernel) (Nat.le_of_ble_eq_true rfl) hf ⟨rfl, rfl⟩ (fun d hd => ?_)
  refine z_eqlv (lv' := [(0, .ref 36), (1, .int x1), (2, .int x2), (3, .int x3)]) rfl ?_
  unfold f12_told
  refine z_aload_n (pc := 0) 0 dX12_told_0 rfl rfl ?_
  refine z_iload_n (pc := 1) 1 dX12_told_1 rfl rfl ?_
  refine z_callB (pc := 2) [.ref 36, .int x1] [] rfl (lk_V (Yc := YX12_isRower) (n := 1) dX12_told_2 rfl rfl (am_ob.s kM36) rfl rfl np_X12_isRower mh_RX12 (by decide) ml_RX12_170 im_X12_isRower se_RX12_X12_isRower_X12_isRower in_RX12 cd_X12_isRower) (Nat.le_trans (by decide) hd) ⟨by decide, by decide⟩ (Nat.le_of_ble_eq_true rfl) (am_kp.rf _) (fun v1 h3 => c12_isRower h3) (fun v1 h3 => ?_)
  refine z_bz_eq (pc := 5) (tgt := 15) dX12_told_5 (by decide) (fun h4 => ?_) (fun h4 => ?_)
  · refine z_iload_n (pc := 8) 2 dX12_told_8 rfl rfl ?_
    refine z_callB (pc := 9) [.int x2] [] rfl (lk_S (Yc := YX12_isHour) (n := 1) dX12_told_9 rfl np_X12_isHour mh_RX12 (by decide) ml_RX12_179 st_X12_isHour in_RX12 cd_X12_isHour) (Nat.le_trans (by decide) hd) ⟨by decide, by decide⟩ (Nat.le_of_ble_eq_true rfl) (am_kp.rf _) (fun v5 h7 => c12_isHour h7) (fun v5 h7 => ?_)
    refine z_bz_ne (pc := 12) (tgt := 18) dX12_told_12 (by decide) (fun h8 => ?_) (fun h8 => ?_)
    · refine z_iload_n (pc := 18) 3 dX12_told_18 rfl rfl ?_
      refine z_ite (fun h9 => ?_) (fun h9 => ?_)
      · refine z_tsEq (pc := 19) (0) (off := 57) (tgt := 76) dX12_told_19 h9 (by decide) (by decide) (by decide) (by decide) ?_
        refine z_aload_n (pc := 76) 0 dX12_told_76 rfl rfl ?_
        refine z_getQ (pc := 77) (b := 44) dX12_told_77 kM36 fr_RX12_35_12 (by decide) rfl ?_
        refine z_iload_n (pc := 80) 1 dX12_told_80 rfl rfl ?_
        refine z_iald (pc := 81) dX12_told_81 (am_ar.s kM44) (fun h10 => ?_)
        exact z_rIs dX12_told_82 rfl ⟨by decide, by decide⟩
      · refine z_ite (fun h11 => ?_) (fun h11 => ?_)
        · refine z_tsEq (pc := 19) (1) (off := 64) (tgt := 83) dX12_told_19 h11 (by decide) (by decide) (by decide) (by decide) ?_
          refine z_aload_n (pc := 83) 0 dX12_told_83 rfl rfl ?_
          refine z_getQ (pc := 84) (b := 45) dX12_told_84 kM36 fr_RX12_38_12 (by decide) rfl ?_
          refine z_iload_n (pc := 87) 1 dX12_told_87 rfl rfl ?_
          refine z_iald (pc := 88) dX12_told_88 (am_ar.s kM45) (fun h12 => ?_)
          exact z_rIs dX12_told_89 rfl ⟨by decide, by decide⟩
        · refine z_ite (fun h13 => ?_) (fun h13 => ?_)
          · refine z_tsEq (pc := 19) (2) (off := 71) (tgt := 90) dX12_told_19 h13 (by decide) (by decide) (by decide) (by decide) ?_
            refine z_aload_n (pc := 90) 0 dX12_told_90 rfl rfl ?_
            refine z_getQ (pc := 91) (b := 46) dX12_told_91 kM36 fr_RX12_41_12 (by decide) rfl ?_
            refine z_iload_n (pc := 94) 1 dX12_told_94 rfl rfl ?_
            refine z_iald (pc := 95) dX12_told_95 (am_ar.s kM46) (fun h14 => ?_)
            exact z_rIs dX12_told_96 rfl ⟨by decide, by decide⟩
          · refine z_ite (fun h15 => ?_) (fun h15 => ?_)
            · refine z_tsEq (pc := 19) (3) (off := 78) (tgt := 97) dX12_told_19 h15 (by decide) (by decide) (by decide) (by decide) ?_
              refine z_aload_n (pc := 97) 0 dX12_told_97 rfl rfl ?_
              refine z_getQ (pc := 98) (b := 47) dX12_told_98 kM36 fr_RX12_44_12 (by decide) rfl ?_
              refine z_iload_n (pc := 101) 1 dX12_told_101 rfl rfl ?_
              refine z_iald (pc := 102) dX12_told_102 (am_ar.s kM47) (fun h16 => ?_)
              exact z_rIs dX12_told_103 rfl ⟨by decide, by decide⟩
            · refine z_ite (fun h17 => ?_) (fun h17 => ?_)
              · refine z_tsEq (pc := 19) (4) (off := 85) (tgt := 104) dX12_told_19 h17 (by decide) (by decide) (by decide) (by decide) ?_
                refine z_aload_n (pc := 104) 0 dX12_told_104 rfl rfl ?_
                refine z_getQ (pc := 105) (b := 48) dX12_told_105 kM36 fr_RX12_47_12 (by decide) rfl ?_
                refine z_iload_n (pc := 108) 1 dX12_told_108 rfl rfl ?_
                refine z_iald (pc := 109) dX12_told_109 (am_ar.s kM48) (fun h18 => ?_)
                exact z_rIs dX12_told_110 rfl ⟨by decide, by decide⟩
              · refine z_ite (fun h19 => ?_) (fun h19 => ?_)
                · refine z_tsEq (pc := 19) (5) (off := 92) (tgt := 111) dX12_told_19 h19 (by decide) (by decide) (by decide) (by decide) ?_
                  refine z_aload_n (pc := 111) 0 dX12_told_111 rfl rfl ?_
                  refine z_getQ (pc := 112) (b := 49) dX12_told_112 kM36 fr_RX12_50_12 (by decide) rfl ?_
                  refine z_iload_n (pc := 115) 1 dX12_told_115 rfl rfl ?_
                  refine z_iald (pc := 116) dX12_told_116 (am_ar.s kM49) (fun h20 => ?_)
                  exact z_rIs dX12_told_117 rfl ⟨by decide, by decide⟩
                · refine z_ite (fun h21 => ?_) (fun h21 => ?_)
                  · refine z_tsEq (pc := 19) (6) (off := 99) (tgt := 118) dX12_told_19 h21 (by decide) (by decide) (by decide) (by decide) ?_
                    refine z_aload_n (pc := 118) 0 dX12_told_118 rfl rfl ?_
                    refine z_getQ (pc := 119) (b := 50) dX12_told_119 kM36 fr_RX12_53_12 (by decide) rfl ?_
                    refine z_iload_n (pc := 122) 1 dX12_told_122 rfl rfl ?_
                    refine z_iald (pc := 123) dX12_told_123 (am_ar.s kM50) (fun h22 => ?_)
                    exact z_rIs dX12_told_124 rfl ⟨by decide, by decide⟩
                  · refine z_ite (fun h23 => ?_) (fun h23 => ?_)
                    · refine z_tsEq (pc := 19) (7) (off := 106) (tgt := 125) dX12_told_19 h23 (by decide) (by decide) (by decide) (by decide) ?_
                      refine z_aload_n (pc := 125) 0 dX12_told_125 rfl rfl ?_
                      refine z_iload_n (pc := 126) 1 dX12_told_126 rfl rfl ?_
                      refine z_callI (pc := 127) [.ref 36, .int x1] [] rfl (lk_V (Yc := YX12_paceOf) (n := 1) dX12_told_127 rfl rfl (am_ob.s kM36) rfl rfl np_X12_paceOf mh_RX12 (by decide) ml_RX12_183 im_X12_paceOf se_RX12_X12_paceOf_X12_paceOf in_RX12 cd_X12_paceOf) (Nat.le_trans (by decide) hd) ⟨by decide, by decide⟩ (Nat.le_of_ble_eq_true rfl) (am_kp.rf _) (fun v24 h26 => c12_paceOf h26) (fun v24 h26 => ?_)
                      exact z_rIs dX12_told_130 rfl ⟨by decide, by decide⟩
                    · refine z_ite (fun h27 => ?_) (fun h27 => ?_)
                      · refine z_tsEq (pc := 19) (8) (off := 112) (tgt := 131) dX12_told_19 h27 (by decide) (by decide) (by decide) (by decide) ?_
                        refine z_aload_n (pc := 131) 0 dX12_told_131 rfl rfl ?_
                        refine z_iload_n (pc := 132) 1 dX12_told_132 rfl rfl ?_
                        refine z_iload_n (pc := 133) 2 dX12_told_133 rfl rfl ?_
                        refine z_callB (pc := 134) [.ref 36, .int x1, .int x2] [] rfl (lk_V (Yc := YX12_may) (n := 2) dX12_told_134 rfl rfl (am_ob.s kM36) rfl rfl np_X12_may mh_RX12 (by decide) ml_RX12_187 im_X12_may se_RX12_X12_may_X12_may in_RX12 cd_X12_may) (Nat.le_trans (by decide) hd) ⟨by decide, by decide⟩ (Nat.le_of_ble_eq_true rfl) (am_kp.rf _) (fun v28 h30 => c12_may h30) (fun v28 h30 => ?_)
                        refine z_bz_eq (pc := 137) (tgt := 144) dX12_told_137 (by decide) (fun h31 => ?_) (fun h31 => ?_)
                        · refine z_iconst (pc := 140) (v := (1 : Int32)) dX12_told_140 (by decide) ?_
                          refine z_goto (pc := 141) (tgt := 145) dX12_told_141 (by decide) ?_
                          exact z_rIs dX12_told_145 rfl ⟨by decide, by decide⟩
                        · refine z_iconst (pc := 144) (v := (0 : Int32)) dX12_told_144 (by decide) ?_
                          exact z_rIs dX12_told_145 rfl ⟨by decide, by decide⟩
                      · refine z_ite (fun h32 => ?_) (fun h32 => ?_)
                        · refine z_tsEq (pc := 19) (9) (off := 127) (tgt := 146) dX12_told_19 h32 (by decide) (by decide) (by decide) (by decide) ?_
                          refine z_aload_n (pc := 146) 0 dX12_told_146 rfl rfl ?_
                          refine z_iload_n (pc := 147) 1 dX12_told_147 rfl rfl ?_
                          refine z_callI (pc := 148) [.ref 36, .int x1] [] rfl (lk_V (Yc := YX12_partsOf) (n := 1) dX12_told_148 rfl rfl (am_ob.s kM36) rfl rfl np_X12_partsOf mh_RX12 (by decide) ml_RX12_191 im_X12_partsOf se_RX12_X12_partsOf_X12_partsOf in_RX12 cd_X12_partsOf) (Nat.le_trans (by decide) hd) ⟨by decide, by decide⟩ (Nat.le_of_ble_eq_true rfl) (am_kp.rf _) (fun v33 h35 => c12_partsOf h35) (fun v33 h35 => ?_)
                          exact z_rIs dX12_told_151 rfl ⟨by decide, by decide⟩
                        · refine z_ite (fun h36 => ?_) (fun h36 => ?_)
                          · refine z_tsEq (pc := 19) (10) (off := 133) (tgt := 152) dX12_told_19 h36 (by decide) (by decide) (by decide) (by decide) ?_
                            refine z_aload_n (pc := 152) 0 dX12_told_152 rfl rfl ?_
                            refine z_iload_n (pc := 153) 1 dX12_told_153 rfl rfl ?_
                            refine z_iload_n (pc := 154) 2 dX12_told_154 rfl rfl ?_
                            refine z_callIs (pc := 155) [.ref 36, .int x1, .int x2] [] rfl (lk_V (Yc := YX12_dueOf) (n := 2) dX12_told_155 rfl rfl (am_ob.s kM36) rfl rfl np_X12_dueOf mh_RX12 (by decide) ml_RX12_194 im_X12_dueOf se_RX12_X12_dueOf_X12_dueOf in_RX12 cd_X12_dueOf) (Nat.le_trans (by decide) hd) ⟨by decide, by decide⟩ (Nat.le_of_ble_eq_true rfl) (am_kp.rf _) (fun v37 s38 h39 => c12_dueOf h39) (fun v37 s38 h39 => ?_)
                            exact z_rIs dX12_told_158 rfl ⟨by decide, by decide⟩
                          · refine z_tsNe (pc := 19) (tgt := 159) [0, 1, 2, 3, 4, 5, 6, 7, 8, 9, 10] 11 dX12_told_19 (by decide) (by decide) (List.forall_mem_cons.mpr ⟨h9, List.forall_mem_cons.mpr ⟨h11, List.forall_mem_cons.mpr ⟨h13, List.forall_mem_cons.mpr ⟨h15, List.forall_mem_cons.mpr ⟨h17, List.forall_mem_cons.mpr ⟨h19, List.forall_mem_cons.mpr ⟨h21, List.forall_mem_cons.mpr ⟨h23, List.forall_mem_cons.mpr ⟨h27, List.forall_mem_cons.mpr ⟨h32, List.forall_mem_cons.mpr ⟨h36, List.forall_mem_nil _⟩⟩⟩⟩⟩⟩⟩⟩⟩⟩⟩) (by decide) ?_
                            refine z_ldc (pc := 159) (v := (-1000000 : Int32)) dX12_told_159 ki_RX12_182 ?_
                            exact z_rIs dX12_told_161 rfl ⟨by decide, by decide⟩
    · refine z_ldc (pc := 15) (v := (-1000000 : Int32)) dX12_told_15 ki_RX12_182 ?_
      exact z_rIs dX12_told_17 rfl ⟨by decide, by decide⟩
  · refine z_ldc (pc := 15) (v := (-1000000 : Int32)) dX12_told_15 ki_RX12_182 ?_
    exact z_rIs dX12_told_17 rfl ⟨by decide, by decide⟩
def f12_turn (N : Nat) (σ : am_S) (x1 : Int32) (x2 : Int32) : Option (Int32 × am_S) := (f12_isCrossing σ x1).bind fun v1 => (if v1 = true then ((f12_isHour x2).bind fun v5 => (if v5 = true then ((f12_turnOf N σ x1 x2).bind fun (v9, s10) => (some (v9, s10))) else (some ((-2 : Int32), σ)))) else (some ((-2 : Int32), σ)))
theorem c12_turn {l : Launch} {E : am_E} {N : Nat} {σ : am_S} {x1 : Int32} {x2 : Int32} {v : Int32} {σ1 : am_S} (hf : f12_turn N σ x1 x2 = some (v, σ1)) : Ctr l E msM YX12_turn (109) 0 0 [.ref 36, .int x1, .int x2] σ (some (.int v)) σ1 := by
  refine ctr_of (G := fun u r s => r = some (.int u.1) ∧ s = u.2) (by decide +kernel) (Nat.le_of_ble_eq_true rfl) hf ⟨rfl, rfl⟩ (fun d hd => ?_)
  refine z_eqlv (lv' := [(0, .ref 36), (1, .int x1), (2, .int x2)]) rfl ?_
  unfold f12_turn
  refine z_aload_n (pc := 0) 0 dX12_turn_0 rfl rfl ?_
  refine z_iload_n (pc := 1) 1 dX12_turn_1 rfl rfl ?_
  refine z_callB (pc := 2) [.ref 36, .int x1] [] rfl (lk_V (Yc := YX12_isCrossing) (n := 1) dX12_turn_2 rfl rfl (am_ob.s kM36) rfl rfl np_X12_isCrossing mh_RX12 (by decide) ml_RX12_159 im_X12_isCrossing se_RX12_X12_isCrossing_X12_isCrossing in_RX12 cd_X12_isCrossing) (Nat.le_trans (by decide) hd) ⟨by decide, by decide⟩ (Nat.le_of_ble_eq_true rfl) (am_kp.rf _) (fun v1 h3 => c12_isCrossing h3) (fun v1 h3 => ?_)
  refine z_bz_eq (pc := 5) (tgt := 24) dX12_turn_5 (by decide) (fun h4 => ?_) (fun h4 => ?_)
  · refine z_iload_n (pc := 8) 2 dX12_turn_8 rfl rfl ?_
    refine z_callB (pc := 9) [.int x2] [] rfl (lk_S (Yc := YX12_isHour) (n := 1) dX12_turn_9 rfl np_X12_isHour mh_RX12 (by decide) ml_RX12_179 st_X12_isHour in_RX12 cd_X12_isHour) (Nat.le_trans (by decide) hd) ⟨by decide, by decide⟩ (Nat.le_of_ble_eq_true rfl) (am_kp.rf _) (fun v5 h7 => c12_isHour h7) (fun v5 h7 => ?_)
    refine z_bz_eq (pc := 12) (tgt := 24) dX12_turn_12 (by decide) (fun h8 => ?_) (fun h8 => ?_)
    · refine z_aload_n (pc := 15) 0 dX12_turn_15 rfl rfl ?_
      refine z_iload_n (pc := 16) 1 dX12_turn_16 rfl rfl ?_
      refine z_iload_n (pc := 17) 2 dX12_turn_17 rfl rfl ?_
      refine z_callIs (pc := 18) [.ref 36, .int x1, .int x2] [] rfl (lk_V (Yc := YX12_turnOf) (n := 2) dX12_turn_18 rfl rfl (am_ob.s kM36) rfl rfl np_X12_turnOf mh_RX12 (by decide) ml_RX12_366 im_X12_turnOf se_RX12_X12_turnOf_X12_turnOf in_RX12 cd_X12_turnOf) (Nat.le_trans (by decide) hd) ⟨by decide, by decide⟩ (Nat.le_of_ble_eq_true rfl) (am_kp.rf _) (fun v9 s10 h11 => c12_turnOf h11) (fun v9 s10 h11 => ?_)
      refine z_goto (pc := 21) (tgt := 26) dX12_turn_21 (by decide) ?_
      exact z_rIs dX12_turn_26 rfl ⟨by decide, by decide⟩
    · refine z_bipush (pc := 24) (v := (-2 : Int32)) dX12_turn_24 (by decide) ?_
      exact z_rIs dX12_turn_26 rfl ⟨by decide, by decide⟩
  · refine z_bipush (pc := 24) (v := (-2 : Int32)) dX12_turn_24 (by decide) ?_
    exact z_rIs dX12_turn_26 rfl ⟨by decide, by decide⟩
def f12_waits_J345 (N : Nat) (x4 : Int32) (σ : am_S) : Option (Int32 × am_S) := if x4 = 0 then (if am_in (0 : Int32) 8658 = true then (some (fF σ 52 (0 : Int32).toNatClampNeg, σ)) else none) else (if am_in (0 : Int32) 8658 = true then (some (fF σ 54 (0 : Int32).toNatClampNeg, σ)) else none)
theorem z12_waits_J345 {l : Launch} {E : am_E} {d : Nat} {σ0 : am_S} {N : Nat} (hd : 2 ≤ d) (x4 : Int32) (σ : am_S) : Z l E msM σ0 YX12_waits d 0 0 345 [(0, .ref 36), (4, .int x4)] [] 0 0 σ (f12_waits_J345 N x4 σ) (fun u r s => r = some (.int u.1) ∧ s = u.2) := by
  unfold f12_waits_J345
  refine z_iload (pc := 345) 1 dX12_waits_345 rfl ?_
  refine z_if_ne (pc := 347) (tgt := 359) dX12_waits_347 (by decide) (fun h27 => ?_) (fun h27 => ?_)
  · refine z_aload_n (pc := 350) 0 dX12_waits_350 rfl rfl ?_
    refine z_getQ (pc := 351) (b := 52) dX12_waits_351 kM36 fr_RX12_59_12 (by decide) rfl ?_
    refine z_iconst (pc := 354) (v := (0 : Int32)) dX12_waits_354 (by decide) ?_
    refine z_iald (pc := 355) dX12_waits_355 (am_ar.s kM52) (fun h28 => ?_)
    refine z_goto (pc := 356) (tgt := 365) dX12_waits_356 (by decide) ?_
    exact z_rIs dX12_waits_365 rfl ⟨by decide, by decide⟩
  · refine z_aload_n (pc := 359) 0 dX12_waits_359 rfl rfl ?_
    refine z_getQ (pc := 360) (b := 54) dX12_waits_360 kM36 fr_RX12_65_12 (by decide) rfl ?_
    refine z_iconst (pc := 363) (v := (0 : Int32)) dX12_waits_363 (by decide) ?_
    refine z_iald (pc := 364) dX12_waits_364 (am_ar.s kM54) (fun h29 => ?_)
    exact z_rIs dX12_waits_365 rfl ⟨by decide, by decide⟩
def f12_waits_J339 (k205 : Int32 → Int32 → Int32 → Int32 → Int32 → Int32 → Int32 → am_S → Option (Int32 × am_S)) (N : Nat) (x1 : Int32) (x2 : Int32) (x3 : Int32) (x4 : Int32) (x5 : Int32) (x6 : Int32) (x7 : Int32) (σ : am_S) : Option (Int32 × am_S) := k205 x1 x2 x3 x4 x5 x6 (x7 + (-1 : Int32)) σ
theorem z12_waits_J339 {l : Launch} {E : am_E} {d : Nat} {σ0 : am_S} {N : Nat} (hd : 2 ≤ d) {k205 : Int32 → Int32 → Int32 → Int32 → Int32 → Int32 → Int32 → am_S → Option (Int32 × am_S)} (hk205 : ∀ (x1 : Int32) (x2 : Int32) (x3 : Int32) (x4 : Int32) (x5 : Int32) (x6 : Int32) (x7 : Int32) (σ : am_S), Z l E msM σ0 YX12_waits d 0 0 205 [(0, .ref 36), (1, .int x1), (2, .int x2), (3, .int x3), (4, .int x4), (5, .int x5), (6, .int x6), (7, .int x7)] [] 0 0 σ (k205 x1 x2 x3 x4 x5 x6 x7 σ) (fun u r s => r = some (.int u.1) ∧ s = u.2)) (x1 : Int32) (x2 : Int32) (x3 : Int32) (x4 : Int32) (x5 : Int32) (x6 : Int32) (x7 : Int32) (σ : am_S) : Z l E msM σ0 YX12_waits d 0 0 339 [(0, .ref 36), (1, .int x1), (2, .int x2), (3, .int x3), (4, .int x4), (5, .int x5), (6, .int x6), (7, .int x7)] [] 0 0 σ (f12_waits_J339 k205 N x1 x2 x3 x4 x5 x6 x7 σ) (fun u r s => r = some (.int u.1) ∧ s = u.2) := by
  unfold f12_waits_J339
  refine z_iinc (pc := 339) (v := x7 + (-1 : Int32)) (lv' := [(7, .int (x7 + (-1 : Int32))), (0, .ref 36), (1, .int x1), (2, .int x2), (3, .int x3), (4, .int x4), (5, .int x5), (6, .int x6)]) 7 dX12_waits_339 rfl rfl (by decide) rfl ?_
  refine z_goto (pc := 342) (tgt := 205) dX12_waits_342 (by decide) ?_
  refine z_lv (lv' := [(0, .ref 36), (1, .int x1), (2, .int x2), (3, .int x3), (4, .int x4), (5, .int x5), (6, .int x6), (7, .int (x7 + (-1 : Int32)))]) [1, 2, 3, 4, 5, 6, 7, 0] rfl ?_
  exact hk205 x1 x2 x3 x4 x5 x6 (x7 + (-1 : Int32)) σ
def f12_waits_L294 (k205 : Int32 → Int32 → Int32 → Int32 → Int32 → Int32 → Int32 → am_S → Option (Int32 × am_S)) (N : Nat) : Nat → Int32 → Int32 → Int32 → Int32 → Int32 → Int32 → Int32 → Int32 → am_S → Option (Int32 × am_S)
  | 0, _, _, _, _, _, _, _, _, _ => none
  | n + 1, x1, x2, x3, x4, x5, x6, x7, x9, σ => if (481 : Int32) * x6 ≤ x9 then (f12_waits_J339 k205 N x1 x2 x3 x4 x5 x6 x7 σ) else (if am_in x9 8658 = true then (if am_in x9 8658 = true then (if am_in x9 8658 = true then (if am_in x9 8658 = true then (f12_waits_L294 k205 N n x1 x2 x3 x4 x5 x6 x7 (x9 + (1 : Int32)) (sF (sF σ 52 x9.toNatClampNeg (fF σ 51 x9.toNatClampNeg)) 54 x9.toNatClampNeg (fF (sF σ 52 x9.toNatClampNeg (fF σ 51 x9.toNatClampNeg)) 53 x9.toNatClampNeg))) else none) else none) else none) else none)
theorem z12_waits_L294 {l : Launch} {E : am_E} {d : Nat} {σ0 : am_S} {N : Nat} (hd : 2 ≤ d) {k205 : Int32 → Int32 → Int32 → Int32 → Int32 → Int32 → Int32 → am_S → Option (Int32 × am_S)} (hk205 : ∀ (x1 : Int32) (x2 : Int32) (x3 : Int32) (x4 : Int32) (x5 : Int32) (x6 : Int32) (x7 : Int32) (σ : am_S), Z l E msM σ0 YX12_waits d 0 0 205 [(0, .ref 36), (1, .int x1), (2, .int x2), (3, .int x3), (4, .int x4), (5, .int x5), (6, .int x6), (7, .int x7)] [] 0 0 σ (k205 x1 x2 x3 x4 x5 x6 x7 σ) (fun u r s => r = some (.int u.1) ∧ s = u.2)) : ∀ (n : Nat) (x1 : Int32) (x2 : Int32) (x3 : Int32) (x4 : Int32) (x5 : Int32) (x6 : Int32) (x7 : Int32) (x9 : Int32) (σ : am_S), Z l E msM σ0 YX12_waits d 0 0 294 [(0, .ref 36), (1, .int x1), (2, .int x2), (3, .int x3), (4, .int x4), (5, .int x5), (6, .int x6), (7, .int x7), (9, .int x9)] [] 0 0 σ (f12_waits_L294 k205 N n x1 x2 x3 x4 x5 x6 x7 x9 σ) (fun u r s => r = some (.int u.1) ∧ s = u.2) := by
  intro n
  induction n with
  | zero => intros; exact z_none
  | succ n ih =>
    intro x1 x2 x3 x4 x5 x6 x7 x9 σ
    unfold f12_waits_L294
    refine z_iload (pc := 294) 8 dX12_waits_294 rfl ?_
    refine z_sipush (pc := 296) (v := (481 : Int32)) dX12_waits_296 (by decide) ?_
    refine z_iload (pc := 299) 6 dX12_waits_299 rfl ?_
    refine z_imul (pc := 301) dX12_waits_301 ?_
    refine z_ic_ge (pc := 302) (tgt := 339) dX12_waits_302 (by decide) (fun h32 => ?_) (fun h32 => ?_)
    · refine z_lv (lv' := [(0, .ref 36), (1, .int x1), (2, .int x2), (3, .int x3), (4, .int x4), (5, .int x5), (6, .int x6), (7, .int x7)]) [0, 1, 2, 3, 4, 5, 6, 7] rfl ?_
      exact z12_waits_J339 hd hk205 x1 x2 x3 x4 x5 x6 x7 σ
    · refine z_aload_n (pc := 305) 0 dX12_waits_305 rfl rfl ?_
      refine z_getQ (pc := 306) (b := 52) dX12_waits_306 kM36 fr_RX12_59_12 (by decide) rfl ?_
      refine z_iload (pc := 309) 8 dX12_waits_309 rfl ?_
      refine z_aload_n (pc := 311) 0 dX12_waits_311 rfl rfl ?_
      refine z_getQ (pc := 312) (b := 51) dX12_waits_312 kM36 fr_RX12_56_12 (by decide) rfl ?_
      refine z_iload (pc := 315) 8 dX12_waits_315 rfl ?_
      refine z_iald (pc := 317) dX12_waits_317 (am_ar.s kM51) (fun h33 => ?_)
      refine z_iast (pc := 318) dX12_waits_318 (am_ar.s kM52) (fun h34 => ?_)
      refine z_aload_n (pc := 319) 0 dX12_waits_319 rfl rfl ?_
      refine z_getQ (pc := 320) (b := 54) dX12_waits_320 kM36 fr_RX12_65_12 (by decide) rfl ?_
      refine z_iload (pc := 323) 8 dX12_waits_323 rfl ?_
      refine z_aload_n (pc := 325) 0 dX12_waits_325 rfl rfl ?_
      refine z_getQ (pc := 326) (b := 53) dX12_waits_326 kM36 fr_RX12_62_12 (by decide) rfl ?_
      refine z_iload (pc := 329) 8 dX12_waits_329 rfl ?_
      refine z_iald (pc := 331) dX12_waits_331 (am_ar.s kM53) (fun h35 => ?_)
      refine z_iast (pc := 332) dX12_waits_332 (am_ar.s kM54) (fun h36 => ?_)
      refine z_iinc (pc := 333) (v := x9 + (1 : Int32)) (lv' := [(9, .int (x9 + (1 : Int32))), (0, .ref 36), (1, .int x1), (2, .int x2), (3, .int x3), (4, .int x4), (5, .int x5), (6, .int x6), (7, .int x7)]) 8 dX12_waits_333 rfl rfl (by decide) rfl ?_
      refine z_goto (pc := 336) (tgt := 294) dX12_waits_336 (by decide) ?_
      refine z_lv (lv' := [(0, .ref 36), (1, .int x1), (2, .int x2), (3, .int x3), (4, .int x4), (5, .int x5), (6, .int x6), (7, .int x7), (9, .int (x9 + (1 : Int32)))]) [1, 2, 3, 4, 5, 6, 7, 8, 0] rfl ?_
      exact ih x1 x2 x3 x4 x5 x6 x7 (x9 + (1 : Int32)) (sF (sF σ 52 x9.toNatClampNeg (fF σ 51 x9.toNatClampNeg)) 54 x9.toNatClampNeg (fF (sF σ 52 x9.toNatClampNeg (fF σ 51 x9.toNatClampNeg)) 53 x9.toNatClampNeg))
def f12_waits_J291 (k205 : Int32 → Int32 → Int32 → Int32 → Int32 → Int32 → Int32 → am_S → Option (Int32 × am_S)) (N : Nat) (x1 : Int32) (x2 : Int32) (x3 : Int32) (x4 : Int32) (x5 : Int32) (x6 : Int32) (x7 : Int32) (σ : am_S) : Option (Int32 × am_S) := f12_waits_L294 k205 N N x1 x2 x3 x4 x5 x6 x7 (0 : Int32) σ
theorem z12_waits_J291 {l : Launch} {E : am_E} {d : Nat} {σ0 : am_S} {N : Nat} (hd : 2 ≤ d) {k205 : Int32 → Int32 → Int32 → Int32 → Int32 → Int32 → Int32 → am_S → Option (Int32 × am_S)} (hk205 : ∀ (x1 : Int32) (x2 : Int32) (x3 : Int32) (x4 : Int32) (x5 : Int32) (x6 : Int32) (x7 : Int32) (σ : am_S), Z l E msM σ0 YX12_waits d 0 0 205 [(0, .ref 36), (1, .int x1), (2, .int x2), (3, .int x3), (4, .int x4), (5, .int x5), (6, .int x6), (7, .int x7)] [] 0 0 σ (k205 x1 x2 x3 x4 x5 x6 x7 σ) (fun u r s => r = some (.int u.1) ∧ s = u.2)) (x1 : Int32) (x2 : Int32) (x3 : Int32) (x4 : Int32) (x5 : Int32) (x6 : Int32) (x7 : Int32) (σ : am_S) : Z l E msM σ0 YX12_waits d 0 0 291 [(0, .ref 36), (1, .int x1), (2, .int x2), (3, .int x3), (4, .int x4), (5, .int x5), (6, .int x6), (7, .int x7)] [] 0 0 σ (f12_waits_J291 k205 N x1 x2 x3 x4 x5 x6 x7 σ) (fun u r s => r = some (.int u.1) ∧ s = u.2) := by
  unfold f12_waits_J291
  refine z_iconst (pc := 291) (v := (0 : Int32)) dX12_waits_291 (by decide) ?_
  refine z_istore (pc := 292) (lv' := [(9, .int (0 : Int32)), (0, .ref 36), (1, .int x1), (2, .int x2), (3, .int x3), (4, .int x4), (5, .int x5), (6, .int x6), (7, .int x7)]) dX12_waits_292 (by decide) rfl ?_
  refine z_lv (lv' := [(0, .ref 36), (1, .int x1), (2, .int x2), (3, .int x3), (4, .int x4), (5, .int x5), (6, .int x6), (7, .int x7), (9, .int (0 : Int32))]) [1, 2, 3, 4, 5, 6, 7, 8, 0] rfl ?_
  exact z12_waits_L294 hd hk205 N x1 x2 x3 x4 x5 x6 x7 (0 : Int32) σ
def f12_waits_J285 (k205 : Int32 → Int32 → Int32 → Int32 → Int32 → Int32 → Int32 → am_S → Option (Int32 × am_S)) (k227 : Int32 → Int32 → Int32 → Int32 → Int32 → Int32 → Int32 → Int32 → Int32 → am_S → Option (Int32 × am_S)) (N : Nat) (x1 : Int32) (x2 : Int32) (x3 : Int32) (x4 : Int32) (x5 : Int32) (x6 : Int32) (x7 : Int32) (x8 : Int32) (x9 : Int32) (σ : am_S) : Option (Int32 × am_S) := k227 x1 x2 x3 x4 x5 x6 x7 x8 (x9 + (1 : Int32)) σ
theorem z12_waits_J285 {l : Launch} {E : am_E} {d : Nat} {σ0 : am_S} {N : Nat} (hd : 2 ≤ d) {k205 : Int32 → Int32 → Int32 → Int32 → Int32 → Int32 → Int32 → am_S → Option (Int32 × am_S)} {k227 : Int32 → Int32 → Int32 → Int32 → Int32 → Int32 → Int32 → Int32 → Int32 → am_S → Option (Int32 × am_S)} (hk205 : ∀ (x1 : Int32) (x2 : Int32) (x3 : Int32) (x4 : Int32) (x5 : Int32) (x6 : Int32) (x7 : Int32) (σ : am_S), Z l E msM σ0 YX12_waits d 0 0 205 [(0, .ref 36), (1, .int x1), (2, .int x2), (3, .int x3), (4, .int x4), (5, .int x5), (6, .int x6), (7, .int x7)] [] 0 0 σ (k205 x1 x2 x3 x4 x5 x6 x7 σ) (fun u r s => r = some (.int u.1) ∧ s = u.2)) (hk227 : ∀ (x1 : Int32) (x2 : Int32) (x3 : Int32) (x4 : Int32) (x5 : Int32) (x6 : Int32) (x7 : Int32) (x8 : Int32) (x9 : Int32) (σ : am_S), Z l E msM σ0 YX12_waits d 0 0 227 [(0, .ref 36), (1, .int x1), (2, .int x2), (3, .int x3), (4, .int x4), (5, .int x5), (6, .int x6), (7, .int x7), (8, .int x8), (9, .int x9)] [] 0 0 σ (k227 x1 x2 x3 x4 x5 x6 x7 x8 x9 σ) (fun u r s => r = some (.int u.1) ∧ s = u.2)) (x1 : Int32) (x2 : Int32) (x3 : Int32) (x4 : Int32) (x5 : Int32) (x6 : Int32) (x7 : Int32) (x8 : Int32) (x9 : Int32) (σ : am_S) : Z l E msM σ0 YX12_waits d 0 0 285 [(0, .ref 36), (1, .int x1), (2, .int x2), (3, .int x3), (4, .int x4), (5, .int x5), (6, .int x6), (7, .int x7), (8, .int x8), (9, .int x9)] [] 0 0 σ (f12_waits_J285 k205 k227 N x1 x2 x3 x4 x5 x6 x7 x8 x9 σ) (fun u r s => r = some (.int u.1) ∧ s = u.2) := by
  unfold f12_waits_J285
  refine z_iinc (pc := 285) (v := x9 + (1 : Int32)) (lv' := [(9, .int (x9 + (1 : Int32))), (0, .ref 36), (1, .int x1), (2, .int x2), (3, .int x3), (4, .int x4), (5, .int x5), (6, .int x6), (7, .int x7), (8, .int x8)]) 9 dX12_waits_285 rfl rfl (by decide) rfl ?_
  refine z_goto (pc := 288) (tgt := 227) dX12_waits_288 (by decide) ?_
  refine z_lv (lv' := [(0, .ref 36), (1, .int x1), (2, .int x2), (3, .int x3), (4, .int x4), (5, .int x5), (6, .int x6), (7, .int x7), (8, .int x8), (9, .int (x9 + (1 : Int32)))]) [1, 2, 3, 4, 5, 6, 7, 8, 9, 0] rfl ?_
  exact hk227 x1 x2 x3 x4 x5 x6 x7 x8 (x9 + (1 : Int32)) σ
def f12_waits_L237 (k205 : Int32 → Int32 → Int32 → Int32 → Int32 → Int32 → Int32 → am_S → Option (Int32 × am_S)) (k227 : Int32 → Int32 → Int32 → Int32 → Int32 → Int32 → Int32 → Int32 → Int32 → am_S → Option (Int32 × am_S)) (N : Nat) : Nat → Int32 → Int32 → Int32 → Int32 → Int32 → Int32 → Int32 → Int32 → Int32 → Int32 → am_S → Option (Int32 × am_S)
  | 0, _, _, _, _, _, _, _, _, _, _, _ => none
  | n + 1, x1, x2, x3, x4, x5, x6, x7, x8, x9, x10, σ => if (481 : Int32) ≤ x10 + x8 then (f12_waits_J285 k205 k227 N x1 x2 x3 x4 x5 x6 x7 x8 x9 σ) else (if x7 = x5 - (1 : Int32) then ((f12_minute σ x7 x9 x10 (x10 + x8) x2 x3 true).bind fun s40 => (f12_waits_L237 k205 k227 N n x1 x2 x3 x4 x5 x6 x7 x8 x9 (x10 + (1 : Int32)) s40)) else ((f12_minute σ x7 x9 x10 (x10 + x8) x2 x3 false).bind fun s43 => (f12_waits_L237 k205 k227 N n x1 x2 x3 x4 x5 x6 x7 x8 x9 (x10 + (1 : Int32)) s43)))
theorem z12_waits_L237 {l : Launch} {E : am_E} {d : Nat} {σ0 : am_S} {N : Nat} (hd : 2 ≤ d) {k205 : Int32 → Int32 → Int32 → Int32 → Int32 → Int32 → Int32 → am_S → Option (Int32 × am_S)} {k227 : Int32 → Int32 → Int32 → Int32 → Int32 → Int32 → Int32 → Int32 → Int32 → am_S → Option (Int32 × am_S)} (hk205 : ∀ (x1 : Int32) (x2 : Int32) (x3 : Int32) (x4 : Int32) (x5 : Int32) (x6 : Int32) (x7 : Int32) (σ : am_S), Z l E msM σ0 YX12_waits d 0 0 205 [(0, .ref 36), (1, .int x1), (2, .int x2), (3, .int x3), (4, .int x4), (5, .int x5), (6, .int x6), (7, .int x7)] [] 0 0 σ (k205 x1 x2 x3 x4 x5 x6 x7 σ) (fun u r s => r = some (.int u.1) ∧ s = u.2)) (hk227 : ∀ (x1 : Int32) (x2 : Int32) (x3 : Int32) (x4 : Int32) (x5 : Int32) (x6 : Int32) (x7 : Int32) (x8 : Int32) (x9 : Int32) (σ : am_S), Z l E msM σ0 YX12_waits d 0 0 227 [(0, .ref 36), (1, .int x1), (2, .int x2), (3, .int x3), (4, .int x4), (5, .int x5), (6, .int x6), (7, .int x7), (8, .int x8), (9, .int x9)] [] 0 0 σ (k227 x1 x2 x3 x4 x5 x6 x7 x8 x9 σ) (fun u r s => r = some (.int u.1) ∧ s = u.2)) : ∀ (n : Nat) (x1 : Int32) (x2 : Int32) (x3 : Int32) (x4 : Int32) (x5 : Int32) (x6 : Int32) (x7 : Int32) (x8 : Int32) (x9 : Int32) (x10 : Int32) (σ : am_S), Z l E msM σ0 YX12_waits d 0 0 237 [(0, .ref 36), (1, .int x1), (2, .int x2), (3, .int x3), (4, .int x4), (5, .int x5), (6, .int x6), (7, .int x7), (8, .int x8), (9, .int x9), (10, .int x10)] [] 0 0 σ (f12_waits_L237 k205 k227 N n x1 x2 x3 x4 x5 x6 x7 x8 x9 x10 σ) (fun u r s => r = some (.int u.1) ∧ s = u.2) := by
  intro n
  induction n with
  | zero => intros; exact z_none
  | succ n ih =>
    intro x1 x2 x3 x4 x5 x6 x7 x8 x9 x10 σ
    unfold f12_waits_L237
    refine z_iload (pc := 237) 10 dX12_waits_237 rfl ?_
    refine z_iload (pc := 239) 8 dX12_waits_239 rfl ?_
    refine z_iadd (pc := 241) dX12_waits_241 ?_
    refine z_sipush (pc := 242) (v := (481 : Int32)) dX12_waits_242 (by decide) ?_
    refine z_ic_ge (pc := 245) (tgt := 285) dX12_waits_245 (by decide) (fun h37 => ?_) (fun h37 => ?_)
    · refine z_lv (lv' := [(0, .ref 36), (1, .int x1), (2, .int x2), (3, .int x3), (4, .int x4), (5, .int x5), (6, .int x6), (7, .int x7), (8, .int x8), (9, .int x9)]) [0, 1, 2, 3, 4, 5, 6, 7, 8, 9] rfl ?_
      exact z12_waits_J285 hd hk205 hk227 x1 x2 x3 x4 x5 x6 x7 x8 x9 σ
    · refine z_aload_n (pc := 248) 0 dX12_waits_248 rfl rfl ?_
      refine z_iload (pc := 249) 7 dX12_waits_249 rfl ?_
      refine z_iload (pc := 251) 9 dX12_waits_251 rfl ?_
      refine z_iload (pc := 253) 10 dX12_waits_253 rfl ?_
      refine z_iload (pc := 255) 10 dX12_waits_255 rfl ?_
      refine z_iload (pc := 257) 8 dX12_waits_257 rfl ?_
      refine z_iadd (pc := 259) dX12_waits_259 ?_
      refine z_iload_n (pc := 260) 2 dX12_waits_260 rfl rfl ?_
      refine z_iload_n (pc := 261) 3 dX12_waits_261 rfl rfl ?_
      refine z_iload (pc := 262) 7 dX12_waits_262 rfl ?_
      refine z_iload (pc := 264) 5 dX12_waits_264 rfl ?_
      refine z_iconst (pc := 266) (v := (1 : Int32)) dX12_waits_266 (by decide) ?_
      refine z_isub (pc := 267) dX12_waits_267 ?_
      refine z_ic_ne (pc := 268) (tgt := 275) dX12_waits_268 (by decide) (fun h38 => ?_) (fun h38 => ?_)
      · refine z_iconst (pc := 271) (v := (1 : Int32)) dX12_waits_271 (by decide) ?_
        refine z_goto (pc := 272) (tgt := 276) dX12_waits_272 (by decide) ?_
        refine z_callVs (pc := 276) [.ref 36, .int x7, .int x9, .int x10, .int (x10 + x8), .int x2, .int x3, .int (bI true)] [] rfl (lk_V (Yc := YX12_minute) (n := 7) dX12_waits_276 rfl rfl (am_ob.s kM36) rfl rfl np_X12_minute mh_RX12 (by decide) ml_RX12_359 im_X12_minute se_RX12_X12_minute_X12_minute in_RX12 cd_X12_minute) (Nat.le_trans (by decide) hd) ⟨by decide, by decide⟩ (Nat.le_of_ble_eq_true rfl) (am_kp.rf _) (fun s40 h41 => c12_minute h41) (fun s40 h41 => ?_)
        refine z_iinc (pc := 279) (v := x10 + (1 : Int32)) (lv' := [(10, .int (x10 + (1 : Int32))), (0, .ref 36), (1, .int x1), (2, .int x2), (3, .int x3), (4, .int x4), (5, .int x5), (6, .int x6), (7, .int x7), (8, .int x8), (9, .int x9)]) 10 dX12_waits_279 rfl rfl (by decide) rfl ?_
        refine z_goto (pc := 282) (tgt := 237) dX12_waits_282 (by decide) ?_
        refine z_lv (lv' := [(0, .ref 36), (1, .int x1), (2, .int x2), (3, .int x3), (4, .int x4), (5, .int x5), (6, .int x6), (7, .int x7), (8, .int x8), (9, .int x9), (10, .int (x10 + (1 : Int32)))]) [1, 2, 3, 4, 5, 6, 7, 8, 9, 10, 0] rfl ?_
        exact ih x1 x2 x3 x4 x5 x6 x7 x8 x9 (x10 + (1 : Int32)) s40
      · refine z_iconst (pc := 275) (v := (0 : Int32)) dX12_waits_275 (by decide) ?_
        refine z_callVs (pc := 276) [.ref 36, .int x7, .int x9, .int x10, .int (x10 + x8), .int x2, .int x3, .int (bI false)] [] rfl (lk_V (Yc := YX12_minute) (n := 7) dX12_waits_276 rfl rfl (am_ob.s kM36) rfl rfl np_X12_minute mh_RX12 (by decide) ml_RX12_359 im_X12_minute se_RX12_X12_minute_X12_minute in_RX12 cd_X12_minute) (Nat.le_trans (by decide) hd) ⟨by decide, by decide⟩ (Nat.le_of_ble_eq_true rfl) (am_kp.rf _) (fun s43 h44 => c12_minute h44) (fun s43 h44 => ?_)
        refine z_iinc (pc := 279) (v := x10 + (1 : Int32)) (lv' := [(10, .int (x10 + (1 : Int32))), (0, .ref 36), (1, .int x1), (2, .int x2), (3, .int x3), (4, .int x4), (5, .int x5), (6, .int x6), (7, .int x7), (8, .int x8), (9, .int x9)]) 10 dX12_waits_279 rfl rfl (by decide) rfl ?_
        refine z_goto (pc := 282) (tgt := 237) dX12_waits_282 (by decide) ?_
        refine z_lv (lv' := [(0, .ref 36), (1, .int x1), (2, .int x2), (3, .int x3), (4, .int x4), (5, .int x5), (6, .int x6), (7, .int x7), (8, .int x8), (9, .int x9), (10, .int (x10 + (1 : Int32)))]) [1, 2, 3, 4, 5, 6, 7, 8, 9, 10, 0] rfl ?_
        exact ih x1 x2 x3 x4 x5 x6 x7 x8 x9 (x10 + (1 : Int32)) s43
def f12_waits_L227 (k205 : Int32 → Int32 → Int32 → Int32 → Int32 → Int32 → Int32 → am_S → Option (Int32 × am_S)) (N : Nat) : Nat → Int32 → Int32 → Int32 → Int32 → Int32 → Int32 → Int32 → Int32 → Int32 → am_S → Option (Int32 × am_S)
  | 0, _, _, _, _, _, _, _, _, _, _ => none
  | n + 1, x1, x2, x3, x4, x5, x6, x7, x8, x9, σ => if x6 ≤ x9 then (f12_waits_J291 k205 N x1 x2 x3 x4 x5 x6 x7 σ) else (f12_waits_L237 k205 (f12_waits_L227 k205 N n) N N x1 x2 x3 x4 x5 x6 x7 x8 x9 (0 : Int32) σ)
theorem z12_waits_L227 {l : Launch} {E : am_E} {d : Nat} {σ0 : am_S} {N : Nat} (hd : 2 ≤ d) {k205 : Int32 → Int32 → Int32 → Int32 → Int32 → Int32 → Int32 → am_S → Option (Int32 × am_S)} (hk205 : ∀ (x1 : Int32) (x2 : Int32) (x3 : Int32) (x4 : Int32) (x5 : Int32) (x6 : Int32) (x7 : Int32) (σ : am_S), Z l E msM σ0 YX12_waits d 0 0 205 [(0, .ref 36), (1, .int x1), (2, .int x2), (3, .int x3), (4, .int x4), (5, .int x5), (6, .int x6), (7, .int x7)] [] 0 0 σ (k205 x1 x2 x3 x4 x5 x6 x7 σ) (fun u r s => r = some (.int u.1) ∧ s = u.2)) : ∀ (n : Nat) (x1 : Int32) (x2 : Int32) (x3 : Int32) (x4 : Int32) (x5 : Int32) (x6 : Int32) (x7 : Int32) (x8 : Int32) (x9 : Int32) (σ : am_S), Z l E msM σ0 YX12_waits d 0 0 227 [(0, .ref 36), (1, .int x1), (2, .int x2), (3, .int x3), (4, .int x4), (5, .int x5), (6, .int x6), (7, .int x7), (8, .int x8), (9, .int x9)] [] 0 0 σ (f12_waits_L227 k205 N n x1 x2 x3 x4 x5 x6 x7 x8 x9 σ) (fun u r s => r = some (.int u.1) ∧ s = u.2) := by
  intro n
  induction n with
  | zero => intros; exact z_none
  | succ n ih =>
    intro x1 x2 x3 x4 x5 x6 x7 x8 x9 σ
    unfold f12_waits_L227
    refine z_iload (pc := 227) 9 dX12_waits_227 rfl ?_
    refine z_iload (pc := 229) 6 dX12_waits_229 rfl ?_
    refine z_ic_ge (pc := 231) (tgt := 291) dX12_waits_231 (by decide) (fun h31 => ?_) (fun h31 => ?_)
    · refine z_lv (lv' := [(0, .ref 36), (1, .int x1), (2, .int x2), (3, .int x3), (4, .int x4), (5, .int x5), (6, .int x6), (7, .int x7)]) [0, 1, 2, 3, 4, 5, 6, 7] rfl ?_
      exact z12_waits_J291 hd hk205 x1 x2 x3 x4 x5 x6 x7 σ
    · refine z_iconst (pc := 234) (v := (0 : Int32)) dX12_waits_234 (by decide) ?_
      refine z_istore (pc := 235) (lv' := [(10, .int (0 : Int32)), (0, .ref 36), (1, .int x1), (2, .int x2), (3, .int x3), (4, .int x4), (5, .int x5), (6, .int x6), (7, .int x7), (8, .int x8), (9, .int x9)]) dX12_waits_235 (by decide) rfl ?_
      refine z_lv (lv' := [(0, .ref 36), (1, .int x1), (2, .int x2), (3, .int x3), (4, .int x4), (5, .int x5), (6, .int x6), (7, .int x7), (8, .int x8), (9, .int x9), (10, .int (0 : Int32))]) [1, 2, 3, 4, 5, 6, 7, 8, 9, 10, 0] rfl ?_
      exact z12_waits_L237 hd hk205 (fun x1 x2 x3 x4 x5 x6 x7 x8 x9 σ => ih x1 x2 x3 x4 x5 x6 x7 x8 x9 σ) N x1 x2 x3 x4 x5 x6 x7 x8 x9 (0 : Int32) σ
def f12_waits_L205 (N : Nat) : Nat → Int32 → Int32 → Int32 → Int32 → Int32 → Int32 → Int32 → am_S → Option (Int32 × am_S)
  | 0, _, _, _, _, _, _, _, _ => none
  | n + 1, x1, x2, x3, x4, x5, x6, x7, σ => if x7 < 0 then (f12_waits_J345 N x4 σ) else (if am_in (((40 : Int32) * x1) + x7) 160 = true then (f12_waits_L227 (f12_waits_L205 N n) N N x1 x2 x3 x4 x5 x6 x7 (fF σ 67 (((40 : Int32) * x1) + x7).toNatClampNeg) (0 : Int32) σ) else none)
theorem z12_waits_L205 {l : Launch} {E : am_E} {d : Nat} {σ0 : am_S} {N : Nat} (hd : 2 ≤ d) : ∀ (n : Nat) (x1 : Int32) (x2 : Int32) (x3 : Int32) (x4 : Int32) (x5 : Int32) (x6 : Int32) (x7 : Int32) (σ : am_S), Z l E msM σ0 YX12_waits d 0 0 205 [(0, .ref 36), (1, .int x1), (2, .int x2), (3, .int x3), (4, .int x4), (5, .int x5), (6, .int x6), (7, .int x7)] [] 0 0 σ (f12_waits_L205 N n x1 x2 x3 x4 x5 x6 x7 σ) (fun u r s => r = some (.int u.1) ∧ s = u.2) := by
  intro n
  induction n with
  | zero => intros; exact z_none
  | succ n ih =>
    intro x1 x2 x3 x4 x5 x6 x7 σ
    unfold f12_waits_L205
    refine z_iload (pc := 205) 7 dX12_waits_205 rfl ?_
    refine z_if_lt (pc := 207) (tgt := 345) dX12_waits_207 (by decide) (fun h26 => ?_) (fun h26 => ?_)
    · refine z_lv (lv' := [(0, .ref 36), (4, .int x4)]) [0, 4] rfl ?_
      exact z12_waits_J345 hd x4 σ
    · refine z_aload_n (pc := 210) 0 dX12_waits_210 rfl rfl ?_
      refine z_getQ (pc := 211) (b := 67) dX12_waits_211 kM36 fr_RX12_105_12 (by decide) rfl ?_
      refine z_bipush (pc := 214) (v := (40 : Int32)) dX12_waits_214 (by decide) ?_
      refine z_iload_n (pc := 216) 1 dX12_waits_216 rfl rfl ?_
      refine z_imul (pc := 217) dX12_waits_217 ?_
      refine z_iload (pc := 218) 7 dX12_waits_218 rfl ?_
      refine z_iadd (pc := 220) dX12_waits_220 ?_
      refine z_iald (pc := 221) dX12_waits_221 (am_ar.s kM67) (fun h30 => ?_)
      refine z_istore (pc := 222) (lv' := [(8, .int (fF σ 67 (((40 : Int32) * x1) + x7).toNatClampNeg)), (0, .ref 36), (1, .int x1), (2, .int x2), (3, .int x3), (4, .int x4), (5, .int x5), (6, .int x6), (7, .int x7)]) dX12_waits_222 (by decide) rfl ?_
      refine z_iconst (pc := 224) (v := (0 : Int32)) dX12_waits_224 (by decide) ?_
      refine z_istore (pc := 225) (lv' := [(9, .int (0 : Int32)), (8, .int (fF σ 67 (((40 : Int32) * x1) + x7).toNatClampNeg)), (0, .ref 36), (1, .int x1), (2, .int x2), (3, .int x3), (4, .int x4), (5, .int x5), (6, .int x6), (7, .int x7)]) dX12_waits_225 (by decide) rfl ?_
      refine z_lv (lv' := [(0, .ref 36), (1, .int x1), (2, .int x2), (3, .int x3), (4, .int x4), (5, .int x5), (6, .int x6), (7, .int x7), (8, .int (fF σ 67 (((40 : Int32) * x1) + x7).toNatClampNeg)), (9, .int (0 : Int32))]) [2, 3, 4, 5, 6, 7, 8, 9, 1, 0] rfl ?_
      exact z12_waits_L227 hd (fun x1 x2 x3 x4 x5 x6 x7 σ => ih x1 x2 x3 x4 x5 x6 x7 σ) N x1 x2 x3 x4 x5 x6 x7 (fF σ 67 (((40 : Int32) * x1) + x7).toNatClampNeg) (0 : Int32) σ
def f12_waits_J199 (N : Nat) (x1 : Int32) (x2 : Int32) (x3 : Int32) (x4 : Int32) (x5 : Int32) (x6 : Int32) (σ : am_S) : Option (Int32 × am_S) := f12_waits_L205 N N x1 x2 x3 x4 x5 x6 (x5 - (1 : Int32)) σ
theorem z12_waits_J199 {l : Launch} {E : am_E} {d : Nat} {σ0 : am_S} {N : Nat} (hd : 2 ≤ d) (x1 : Int32) (x2 : Int32) (x3 : Int32) (x4 : Int32) (x5 : Int32) (x6 : Int32) (σ : am_S) : Z l E msM σ0 YX12_waits d 0 0 199 [(0, .ref 36), (1, .int x1), (2, .int x2), (3, .int x3), (4, .int x4), (5, .int x5), (6, .int x6)] [] 0 0 σ (f12_waits_J199 N x1 x2 x3 x4 x5 x6 σ) (fun u r s => r = some (.int u.1) ∧ s = u.2) := by
  unfold f12_waits_J199
  refine z_iload (pc := 199) 5 dX12_waits_199 rfl ?_
  refine z_iconst (pc := 201) (v := (1 : Int32)) dX12_waits_201 (by decide) ?_
  refine z_isub (pc := 202) dX12_waits_202 ?_
  refine z_istore (pc := 203) (lv' := [(7, .int (x5 - (1 : Int32))), (0, .ref 36), (1, .int x1), (2, .int x2), (3, .int x3), (4, .int x4), (5, .int x5), (6, .int x6)]) dX12_waits_203 (by decide) rfl ?_
  refine z_lv (lv' := [(0, .ref 36), (1, .int x1), (2, .int x2), (3, .int x3), (4, .int x4), (5, .int x5), (6, .int x6), (7, .int (x5 - (1 : Int32)))]) [1, 2, 3, 4, 5, 6, 7, 0] rfl ?_
  exact z12_waits_L205 hd N x1 x2 x3 x4 x5 x6 (x5 - (1 : Int32)) σ
def f12_waits_J193 (k131 : Int32 → Int32 → Int32 → Int32 → Int32 → Int32 → Int32 → am_S → Option (Int32 × am_S)) (N : Nat) (x1 : Int32) (x2 : Int32) (x3 : Int32) (x4 : Int32) (x5 : Int32) (x6 : Int32) (x7 : Int32) (σ : am_S) : Option (Int32 × am_S) := k131 x1 x2 x3 x4 x5 x6 (x7 + (1 : Int32)) σ
theorem z12_waits_J193 {l : Launch} {E : am_E} {d : Nat} {σ0 : am_S} {N : Nat} (hd : 2 ≤ d) {k131 : Int32 → Int32 → Int32 → Int32 → Int32 → Int32 → Int32 → am_S → Option (Int32 × am_S)} (hk131 : ∀ (x1 : Int32) (x2 : Int32) (x3 : Int32) (x4 : Int32) (x5 : Int32) (x6 : Int32) (x7 : Int32) (σ : am_S), Z l E msM σ0 YX12_waits d 0 0 131 [(0, .ref 36), (1, .int x1), (2, .int x2), (3, .int x3), (4, .int x4), (5, .int x5), (6, .int x6), (7, .int x7)] [] 0 0 σ (k131 x1 x2 x3 x4 x5 x6 x7 σ) (fun u r s => r = some (.int u.1) ∧ s = u.2)) (x1 : Int32) (x2 : Int32) (x3 : Int32) (x4 : Int32) (x5 : Int32) (x6 : Int32) (x7 : Int32) (σ : am_S) : Z l E msM σ0 YX12_waits d 0 0 193 [(0, .ref 36), (1, .int x1), (2, .int x2), (3, .int x3), (4, .int x4), (5, .int x5), (6, .int x6), (7, .int x7)] [] 0 0 σ (f12_waits_J193 k131 N x1 x2 x3 x4 x5 x6 x7 σ) (fun u r s => r = some (.int u.1) ∧ s = u.2) := by
  unfold f12_waits_J193
  refine z_iinc (pc := 193) (v := x7 + (1 : Int32)) (lv' := [(7, .int (x7 + (1 : Int32))), (0, .ref 36), (1, .int x1), (2, .int x2), (3, .int x3), (4, .int x4), (5, .int x5), (6, .int x6)]) 7 dX12_waits_193 rfl rfl (by decide) rfl ?_
  refine z_goto (pc := 196) (tgt := 131) dX12_waits_196 (by decide) ?_
  refine z_lv (lv' := [(0, .ref 36), (1, .int x1), (2, .int x2), (3, .int x3), (4, .int x4), (5, .int x5), (6, .int x6), (7, .int (x7 + (1 : Int32)))]) [1, 2, 3, 4, 5, 6, 7, 0] rfl ?_
  exact hk131 x1 x2 x3 x4 x5 x6 (x7 + (1 : Int32)) σ
def f12_waits_L141 (k131 : Int32 → Int32 → Int32 → Int32 → Int32 → Int32 → Int32 → am_S → Option (Int32 × am_S)) (N : Nat) : Nat → Int32 → Int32 → Int32 → Int32 → Int32 → Int32 → Int32 → Int32 → am_S → Option (Int32 × am_S)
  | 0, _, _, _, _, _, _, _, _, _ => none
  | n + 1, x1, x2, x3, x4, x5, x6, x7, x8, σ => if (481 : Int32) ≤ x8 then (f12_waits_J193 k131 N x1 x2 x3 x4 x5 x6 x7 σ) else ((f12_tail N x8 x7 x2 x3).bind fun v46 => (if am_in (((481 : Int32) * x7) + x8) 8658 = true then (if am_in (((481 : Int32) * x7) + x8) 8658 = true then (f12_waits_L141 k131 N n x1 x2 x3 x4 x5 x6 x7 (x8 + (1 : Int32)) (sF (sF σ 52 (((481 : Int32) * x7) + x8).toNatClampNeg v46) 54 (((481 : Int32) * x7) + x8).toNatClampNeg (0 : Int32))) else none) else none))
theorem z12_waits_L141 {l : Launch} {E : am_E} {d : Nat} {σ0 : am_S} {N : Nat} (hd : 2 ≤ d) {k131 : Int32 → Int32 → Int32 → Int32 → Int32 → Int32 → Int32 → am_S → Option (Int32 × am_S)} (hk131 : ∀ (x1 : Int32) (x2 : Int32) (x3 : Int32) (x4 : Int32) (x5 : Int32) (x6 : Int32) (x7 : Int32) (σ : am_S), Z l E msM σ0 YX12_waits d 0 0 131 [(0, .ref 36), (1, .int x1), (2, .int x2), (3, .int x3), (4, .int x4), (5, .int x5), (6, .int x6), (7, .int x7)] [] 0 0 σ (k131 x1 x2 x3 x4 x5 x6 x7 σ) (fun u r s => r = some (.int u.1) ∧ s = u.2)) : ∀ (n : Nat) (x1 : Int32) (x2 : Int32) (x3 : Int32) (x4 : Int32) (x5 : Int32) (x6 : Int32) (x7 : Int32) (x8 : Int32) (σ : am_S), Z l E msM σ0 YX12_waits d 0 0 141 [(0, .ref 36), (1, .int x1), (2, .int x2), (3, .int x3), (4, .int x4), (5, .int x5), (6, .int x6), (7, .int x7), (8, .int x8)] [] 0 0 σ (f12_waits_L141 k131 N n x1 x2 x3 x4 x5 x6 x7 x8 σ) (fun u r s => r = some (.int u.1) ∧ s = u.2) := by
  intro n
  induction n with
  | zero => intros; exact z_none
  | succ n ih =>
    intro x1 x2 x3 x4 x5 x6 x7 x8 σ
    unfold f12_waits_L141
    refine z_iload (pc := 141) 8 dX12_waits_141 rfl ?_
    refine z_sipush (pc := 143) (v := (481 : Int32)) dX12_waits_143 (by decide) ?_
    refine z_ic_ge (pc := 146) (tgt := 193) dX12_waits_146 (by decide) (fun h45 => ?_) (fun h45 => ?_)
    · refine z_lv (lv' := [(0, .ref 36), (1, .int x1), (2, .int x2), (3, .int x3), (4, .int x4), (5, .int x5), (6, .int x6), (7, .int x7)]) [0, 1, 2, 3, 4, 5, 6, 7] rfl ?_
      exact z12_waits_J193 hd hk131 x1 x2 x3 x4 x5 x6 x7 σ
    · refine z_aload_n (pc := 149) 0 dX12_waits_149 rfl rfl ?_
      refine z_getQ (pc := 150) (b := 52) dX12_waits_150 kM36 fr_RX12_59_12 (by decide) rfl ?_
      refine z_sipush (pc := 153) (v := (481 : Int32)) dX12_waits_153 (by decide) ?_
      refine z_iload (pc := 156) 7 dX12_waits_156 rfl ?_
      refine z_imul (pc := 158) dX12_waits_158 ?_
      refine z_iload (pc := 159) 8 dX12_waits_159 rfl ?_
      refine z_iadd (pc := 161) dX12_waits_161 ?_
      refine z_iload (pc := 162) 8 dX12_waits_162 rfl ?_
      refine z_iload (pc := 164) 7 dX12_waits_164 rfl ?_
      refine z_iload_n (pc := 166) 2 dX12_waits_166 rfl rfl ?_
      refine z_iload_n (pc := 167) 3 dX12_waits_167 rfl rfl ?_
      refine z_callI (pc := 168) [.int x8, .int x7, .int x2, .int x3] [.int (((481 : Int32) * x7) + x8), .ref 52] rfl (lk_S (Yc := YX12_tail) (n := 4) dX12_waits_168 rfl np_X12_tail mh_RX12 (by decide) ml_RX12_355 st_X12_tail in_RX12 cd_X12_tail) (Nat.le_trans (by decide) hd) ⟨by decide, by decide⟩ (Nat.le_of_ble_eq_true rfl) (am_kp.rf _) (fun v46 h48 => c12_tail h48) (fun v46 h48 => ?_)
      refine z_iast (pc := 171) dX12_waits_171 (am_ar.s kM52) (fun h49 => ?_)
      refine z_aload_n (pc := 172) 0 dX12_waits_172 rfl rfl ?_
      refine z_getQ (pc := 173) (b := 54) dX12_waits_173 kM36 fr_RX12_65_12 (by decide) rfl ?_
      refine z_sipush (pc := 176) (v := (481 : Int32)) dX12_waits_176 (by decide) ?_
      refine z_iload (pc := 179) 7 dX12_waits_179 rfl ?_
      refine z_imul (pc := 181) dX12_waits_181 ?_
      refine z_iload (pc := 182) 8 dX12_waits_182 rfl ?_
      refine z_iadd (pc := 184) dX12_waits_184 ?_
      refine z_iconst (pc := 185) (v := (0 : Int32)) dX12_waits_185 (by decide) ?_
      refine z_iast (pc := 186) dX12_waits_186 (am_ar.s kM54) (fun h50 => ?_)
      refine z_iinc (pc := 187) (v := x8 + (1 : Int32)) (lv' := [(8, .int (x8 + (1 : Int32))), (0, .ref 36), (1, .int x1), (2, .int x2), (3, .int x3), (4, .int x4), (5, .int x5), (6, .int x6), (7, .int x7)]) 8 dX12_waits_187 rfl rfl (by decide) rfl ?_
      refine z_goto (pc := 190) (tgt := 141) dX12_waits_190 (by decide) ?_
      refine z_lv (lv' := [(0, .ref 36), (1, .int x1), (2, .int x2), (3, .int x3), (4, .int x4), (5, .int x5), (6, .int x6), (7, .int x7), (8, .int (x8 + (1 : Int32)))]) [1, 2, 3, 4, 5, 6, 7, 8, 0] rfl ?_
      exact ih x1 x2 x3 x4 x5 x6 x7 (x8 + (1 : Int32)) (sF (sF σ 52 (((481 : Int32) * x7) + x8).toNatClampNeg v46) 54 (((481 : Int32) * x7) + x8).toNatClampNeg (0 : Int32))
def f12_waits_L131 (N : Nat) : Nat → Int32 → Int32 → Int32 → Int32 → Int32 → Int32 → Int32 → am_S → Option (Int32 × am_S)
  | 0, _, _, _, _, _, _, _, _ => none
  | n + 1, x1, x2, x3, x4, x5, x6, x7, σ => if x6 ≤ x7 then (f12_waits_J199 N x1 x2 x3 x4 x5 x6 σ) else (f12_waits_L141 (f12_waits_L131 N n) N N x1 x2 x3 x4 x5 x6 x7 (0 : Int32) σ)
theorem z12_waits_L131 {l : Launch} {E : am_E} {d : Nat} {σ0 : am_S} {N : Nat} (hd : 2 ≤ d) : ∀ (n : Nat) (x1 : Int32) (x2 : Int32) (x3 : Int32) (x4 : Int32) (x5 : Int32) (x6 : Int32) (x7 : Int32) (σ : am_S), Z l E msM σ0 YX12_waits d 0 0 131 [(0, .ref 36), (1, .int x1), (2, .int x2), (3, .int x3), (4, .int x4), (5, .int x5), (6, .int x6), (7, .int x7)] [] 0 0 σ (f12_waits_L131 N n x1 x2 x3 x4 x5 x6 x7 σ) (fun u r s => r = some (.int u.1) ∧ s = u.2) := by
  intro n
  induction n with
  | zero => intros; exact z_none
  | succ n ih =>
    intro x1 x2 x3 x4 x5 x6 x7 σ
    unfold f12_waits_L131
    refine z_iload (pc := 131) 7 dX12_waits_131 rfl ?_
    refine z_iload (pc := 133) 6 dX12_waits_133 rfl ?_
    refine z_ic_ge (pc := 135) (tgt := 199) dX12_waits_135 (by decide) (fun h25 => ?_) (fun h25 => ?_)
    · refine z_lv (lv' := [(0, .ref 36), (1, .int x1), (2, .int x2), (3, .int x3), (4, .int x4), (5, .int x5), (6, .int x6)]) [0, 1, 2, 3, 4, 5, 6] rfl ?_
      exact z12_waits_J199 hd x1 x2 x3 x4 x5 x6 σ
    · refine z_iconst (pc := 138) (v := (0 : Int32)) dX12_waits_138 (by decide) ?_
      refine z_istore (pc := 139) (lv' := [(8, .int (0 : Int32)), (0, .ref 36), (1, .int x1), (2, .int x2), (3, .int x3), (4, .int x4), (5, .int x5), (6, .int x6), (7, .int x7)]) dX12_waits_139 (by decide) rfl ?_
      refine z_lv (lv' := [(0, .ref 36), (1, .int x1), (2, .int x2), (3, .int x3), (4, .int x4), (5, .int x5), (6, .int x6), (7, .int x7), (8, .int (0 : Int32))]) [1, 2, 3, 4, 5, 6, 7, 8, 0] rfl ?_
      exact z12_waits_L141 hd (fun x1 x2 x3 x4 x5 x6 x7 σ => ih x1 x2 x3 x4 x5 x6 x7 σ) N x1 x2 x3 x4 x5 x6 x7 (0 : Int32) σ
def f12_waits_J123 (N : Nat) (x1 : Int32) (x2 : Int32) (x3 : Int32) (x4 : Int32) (x5 : Int32) (σ : am_S) : Option (Int32 × am_S) := f12_waits_L131 N N x1 x2 x3 x4 x5 ((2 : Int32) * x2) (0 : Int32) σ
theorem z12_waits_J123 {l : Launch} {E : am_E} {d : Nat} {σ0 : am_S} {N : Nat} (hd : 2 ≤ d) (x1 : Int32) (x2 : Int32) (x3 : Int32) (x4 : Int32) (x5 : Int32) (σ : am_S) : Z l E msM σ0 YX12_waits d 0 0 123 [(0, .ref 36), (1, .int x1), (2, .int x2), (3, .int x3), (4, .int x4), (5, .int x5)] [] 0 0 σ (f12_waits_J123 N x1 x2 x3 x4 x5 σ) (fun u r s => r = some (.int u.1) ∧ s = u.2) := by
  unfold f12_waits_J123
  refine z_iconst (pc := 123) (v := (2 : Int32)) dX12_waits_123 (by decide) ?_
  refine z_iload_n (pc := 124) 2 dX12_waits_124 rfl rfl ?_
  refine z_imul (pc := 125) dX12_waits_125 ?_
  refine z_istore (pc := 126) (lv' := [(6, .int ((2 : Int32) * x2)), (0, .ref 36), (1, .int x1), (2, .int x2), (3, .int x3), (4, .int x4), (5, .int x5)]) dX12_waits_126 (by decide) rfl ?_
  refine z_iconst (pc := 128) (v := (0 : Int32)) dX12_waits_128 (by decide) ?_
  refine z_istore (pc := 129) (lv' := [(7, .int (0 : Int32)), (6, .int ((2 : Int32) * x2)), (0, .ref 36), (1, .int x1), (2, .int x2), (3, .int x3), (4, .int x4), (5, .int x5)]) dX12_waits_129 (by decide) rfl ?_
  refine z_lv (lv' := [(0, .ref 36), (1, .int x1), (2, .int x2), (3, .int x3), (4, .int x4), (5, .int x5), (6, .int ((2 : Int32) * x2)), (7, .int (0 : Int32))]) [2, 3, 4, 5, 6, 7, 1, 0] rfl ?_
  exact z12_waits_L131 hd N x1 x2 x3 x4 x5 ((2 : Int32) * x2) (0 : Int32) σ
def f12_waits_L84 (N : Nat) : Nat → Int32 → Int32 → Int32 → Int32 → Int32 → Int32 → am_S → Option (Int32 × am_S)
  | 0, _, _, _, _, _, _, _ => none
  | n + 1, x1, x2, x3, x4, x5, x6, σ => if x5 ≤ x6 then (f12_waits_J123 N x1 x2 x3 x4 x5 σ) else (if am_in (((40 : Int32) * x1) + x6) 160 = true then ((f12_in ((fF σ 67 (((40 : Int32) * x1) + x6).toNatClampNeg).toInt64) (0 : Int64) (20 : Int64)).bind fun v52 => (if v52 = true then (f12_waits_L84 N n x1 x2 x3 x4 x5 (x6 + (1 : Int32)) σ) else (some ((-2 : Int32), σ)))) else none)
theorem z12_waits_L84 {l : Launch} {E : am_E} {d : Nat} {σ0 : am_S} {N : Nat} (hd : 2 ≤ d) : ∀ (n : Nat) (x1 : Int32) (x2 : Int32) (x3 : Int32) (x4 : Int32) (x5 : Int32) (x6 : Int32) (σ : am_S), Z l E msM σ0 YX12_waits d 0 0 84 [(0, .ref 36), (1, .int x1), (2, .int x2), (3, .int x3), (4, .int x4), (5, .int x5), (6, .int x6)] [] 0 0 σ (f12_waits_L84 N n x1 x2 x3 x4 x5 x6 σ) (fun u r s => r = some (.int u.1) ∧ s = u.2) := by
  intro n
  induction n with
  | zero => intros; exact z_none
  | succ n ih =>
    intro x1 x2 x3 x4 x5 x6 σ
    unfold f12_waits_L84
    refine z_iload (pc := 84) 6 dX12_waits_84 rfl ?_
    refine z_iload (pc := 86) 5 dX12_waits_86 rfl ?_
    refine z_ic_ge (pc := 88) (tgt := 123) dX12_waits_88 (by decide) (fun h24 => ?_) (fun h24 => ?_)
    · refine z_lv (lv' := [(0, .ref 36), (1, .int x1), (2, .int x2), (3, .int x3), (4, .int x4), (5, .int x5)]) [0, 1, 2, 3, 4, 5] rfl ?_
      exact z12_waits_J123 hd x1 x2 x3 x4 x5 σ
    · refine z_aload_n (pc := 91) 0 dX12_waits_91 rfl rfl ?_
      refine z_getQ (pc := 92) (b := 67) dX12_waits_92 kM36 fr_RX12_105_12 (by decide) rfl ?_
      refine z_bipush (pc := 95) (v := (40 : Int32)) dX12_waits_95 (by decide) ?_
      refine z_iload_n (pc := 97) 1 dX12_waits_97 rfl rfl ?_
      refine z_imul (pc := 98) dX12_waits_98 ?_
      refine z_iload (pc := 99) 6 dX12_waits_99 rfl ?_
      refine z_iadd (pc := 101) dX12_waits_101 ?_
      refine z_iald (pc := 102) dX12_waits_102 (am_ar.s kM67) (fun h51 => ?_)
      refine z_i2l (pc := 103) dX12_waits_103 ?_
      refine z_lconst (pc := 104) (v := (0 : Int64)) dX12_waits_104 (by decide) ?_
      refine z_ldc2 (pc := 105) (v := (20 : Int64)) dX12_waits_105 kl_RX12_353 ?_
      refine z_callB (pc := 108) [.long ((fF σ 67 (((40 : Int32) * x1) + x6).toNatClampNeg).toInt64), .long (0 : Int64), .long (20 : Int64)] [] rfl (lk_S (Yc := YX12_in) (n := 3) dX12_waits_108 rfl np_X12_in mh_RX12 (by decide) ml_RX12_134 st_X12_in in_RX12 cd_X12_in) (Nat.le_trans (by decide) hd) ⟨by decide, by decide⟩ (Nat.le_of_ble_eq_true rfl) (am_kp.rf _) (fun v52 h54 => c12_in h54) (fun v52 h54 => ?_)
      refine z_bz_ne (pc := 111) (tgt := 117) dX12_waits_111 (by decide) (fun h55 => ?_) (fun h55 => ?_)
      · refine z_iinc (pc := 117) (v := x6 + (1 : Int32)) (lv' := [(6, .int (x6 + (1 : Int32))), (0, .ref 36), (1, .int x1), (2, .int x2), (3, .int x3), (4, .int x4), (5, .int x5)]) 6 dX12_waits_117 rfl rfl (by decide) rfl ?_
        refine z_goto (pc := 120) (tgt := 84) dX12_waits_120 (by decide) ?_
        refine z_lv (lv' := [(0, .ref 36), (1, .int x1), (2, .int x2), (3, .int x3), (4, .int x4), (5, .int x5), (6, .int (x6 + (1 : Int32)))]) [1, 2, 3, 4, 5, 6, 0] rfl ?_
        exact ih x1 x2 x3 x4 x5 (x6 + (1 : Int32)) σ
      · refine z_bipush (pc := 114) (v := (-2 : Int32)) dX12_waits_114 (by decide) ?_
        exact z_rIs dX12_waits_116 rfl ⟨by decide, by decide⟩
def f12_waits (N : Nat) (σ : am_S) (x1 : Int32) (x2 : Int32) (x3 : Int32) (x4 : Int32) : Option (Int32 × am_S) := (f12_isSheet x1).bind fun v1 => (if v1 = true then ((f12_in x2.toInt64 (1 : Int64) (9 : Int64)).bind fun v5 => (if v5 = true then ((f12_in x3.toInt64 (1 : Int64) (14 : Int64)).bind fun v9 => (if v9 = true then ((f12_in x4.toInt64 (0 : Int64) (1 : Int64)).bind fun v13 => (if v13 = true then (if am_in x1 4 = true then (if fF σ 64 x1.toNatClampNeg = 0 then (some ((-11 : Int32), σ)) else (if am_in x1 4 = true then ((f12_in ((fF σ 66 x1.toNatClampNeg).toInt64) (1 : Int64) (24 : Int64)).bind fun v20 => (if v20 = true then (f12_waits_L84 N N x1 x2 x3 x4 (fF σ 66 x1.toNatClampNeg) (0 : Int32) σ) else (some ((-2 : Int32), σ)))) else none)) else none) else (some ((-2 : Int32), σ)))) else (some ((-2 : Int32), σ)))) else (some ((-2 : Int32), σ)))) else (some ((-2 : Int32), σ)))
theorem c12_waits {l : Launch} {E : am_E} {N : Nat} {σ : am_S} {x1 : Int32} {x2 : Int32} {x3 : Int32} {x4 : Int32} {v : Int32} {σ1 : am_S} (hf : f12_waits N σ x1 x2 x3 x4 = some (v, σ1)) : Ctr l E msM YX12_waits (2) 0 0 [.ref 36, .int x1, .int x2, .int x3, .int x4] σ (some (.int v)) σ1 := by
  refine ctr_of (G := fun u r s => r = some (.int u.1) ∧ s = u.2) (by decide +kernel) (Nat.le_of_ble_eq_true rfl) hf ⟨rfl, rfl⟩ (fun d hd => ?_)
  refine z_eqlv (lv' := [(0, .ref 36), (1, .int x1), (2, .int x2), (3, .int x3), (4, .int x4)]) rfl ?_
  unfold f12_waits
  refine z_iload_n (pc := 0) 1 dX12_waits_0 rfl rfl ?_
  refine z_callB (pc := 1) [.int x1] [] rfl (lk_S (Yc := YX12_isSheet) (n := 1) dX12_waits_1 rfl np_X12_isSheet mh_RX12 (by decide) ml_RX12_346 st_X12_isSheet in_RX12 cd_X12_isSheet) (Nat.le_trans (by decide) hd) ⟨by decide, by decide⟩ (Nat.le_of_ble_eq_true rfl) (am_kp.rf _) (fun v1 h3 => c12_isSheet h3) (fun v1 h3 => ?_)
  refine z_bz_eq (pc := 4) (tgt := 42) dX12_waits_4 (by decide) (fun h4 => ?_) (fun h4 => ?_)
  · refine z_iload_n (pc := 7) 2 dX12_waits_7 rfl rfl ?_
    refine z_i2l (pc := 8) dX12_waits_8 ?_
    refine z_lconst (pc := 9) (v := (1 : Int64)) dX12_waits_9 (by decide) ?_
    refine z_ldc2 (pc := 10) (v := (9 : Int64)) dX12_waits_10 kl_RX12_151 ?_
    refine z_callB (pc := 13) [.long x2.toInt64, .long (1 : Int64), .long (9 : Int64)] [] rfl (lk_S (Yc := YX12_in) (n := 3) dX12_waits_13 rfl np_X12_in mh_RX12 (by decide) ml_RX12_134 st_X12_in in_RX12 cd_X12_in) (Nat.le_trans (by decide) hd) ⟨by decide, by decide⟩ (Nat.le_of_ble_eq_true rfl) (am_kp.rf _) (fun v5 h7 => c12_in h7) (fun v5 h7 => ?_)
    refine z_bz_eq (pc := 16) (tgt := 42) dX12_waits_16 (by decide) (fun h8 => ?_) (fun h8 => ?_)
    · refine z_iload_n (pc := 19) 3 dX12_waits_19 rfl rfl ?_
      refine z_i2l (pc := 20) dX12_waits_20 ?_
      refine z_lconst (pc := 21) (v := (1 : Int64)) dX12_waits_21 (by decide) ?_
      refine z_ldc2 (pc := 22) (v := (14 : Int64)) dX12_waits_22 kl_RX12_349 ?_
      refine z_callB (pc := 25) [.long x3.toInt64, .long (1 : Int64), .long (14 : Int64)] [] rfl (lk_S (Yc := YX12_in) (n := 3) dX12_waits_25 rfl np_X12_in mh_RX12 (by decide) ml_RX12_134 st_X12_in in_RX12 cd_X12_in) (Nat.le_trans (by decide) hd) ⟨by decide, by decide⟩ (Nat.le_of_ble_eq_true rfl) (am_kp.rf _) (fun v9 h11 => c12_in h11) (fun v9 h11 => ?_)
      refine z_bz_eq (pc := 28) (tgt := 42) dX12_waits_28 (by decide) (fun h12 => ?_) (fun h12 => ?_)
      · refine z_iload (pc := 31) 4 dX12_waits_31 rfl ?_
        refine z_i2l (pc := 33) dX12_waits_33 ?_
        refine z_lconst (pc := 34) (v := (0 : Int64)) dX12_waits_34 (by decide) ?_
        refine z_lconst (pc := 35) (v := (1 : Int64)) dX12_waits_35 (by decide) ?_
        refine z_callB (pc := 36) [.long x4.toInt64, .long (0 : Int64), .long (1 : Int64)] [] rfl (lk_S (Yc := YX12_in) (n := 3) dX12_waits_36 rfl np_X12_in mh_RX12 (by decide) ml_RX12_134 st_X12_in in_RX12 cd_X12_in) (Nat.le_trans (by decide) hd) ⟨by decide, by decide⟩ (Nat.le_of_ble_eq_true rfl) (am_kp.rf _) (fun v13 h15 => c12_in h15) (fun v13 h15 => ?_)
        refine z_bz_ne (pc := 39) (tgt := 45) dX12_waits_39 (by decide) (fun h16 => ?_) (fun h16 => ?_)
        · refine z_aload_n (pc := 45) 0 dX12_waits_45 rfl rfl ?_
          refine z_getQ (pc := 46) (b := 64) dX12_waits_46 kM36 fr_RX12_95_12 (by decide) rfl ?_
          refine z_iload_n (pc := 49) 1 dX12_waits_49 rfl rfl ?_
          refine z_zald (pc := 50) dX12_waits_50 (am_ar.s kM64) (fun h17 => ?_)
          refine z_if_ne (pc := 51) (tgt := 57) dX12_waits_51 (by decide) (fun h18 => ?_) (fun h18 => ?_)
          · refine z_bipush (pc := 54) (v := (-11 : Int32)) dX12_waits_54 (by decide) ?_
            exact z_rIs dX12_waits_56 rfl ⟨by decide, by decide⟩
          · refine z_aload_n (pc := 57) 0 dX12_waits_57 rfl rfl ?_
            refine z_getQ (pc := 58) (b := 66) dX12_waits_58 kM36 fr_RX12_102_12 (by decide) rfl ?_
            refine z_iload_n (pc := 61) 1 dX12_waits_61 rfl rfl ?_
            refine z_iald (pc := 62) dX12_waits_62 (am_ar.s kM66) (fun h19 => ?_)
            refine z_istore (pc := 63) (lv' := [(5, .int (fF σ 66 x1.toNatClampNeg)), (0, .ref 36), (1, .int x1), (2, .int x2), (3, .int x3), (4, .int x4)]) dX12_waits_63 (by decide) rfl ?_
            refine z_iload (pc := 65) 0 dX12_waits_65 rfl ?_
            refine z_i2l (pc := 67) dX12_waits_67 ?_
            refine z_lconst (pc := 68) (v := (1 : Int64)) dX12_waits_68 (by decide) ?_
            refine z_ldc2 (pc := 69) (v := (24 : Int64)) dX12_waits_69 kl_RX12_351 ?_
            refine z_callB (pc := 72) [.long ((fF σ 66 x1.toNatClampNeg).toInt64), .long (1 : Int64), .long (24 : Int64)] [] rfl (lk_S (Yc := YX12_in) (n := 3) dX12_waits_72 rfl np_X12_in mh_RX12 (by decide) ml_RX12_134 st_X12_in in_RX12 cd_X12_in) (Nat.le_trans (by decide) hd) ⟨by decide, by decide⟩ (Nat.le_of_ble_eq_true rfl) (am_kp.rf _) (fun v20 h22 => c12_in h22) (fun v20 h22 => ?_)
            refine z_bz_ne (pc := 75) (tgt := 81) dX12_waits_75 (by decide) (fun h23 => ?_) (fun h23 => ?_)
            · refine z_iconst (pc := 81) (v := (0 : Int32)) dX12_waits_81 (by decide) ?_
              refine z_istore (pc := 82) (lv' := [(6, .int (0 : Int32)), (5, .int (fF σ 66 x1.toNatClampNeg)), (0, .ref 36), (1, .int x1), (2, .int x2), (3, .int x3), (4, .int x4)]) dX12_waits_82 (by decide) rfl ?_
              refine z_lv (lv' := [(0, .ref 36), (1, .int x1), (2, .int x2), (3, .int x3), (4, .int x4), (5, .int (fF σ 66 x1.toNatClampNeg)), (6, .int (0 : Int32))]) [2, 3, 4, 5, 6, 1, 0] rfl ?_
              exact z12_waits_L84 hd N x1 x2 x3 x4 (fF σ 66 x1.toNatClampNeg) (0 : Int32) σ
            · refine z_bipush (pc := 78) (v := (-2 : Int32)) dX12_waits_78 (by decide) ?_
              exact z_rIs dX12_waits_80 rfl ⟨by decide, by decide⟩
        · refine z_bipush (pc := 42) (v := (-2 : Int32)) dX12_waits_42 (by decide) ?_
          exact z_rIs dX12_waits_44 rfl ⟨by decide, by decide⟩
      · refine z_bipush (pc := 42) (v := (-2 : Int32)) dX12_waits_42 (by decide) ?_
        exact z_rIs dX12_waits_44 rfl ⟨by decide, by decide⟩
    · refine z_bipush (pc := 42) (v := (-2 : Int32)) dX12_waits_42 (by decide) ?_
      exact z_rIs dX12_waits_44 rfl ⟨by decide, by decide⟩
  · refine z_bipush (pc := 42) (v := (-2 : Int32)) dX12_waits_42 (by decide) ?_
    exact z_rIs dX12_waits_44 rfl ⟨by decide, by decide⟩
