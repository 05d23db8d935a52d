/-! STRINGS: indexOf -/
def s_can (c : Int32) : Bool := decide (0 ≤ c) && decide (c ≤ 255)
theorem cs_can {l : Launch} {E : am_E} {σ : am_S} {c : Int32} : Ctr l E msC YJ1_canEncode_9a6ad 0 0 0 [.int c] σ (some (.int (bI (s_can c)))) σ := by
  refine cs_of (by decide +kernel) (Nat.le_of_ble_eq_true rfl) (fun d hd => ?_)
  refine z_eqlv (lv' := [(0, .int c)]) rfl ?_
  refine z_iload_n (pc := 0) 0 dJ1_canEncode_9a6ad_0 rfl rfl ?_
  by_cases h0 : c < 0
  · have e : s_can c = false := by
      unfold s_can
      rw [decide_eq_false (Int32.not_le.mpr h0), Bool.false_and]
    rw [e]
    refine z_if_lt_t (pc := 1) (tgt := 15) dJ1_canEncode_9a6ad_1 (by decide) h0 ?_
    refine z_iconst (pc := 15) (v := (0 : Int32)) dJ1_canEncode_9a6ad_15 (by decide) ?_
    exact z_zret (pc := 16) dJ1_canEncode_9a6ad_16 rfl rfl (fun u h r σ' g => g) ⟨Nat.le_refl _, Nat.le_refl _⟩
  · refine z_if_lt_f (pc := 1) (tgt := 15) dJ1_canEncode_9a6ad_1 (by decide) h0 ?_
    refine z_iload_n (pc := 4) 0 dJ1_canEncode_9a6ad_4 rfl rfl ?_
    refine z_sipush (pc := 5) (v := (255 : Int32)) dJ1_canEncode_9a6ad_5 (by decide) ?_
    by_cases h1 : (255 : Int32) < c
    · have e : s_can c = false := by
        unfold s_can
        rw [decide_eq_false (p := c ≤ 255) (Int32.not_le.mpr h1), Bool.and_false]
      rw [e]
      refine z_ic_gt_t (pc := 8) (tgt := 15) dJ1_canEncode_9a6ad_8 (by decide) h1 ?_
      refine z_iconst (pc := 15) (v := (0 : Int32)) dJ1_canEncode_9a6ad_15 (by decide) ?_
      exact z_zret (pc := 16) dJ1_canEncode_9a6ad_16 rfl rfl (fun u h r σ' g => g) ⟨Nat.le_refl _, Nat.le_refl _⟩
    · have e : s_can c = true := by
        unfold s_can
        rw [decide_eq_true (Int32.not_lt.mp h0), decide_eq_true (Int32.not_lt.mp h1), Bool.and_true]
      rw [e]
      refine z_ic_gt_f (pc := 8) (tgt := 15) dJ1_canEncode_9a6ad_8 (by decide) h1 ?_
      refine z_iconst (pc := 11) (v := (1 : Int32)) dJ1_canEncode_9a6ad_11 (by decide) ?_
      refine z_goto (pc := 12) (tgt := 16) dJ1_canEncode_9a6ad_12 (by decide) ?_
      exact z_zret (pc := 16) dJ1_canEncode_9a6ad_16 rfl rfl (fun u h r σ' g => g) ⟨Nat.le_refl _, Nat.le_refl _⟩
theorem s_i2b {c : Int32} (hc : s_can c = true) {b : Nat} (hb : b < 128) : nI b = c.toInt8.toInt32 ↔ nI b = c := by
  unfold s_can at hc
  simp only [Bool.and_eq_true, decide_eq_true_eq] at hc
  obtain ⟨j, hj, rfl⟩ := nI_of2 (n := 255) (M := 255) rfl (Int32.not_lt.mpr hc.1) hc.2
  have key : ∀ j : Fin 256, (j.val < 128 ∧ (nI j).toInt8.toInt32 = nI j) ∨ (128 ≤ j.val ∧ (nI j).toInt8.toInt32 < 0) := by decide +kernel
  rcases key ⟨j, by omega⟩ with ⟨_, e⟩ | ⟨e1, e2⟩
  · rw [show (nI j).toInt8.toInt32 = nI j from e]
  · refine ⟨fun h => ?_, fun h => ?_⟩
    · have e2' : (nI j).toInt8.toInt32 < 0 := e2
      rw [← h] at e2'
      exact absurd e2' (nI_pos (by omega))
    · have e1' : 128 ≤ j := e1
      have := (nI_eq (a := b) (b := j) (by omega) (by omega)).mp h
      omega
theorem s_ixN {c : Int32} : ∀ (l : List Nat) (k : Nat), (∀ b ∈ l, ¬ nI b = c) → s_ixF c l k = -1
  | [], _, _ => rfl
  | b :: l, k, h => by
    unfold s_ixF
    rw [if_neg (h b (List.mem_cons_self ..))]
    exact s_ixN l (k + 1) (fun x hx => h x (List.mem_cons_of_mem _ hx))
theorem zs_ioc {l : Launch} {E : am_E} {d : Nat} {a : Nat} {σ0 σ : am_S} {c : Int32} (ha : 1 ≤ a ∧ a ≤ 3) (hc : s_can c = true) : ∀ (n k : Nat), k + n = (s_txt a).length → Z l E msC σ0 YJ1_indexOfChar_4cfef d 0 0 7 [(0, .ref (a + 3)), (1, .int c), (2, .int (0 : Int32)), (3, .int (nI (s_txt a).length)), (4, .int c.toInt8.toInt32), (5, .int (nI k))] [] 0 0 σ (some ()) (fun _ r s => r = some (.int (s_ixF c ((s_txt a).drop k) k)) ∧ s = σ) := by
  have hsh := s_short a ha
  intro n
  induction n with
  | zero =>
    intro k hk
    rw [List.drop_eq_nil_of_le (by omega)]
    refine z_iload (pc := 7) 5 dJ1_indexOfChar_4cfef_7 rfl ?_
    refine z_iload_n (pc := 9) 3 dJ1_indexOfChar_4cfef_9 rfl rfl ?_
    refine z_ic_ge_t (pc := 10) (tgt := 31) dJ1_indexOfChar_4cfef_10 (by decide) (nI_le (by omega) (by omega)) ?_
    refine z_iconst (pc := 31) (v := (-1 : Int32)) dJ1_indexOfChar_4cfef_31 (by decide) ?_
    exact z_iret (pc := 32) dJ1_indexOfChar_4cfef_32 rfl (fun u h r σ' g => g) ⟨Nat.le_refl _, Nat.le_refl _⟩
  | succ n ih =>
    intro k hk
    have hlt : k < (s_txt a).length := by omega
    have hin : am_in (nI k) (s_txt a).length = true := by
      unfold am_in
      rw [decide_eq_true (nI_pos' (by omega)), nI_clamp (by omega), decide_eq_true hlt]
      rfl
    rw [List.drop_eq_getElem_cons hlt]
    unfold s_ixF
    have hg : (s_txt a).getD k 0 = (s_txt a)[k] := by
      rw [List.getD_eq_getElem?_getD, List.getElem?_eq_getElem hlt]; rfl
    have hb : (s_txt a)[k] < 128 := of_decide_eq_true (List.all_eq_true.mp (s_small a ha) _ (List.getElem_mem _))
    refine z_iload (pc := 7) 5 dJ1_indexOfChar_4cfef_7 rfl ?_
    refine z_iload_n (pc := 9) 3 dJ1_indexOfChar_4cfef_9 rfl rfl ?_
    refine z_ic_ge_f (pc := 10) (tgt := 31) dJ1_indexOfChar_4cfef_10 (by decide) (nI_ge hlt (by omega)) ?_
    refine z_aload_n (pc := 13) 0 dJ1_indexOfChar_4cfef_13 rfl rfl ?_
    refine z_iload (pc := 14) 5 dJ1_indexOfChar_4cfef_14 rfl ?_
    refine z_bbld (pc := 16) ha hin dJ1_indexOfChar_4cfef_16 ?_
    rw [nI_clamp (by omega), hg]
    refine z_iload (pc := 17) 4 dJ1_indexOfChar_4cfef_17 rfl ?_
    by_cases he : nI (s_txt a)[k] = c
    · rw [if_pos he]
      refine z_ic_ne_f (pc := 19) (tgt := 25) dJ1_indexOfChar_4cfef_19 (by decide) ((s_i2b hc hb).mpr he) ?_
      refine z_iload (pc := 22) 5 dJ1_indexOfChar_4cfef_22 rfl ?_
      exact z_iret (pc := 24) dJ1_indexOfChar_4cfef_24 rfl (fun u h r σ' g => g) ⟨Nat.le_refl _, Nat.le_refl _⟩
    · rw [if_neg he]
      refine z_ic_ne_t (pc := 19) (tgt := 25) dJ1_indexOfChar_4cfef_19 (by decide) (fun h => he ((s_i2b hc hb).mp h)) ?_
      refine z_iinc (pc := 25) (v := nI (k + 1)) (lv' := [(5, .int (nI (k + 1))), (0, .ref (a + 3)), (1, .int c), (2, .int (0 : Int32)), (3, .int (nI (s_txt a).length)), (4, .int c.toInt8.toInt32)]) 5 dJ1_indexOfChar_4cfef_25 rfl (nI_succ k).symm (by decide) rfl ?_
      refine z_goto (pc := 28) (tgt := 7) dJ1_indexOfChar_4cfef_28 (by decide) ?_
      refine z_lv (lv' := [(0, .ref (a + 3)), (1, .int c), (2, .int (0 : Int32)), (3, .int (nI (s_txt a).length)), (4, .int c.toInt8.toInt32), (5, .int (nI (k + 1)))]) [1, 2, 3, 4, 5, 0] rfl ?_
      exact ih (k + 1) (by omega)
theorem cs_ioc {l : Launch} {E : am_E} {a : Nat} {σ : am_S} {c : Int32} (ha : 1 ≤ a ∧ a ≤ 3) (hc : s_can c = true) : Ctr l E msC YJ1_indexOfChar_4cfef 0 0 0 [.ref (a + 3), .int c, .int (0 : Int32), .int (nI (s_txt a).length)] σ (some (.int (s_ixF c (s_txt a) 0))) σ := by
  refine cs_of (by decide +kernel) (Nat.le_of_ble_eq_true rfl) (fun d hd => ?_)
  refine z_eqlv (lv' := [(0, .ref (a + 3)), (1, .int c), (2, .int (0 : Int32)), (3, .int (nI (s_txt a).length))]) rfl ?_
  refine z_iload_n (pc := 0) 1 dJ1_indexOfChar_4cfef_0 rfl rfl ?_
  refine z_i2b (pc := 1) dJ1_indexOfChar_4cfef_1 ?_
  refine z_istore (pc := 2) (lv' := [(4, .int c.toInt8.toInt32), (0, .ref (a + 3)), (1, .int c), (2, .int (0 : Int32)), (3, .int (nI (s_txt a).length))]) dJ1_indexOfChar_4cfef_2 (by decide) rfl ?_
  refine z_iload_n (pc := 4) 3 dJ1_indexOfChar_4cfef_4 rfl rfl ?_
  refine z_istore (pc := 5) (lv' := [(5, .int (0 : Int32)), (4, .int c.toInt8.toInt32), (0, .ref (a + 3)), (1, .int c), (2, .int (0 : Int32)), (3, .int (nI (s_txt a).length))]) dJ1_indexOfChar_4cfef_5 (by decide) rfl ?_
  refine z_lv (lv' := [(0, .ref (a + 3)), (1, .int c), (2, .int (0 : Int32)), (3, .int (nI (s_txt a).length)), (4, .int c.toInt8.toInt32), (5, .int (nI 0))]) [2, 3, 4, 5, 1, 0] rfl ?_
  exact zs_ioc ha hc (s_txt a).length 0 (Nat.zero_add _)
theorem cs_io4 {l : Launch} {E : am_E} {a : Nat} {σ : am_S} {c : Int32} (ha : 1 ≤ a ∧ a ≤ 3) : Ctr l E msC YJ1_indexOf_4cfef 1 0 0 [.ref (a + 3), .int c, .int (0 : Int32), .int (nI (s_txt a).length)] σ (some (.int (s_ixF c (s_txt a) 0))) σ := by
  have hsh := s_short a ha
  have hps : 0 < (s_txt a).length := by
    obtain rfl | rfl | rfl : a = 1 ∨ a = 2 ∨ a = 3 := by omega
    · decide +kernel
    · decide +kernel
    · decide +kernel
  refine cs_of (by decide +kernel) (Nat.le_of_ble_eq_true rfl) (fun d hd => ?_)
  refine z_eqlv (lv' := [(0, .ref (a + 3)), (1, .int c), (2, .int (0 : Int32)), (3, .int (nI (s_txt a).length))]) rfl ?_
  refine z_iload_n (pc := 0) 1 dJ1_indexOf_4cfef_0 rfl rfl ?_
  refine z_callK (pc := 1) [.int c] [] rfl (lk_S (Yc := YJ1_canEncode_9a6ad) dJ1_indexOf_4cfef_1 rfl np_J1_canEncode_9a6ad mh_RJ1 (by decide) ml_RJ1_88 st_J1_canEncode_9a6ad in_RJ1 cd_J1_canEncode_9a6ad) hd ⟨by decide, by decide⟩ (Nat.le_of_ble_eq_true rfl) (am_kp.rf _) cs_can ?_
  by_cases hc : s_can c = true
  · rw [hc]
    refine z_if_ne_t (pc := 4) (x := 1) (tgt := 9) dJ1_indexOf_4cfef_4 (by decide) (by decide) ?_
    refine z_iload_n (pc := 9) 2 dJ1_indexOf_4cfef_9 rfl rfl ?_
    refine z_iconst (pc := 10) (v := (0 : Int32)) dJ1_indexOf_4cfef_10 (by decide) ?_
    refine z_max (pc := 11) dJ1_indexOf_4cfef_11 ml_RJ1_92 st_math_max in_math cd_math_max hd (Nat.le_of_ble_eq_true rfl) ⟨by decide, by decide⟩ ?_
    rw [if_neg (Int32.lt_irrefl (a := 0))]
    refine z_istore_n (pc := 14) (x := 0) (lv' := [(2, .int (0 : Int32)), (0, .ref (a + 3)), (1, .int c), (3, .int (nI (s_txt a).length))]) dJ1_indexOf_4cfef_14 rfl (by decide) rfl ?_
    refine z_iload_n (pc := 15) 3 dJ1_indexOf_4cfef_15 rfl rfl ?_
    refine z_aload_n (pc := 16) 1 dJ1_indexOf_4cfef_16 rfl rfl ?_
    refine z_blen (pc := 17) ha dJ1_indexOf_4cfef_17 ?_
    refine z_min (pc := 18) dJ1_indexOf_4cfef_18 ml_RJ1_38 st_math_min in_math cd_math_min hd (Nat.le_of_ble_eq_true rfl) ⟨by decide, by decide⟩ ?_
    rw [if_neg (Int32.lt_irrefl (a := nI (s_txt a).length))]
    refine z_istore_n (pc := 21) (x := nI (s_txt a).length) (lv' := [(3, .int (nI (s_txt a).length)), (2, .int (0 : Int32)), (0, .ref (a + 3)), (1, .int c)]) dJ1_indexOf_4cfef_21 rfl (by decide) rfl ?_
    refine z_iload_n (pc := 22) 1 dJ1_indexOf_4cfef_22 rfl rfl ?_
    refine z_iload_n (pc := 23) 0 dJ1_indexOf_4cfef_23 rfl rfl ?_
    refine z_ic_lt_t (pc := 24) (tgt := 29) dJ1_indexOf_4cfef_24 (by decide) (nI_lt (a := 0) hps (by omega)) ?_
    refine z_aload_n (pc := 29) 2 dJ1_indexOf_4cfef_29 rfl rfl ?_
    refine z_iload_n (pc := 30) 3 dJ1_indexOf_4cfef_30 rfl rfl ?_
    refine z_iload_n (pc := 31) 1 dJ1_indexOf_4cfef_31 rfl rfl ?_
    refine z_iload_n (pc := 32) 0 dJ1_indexOf_4cfef_32 rfl rfl ?_
    refine z_callK (pc := 33) [.ref (a + 3), .int c, .int (0 : Int32), .int (nI (s_txt a).length)] [] rfl (lk_S (Yc := YJ1_indexOfChar_4cfef) dJ1_indexOf_4cfef_33 rfl np_J1_indexOfChar_4cfef mh_RJ1 (by decide) ml_RJ1_95 st_J1_indexOfChar_4cfef in_RJ1 cd_J1_indexOfChar_4cfef) hd ⟨by decide, by decide⟩ (Nat.le_of_ble_eq_true rfl) (am_kp.rf _) (cs_ioc ha hc) ?_
    exact z_iret (pc := 36) dJ1_indexOf_4cfef_36 rfl (fun u h r σ' g => g) ⟨Nat.le_refl _, Nat.le_refl _⟩
  · have hcf : s_can c = false := by simpa using hc
    have hn : s_ixF c (s_txt a) 0 = -1 := by
      refine s_ixN _ _ fun b hb h => hc ?_
      have hb1 : b < 128 := of_decide_eq_true (List.all_eq_true.mp (s_small a ha) _ hb)
      rw [← h]
      unfold s_can
      rw [decide_eq_true (nI_pos' (by omega)), decide_eq_true (p := nI b ≤ 255) (nI_le (b := 255) (by omega) (by decide))]
      rfl
    rw [hcf, hn]
    refine z_if_ne_f (pc := 4) (x := 0) (tgt := 9) dJ1_indexOf_4cfef_4 (by decide) rfl ?_
    refine z_iconst (pc := 7) (v := (-1 : Int32)) dJ1_indexOf_4cfef_7 (by decide) ?_
    exact z_iret (pc := 8) dJ1_indexOf_4cfef_8 rfl (fun u h r σ' g => g) ⟨Nat.le_refl _, Nat.le_refl _⟩
theorem cs_ix2 {l : Launch} {E : am_E} {a : Nat} {σ : am_S} {c : Int32} (ha : 1 ≤ a ∧ a ≤ 3) : Ctr l E msC YJ0_indexOf_7cf53 6 0 0 [.ref a, .int c, .int (0 : Int32)] σ (some (.int (s_ixF c (s_txt a) 0))) σ := by
  refine cs_of (by decide +kernel) (Nat.le_of_ble_eq_true rfl) (fun d hd => ?_)
  refine z_eqlv (lv' := [(0, .ref a), (1, .int c), (2, .int (0 : Int32))]) rfl ?_
  refine z_aload_n (pc := 0) 0 dJ0_indexOf_7cf53_0 rfl rfl ?_
  refine z_callK (pc := 1) [.ref a] [] rfl (lk_str (Yc := YJ0_isLatin1_aae02) dJ0_indexOf_7cf53_1 rfl rfl np_J0_isLatin1_aae02 ha rfl mh_RJ0 (by decide) ml_RJ0_492 im_J0_isLatin1_aae02 se_RJ0_J0_isLatin1_aae02_J0_isLatin1_aae02 in_RJ0 cd_J0_isLatin1_aae02) (Nat.le_trans (by decide) hd) ⟨by decide, by decide⟩ (Nat.le_of_ble_eq_true rfl) (am_kp.rf _) (cs_lat ha) ?_
  refine z_if_eq_f (pc := 4) (x := 1) (tgt := 23) dJ0_indexOf_7cf53_4 (by decide) (by decide) ?_
  refine z_aload_n (pc := 7) 0 dJ0_indexOf_7cf53_7 rfl rfl ?_
  refine z_sval (pc := 8) ha dJ0_indexOf_7cf53_8 fl_RJ0_9 ?_
  refine z_iload_n (pc := 11) 1 dJ0_indexOf_7cf53_11 rfl rfl ?_
  refine z_iload_n (pc := 12) 2 dJ0_indexOf_7cf53_12 rfl rfl ?_
  refine z_aload_n (pc := 13) 0 dJ0_indexOf_7cf53_13 rfl rfl ?_
  refine z_callK (pc := 14) [.ref a] [.int (0 : Int32), .int c, .ref (a + 3)] rfl (lk_str (Yc := YJ0_length_8abf5) dJ0_indexOf_7cf53_14 rfl rfl np_J0_length_8abf5 ha rfl mh_RJ0 (by decide) ml_RJ0_505 im_J0_length_8abf5 se_RJ0_J0_length_8abf5_J0_length_8abf5 in_RJ0 cd_J0_length_8abf5) hd ⟨by decide, by decide⟩ (Nat.le_of_ble_eq_true rfl) (am_kp.rf _) (cs_len ha rfl) ?_
  refine z_callK (pc := 17) [.ref (a + 3), .int c, .int (0 : Int32), .int (nI (s_txt a).length)] [] rfl (lk_S (Yc := YJ1_indexOf_4cfef) dJ0_indexOf_7cf53_17 rfl np_J1_indexOf_4cfef mh_RJ1 (by decide) ml_RJ0_637 st_J1_indexOf_4cfef in_RJ1 cd_J1_indexOf_4cfef) (Nat.le_trans (by decide) hd) ⟨by decide, by decide⟩ (Nat.le_of_ble_eq_true rfl) (am_kp.rf _) (cs_io4 ha) ?_
  refine z_goto (pc := 20) (tgt := 36) dJ0_indexOf_7cf53_20 (by decide) ?_
  exact z_iret (pc := 36) dJ0_indexOf_7cf53_36 rfl (fun u h r σ' g => g) ⟨Nat.le_refl _, Nat.le_refl _⟩
theorem cs_ix {l : Launch} {E : am_E} {a : Nat} {i : Int32} {σ : am_S} {v : Int32} (ha : 1 ≤ a ∧ a ≤ 3) (hf : s_ix a i = some v) : Ctr l E msC YJ0_indexOf_0f7a4 7 0 0 [.ref a, .int i] σ (some (.int v)) σ := by
  injection hf with hf
  subst hf
  refine cs_of (by decide +kernel) (Nat.le_of_ble_eq_true rfl) (fun d hd => ?_)
  refine z_eqlv (lv' := [(0, .ref a), (1, .int i)]) rfl ?_
  refine z_aload_n (pc := 0) 0 dJ0_indexOf_0f7a4_0 rfl rfl ?_
  refine z_iload_n (pc := 1) 1 dJ0_indexOf_0f7a4_1 rfl rfl ?_
  refine z_iconst (pc := 2) (v := (0 : Int32)) dJ0_indexOf_0f7a4_2 (by decide) ?_
  refine z_callK (pc := 3) [.ref a, .int i, .int (0 : Int32)] [] rfl (lk_str (Yc := YJ0_indexOf_7cf53) dJ0_indexOf_0f7a4_3 rfl rfl np_J0_indexOf_7cf53 ha rfl mh_RJ0 (by decide) ml_RJ0_633 im_J0_indexOf_7cf53 se_RJ0_J0_indexOf_7cf53_J0_indexOf_7cf53 in_RJ0 cd_J0_indexOf_7cf53) hd ⟨by decide, by decide⟩ (Nat.le_of_ble_eq_true rfl) (am_kp.rf _) (cs_ix2 ha) ?_
  exact z_iret (pc := 6) dJ0_indexOf_0f7a4_6 rfl (fun u h r σ' g => g) ⟨Nat.le_refl _, Nat.le_refl _⟩
