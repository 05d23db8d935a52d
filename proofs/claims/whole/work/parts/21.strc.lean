/-! STRINGS: String's own methods -/
abbrev gC (v : Value) : Unit → Option Value → am_S → am_S → Prop := fun _ r s σ => r = some v ∧ s = σ
theorem cs_of {l : Launch} {E : am_E} {Y : am_Y} {k : Nat} {vs : List Value} {σ : am_S} {r : Option Value} (hpl : plainName Y.1.cls = true) (hlen : (lg_sl vs).length ≤ Y.2.2.1) (h : ∀ d, k ≤ d → Z l E msC σ Y d 0 0 0 (lv_args 0 vs) [] 0 0 σ (some ()) (fun _ r' s => r' = r ∧ s = σ)) : Ctr l E msC Y k 0 0 vs σ r σ :=
  ctr_of (code := some ()) (u := ()) (G := fun _ r' s => r' = r ∧ s = σ) hpl hlen rfl ⟨rfl, rfl⟩ h
theorem cs_cod {l : Launch} {E : am_E} {a : Nat} {σ : am_S} (ha : 1 ≤ a ∧ a ≤ 3) : Ctr l E msC YJ0_coder_7d493 0 0 0 [.ref a] σ (some (.int 0)) σ := by
  refine cs_of (by decide +kernel) (Nat.le_of_ble_eq_true rfl) (fun d hd => ?_)
  refine z_eqlv (lv' := [(0, .ref a)]) rfl ?_
  refine z_sgZ (pc := 0) dJ0_coder_7d493_0 fl_RJ0_38 ?_
  refine z_if_eq_f (pc := 3) (tgt := 13) dJ0_coder_7d493_3 (by decide) (by decide) ?_
  refine z_aload_n (pc := 6) 0 dJ0_coder_7d493_6 rfl rfl ?_
  refine z_scod (pc := 7) ha dJ0_coder_7d493_7 fl_RJ0_15 ?_
  refine z_goto (pc := 10) (tgt := 14) dJ0_coder_7d493_10 (by decide) ?_
  exact z_zret (pc := 14) dJ0_coder_7d493_14 rfl rfl (fun u h r σ' g => g) ⟨Nat.le_refl _, Nat.le_refl _⟩
theorem cs_lat {l : Launch} {E : am_E} {a : Nat} {σ : am_S} (ha : 1 ≤ a ∧ a ≤ 3) : Ctr l E msC YJ0_isLatin1_aae02 0 0 0 [.ref a] σ (some (.int 1)) σ := by
  refine cs_of (by decide +kernel) (Nat.le_of_ble_eq_true rfl) (fun d hd => ?_)
  refine z_eqlv (lv' := [(0, .ref a)]) rfl ?_
  refine z_sgZ (pc := 0) dJ0_isLatin1_aae02_0 fl_RJ0_38 ?_
  refine z_if_eq_f (pc := 3) (tgt := 17) dJ0_isLatin1_aae02_3 (by decide) (by decide) ?_
  refine z_aload_n (pc := 6) 0 dJ0_isLatin1_aae02_6 rfl rfl ?_
  refine z_scod (pc := 7) ha dJ0_isLatin1_aae02_7 fl_RJ0_15 ?_
  refine z_if_ne_f (pc := 10) (tgt := 17) dJ0_isLatin1_aae02_10 (by decide) rfl ?_
  refine z_iconst (pc := 13) (v := (1 : Int32)) dJ0_isLatin1_aae02_13 (by decide) ?_
  refine z_goto (pc := 14) (tgt := 18) dJ0_isLatin1_aae02_14 (by decide) ?_
  exact z_zret (pc := 18) dJ0_isLatin1_aae02_18 rfl rfl (fun u h r σ' g => g) ⟨Nat.le_refl _, Nat.le_refl _⟩
theorem cs_len {l : Launch} {E : am_E} {a : Nat} {σ : am_S} {v : Int32} (ha : 1 ≤ a ∧ a ≤ 3) (hf : s_len a = some v) : Ctr l E msC YJ0_length_8abf5 5 0 0 [.ref a] σ (some (.int v)) σ := by
  refine cs_of (by decide +kernel) (Nat.le_of_ble_eq_true rfl) (fun d hd => ?_)
  refine z_eqlv (lv' := [(0, .ref a)]) rfl ?_
  refine z_aload_n (pc := 0) 0 dJ0_length_8abf5_0 rfl rfl ?_
  refine z_sval (pc := 1) ha dJ0_length_8abf5_1 fl_RJ0_9 ?_
  refine z_blen (pc := 4) ha dJ0_length_8abf5_4 ?_
  refine z_aload_n (pc := 5) 0 dJ0_length_8abf5_5 rfl rfl ?_
  refine z_callK (pc := 6) [.ref a] [.int (nI (s_txt a).length)] rfl (lk_str (Yc := YJ0_coder_7d493) dJ0_length_8abf5_6 rfl rfl np_J0_coder_7d493 ha rfl mh_RJ0 (by decide) ml_RJ0_335 im_J0_coder_7d493 se_RJ0_J0_coder_7d493_J0_coder_7d493 in_RJ0 cd_J0_coder_7d493) (Nat.le_trans (by decide) hd) ⟨by decide, by decide⟩ (Nat.le_of_ble_eq_true rfl) (am_kp.rf _) (cs_cod ha) ?_
  refine z_ishr (pc := 9) (x := nI (s_txt a).length) (y := 0) dJ0_length_8abf5_9 ?_
  have e : nI (s_txt a).length >>> ((0 : Int32) &&& 31) = v := by
    injection hf with hf
    rw [show (0 : Int32) &&& 31 = 0 by decide, Int32.shiftRight_zero, hf]
  rw [e]
  exact z_iret (pc := 10) dJ0_length_8abf5_10 rfl (fun u h r σ' g => g) ⟨Nat.le_refl _, Nat.le_refl _⟩
theorem cs_ci3 {l : Launch} {E : am_E} {σ : am_S} {i n : Int32} {w : Value} (h0 : ¬ i < 0) (h1 : i < n) (hw : w = .null ∨ w = .ref 7) : Ctr l E msC YJ3_checkIndex_8e157 0 0 0 [.int i, .int n, w] σ (some (.int i)) σ := by
  refine cs_of (by decide +kernel) (by rcases hw with rfl | rfl <;> exact Nat.le_of_ble_eq_true rfl) (fun d hd => ?_)
  refine z_eqlv (lv' := [(0, .int i), (1, .int n), (2, w)]) (by rcases hw with rfl | rfl <;> rfl) ?_
  refine z_iload_n (pc := 0) 0 dJ3_checkIndex_8e157_0 rfl rfl ?_
  refine z_if_lt_f (pc := 1) (tgt := 9) dJ3_checkIndex_8e157_1 (by decide) h0 ?_
  refine z_iload_n (pc := 4) 0 dJ3_checkIndex_8e157_4 rfl rfl ?_
  refine z_iload_n (pc := 5) 1 dJ3_checkIndex_8e157_5 rfl rfl ?_
  refine z_ic_lt_t (pc := 6) (tgt := 16) dJ3_checkIndex_8e157_6 (by decide) h1 ?_
  refine z_iload_n (pc := 16) 0 dJ3_checkIndex_8e157_16 rfl rfl ?_
  exact z_iret (pc := 17) dJ3_checkIndex_8e157_17 rfl (fun u h r σ' g => g) ⟨Nat.le_refl _, Nat.le_refl _⟩
theorem cs_ci {l : Launch} {E : am_E} {σ : am_S} {i n : Int32} (h0 : ¬ i < 0) (h1 : i < n) : Ctr l E msC YJ0_checkIndex_df160 1 0 0 [.int i, .int n] σ none σ := by
  refine cs_of (by decide +kernel) (Nat.le_of_ble_eq_true rfl) (fun d hd => ?_)
  refine z_eqlv (lv' := [(0, .int i), (1, .int n)]) rfl ?_
  refine z_iload_n (pc := 0) 0 dJ0_checkIndex_df160_0 rfl rfl ?_
  refine z_iload_n (pc := 1) 1 dJ0_checkIndex_df160_1 rfl rfl ?_
  refine z_sgQ (pc := 2) dJ0_checkIndex_df160_2 fl_RJ0_1053 (fun w hw => ?_)
  refine z_callK (pc := 5) [.int i, .int n, w] [] rfl (lk_S (Yc := YJ3_checkIndex_8e157) dJ0_checkIndex_df160_5 rfl np_J3_checkIndex_8e157 mh_RJ3 (by decide) ml_RJ0_1059 st_J3_checkIndex_8e157 in_RJ3 cd_J3_checkIndex_8e157) hd ⟨by decide, by decide⟩ (Nat.le_of_ble_eq_true rfl) (am_kp.rf _) (cs_ci3 h0 h1 hw) ?_
  refine z_pop (pc := 8) (v := .int i) dJ0_checkIndex_df160_8 rfl ?_
  exact z_vret (pc := 9) dJ0_checkIndex_df160_9 rfl (fun u h r σ' g => g) ⟨Nat.le_refl _, Nat.le_refl _⟩
theorem s_small : ∀ a : Nat, 1 ≤ a ∧ a ≤ 3 → (s_txt a).all (fun b => b < 128) = true := by
  intro a ha
  obtain rfl | rfl | rfl : a = 1 ∨ a = 2 ∨ a = 3 := by omega
  · decide +kernel
  · decide +kernel
  · decide +kernel
theorem s_short : ∀ a : Nat, 1 ≤ a ∧ a ≤ 3 → (s_txt a).length < 100 := by
  intro a ha
  obtain rfl | rfl | rfl : a = 1 ∨ a = 2 ∨ a = 3 := by omega
  · decide +kernel
  · decide +kernel
  · decide +kernel
theorem s_char (b : Nat) (h : b < 128) : ((nI b &&& 255).toUInt32 % 65536).toInt32 = nI b ∧ narrow .char (.int (nI b)) = .int (nI b) := by
  have key : ∀ b : Fin 128, ((nI b &&& 255).toUInt32 % 65536).toInt32 = nI b ∧ narrow .char (.int (nI b)) = .int (nI b) := by decide +kernel
  exact key ⟨b, h⟩
theorem s_inlt {i : Int32} {n : Nat} (hn : n < 2 ^ 31) (h : am_in i n = true) : ¬ i < 0 ∧ i < nI n := by
  obtain ⟨h1, h2⟩ := am_vpin h
  have h0 : ¬ i < 0 := fun q => h1 (Or.inl q)
  obtain ⟨j, hj, rfl⟩ := nI_of h0
  rw [nI_clamp hj] at h2
  exact ⟨h0, (nI_ltI hj hn).mpr h2⟩
theorem cs_lat1 {l : Launch} {E : am_E} {a : Nat} {σ : am_S} {i v : Int32} (ha : 1 ≤ a ∧ a ≤ 3) (hf : s_at a i = some v) : Ctr l E msC YJ1_charAt_3b067 2 0 0 [.ref (a + 3), .int i] σ (some (.int v)) σ ∧ narrow .char (.int v) = .int v := by
  unfold s_at at hf
  split at hf
  · rename_i hin
    injection hf with hf
    have hs := List.all_eq_true.mp (s_small a ha)
    have hlt : (s_txt a).getD i.toNatClampNeg 0 < 128 := by
      rw [List.getD_eq_getElem?_getD, List.getElem?_eq_getElem (am_vpin hin).2]
      exact of_decide_eq_true (hs _ (List.getElem_mem _))
    obtain ⟨e1, e2⟩ := s_char _ hlt
    rw [hf] at e1 e2
    obtain ⟨g1, g2⟩ := s_inlt (Nat.lt_trans (s_short a ha) (by decide)) hin
    refine ⟨?_, e2⟩
    refine cs_of (by decide +kernel) (Nat.le_of_ble_eq_true rfl) (fun d hd => ?_)
    refine z_eqlv (lv' := [(0, .ref (a + 3)), (1, .int i)]) rfl ?_
    refine z_iload_n (pc := 0) 1 dJ1_charAt_3b067_0 rfl rfl ?_
    refine z_aload_n (pc := 1) 0 dJ1_charAt_3b067_1 rfl rfl ?_
    refine z_blen (pc := 2) ha dJ1_charAt_3b067_2 ?_
    refine z_callK (pc := 3) [.int i, .int (nI (s_txt a).length)] [] rfl (lk_S (Yc := YJ0_checkIndex_df160) dJ1_charAt_3b067_3 rfl np_J0_checkIndex_df160 mh_RJ0 (by decide) ml_RJ1_9 st_J0_checkIndex_df160 in_RJ0 cd_J0_checkIndex_df160) hd ⟨by decide, by decide⟩ (Nat.le_of_ble_eq_true rfl) (am_kp.rf _) (cs_ci g1 g2) ?_
    refine z_aload_n (pc := 6) 0 dJ1_charAt_3b067_6 rfl rfl ?_
    refine z_iload_n (pc := 7) 1 dJ1_charAt_3b067_7 rfl rfl ?_
    refine z_bbld (pc := 8) ha hin dJ1_charAt_3b067_8 ?_
    refine z_sipush (pc := 9) (v := (255 : Int32)) dJ1_charAt_3b067_9 (by decide) ?_
    refine z_iand (pc := 12) dJ1_charAt_3b067_12 ?_
    refine z_i2c (pc := 13) dJ1_charAt_3b067_13 ?_
    rw [hf, e1]
    exact z_zret (pc := 14) dJ1_charAt_3b067_14 rfl e2 (fun u h r σ' g => g) ⟨Nat.le_refl _, Nat.le_refl _⟩
  · exact absurd hf (by simp)
theorem cs_at {l : Launch} {E : am_E} {a : Nat} {i : Int32} {σ : am_S} {v : Int32} (ha : 1 ≤ a ∧ a ≤ 3) (hf : s_at a i = some v) : Ctr l E msC YJ0_charAt_5068e 6 0 0 [.ref a, .int i] σ (some (.int v)) σ := by
  obtain ⟨hc, hn⟩ := cs_lat1 (l := l) (E := E) (σ := σ) ha hf
  refine cs_of (by decide +kernel) (Nat.le_of_ble_eq_true rfl) (fun d hd => ?_)
  refine z_eqlv (lv' := [(0, .ref a), (1, .int i)]) rfl ?_
  refine z_aload_n (pc := 0) 0 dJ0_charAt_5068e_0 rfl rfl ?_
  refine z_callK (pc := 1) [.ref a] [] rfl (lk_str (Yc := YJ0_isLatin1_aae02) dJ0_charAt_5068e_1 rfl rfl np_J0_isLatin1_aae02 ha rfl mh_RJ0 (by decide) ml_RJ0_492 im_J0_isLatin1_aae02 se_RJ0_J0_isLatin1_aae02_J0_isLatin1_aae02 in_RJ0 cd_J0_isLatin1_aae02) (Nat.le_trans (by decide) hd) ⟨by decide, by decide⟩ (Nat.le_of_ble_eq_true rfl) (am_kp.rf _) (cs_lat ha) ?_
  refine z_if_eq_f (pc := 4) (x := 1) (tgt := 16) dJ0_charAt_5068e_4 (by decide) (by decide) ?_
  refine z_aload_n (pc := 7) 0 dJ0_charAt_5068e_7 rfl rfl ?_
  refine z_sval (pc := 8) ha dJ0_charAt_5068e_8 fl_RJ0_9 ?_
  refine z_iload_n (pc := 11) 1 dJ0_charAt_5068e_11 rfl rfl ?_
  refine z_callK (pc := 12) [.ref (a + 3), .int i] [] rfl (lk_S (Yc := YJ1_charAt_3b067) dJ0_charAt_5068e_12 rfl np_J1_charAt_3b067 mh_RJ1 (by decide) ml_RJ0_495 st_J1_charAt_3b067 in_RJ1 cd_J1_charAt_3b067) (Nat.le_trans (by decide) hd) ⟨by decide, by decide⟩ (Nat.le_of_ble_eq_true rfl) (am_kp.rf _) hc ?_
  exact z_zret (pc := 15) dJ0_charAt_5068e_15 rfl hn (fun u h r σ' g => g) ⟨Nat.le_refl _, Nat.le_refl _⟩
theorem am_lkX10_joined {x : Int32} (h1 : ¬ x = 9) (h2 : ¬ x = 10) (h3 : ¬ x = 43) (h4 : ¬ x = 45) (h5 : ¬ x = 60) (h6 : ¬ x = 61) : Op.lookupswitch.offset (#[(9, 59), (10, 73), (43, 109), (45, 113), (60, 87), (61, 98)] : Array (Int × Int)).toList 117 x.toInt = 117 := by
  show Op.lookupswitch.offset [(9, 59), (10, 73), (43, 109), (45, 113), (60, 87), (61, 98)] 117 x.toInt = 117
  rw [lv_osw h1 (by decide), lv_osw h2 (by decide), lv_osw h3 (by decide), lv_osw h4 (by decide), lv_osw h5 (by decide), lv_osw h6 (by decide)]
  rfl
