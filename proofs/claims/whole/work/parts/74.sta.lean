/-! THE START: the first rule is read; class and model begin alike -/
def st_L : List Nat := [108, 111, 97, 100, 32, 49, 52, 32, 45, 32, 116, 105, 100, 101, 32, 59, 32, 112, 114, 105, 99, 101, 32, 49, 48, 32, 45, 32, 104, 101, 97, 100, 115, 32, 42, 32, 56, 32, 59, 32, 116, 117, 114, 110, 32, 48, 32, 45, 32, 116, 117, 114, 110, 115, 32, 59]
def st_b (i : Nat) : Nat := st_L.getD i 0
theorem st_txt : s_txt 1 = st_L := by decide +kernel
theorem st_lt : ∀ i, i < 56 → st_b i < 128 := by decide +kernel
theorem st_ok : (match tx_T st_b 56 with | .inl _ => false | .inr _ => true) = true := by decide +kernel
theorem st_by : ∀ b, b < 128 → (fd_y (nI b).toInt64 0).toInt32.toInt8.toInt32 = tx_sb b := by decide +kernel
/-- the signs, one by one -/
theorem st_add {N : Nat} (hN : 200 ≤ N) : ∀ d i n' (σ : am_S), i + d = 56 → d < n' → fF σ 11 1 = nI i → (∀ j, j < i → fF σ 12 j = tx_sb (st_b j)) → ∃ σ', f10_addSigns_L2 N n' (nI i) σ = some σ' ∧ w_P σ σ' ∧ q_Ag (fun a k => a = 12 ∨ (a = 11 ∧ k = 1)) σ σ' ∧ fF σ' 11 1 = nI 56 ∧ ∀ j, j < 56 → fF σ' 12 j = tx_sb (st_b j) := by
  intro d
  induction d with
  | zero =>
    intro i n' σ hi hn e h
    obtain ⟨n', rfl⟩ : ∃ m, n' = m + 1 := ⟨n' - 1, by omega⟩
    have : i = 56 := by omega
    subst this
    refine ⟨σ, ?_, w_P.rf σ, q_Ag.rf σ, e, h⟩
    unfold f10_addSigns_L2 s_len
    rw [st_txt, Option.bind_some, if_pos (show nI st_L.length ≤ nI 56 from nI_le (Nat.le_refl _) (by omega))]
  | succ d ih =>
    intro i n' σ hi hn e h
    obtain ⟨n', rfl⟩ : ∃ m, n' = m + 1 := ⟨n' - 1, by omega⟩
    have hi56 : i < 56 := by omega
    obtain ⟨σ1, e1, g1, f1, v1⟩ := fd_c N (k := 1) (l := (nI (st_b i)).toInt64) (by omega) 1 0 i N σ (by omega) (by omega) (by omega) e
    have g1' : q_Ag (fun a k => a = 12 ∨ (a = 11 ∧ k = 1)) σ σ1 := g1.wk (fun a p x => by omega)
    have v1' := v1 0 (by omega)
    rw [Nat.add_zero, Nat.add_zero, st_by _ (st_lt i hi56)] at v1'
    obtain ⟨σ2, e2, p2, g2, f2, v2⟩ := ih (i + 1) n' σ1 (by omega) (by omega) f1 (fun j hj => by
      by_cases c : j = i
      · rw [c]; exact v1'
      · rw [(g1.2 12 j (by omega)).1]; exact h j (by omega))
    have e1' : f10_addBytes N σ (1 : Int32) (nI (st_b i)).toInt64 = some (nI (i + 1), σ1) := by
      unfold f10_addBytes
      rw [e, if_pos (q_le.mpr (by
        have : ((160 : Int32) - nI i).toInt = (160 : Int) - i := pk_sub_toInt (a := 160) (b := i) (by omega) (by omega)
        rw [this]
        show (1 : Int) ≤ _
        omega))]
      exact e1
    have p1 : w_P σ σ1 := w_ab18 N 1 _ 0 σ (w_P.rf σ) _ e1
    refine ⟨σ2, ?_, p1.tr p2, g1'.tr g2, f2, v2⟩
    unfold f10_addSigns_L2 s_len s_at
    rw [st_txt, Option.bind_some, if_neg (show ¬ nI st_L.length ≤ nI i from nI_ge (b := 56) hi56 (by omega)), if_pos (show am_in (nI i) st_L.length = true from q_in (n := 56) hi56 (by omega)), Option.bind_some, nI_clamp (by omega), show st_L.getD i 0 = st_b i from rfl, e1', Option.bind_some, nI_1]
    exact e2
/-- the model's words -/
theorem st_sp {N : Nat} {x : Nat} {l : Int64} (hx : x ≤ 48) (hl : ∀ i, i < 8 → ((l >>> (((56 : Int32) - ((8 : Int32) * nI i)).toInt64 &&& 63)) &&& (255 : Int64)).toInt32 = nI (st_b (x + i))) : ∀ d i n' (σ : am_S), i + d = 8 → d < n' → (∀ j, j < x + i → fF σ 37 j = nI (st_b j)) → ∃ σ', f12_spell_L3 N n' (nI x) l (nI i) σ = some σ' ∧ w_P σ σ' ∧ q_Ag (fun a _ => a = 37) σ σ' ∧ ∀ j, j < x + 8 → fF σ' 37 j = nI (st_b j) := by
  intro d
  induction d with
  | zero =>
    intro i n' σ hi hn h
    obtain ⟨n', rfl⟩ : ∃ m, n' = m + 1 := ⟨n' - 1, by omega⟩
    have : i = 8 := by omega
    subst this
    refine ⟨σ, ?_, w_P.rf σ, q_Ag.rf σ, h⟩
    unfold f12_spell_L3
    rw [if_pos (show (8 : Int32) ≤ nI 8 by decide)]
  | succ d ih =>
    intro i n' σ hi hn h
    obtain ⟨n', rfl⟩ : ∃ m, n' = m + 1 := ⟨n' - 1, by omega⟩
    obtain ⟨σ', e, p, g, v⟩ := ih (i + 1) n' (sF σ 37 (x + i) (nI (st_b (x + i)))) (by omega) (by omega) (fun j hj => by
      by_cases c : j = x + i
      · rw [c, q_FFe]
      · rw [q_FFk c]; exact h j (by omega))
    refine ⟨σ', ?_, (w_P.rf σ).sF.tr p, ((q_Ag.rf σ).sF (S := fun a _ => a = 37) rfl).tr g, v⟩
    unfold f12_spell_L3
    rw [if_neg (show ¬ (8 : Int32) ≤ nI i from nI_ge (b := 8) (by omega) (by omega)), nI_add, if_pos (q_in (by omega) (by omega)), nI_clamp (by omega), hl i (by omega), nI_1]
    exact e
theorem st_w0 : ∀ i, i < 8 → (((7813570961175819296 : Int64) >>> (((56 : Int32) - ((8 : Int32) * nI i)).toInt64 &&& 63)) &&& (255 : Int64)).toInt32 = nI (st_b (0 + i)) := by decide +kernel
theorem st_w1 : ∀ i, i < 8 → (((3251726926966235195 : Int64) >>> (((56 : Int32) - ((8 : Int32) * nI i)).toInt64 &&& 63)) &&& (255 : Int64)).toInt32 = nI (st_b (8 + i)) := by decide +kernel
theorem st_w2 : ∀ i, i < 8 → (((2337494003569991729 : Int64) >>> (((56 : Int32) - ((8 : Int32) * nI i)).toInt64 &&& 63)) &&& (255 : Int64)).toInt32 = nI (st_b (16 + i)) := by decide +kernel
theorem st_w3 : ∀ i, i < 8 → (((3467821330288959844 : Int64) >>> (((56 : Int32) - ((8 : Int32) * nI i)).toInt64 &&& 63)) &&& (255 : Int64)).toInt32 = nI (st_b (24 + i)) := by decide +kernel
theorem st_w4 : ∀ i, i < 8 → (((8295676831485410080 : Int64) >>> (((56 : Int32) - ((8 : Int32) * nI i)).toInt64 &&& 63)) &&& (255 : Int64)).toInt32 = nI (st_b (32 + i)) := by decide +kernel
theorem st_w5 : ∀ i, i < 8 → (((8391739297986781229 : Int64) >>> (((56 : Int32) - ((8 : Int32) * nI i)).toInt64 &&& 63)) &&& (255 : Int64)).toInt32 = nI (st_b (40 + i)) := by decide +kernel
theorem st_w6 : ∀ i, i < 8 → (((2338623240851890235 : Int64) >>> (((56 : Int32) - ((8 : Int32) * nI i)).toInt64 &&& 63)) &&& (255 : Int64)).toInt32 = nI (st_b (48 + i)) := by decide +kernel
