/-! THE RULE: class and model say the same of it -/
def r_R (V : Nat → tx_E → Int32) (σ : am_S) : Prop := ∃ r : Nat, r < 6 ∧ fF σ 11 5 = nI r ∧ fF σ 36 4 = nI r ∧ r_X r V σ
theorem r_T.rule {tc : Nat} {σ : am_S} (h : r_T tc σ) : ∃ V, r_R V σ := by
  obtain ⟨h1, -, -, ⟨r, h4, h5, h6⟩, -, h7⟩ := h
  obtain ⟨V, hV⟩ := h7 r h4
  exact ⟨V, r, by omega, h5, h6, hV⟩
theorem r_R.fr {V : Nat → tx_E → Int32} {σ σ' : am_S} (h : r_R V σ) (g : q_Ag r_sc σ σ') : r_R V σ' := by
  obtain ⟨r, h1, h2, h3, h4⟩ := h
  have hS : ∀ a k, r_Tc a k → ¬ r_sc a k := fun a k x => by unfold r_Tc at x; unfold r_sc; omega
  exact ⟨r, h1, (g.2 11 5 (hS 11 5 (by unfold r_Tc; omega))).1.trans h2, (g.2 36 4 (hS 36 4 (by unfold r_Tc; omega))).1.trans h3, h4.mv g hS⟩
/-- what a part of the rule comes to -/
def r_v (V : Nat → tx_E → Int32) (σ : am_S) (k : Nat) (h2 h3 h4 h5 : Int32) : Int32 := V k (tx_e h2 (fF σ 36 12) (fF σ 36 13) h3 h4 h5)
theorem r_v.fr {V : Nat → tx_E → Int32} {σ σ' : am_S} (g : q_Ag r_sc σ σ') (k : Nat) (h2 h3 h4 h5 : Int32) : r_v V σ' k h2 h3 h4 h5 = r_v V σ k h2 h3 h4 h5 := by
  unfold r_v
  rw [(g.2 36 12 (by unfold r_sc; omega)).1, (g.2 36 13 (by unfold r_sc; omega)).1]
/-- cells that the reading of the rule touches -/
def r_s2 (a k : Nat) : Prop := a = 15 ∨ a = 16 ∨ (a = 36 ∧ ((22 ≤ k ∧ k ≤ 25) ∨ (27 ≤ k ∧ k ≤ 34)))
theorem r_s2_sc (a k : Nat) (h : r_s2 a k) : r_sc a k := by unfold r_s2 at h; unfold r_sc; omega
theorem r_by2 {N : Nat} (hN : 200 ≤ N) {V : Nat → tx_E → Int32} {σ : am_S} (hR : r_R V σ) (hW : r_W σ) {k : Nat} (hk : k < 3) (h2 h3 h4 h5 : Int32) : ∃ σ', f11_byRule N σ (nI (6 + k)) h2 h3 h4 h5 = some (r_v V σ k h2 h3 h4 h5, σ') ∧ q_Ag r_s2 σ σ' := by
  obtain ⟨r, r1, r2, r3, r4⟩ := hR
  unfold f11_byRule
  rw [if_pos (by decide), if_pos (by decide), if_pos (by decide), if_pos (by decide), if_pos (by decide), if_pos (by decide)]
  have c0 : (0 : Int32).toNatClampNeg = 0 := rfl
  have c1 : (1 : Int32).toNatClampNeg = 1 := rfl
  have c2 : (2 : Int32).toNatClampNeg = 2 := rfl
  have c3 : (3 : Int32).toNatClampNeg = 3 := rfl
  have c4 : (4 : Int32).toNatClampNeg = 4 := rfl
  have c5 : (5 : Int32).toNatClampNeg = 5 := rfl
  rw [c0, c1, c2, c3, c4, c5]
  have e8 : fF (sF σ 16 0 h2) 8 0 = fF σ 36 12 := hW.1
  have e9 : fF (sF (sF σ 16 0 h2) 16 1 (fF σ 36 12)) 8 1 = fF σ 36 13 := hW.2
  rw [e8, e9]
  have g : q_Ag r_s2 σ (sF (sF (sF (sF (sF (sF σ 16 0 h2) 16 1 (fF σ 36 12)) 16 2 (fF σ 36 13)) 16 3 h3) 16 4 h4) 16 5 h5) :=
    ((((((q_Ag.rf σ).sF (by unfold r_s2; omega)).sF (by unfold r_s2; omega)).sF (by unfold r_s2; omega)).sF (by unfold r_s2; omega)).sF (by unfold r_s2; omega)).sF (by unfold r_s2; omega)
  have e16 : ∀ c, c < 6 → fF (sF (sF (sF (sF (sF (sF σ 16 0 h2) 16 1 (fF σ 36 12)) 16 2 (fF σ 36 13)) 16 3 h3) 16 4 h4) 16 5 h5) 16 c = tx_e h2 (fF σ 36 12) (fF σ 36 13) h3 h4 h5 c := by
    intro c hc
    have hv : c = 0 ∨ c = 1 ∨ c = 2 ∨ c = 3 ∨ c = 4 ∨ c = 5 := by omega
    rcases hv with rfl | rfl | rfl | rfl | rfl | rfl
    · rw [q_FFk (by decide), q_FFk (by decide), q_FFk (by decide), q_FFk (by decide), q_FFk (by decide), q_FFe]; rfl
    · rw [q_FFk (by decide), q_FFk (by decide), q_FFk (by decide), q_FFk (by decide), q_FFe]; rfl
    · rw [q_FFk (by decide), q_FFk (by decide), q_FFk (by decide), q_FFe]; rfl
    · rw [q_FFk (by decide), q_FFk (by decide), q_FFe]; rfl
    · rw [q_FFk (by decide), q_FFe]; rfl
    · rw [q_FFe]; rfl
  have hX : r_X r V (sF (sF (sF (sF (sF (sF σ 16 0 h2) 16 1 (fF σ 36 12)) 16 2 (fF σ 36 13)) 16 3 h3) 16 4 h4) 16 5 h5) := r4
  have h5' : fF (sF (sF (sF (sF (sF (sF σ 16 0 h2) 16 1 (fF σ 36 12)) 16 2 (fF σ 36 13)) 16 3 h3) 16 4 h4) 16 5 h5) 11 5 = nI r := r2
  generalize (sF (sF (sF (sF (sF (sF σ 16 0 h2) 16 1 (fF σ 36 12)) 16 2 (fF σ 36 13)) 16 3 h3) 16 4 h4) 16 5 h5) = σ1 at g e16 hX h5' ⊢
  obtain ⟨σ', e1, g1⟩ := tx_value (N := N) (by omega) r1 hk h5' hX
  have ek : nI (6 + k) - 6 = nI k := by rw [show (6 : Int32) = nI 6 from rfl, pk_sub (by omega), show 6 + k - 6 = k by omega]
  obtain ⟨b, n, L, -, -, -, hT, -⟩ := hX
  have hc := (tx_T_sem hT k).2.1 _ _ e16
  rw [ek, e1, hc]
  exact ⟨σ', rfl, g.tr (g1.wk (fun a k x => by have x' : a = 15 := x; unfold r_s2; omega))⟩
theorem r_by {N : Nat} (hN : 200 ≤ N) {V : Nat → tx_E → Int32} {σ : am_S} (hR : r_R V σ) (hW : r_W σ) {k : Nat} (hk : k < 3) (h2 h3 h4 h5 : Int32) : ∃ σ', f11_byRule N σ (nI (6 + k)) h2 h3 h4 h5 = some (r_v V σ k h2 h3 h4 h5, σ') ∧ q_Ag r_sc σ σ' := by
  obtain ⟨σ', e, g⟩ := r_by2 hN hR hW hk h2 h3 h4 h5
  exact ⟨σ', e, g.wk r_s2_sc⟩
theorem r_rd2 {N : Nat} (hN : 200 ≤ N) {V : Nat → tx_E → Int32} {σ : am_S} (hR : r_R V σ) {k : Nat} (hk : k < 3) (h2 h3 h4 h5 : Int32) : ∃ σ', f12_read N σ (fF σ 36 4) h2 h3 h4 h5 (nI k) = some (r_v V σ k h2 h3 h4 h5, σ') ∧ q_Ag r_s2 σ σ' := by
  obtain ⟨r, r1, r2, r3, b, n, L, x1, x2, x3, hT, -⟩ := hR
  obtain ⟨v, σ', e1, g1, o1⟩ := n_read hN h2 h3 h4 h5 hk r1 x1 x2 (fun i hi => x3 i hi)
  rw [hT] at o1
  have o1' : v = V k (tx_e h2 (fF σ 36 12) (fF σ 36 13) h3 h4 h5) := o1.1
  rw [r3, e1, o1']
  exact ⟨σ', rfl, g1.wk (fun a k x => by unfold n_s0 at x; unfold r_s2; omega)⟩
theorem r_rd {N : Nat} (hN : 200 ≤ N) {V : Nat → tx_E → Int32} {σ : am_S} (hR : r_R V σ) {k : Nat} (hk : k < 3) (h2 h3 h4 h5 : Int32) : ∃ σ', f12_read N σ (fF σ 36 4) h2 h3 h4 h5 (nI k) = some (r_v V σ k h2 h3 h4 h5, σ') ∧ q_Ag r_sc σ σ' := by
  obtain ⟨σ', e, g⟩ := r_rd2 hN hR hk h2 h3 h4 h5
  exact ⟨σ', e, g.wk r_s2_sc⟩
theorem r_du2 {N : Nat} (hN : 200 ≤ N) {V : Nat → tx_E → Int32} {σ : am_S} (hR : r_R V σ) {i : Nat} (hi : i < 14) (h : Int32) : ∃ σ', f12_dueOf N σ (nI i) h = some (r_v V σ 2 0 (fF σ 45 i) h (fF σ 50 i), σ') ∧ q_Ag r_s2 σ σ' := by
  obtain ⟨σ', e, g⟩ := r_rd2 hN hR (k := 2) (by decide) 0 (fF σ 45 i) h (fF σ 50 i)
  unfold f12_dueOf
  rw [if_pos (q_in hi (by omega)), if_pos (q_in hi (by omega)), nI_clamp (by omega), show (2 : Int32) = nI 2 from rfl, e]
  exact ⟨σ', rfl, g⟩
theorem r_du {N : Nat} (hN : 200 ≤ N) {V : Nat → tx_E → Int32} {σ : am_S} (hR : r_R V σ) {i : Nat} (hi : i < 14) (h : Int32) : ∃ σ', f12_dueOf N σ (nI i) h = some (r_v V σ 2 0 (fF σ 45 i) h (fF σ 50 i), σ') ∧ q_Ag r_sc σ σ' := by
  obtain ⟨σ', e, g⟩ := r_du2 hN hR hi h
  exact ⟨σ', e, g.wk r_s2_sc⟩
def r_cl (v a b : Int32) : Int32 := if v.toInt < a.toInt then a else if b.toInt < v.toInt then b else v
theorem r_cl1 (v a b : Int32) (hab : a.toInt ≤ b.toInt) : (if a < (if v < b then v else b) then (if v < b then v else b) else a) = r_cl v a b := by
  unfold r_cl
  simp only [q_lt]
  by_cases c : v.toInt < b.toInt
  · rw [if_pos c]
    by_cases d : a.toInt < v.toInt
    · rw [if_pos d, if_neg (by omega), if_neg (by omega)]
    · rw [if_neg d]
      by_cases e : v.toInt < a.toInt
      · rw [if_pos e]
      · rw [if_neg e, if_neg (by omega)]
        exact i_ext (by omega)
  · rw [if_neg c]
    by_cases d : a.toInt < b.toInt
    · rw [if_pos d, if_neg (by omega)]
      by_cases e : b.toInt < v.toInt
      · rw [if_pos e]
      · rw [if_neg e]
        exact i_ext (by omega)
    · rw [if_neg d, if_neg (by omega)]
      by_cases e : b.toInt < v.toInt
      · rw [if_pos e]
        exact i_ext (by omega)
      · rw [if_neg e]
        exact i_ext (by omega)
theorem r_cl2 (v a b : Int32) : f12_within v a b = some (r_cl v a b) := by
  unfold f12_within r_cl
  simp only [q_le]
  by_cases c : a.toInt ≤ v.toInt
  · rw [if_pos c, if_neg (show ¬ v.toInt < a.toInt by omega)]
    by_cases d : v.toInt ≤ b.toInt
    · rw [if_pos d, if_neg (by omega)]
    · rw [if_neg d, if_pos (by omega)]
  · rw [if_neg c, if_pos (by omega)]
